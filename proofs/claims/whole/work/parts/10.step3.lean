/-! ONE STEP, on: arrays, what is made -/
section ZST3
variable {p : Program} {l : Launch} {e : Env} {R : Room} {s : State} {m : MethodId} {args : Array Value} {below : List Frame} {meth : Method} {c : Code} {Q : State → Prop}
variable {E : Nat → Nat} {D : va_G} {cA : Nat → ClassId} {hs : ZH} {H0 : Heap}
variable {y d k pc len nL : Nat} {ls st : List Value} {h : ZH} {cells slots : Nat} {k' : Nat} {ls' st' : List Value} {h' : ZH}
theorem zin_spec {i : Int32} {n : Nat} (h : zin i n = true) : ¬ (i < 0 ∨ n ≤ i.toNatClampNeg) ∧ ¬ i < 0 ∧ i.toNatClampNeg < n := by
  simp only [zin, Bool.and_eq_true, decide_eq_true_eq] at h
  have h0 : ¬ i < 0 := Int32.not_lt.mpr h.1
  refine ⟨fun q => ?_, h0, h.2⟩
  rcases q with q | q
  · exact h0 q
  · omega
theorem zarr_put {H : Heap} {t : Nat} (hR : ZRp E D cA hs H0 h H) (hK : ZK E D cA hs H0 s) {a j : Nat} {v : Value} (ht : ztag h a = t) (h12 : 12 ≤ t) (h17 : t ≤ 17) {H' : Heap}
    (e1 : zsz h' = zsz h) (e2 : ztag h' = ztag h) (e3 : zlen h' = zlen h) (eo : ∀ b, b ≠ a → zI h' b = zI h b ∧ zL h' b = zL h b ∧ zR h' b = zR h b) (ev : ∀ i, zval (zatn t) h' a i = updV (fun i => zval (zatn t) h a i) j v i)
    (g1 : H'[a]? = some ((arrV (cA t) (zlen h a) (fun i => zval (zatn t) h a i)).setSlot j v)) (g2 : H'.size = H.size) (g3 : ∀ q, q ≠ a → H'[q]? = H[q]?) : ZRp E D cA hs H0 h' H' := by
  have hm := hR.mine hK (a := a) (by omega)
  refine hR.put hm.1 e1 e2 e3 eo g2 g3 (Or.inr ⟨by rw [e2]; omega, by rw [e2]; omega, ?_⟩)
  rw [e2, e3, ht, g1, arrV_store]
  congr 2
  funext i
  exact (ev i).symm
theorem zlocs {locs : List Loc} {a j : Nat} (hl : ∀ q ∈ locs, E 0 ≤ q.base) (ha : E 0 ≤ a) : ∀ q ∈ locs ++ [(⟨a, j⟩ : Loc)], E 0 ≤ q.base := by
  intro q hq
  rcases List.mem_append.mp hq with z | z
  · exact hl q z
  · rw [List.mem_singleton.mp z]; exact ha

theorem zs_iaload (X : ZC p R s m meth c E D cA hs H0 y d) (hd : decode (zBy y) pc = .ok (.iaload, 1)) (hn : (zP y)[k + 1]? = some (pc + 1)) (hst : zstep E d (.iaload) k ls st h = some (k', ls', st', h')) (kk : ∀ pc', (zP y)[k']? = some pc' → ZG p l e R s m args below meth c Q E D cA hs H0 nL pc' ls' st' h' (cells + (zsz h' - zsz h)) (slots + (ztot h' - ztot h)))  : ZG p l e R s m args below meth c Q E D cA hs H0 nL pc ls st h cells slots := by
  simp only [zstep] at hst
  split at hst
  · next i a st0 =>
    split at hst
    · next hc =>
      obtain ⟨ht, hi⟩ := hc
      cases hst
      have K := kk _ hn
      simp only [Nat.sub_self, Nat.add_zero] at K
      intro arr H locs hL hR hl
      obtain ⟨n1, n2, n3⟩ := zin_spec hi
      have hK := X.2.2.2.2.2.1
      rcases ht with ht | ht
      · exact W.iald X.1 X.2.1 (hR.arr hK ht (by decide) (by decide)) ((hK.2.2.1 13 (by decide) (by decide)).1 _ _) (fun q => by cases q) (by rw [arrV_size]; exact n1) (arrV_read _ _ n3) rfl rfl hd (K arr H locs hL hR hl)
      · obtain ⟨scr, g1, g2, g3, g4, g5⟩ := hR.stat hK ht
        exact W.iald X.1 X.2.1 g1 g2 g3 (by rw [g4]; exact n1) (g5 _ n3) rfl rfl hd (K arr H locs hL hR hl)
    · cases hst
  · cases hst
theorem zs_laload (X : ZC p R s m meth c E D cA hs H0 y d) (hd : decode (zBy y) pc = .ok (.laload, 1)) (hn : (zP y)[k + 1]? = some (pc + 1)) (hst : zstep E d (.laload) k ls st h = some (k', ls', st', h')) (kk : ∀ pc', (zP y)[k']? = some pc' → ZG p l e R s m args below meth c Q E D cA hs H0 nL pc' ls' st' h' (cells + (zsz h' - zsz h)) (slots + (ztot h' - ztot h)))  : ZG p l e R s m args below meth c Q E D cA hs H0 nL pc ls st h cells slots := by
  simp only [zstep] at hst
  split at hst
  · next i a st0 =>
    split at hst
    · next hc =>
      obtain ⟨ht, hi⟩ := hc
      cases hst
      have K := kk _ hn
      simp only [Nat.sub_self, Nat.add_zero] at K
      intro arr H locs hL hR hl
      obtain ⟨n1, n2, n3⟩ := zin_spec hi
      have hK := X.2.2.2.2.2.1
      exact W.lald X.1 X.2.1 (hR.arr hK ht (by decide) (by decide)) ((hK.2.2.1 14 (by decide) (by decide)).1 _ _) (fun q => by cases q) (by rw [arrV_size]; exact n1) (arrV_read _ _ n3) rfl rfl hd (K arr H locs hL hR hl)
    · cases hst
  · cases hst
theorem zs_baload (X : ZC p R s m meth c E D cA hs H0 y d) (hd : decode (zBy y) pc = .ok (.baload, 1)) (hn : (zP y)[k + 1]? = some (pc + 1)) (hst : zstep E d (.baload) k ls st h = some (k', ls', st', h')) (kk : ∀ pc', (zP y)[k']? = some pc' → ZG p l e R s m args below meth c Q E D cA hs H0 nL pc' ls' st' h' (cells + (zsz h' - zsz h)) (slots + (ztot h' - ztot h)))  : ZG p l e R s m args below meth c Q E D cA hs H0 nL pc ls st h cells slots := by
  simp only [zstep] at hst
  split at hst
  · next i a st0 =>
    split at hst
    · next hc =>
      obtain ⟨ht, hi⟩ := hc
      cases hst
      have K := kk _ hn
      simp only [Nat.sub_self, Nat.add_zero] at K
      intro arr H locs hL hR hl
      obtain ⟨n1, n2, n3⟩ := zin_spec hi
      have hK := X.2.2.2.2.2.1
      rcases ht with ht | ht
      · exact W.bald X.1 X.2.1 (hR.arr hK ht (by decide) (by decide)) ((hK.2.2.1 12 (by decide) (by decide)).1 _ _) (fun q => by cases q) (by rw [arrV_size]; exact n1) (arrV_read _ _ n3) rfl rfl hd (K arr H locs hL hR hl)
      · exact W.zald X.1 X.2.1 (hR.arr hK ht (by decide) (by decide)) ((hK.2.2.1 15 (by decide) (by decide)).1 _ _) (fun q => by cases q) (by rw [arrV_size]; exact n1) (arrV_read _ _ n3) rfl rfl hd (K arr H locs hL hR hl)
    · cases hst
  · cases hst
theorem zs_aaload (X : ZC p R s m meth c E D cA hs H0 y d) (hd : decode (zBy y) pc = .ok (.aaload, 1)) (hn : (zP y)[k + 1]? = some (pc + 1)) (hst : zstep E d (.aaload) k ls st h = some (k', ls', st', h')) (kk : ∀ pc', (zP y)[k']? = some pc' → ZG p l e R s m args below meth c Q E D cA hs H0 nL pc' ls' st' h' (cells + (zsz h' - zsz h)) (slots + (ztot h' - ztot h)))  : ZG p l e R s m args below meth c Q E D cA hs H0 nL pc ls st h cells slots := by
  simp only [zstep] at hst
  split at hst
  · next i a st0 =>
    split at hst
    · next hc =>
      obtain ⟨ht, hi⟩ := hc
      cases hst
      have K := kk _ hn
      simp only [Nat.sub_self, Nat.add_zero] at K
      intro arr H locs hL hR hl
      obtain ⟨n1, n2, n3⟩ := zin_spec hi
      have hK := X.2.2.2.2.2.1
      rcases ht with ht | ht
      · exact W.aald X.1 X.2.1 (hR.arr hK ht (by decide) (by decide)) ((hK.2.2.1 16 (by decide) (by decide)).1 _ _) rfl (fun q => by cases q) (by rw [arrV_size]; exact n1) (arrV_read _ _ n3) rfl rfl hd (K arr H locs hL hR hl)
      · exact W.aald X.1 X.2.1 (hR.arr hK ht (by decide) (by decide)) ((hK.2.2.1 17 (by decide) (by decide)).1 _ _) rfl (fun q => by cases q) (by rw [arrV_size]; exact n1) (arrV_read _ _ n3) rfl rfl hd (K arr H locs hL hR hl)
    · cases hst
  · cases hst
theorem zs_iastore (X : ZC p R s m meth c E D cA hs H0 y d) (hd : decode (zBy y) pc = .ok (.iastore, 1)) (hn : (zP y)[k + 1]? = some (pc + 1)) (hst : zstep E d (.iastore) k ls st h = some (k', ls', st', h')) (kk : ∀ pc', (zP y)[k']? = some pc' → ZG p l e R s m args below meth c Q E D cA hs H0 nL pc' ls' st' h' (cells + (zsz h' - zsz h)) (slots + (ztot h' - ztot h)))  : ZG p l e R s m args below meth c Q E D cA hs H0 nL pc ls st h cells slots := by
  simp only [zstep] at hst
  split at hst
  · next x i a st0 =>
    split at hst
    · next hc =>
      obtain ⟨ht, hi⟩ := hc
      cases hst
      have K := kk _ hn
      intro arr H locs hL hR hl
      obtain ⟨n1, n2, n3⟩ := zin_spec hi
      have hK := X.2.2.2.2.2.1
      have hm := hR.mine hK (a := a) (by omega)
      refine W.iast X.1 X.2.1 (hR.arr hK ht (by decide) (by decide)) ((hK.2.2.1 13 (by decide) (by decide)).1 _ _) (fun q => by cases q) (by rw [arrV_size]; exact n1) rfl rfl hd fun H' g1 g2 g3 => ?_
      have hRn : ZRp E D cA hs H0 (zuI h a i.toNatClampNeg x) H' := by
        refine zarr_put hR hK ht (by decide) (by decide) rfl rfl rfl (fun b hb => ⟨?_, rfl, rfl⟩) (fun j => ?_) g1 g2 g3
        · funext j
          show zup (zI h) a _ _ b j = _
          simp [zup, hb]
        · show Value.int (zup (zI h) a _ _ a j) = _
          by_cases hj : j = i.toNatClampNeg
          · simp [zup, updV, hj]
          · simp [zup, updV, hj, zval, zatn]
      have K1 := K arr H' (locs ++ [⟨a, i.toNatClampNeg⟩]) hL hRn (zlocs hl hm.1)
      have z1 : zsz (zuI h a i.toNatClampNeg x) - zsz h = 0 := Nat.sub_self _
      have z2 : ztot (zuI h a i.toNatClampNeg x) - ztot h = 0 := Nat.sub_self _
      rw [z1, z2] at K1
      exact K1
    · cases hst
  · cases hst
theorem zs_lastore (X : ZC p R s m meth c E D cA hs H0 y d) (hd : decode (zBy y) pc = .ok (.lastore, 1)) (hn : (zP y)[k + 1]? = some (pc + 1)) (hst : zstep E d (.lastore) k ls st h = some (k', ls', st', h')) (kk : ∀ pc', (zP y)[k']? = some pc' → ZG p l e R s m args below meth c Q E D cA hs H0 nL pc' ls' st' h' (cells + (zsz h' - zsz h)) (slots + (ztot h' - ztot h)))  : ZG p l e R s m args below meth c Q E D cA hs H0 nL pc ls st h cells slots := by
  simp only [zstep] at hst
  split at hst
  · next x i a st0 =>
    split at hst
    · next hc =>
      obtain ⟨ht, hi⟩ := hc
      cases hst
      have K := kk _ hn
      intro arr H locs hL hR hl
      obtain ⟨n1, n2, n3⟩ := zin_spec hi
      have hK := X.2.2.2.2.2.1
      have hm := hR.mine hK (a := a) (by omega)
      refine W.last X.1 X.2.1 (hR.arr hK ht (by decide) (by decide)) ((hK.2.2.1 14 (by decide) (by decide)).1 _ _) (fun q => by cases q) (by rw [arrV_size]; exact n1) rfl rfl hd fun H' g1 g2 g3 => ?_
      have hRn : ZRp E D cA hs H0 (zuL h a i.toNatClampNeg x) H' := by
        refine zarr_put hR hK ht (by decide) (by decide) rfl rfl rfl (fun b hb => ⟨rfl, ?_, rfl⟩) (fun j => ?_) g1 g2 g3
        · funext j
          show zup (zL h) a _ _ b j = _
          simp [zup, hb]
        · show Value.long (zup (zL h) a _ _ a j) = _
          by_cases hj : j = i.toNatClampNeg
          · simp [zup, updV, hj]
          · simp [zup, updV, hj, zval, zatn]
      have K1 := K arr H' (locs ++ [⟨a, i.toNatClampNeg⟩]) hL hRn (zlocs hl hm.1)
      have z1 : zsz (zuL h a i.toNatClampNeg x) - zsz h = 0 := Nat.sub_self _
      have z2 : ztot (zuL h a i.toNatClampNeg x) - ztot h = 0 := Nat.sub_self _
      rw [z1, z2] at K1
      exact K1
    · cases hst
  · cases hst
theorem zs_bastore (X : ZC p R s m meth c E D cA hs H0 y d) (hd : decode (zBy y) pc = .ok (.bastore, 1)) (hn : (zP y)[k + 1]? = some (pc + 1)) (hst : zstep E d (.bastore) k ls st h = some (k', ls', st', h')) (kk : ∀ pc', (zP y)[k']? = some pc' → ZG p l e R s m args below meth c Q E D cA hs H0 nL pc' ls' st' h' (cells + (zsz h' - zsz h)) (slots + (ztot h' - ztot h)))  : ZG p l e R s m args below meth c Q E D cA hs H0 nL pc ls st h cells slots := by
  simp only [zstep] at hst
  split at hst
  · next x i a st0 =>
    split at hst
    · next hc =>
      obtain ⟨ht, hi⟩ := hc
      cases hst
      have K := kk _ hn
      intro arr H locs hL hR hl
      obtain ⟨n1, n2, n3⟩ := zin_spec hi
      have hK := X.2.2.2.2.2.1
      rcases ht with ht | ht
      · have hm := hR.mine hK (a := a) (by omega)
        refine W.bast X.1 X.2.1 (hR.arr hK ht (by decide) (by decide)) ((hK.2.2.1 12 (by decide) (by decide)).1 _ _) (fun q => by cases q) (by rw [arrV_size]; exact n1) rfl rfl hd fun H' g1 g2 g3 => ?_
        have hRn : ZRp E D cA hs H0 (zuI h a i.toNatClampNeg (zbyte (ztag h a) x)) H' := by
          refine zarr_put hR hK ht (by decide) (by decide) rfl rfl rfl (fun b hb => ⟨?_, rfl, rfl⟩) (fun j => ?_) g1 g2 g3
          · funext j
            show zup (zI h) a _ _ b j = _
            simp [zup, hb]
          · show Value.int (zup (zI h) a _ _ a j) = _
            by_cases hj : j = i.toNatClampNeg
            · simp [zup, updV, hj, ht, zbyte, narrow]
            · simp [zup, updV, hj, zval, zatn]
        have K1 := K arr H' (locs ++ [⟨a, i.toNatClampNeg⟩]) hL hRn (zlocs hl hm.1)
        have z1 : zsz (zuI h a i.toNatClampNeg (zbyte (ztag h a) x)) - zsz h = 0 := Nat.sub_self _
        have z2 : ztot (zuI h a i.toNatClampNeg (zbyte (ztag h a) x)) - ztot h = 0 := Nat.sub_self _
        rw [z1, z2] at K1
        exact K1
      · have hm := hR.mine hK (a := a) (by omega)
        refine W.zast X.1 X.2.1 (hR.arr hK ht (by decide) (by decide)) ((hK.2.2.1 15 (by decide) (by decide)).1 _ _) (fun q => by cases q) (by rw [arrV_size]; exact n1) rfl rfl hd fun H' g1 g2 g3 => ?_
        have hRn : ZRp E D cA hs H0 (zuI h a i.toNatClampNeg (zbyte (ztag h a) x)) H' := by
          refine zarr_put hR hK ht (by decide) (by decide) rfl rfl rfl (fun b hb => ⟨?_, rfl, rfl⟩) (fun j => ?_) g1 g2 g3
          · funext j
            show zup (zI h) a _ _ b j = _
            simp [zup, hb]
          · show Value.int (zup (zI h) a _ _ a j) = _
            by_cases hj : j = i.toNatClampNeg
            · simp [zup, updV, hj, ht, zbyte, narrow]
            · simp [zup, updV, hj, zval, zatn]
        have K1 := K arr H' (locs ++ [⟨a, i.toNatClampNeg⟩]) hL hRn (zlocs hl hm.1)
        have z1 : zsz (zuI h a i.toNatClampNeg (zbyte (ztag h a) x)) - zsz h = 0 := Nat.sub_self _
        have z2 : ztot (zuI h a i.toNatClampNeg (zbyte (ztag h a) x)) - ztot h = 0 := Nat.sub_self _
        rw [z1, z2] at K1
        exact K1
    · cases hst
  · cases hst
theorem zs_aastore (X : ZC p R s m meth c E D cA hs H0 y d) (hd : decode (zBy y) pc = .ok (.aastore, 1)) (hn : (zP y)[k + 1]? = some (pc + 1)) (hst : zstep E d (.aastore) k ls st h = some (k', ls', st', h')) (kk : ∀ pc', (zP y)[k']? = some pc' → ZG p l e R s m args below meth c Q E D cA hs H0 nL pc' ls' st' h' (cells + (zsz h' - zsz h)) (slots + (ztot h' - ztot h)))  : ZG p l e R s m args below meth c Q E D cA hs H0 nL pc ls st h cells slots := by
  simp only [zstep] at hst
  split at hst
  · next x i a st0 =>
    split at hst
    · next hc =>
      obtain ⟨ht, hi⟩ := hc
      cases hst
      have K := kk _ hn
      intro arr H locs hL hR hl
      obtain ⟨n1, n2, n3⟩ := zin_spec hi
      have hK := X.2.2.2.2.2.1
      rcases ht with ht | ht
      · have hm := hR.mine hK (a := a) (by omega)
        obtain ⟨ht, htv⟩ := ht
        obtain ⟨cv, v1, v2, v3, -⟩ := hR.obj hK htv (by decide)
        obtain ⟨kA, comp, k1, k2, k3, -⟩ := (hK.2.2.1 16 (by decide) (by decide)).2
        have hcls := (hK.2.1 2 _ rfl).2
        have hcomp : comp = D.1 2 := Option.some.inj (k3.symm.trans hcls.1)
        subst hcomp
        obtain ⟨kC, hkC, -⟩ := hcls.2
        refine W.aast X.1 X.2.1 (hR.arr hK ht (by decide) (by decide)) (fun q h => by cases h) (fun h => by cases h) k1 k2 rfl hkC ⟨n2, by rw [arrV_size]; exact n3⟩ v1 (fun q h => by rw [v3] at h; cases h) (by rw [v2]; exact hkC) (by rw [v2]; exact va_assign hcls) rfl rfl hd fun H' g1 g2 g3 => ?_
        have hRn : ZRp E D cA hs H0 (zuR h a i.toNatClampNeg (x + 1)) H' := by
          refine zarr_put hR hK ht (by decide) (by decide) rfl rfl rfl (fun b hb => ⟨rfl, rfl, ?_⟩) (fun j => ?_) g1 g2 g3
          · funext j
            show zup (zR h) a _ _ b j = _
            simp [zup, hb]
          · show zrv (zup (zR h) a _ _ a j) = _
            by_cases hj : j = i.toNatClampNeg
            · simp [zup, updV, hj, zrv]
            · simp [zup, updV, hj, zval, zatn]
        have K1 := K arr H' (locs ++ [⟨a, i.toNatClampNeg⟩]) hL hRn (zlocs hl hm.1)
        have z1 : zsz (zuR h a i.toNatClampNeg (x + 1)) - zsz h = 0 := Nat.sub_self _
        have z2 : ztot (zuR h a i.toNatClampNeg (x + 1)) - ztot h = 0 := Nat.sub_self _
        rw [z1, z2] at K1
        exact K1
      · have hm := hR.mine hK (a := a) (by omega)
        obtain ⟨ht, htv⟩ := ht
        obtain ⟨cv, v1, v2, v3, -⟩ := hR.obj hK htv (by decide)
        obtain ⟨kA, comp, k1, k2, k3, -⟩ := (hK.2.2.1 17 (by decide) (by decide)).2
        have hcls := (hK.2.1 6 _ rfl).2
        have hcomp : comp = D.1 6 := Option.some.inj (k3.symm.trans hcls.1)
        subst hcomp
        obtain ⟨kC, hkC, -⟩ := hcls.2
        refine W.aast X.1 X.2.1 (hR.arr hK ht (by decide) (by decide)) (fun q h => by cases h) (fun h => by cases h) k1 k2 rfl hkC ⟨n2, by rw [arrV_size]; exact n3⟩ v1 (fun q h => by rw [v3] at h; cases h) (by rw [v2]; exact hkC) (by rw [v2]; exact va_assign hcls) rfl rfl hd fun H' g1 g2 g3 => ?_
        have hRn : ZRp E D cA hs H0 (zuR h a i.toNatClampNeg (x + 1)) H' := by
          refine zarr_put hR hK ht (by decide) (by decide) rfl rfl rfl (fun b hb => ⟨rfl, rfl, ?_⟩) (fun j => ?_) g1 g2 g3
          · funext j
            show zup (zR h) a _ _ b j = _
            simp [zup, hb]
          · show zrv (zup (zR h) a _ _ a j) = _
            by_cases hj : j = i.toNatClampNeg
            · simp [zup, updV, hj, zrv]
            · simp [zup, updV, hj, zval, zatn]
        have K1 := K arr H' (locs ++ [⟨a, i.toNatClampNeg⟩]) hL hRn (zlocs hl hm.1)
        have z1 : zsz (zuR h a i.toNatClampNeg (x + 1)) - zsz h = 0 := Nat.sub_self _
        have z2 : ztot (zuR h a i.toNatClampNeg (x + 1)) - ztot h = 0 := Nat.sub_self _
        rw [z1, z2] at K1
        exact K1
    · cases hst
  · cases hst
theorem zs_arraylength (X : ZC p R s m meth c E D cA hs H0 y d) (hd : decode (zBy y) pc = .ok (.arraylength, 1)) (hn : (zP y)[k + 1]? = some (pc + 1)) (hst : zstep E d (.arraylength) k ls st h = some (k', ls', st', h')) (kk : ∀ pc', (zP y)[k']? = some pc' → ZG p l e R s m args below meth c Q E D cA hs H0 nL pc' ls' st' h' (cells + (zsz h' - zsz h)) (slots + (ztot h' - ztot h))) : ZG p l e R s m args below meth c Q E D cA hs H0 nL pc ls st h cells slots := by
  simp only [zstep] at hst
  split at hst
  · next a st0 =>
    split at hst
    · next hc =>
      cases hst
      have K := kk _ hn
      simp only [Nat.sub_self, Nat.add_zero] at K
      intro arr H locs hL hR hl
      have hK := X.2.2.2.2.2.1
      by_cases h17 : ztag h a ≤ 17
      · exact W.alen X.1 X.2.1 (hR.arr hK rfl hc.1 h17) ((hK.2.2.1 _ hc.1 h17).1 _ _) (by rw [arrV_size]) rfl rfl hd (K arr H locs hL hR hl)
      · obtain ⟨scr, g1, g2, g3, g4, g5⟩ := hR.stat hK (a := a) (by omega)
        exact W.alen X.1 X.2.1 g1 g2 (by rw [g4]) rfl rfl hd (K arr H locs hL hR hl)
    · cases hst
  · cases hst
theorem zGf_spec {own i : Nat} {q : Nat × Nat × Nat × Nat} (h : zGf own i = some q) : q.1 = own ∧ q.2.1 = i ∧ lw_tbl[q.2.2.2]? = some (.fieldLink (zcn q.1) q.2.1 (zSN.getD q.2.2.1 ("", "")).1 (zSN.getD q.2.2.1 ("", "")).2 "[I") ∧ 1 ≤ q.2.2.1 ∧ q.2.2.1 < 7 := by
  have h1 := List.find?_some h
  have h2 := List.all_eq_true.mp zGS_ok q (List.mem_of_find?_eq_some h)
  simp only [Bool.and_eq_true, beq_iff_eq, decide_eq_true_eq] at h1 h2
  exact ⟨h1.1, h1.2, h2.1.1, h2.1.2, h2.2⟩
theorem zs_getstatic {i : Nat} {q : Nat × Nat × Nat × Nat} (X : ZC p R s m meth c E D cA hs H0 y d) (hd : decode (zBy y) pc = .ok (.getstatic i, 3)) (hn : (zP y)[k + 1]? = some (pc + 3)) (hst : zstep E d (.getstatic q.2.2.1) k ls st h = some (k', ls', st', h')) (kk : ∀ pc', (zP y)[k']? = some pc' → ZG p l e R s m args below meth c Q E D cA hs H0 nL pc' ls' st' h' (cells + (zsz h' - zsz h)) (slots + (ztot h' - ztot h))) (hq : zGf (zY y).2.2.2.2 i = some q) : ZG p l e R s m args below meth c Q E D cA hs H0 nL pc ls st h cells slots := by
  obtain ⟨e1, e2, hw, h1, h7⟩ := zGf_spec hq
  simp only [zstep] at hst
  cases hst
  have K := kk _ hn
  simp only [Nat.sub_self, Nat.add_zero] at K
  intro arr H locs hL hR hl
  have hK := X.2.2.2.2.2.1
  obtain ⟨cf, kf, fi, f, a, cell, g1, g2, g3, g4, g5, g6, g7, g8⟩ := hK.2.2.2.2.1 _ h1 h7
  rw [e1, e2] at hw
  refine W.gets X.1 X.2.1 X.2.2.2.1 (hK.word hw rfl args) g1 g2 g3 g4 ?_ (fun e => by rw [e] at g6; cases g6) g7 rfl hd (K arr H locs hL hR hl)
  rw [(hR.2.2.2.2 a (Nat.not_le.mp g8)).1]
  exact g5
theorem zKf_spec {own i : Nat} {q : Nat × Nat × Int × Nat} (h : zKf own i = some q) : q.1 = own ∧ q.2.1 = i ∧ lw_tbl[q.2.2.2]? = some (.constant (zcn q.1) q.2.1 (Int32.ofInt q.2.2.1)) := by
  have h1 := List.find?_some h
  have h2 := List.all_eq_true.mp zKC_ok q (List.mem_of_find?_eq_some h)
  simp only [Bool.and_eq_true, beq_iff_eq, decide_eq_true_eq] at h1 h2
  exact ⟨h1.1, h1.2, h2⟩
theorem zLf_spec {own i : Nat} {q : Nat × Nat × Int × Nat} (h : zLf own i = some q) : q.1 = own ∧ q.2.1 = i ∧ lw_tbl[q.2.2.2]? = some (.constantLong (zcn q.1) q.2.1 (Int64.ofInt q.2.2.1)) := by
  have h1 := List.find?_some h
  have h2 := List.all_eq_true.mp zKL_ok q (List.mem_of_find?_eq_some h)
  simp only [Bool.and_eq_true, beq_iff_eq, decide_eq_true_eq] at h1 h2
  exact ⟨h1.1, h1.2, h2⟩
theorem zs_ldc {i : Nat} {q : Nat × Nat × Int × Nat} (X : ZC p R s m meth c E D cA hs H0 y d) (hd : decode (zBy y) pc = .ok (.ldc i, 2)) (hn : (zP y)[k + 1]? = some (pc + 2)) (hst : zstep E d (.iconst q.2.2.1) k ls st h = some (k', ls', st', h')) (kk : ∀ pc', (zP y)[k']? = some pc' → ZG p l e R s m args below meth c Q E D cA hs H0 nL pc' ls' st' h' (cells + (zsz h' - zsz h)) (slots + (ztot h' - ztot h))) (hq : zKf (zY y).2.2.2.2 i = some q) : ZG p l e R s m args below meth c Q E D cA hs H0 nL pc ls st h cells slots := by
  obtain ⟨e1, e2, hw⟩ := zKf_spec hq
  simp only [zstep] at hst
  cases hst
  have K := kk _ hn
  simp only [Nat.sub_self, Nat.add_zero] at K
  intro arr H locs hL hR hl
  have hK := X.2.2.2.2.2.1
  rw [e1, e2] at hw
  exact lv_ldc X.1 X.2.1 X.2.2.2.1 (hK.word hw rfl args) hd (K arr H locs hL hR hl)
theorem zs_ldc_w {i : Nat} {q : Nat × Nat × Int × Nat} (X : ZC p R s m meth c E D cA hs H0 y d) (hd : decode (zBy y) pc = .ok (.ldc_w i, 3)) (hn : (zP y)[k + 1]? = some (pc + 3)) (hst : zstep E d (.iconst q.2.2.1) k ls st h = some (k', ls', st', h')) (kk : ∀ pc', (zP y)[k']? = some pc' → ZG p l e R s m args below meth c Q E D cA hs H0 nL pc' ls' st' h' (cells + (zsz h' - zsz h)) (slots + (ztot h' - ztot h))) (hq : zKf (zY y).2.2.2.2 i = some q) : ZG p l e R s m args below meth c Q E D cA hs H0 nL pc ls st h cells slots := by
  obtain ⟨e1, e2, hw⟩ := zKf_spec hq
  simp only [zstep] at hst
  cases hst
  have K := kk _ hn
  simp only [Nat.sub_self, Nat.add_zero] at K
  intro arr H locs hL hR hl
  have hK := X.2.2.2.2.2.1
  rw [e1, e2] at hw
  exact lv_ldcw X.1 X.2.1 X.2.2.2.1 (hK.word hw rfl args) hd (K arr H locs hL hR hl)
theorem zs_ldc2_w {i : Nat} {q : Nat × Nat × Int × Nat} (X : ZC p R s m meth c E D cA hs H0 y d) (hd : decode (zBy y) pc = .ok (.ldc2_w i, 3)) (hn : (zP y)[k + 1]? = some (pc + 3)) (hst : zstep E d (.jsr_w q.2.2.1) k ls st h = some (k', ls', st', h')) (kk : ∀ pc', (zP y)[k']? = some pc' → ZG p l e R s m args below meth c Q E D cA hs H0 nL pc' ls' st' h' (cells + (zsz h' - zsz h)) (slots + (ztot h' - ztot h))) (hq : zLf (zY y).2.2.2.2 i = some q) : ZG p l e R s m args below meth c Q E D cA hs H0 nL pc ls st h cells slots := by
  obtain ⟨e1, e2, hw⟩ := zLf_spec hq
  simp only [zstep] at hst
  cases hst
  have K := kk _ hn
  simp only [Nat.sub_self, Nat.add_zero] at K
  intro arr H locs hL hR hl
  have hK := X.2.2.2.2.2.1
  rw [e1, e2] at hw
  exact lv_ldc2 X.1 X.2.1 X.2.2.2.1 (hK.word hw rfl args) hd (K arr H locs hL hR hl)
theorem zCf_spec {own i : Nat} {q : Nat × Nat × Nat × Nat} (h : zCf own i = some q) : q.1 = own ∧ q.2.1 = i ∧ lw_tbl[q.2.2.2]? = some (.classLink (zcn q.1) q.2.1 (zcn q.2.2.1)) ∧ q.2.2.1 < 12 := by
  have h1 := List.find?_some h
  have h2 := List.all_eq_true.mp zCL_ok q (List.mem_of_find?_eq_some h)
  simp only [Bool.and_eq_true, beq_iff_eq, decide_eq_true_eq] at h1 h2
  exact ⟨h1.1, h1.2, h2.1, h2.2⟩
set_option maxRecDepth 100000 in
theorem zNI_ok : ∀ t, t < 12 → lw_tbl[zNP.getD t 0]? = some (.instantiable (zcn t) (zN t)) ∧ lw_tbl[zIP.getD t 0]? = some (.initialized (zcn t)) := by decide +kernel
theorem znew_0 (h : ZH) (t n j : Nat) : zI (znew h t n) (zsz h) j = 0 ∧ zL (znew h t n) (zsz h) j = 0 ∧ zR (znew h t n) (zsz h) j = 0 := ⟨by show (if zsz h = zsz h then (0 : Int32) else _) = 0; simp, by show (if zsz h = zsz h then (0 : Int64) else _) = 0; simp, by show (if zsz h = zsz h then 0 else _) = 0; simp⟩
theorem zdef_ok : ∀ t, t < 12 → ∀ k, k < zN t → defaultValue (ztyF t k) = (match zty t k with
    | 1 => .long 0
    | 2 => .null
    | _ => .int 0) := by decide +kernel
theorem zs_new {i : Nat} {q : Nat × Nat × Nat × Nat} (X : ZC p R s m meth c E D cA hs H0 y d) (hd : decode (zBy y) pc = .ok (.new i, 3)) (hn : (zP y)[k + 1]? = some (pc + 3)) (hst : zstep E d (.new q.2.2.1) k ls st h = some (k', ls', st', h')) (kk : ∀ pc', (zP y)[k']? = some pc' → ZG p l e R s m args below meth c Q E D cA hs H0 nL pc' ls' st' h' (cells + (zsz h' - zsz h)) (slots + (ztot h' - ztot h))) (hq : zCf (zY y).2.2.2.2 i = some q) (hrc : cells + (zsz h' - zsz h) ≤ R.cells) (hrs : slots + (ztot h' - ztot h) ≤ R.slots) : ZG p l e R s m args below meth c Q E D cA hs H0 nL pc ls st h cells slots := by
  obtain ⟨e1, e2, hw, h12⟩ := zCf_spec hq
  simp only [zstep, h12, if_true] at hst
  cases hst
  have K := kk _ hn
  have z1 : zsz (znew h q.2.2.1 (zN q.2.2.1)) - zsz h = 1 := by show zsz h + 1 - zsz h = 1; omega
  have z2 : ztot (znew h q.2.2.1 (zN q.2.2.1)) - ztot h = zN q.2.2.1 := by show ztot h + _ - ztot h = _; omega
  rw [z1] at K hrc
  rw [z2] at K hrs
  intro arr H locs hL hR hl
  have hK := X.2.2.2.2.2.1
  rw [e1, e2] at hw
  obtain ⟨w1, w2⟩ := zNI_ok _ h12
  obtain ⟨hcl, -, hty, -⟩ := zcl_ok _ h12
  have hKn := hK.2.1 _ _ hcl
  refine W.newcK X.1 X.2.1 X.2.2.2.1 (hK.word hw rfl args) (hK.word w1 rfl args) (hK.word w2 rfl args) rfl hd hrc hrs hKn.2.1 rfl fun H' kC hkC g1 g2 g3 => ?_
  have hz := hR.1
  have hb := u_born (H := H') (ztyF q.2.2.1) (hK.lays h12 args) (fun _ h => h) hKn hkC g1 hty
  rw [hz] at g2 g3 hb ⊢
  refine K arr H' locs hL (hR.new (by rw [g2, hz]) (by rw [hz]; exact g3) (Or.inl ⟨?_, ?_⟩)) hl
  · show zup1 (ztag h) (zsz h) _ (zsz h) < 12
    simp [zup1, h12]
  · have et : ztag (znew h q.2.2.1 (zN q.2.2.1)) (zsz h) = q.2.2.1 := by
      show zup1 (ztag h) (zsz h) _ (zsz h) = _
      simp [zup1]
    rw [et]
    refine hb.to (fun j hj => ?_)
    show defaultValue _ = _
    rw [zdef_ok _ h12 j hj]
    obtain ⟨i1, i2, i3⟩ := znew_0 h q.2.2.1 (zN q.2.2.1) j
    generalize zty q.2.2.1 j = w
    match w with
    | 0 => show Value.int 0 = Value.int _; rw [i1]
    | 1 => show Value.long 0 = Value.long _; rw [i2]
    | 2 => show Value.null = zrv _; rw [i3]; rfl
    | w + 3 => show Value.int 0 = Value.int _; rw [i1]
set_option maxRecDepth 100000 in
theorem zAC_ok : ∃ a b c d : Nat, lw_tbl[a]? = some (.arrayClass .byte) ∧ lw_tbl[b]? = some (.arrayClass .int) ∧ lw_tbl[c]? = some (.arrayClass .long) ∧ lw_tbl[d]? = some (.arrayClass .boolean) := ⟨269, 237, 519, 238, by decide +kernel, by decide +kernel, by decide +kernel, by decide +kernel⟩
theorem znewarr {H : Heap} {t n : Nat} {v : Value} (hR : ZRp E D cA hs H0 h H) (h12 : 12 ≤ t) (h17 : t ≤ 17) {cC : ClassId} (hcc : cC = cA t) (hv : ∀ g : ZH, (∀ j, zI g (zsz h) j = 0 ∧ zL g (zsz h) j = 0 ∧ zR g (zsz h) j = 0) → ∀ j, v = zval (zatn t) g (zsz h) j) :
    ZRp E D cA hs H0 (znew h t n) (H.push { cls := cC, slots := Array.replicate n v, vm := .none }) := by
  have hz := hR.1
  have et : ztag (znew h t n) (zsz h) = t := by show zup1 (ztag h) (zsz h) _ (zsz h) = _; simp [zup1]
  have el : zlen (znew h t n) (zsz h) = n := by show zup1 (zlen h) (zsz h) _ (zsz h) = _; simp [zup1]
  refine hR.new (by simp) (fun q hq => by rw [Array.getElem?_push, if_neg (Nat.ne_of_lt hq)]) (Or.inr ⟨by rw [et]; exact h12, by rw [et]; exact h17, ?_⟩)
  have e0 : (H.push ({ cls := cC, slots := Array.replicate n v, vm := .none } : Cell))[zsz h]? = some { cls := cC, slots := Array.replicate n v, vm := .none } := by rw [← hz]; exact Array.getElem?_push_size
  rw [et, el, e0, arrV_new, hcc]
  congr 2
  funext j
  exact hv _ (fun j => znew_0 h t n j) j
theorem znw (t n : Nat) : zsz (znew h t n) - zsz h = 1 ∧ ztot (znew h t n) - ztot h = n := ⟨by show zsz h + 1 - zsz h = 1; omega, by show ztot h + n - ztot h = n; omega⟩
theorem zs_newarray {ty : ArrayType} (X : ZC p R s m meth c E D cA hs H0 y d) (hd : decode (zBy y) pc = .ok (.newarray ty, 2)) (hn : (zP y)[k + 1]? = some (pc + 2)) (hst : zstep E d (.newarray ty) k ls st h = some (k', ls', st', h')) (kk : ∀ pc', (zP y)[k']? = some pc' → ZG p l e R s m args below meth c Q E D cA hs H0 nL pc' ls' st' h' (cells + (zsz h' - zsz h)) (slots + (ztot h' - ztot h))) (hrc : cells + (zsz h' - zsz h) ≤ R.cells) (hrs : slots + (ztot h' - ztot h) ≤ R.slots) : ZG p l e R s m args below meth c Q E D cA hs H0 nL pc ls st h cells slots := by
  obtain ⟨pa, pb, pcc, pd, w1, w2, w3, w4⟩ := zAC_ok
  have hK := X.2.2.2.2.2.1
  simp only [zstep] at hst
  split at hst
  · next n st0 =>
    split at hst
    · next hc =>
      have hn0 : ¬ n < 0 := Int32.not_lt.mpr hc.1
      split at hst

      · cases hst
        have K := kk _ hn
        rw [(znw _ _).1] at K hrc
        rw [(znw _ _).2] at K hrs
        intro arr H locs hL hR hl
        refine W.newa (atype := .byte) X.1 X.2.1 (hK.word w1 rfl args) rfl hd rfl hn0 (by show _ * 1 ≤ _; omega) hrc hrs fun cC kA comp g1 g2 g3 => ?_
        rw [hR.1]
        refine K arr _ locs hL (znewarr hR (by decide) (by decide) (Option.some.inj (g1.symm.trans (hK.2.2.1 12 (by decide) (by decide)).2)) (fun g hg j => ?_)) hl
        first
          | (show Value.int 0 = Value.int (zI g (zsz h) j); rw [(hg j).1])
          | (show Value.long 0 = Value.long (zL g (zsz h) j); rw [(hg j).2.1])
      · cases hst
        have K := kk _ hn
        rw [(znw _ _).1] at K hrc
        rw [(znw _ _).2] at K hrs
        intro arr H locs hL hR hl
        refine W.newa (atype := .int) X.1 X.2.1 (hK.word w2 rfl args) rfl hd rfl hn0 (by show _ * 4 ≤ _; omega) hrc hrs fun cC kA comp g1 g2 g3 => ?_
        rw [hR.1]
        refine K arr _ locs hL (znewarr hR (by decide) (by decide) (Option.some.inj (g1.symm.trans (hK.2.2.1 13 (by decide) (by decide)).2)) (fun g hg j => ?_)) hl
        first
          | (show Value.int 0 = Value.int (zI g (zsz h) j); rw [(hg j).1])
          | (show Value.long 0 = Value.long (zL g (zsz h) j); rw [(hg j).2.1])
      · cases hst
        have K := kk _ hn
        rw [(znw _ _).1] at K hrc
        rw [(znw _ _).2] at K hrs
        intro arr H locs hL hR hl
        refine W.newa (atype := .long) X.1 X.2.1 (hK.word w3 rfl args) rfl hd rfl hn0 (by show _ * 8 ≤ _; omega) hrc hrs fun cC kA comp g1 g2 g3 => ?_
        rw [hR.1]
        refine K arr _ locs hL (znewarr hR (by decide) (by decide) (Option.some.inj (g1.symm.trans (hK.2.2.1 14 (by decide) (by decide)).2)) (fun g hg j => ?_)) hl
        first
          | (show Value.int 0 = Value.int (zI g (zsz h) j); rw [(hg j).1])
          | (show Value.long 0 = Value.long (zL g (zsz h) j); rw [(hg j).2.1])
      · cases hst
        have K := kk _ hn
        rw [(znw _ _).1] at K hrc
        rw [(znw _ _).2] at K hrs
        intro arr H locs hL hR hl
        refine W.newa (atype := .boolean) X.1 X.2.1 (hK.word w4 rfl args) rfl hd rfl hn0 (by show _ * 1 ≤ _; omega) hrc hrs fun cC kA comp g1 g2 g3 => ?_
        rw [hR.1]
        refine K arr _ locs hL (znewarr hR (by decide) (by decide) (Option.some.inj (g1.symm.trans (hK.2.2.1 15 (by decide) (by decide)).2)) (fun g hg j => ?_)) hl
        first
          | (show Value.int 0 = Value.int (zI g (zsz h) j); rw [(hg j).1])
          | (show Value.long 0 = Value.long (zL g (zsz h) j); rw [(hg j).2.1])
      · cases hst
    · cases hst
  · cases hst
set_option maxRecDepth 100000 in
theorem zAO_ok : lw_tbl[849]? = some (.arrayOver (.object RX2)) ∧ lw_tbl[521]? = some (.arrayOver (.object RX6)) := by decide +kernel
theorem zs_anewarray {i t : Nat} {q : Nat × Nat × Nat × Nat} (X : ZC p R s m meth c E D cA hs H0 y d) (hd : decode (zBy y) pc = .ok (.anewarray i, 3)) (hn : (zP y)[k + 1]? = some (pc + 3)) (hst : zstep E d (.anewarray t) k ls st h = some (k', ls', st', h')) (kk : ∀ pc', (zP y)[k']? = some pc' → ZG p l e R s m args below meth c Q E D cA hs H0 nL pc' ls' st' h' (cells + (zsz h' - zsz h)) (slots + (ztot h' - ztot h))) (hq : zCf (zY y).2.2.2.2 i = some q) (htt : (q.2.2.1 = 2 ∧ t = 16) ∨ (q.2.2.1 = 6 ∧ t = 17)) (hrc : cells + (zsz h' - zsz h) ≤ R.cells) (hrs : slots + (ztot h' - ztot h) ≤ R.slots) : ZG p l e R s m args below meth c Q E D cA hs H0 nL pc ls st h cells slots := by
  obtain ⟨e1, e2, hw, h12⟩ := zCf_spec hq
  have hK := X.2.2.2.2.2.1
  rw [e1, e2] at hw
  simp only [zstep] at hst
  split at hst
  · next n st0 =>
    split at hst
    · next hc =>
      have hn0 : ¬ n < 0 := Int32.not_lt.mpr hc.1
      cases hst
      have K := kk _ hn
      rw [(znw _ _).1] at K hrc
      rw [(znw _ _).2] at K hrs
      intro arr H locs hL hR hl
      rcases htt with ⟨r1, r2⟩ | ⟨r1, r2⟩
      · subst r2
        rw [r1] at hw
        refine W.anew (C := RX2) X.1 X.2.1 X.2.2.2.1 (hK.word hw rfl args) (hK.word zAO_ok.1 rfl args) rfl hd rfl hn0 (by omega) hrc hrs fun cC kA comp g1 g2 g3 g4 => ?_
        obtain ⟨kA2, comp2, -, -, -, g5⟩ := (hK.2.2.1 16 (by decide) (by decide)).2
        rw [hR.1]
        exact K arr _ locs hL (znewarr hR (by decide) (by decide) (Option.some.inj (g1.symm.trans g5)) (fun g hg j => by show Value.null = zrv (zR g (zsz h) j); rw [(hg j).2.2]; rfl)) hl
      · subst r2
        rw [r1] at hw
        refine W.anew (C := RX6) X.1 X.2.1 X.2.2.2.1 (hK.word hw rfl args) (hK.word zAO_ok.2 rfl args) rfl hd rfl hn0 (by omega) hrc hrs fun cC kA comp g1 g2 g3 g4 => ?_
        obtain ⟨kA2, comp2, -, -, -, g5⟩ := (hK.2.2.1 17 (by decide) (by decide)).2
        rw [hR.1]
        exact K arr _ locs hL (znewarr hR (by decide) (by decide) (Option.some.inj (g1.symm.trans g5)) (fun g hg j => by show Value.null = zrv (zR g (zsz h) j); rw [(hg j).2.2]; rfl)) hl
    · cases hst
  · cases hst
end ZST3
