/-! ONE STEP, on: fields, arrays, what is made, the JDK's own -/
set_option maxRecDepth 100000 in
theorem zty_ok : ∀ t, t < 12 → ∀ k, k < zN t → zty t k < 4 ∧ k < 100 ∧ (zT t k).1 = zcn t ∧ (zty t k = 0 → ztyF t k = .int) ∧ (zty t k = 1 → ztyF t k = .long) ∧ (zty t k = 3 → ztyF t k = .boolean) ∧ (zty t k = 2 → fits (ztyF t k) .null = true) := by decide +kernel
theorem zref_of {ty : FieldType} (h : fits ty .null = true) : (∀ v : Value, narrow ty v = v) ∧ (∀ a, fits ty (.ref a) = true) ∧ defaultValue ty = .null := by
  cases ty <;> simp [fits] at h <;> exact ⟨fun v => by cases v <;> rfl, fun a => rfl, rfl⟩
theorem zcl_ok : ∀ t, t < 12 → zcl[t]? = some (zcn t, zT t, zN t) ∧ (∀ w ∈ u_ws (zcn t) (zT t) (zN t), w ∈ lw_tbl) ∧ (∀ k, k < zN t → parseFieldDescriptor (zT t k).2.2.1 = some (ztyF t k)) ∧ (∀ a, a < zN t → ∀ b, b < zN t → a ≠ b → (zT t a).2.1 ≠ (zT t b).2.1)
  | 0, _ => ⟨rfl, zinX0, tyX0_ok, nmX0⟩
  | 1, _ => ⟨rfl, zinX1, tyX1_ok, nmX1⟩
  | 2, _ => ⟨rfl, zinX2, tyX2_ok, nmX2⟩
  | 3, _ => ⟨rfl, zinX3, tyX3_ok, nmX3⟩
  | 4, _ => ⟨rfl, zinX4, tyX4_ok, nmX4⟩
  | 5, _ => ⟨rfl, zinX5, tyX5_ok, nmX5⟩
  | 6, _ => ⟨rfl, zinX6, tyX6_ok, nmX6⟩
  | 7, _ => ⟨rfl, zinX7, tyX7_ok, nmX7⟩
  | 8, _ => ⟨rfl, zinX8, tyX8_ok, nmX8⟩
  | 9, _ => ⟨rfl, zinX9, tyX9_ok, nmX9⟩
  | 10, _ => ⟨rfl, zinX10, tyX10_ok, nmX10⟩
  | 11, _ => ⟨rfl, zinX11, tyX11_ok, nmX11⟩
  | n + 12, h => absurd h (by omega)
theorem zlay_keep (C : String) (T : u_T) (k : Nat) : zkeep (u_lay C T k) = true := by
  unfold u_lay
  split <;> rfl
section ZFIELD
variable {E : Nat → Nat} {D : va_G} {cA : Nat → ClassId} {hs : ZH} {H0 : Heap} {s : State}
theorem ZK.lays (hK : ZK E D cA hs H0 s) {t : Nat} (ht : t < 12) (A : Array Value) : ∀ w ∈ u_ws (zcn t) (zT t) (zN t), w.before A s = true := by
  intro w hw
  refine hK.1 w ((zcl_ok t ht).2.1 w hw) ?_ A
  obtain ⟨k, -, rfl⟩ := List.mem_map.mp hw
  exact zlay_keep _ _ _
theorem ZK.apart (hK : ZK E D cA hs H0 s) {t : Nat} (ht : t < 12) : ∀ x y, x < zN t → y < zN t → x ≠ y → D.2 t x ≠ D.2 t y := by
  intro x y hx hy hne
  obtain ⟨hcl, -, hty, hnm⟩ := zcl_ok t ht
  obtain ⟨hS, -⟩ := hK.2.1 t _ hcl
  obtain ⟨_, _, _, fa, hia, ea⟩ := hS x hx
  obtain ⟨_, _, _, fb, hib, eb⟩ := hS y hy
  rw [← ea, ← eb]
  refine u_apart (args := #[]) (u_lays (hK.lays ht #[]) (fun _ h => h) hx) (u_lays (hK.lays ht #[]) (fun _ h => h) hy) hia hib ?_
  rw [(State.fieldFound?_type hia (hty x hx)).1, (State.fieldFound?_type hib (hty y hy)).1]
  exact hnm x hx y hy hne
end ZFIELD
theorem zFf_spec {own i : Nat} {q : Nat × Nat × Nat × Nat × Nat × Nat} (h : zFf own i = some q) : q.1 = own ∧ q.2.1 = i ∧ lw_tbl[q.2.2.2.2.2]? = some (zFw q) ∧ q.2.2.1 < 12 ∧ q.2.2.2.1 < zN q.2.2.1 := by
  have h1 := List.find?_some h
  have h2 := List.all_eq_true.mp zFL_ok q (List.mem_of_find?_eq_some h)
  simp only [Bool.and_eq_true, beq_iff_eq, decide_eq_true_eq] at h1 h2
  exact ⟨h1.1, h1.2, h2.1.1, h2.1.2, h2.2⟩
theorem zpack {k ty t : Nat} (hk : k < 100) (hty : ty < 4) : (k + 100 * ty + 1000 * t) / 1000 = t ∧ (k + 100 * ty + 1000 * t) / 100 % 10 = ty ∧ (k + 100 * ty + 1000 * t) % 100 = k := by omega
section ZST2
variable {p : Program} {l : Launch} {e : Env} {R : Room} {s : State} {m : MethodId} {args : Array Value} {below : List Frame} {meth : Method} {c : Code} {Q : State → Prop}
variable {E : Nat → Nat} {D : va_G} {cA : Nat → ClassId} {hs : ZH} {H0 : Heap}
variable {y d k pc len nL : Nat} {ls st : List Value} {h : ZH} {cells slots : Nat} {k' : Nat} {ls' st' : List Value} {h' : ZH}
/-- a field is read, whatever it holds -/
theorem zw_get (X : ZC p R s m meth c E D cA hs H0 y d) {i : Nat} (hd : decode (zBy y) pc = .ok (.getfield i, 3)) {q : Nat × Nat × Nat × Nat × Nat × Nat} (hq : zFf (zY y).2.2.2.2 i = some q) {a : Nat} (ht : ztag h a = q.2.2.1) {H : Heap} {locs : List Loc} {arr : Array Slot} (hR : ZRp E D cA hs H0 h H)
    (kk : W p l e R s m args below meth c H locs cells slots Q (F0 m (pc + 3) arr (zval (zty q.2.2.1 q.2.2.2.1) h a q.2.2.2.1 :: st))) : W p l e R s m args below meth c H locs cells slots Q (F0 m pc arr (.ref a :: st)) := by
  obtain ⟨hx, hb, -, hown, -, hK, -⟩ := X
  obtain ⟨e1, e2, hw, h12, hk⟩ := zFf_spec hq
  obtain ⟨own', i', t, sl, ne, pl⟩ := q
  dsimp only at e1 e2 hw h12 hk ht kk
  subst e1; subst e2
  obtain ⟨cell, q1, q2, q3, q4⟩ := hR.obj hK ht h12
  obtain ⟨hcl, -⟩ := zcl_ok t h12
  obtain ⟨hS, hfc, kC, hkC, hkind⟩ := hK.2.1 t _ hcl
  obtain ⟨cf, kf, fi, f, hi, hsl⟩ := hS sl hk
  have hdecl := (zty_ok t h12 sl hk).2.2.1
  have hstt := (u_facts hfc hkC (u_lays (hK.lays h12 args) (fun _ h => h) hk) hi).1
  dsimp only at hi
  rw [hdecl] at hi
  unfold zFw at hw
  dsimp only at hw
  split at hw
  · exact W.getf hx hb hown (hK.word hw rfl args) hi hstt q1 (by rw [q3]; exact fun h => by cases h) (by rw [hsl, q4 sl hk]) rfl rfl hd kk
  · exact va_Wgetf hx hb hown (hK.word hw rfl args) hi hstt q1 (by rw [q3]; exact fun h => by cases h) (by rw [hsl, q4 sl hk]) rfl rfl hd kk
theorem zs_getfield {i : Nat} {q : Nat × Nat × Nat × Nat × Nat × Nat} (X : ZC p R s m meth c E D cA hs H0 y d) (hd : decode (zBy y) pc = .ok (.getfield i, 3)) (hq : zFf (zY y).2.2.2.2 i = some q) (hn : (zP y)[k + 1]? = some (pc + 3)) (hst : zstep E d (.getfield (q.2.2.2.1 + 100 * zty q.2.2.1 q.2.2.2.1 + 1000 * q.2.2.1)) k ls st h = some (k', ls', st', h')) (kk : ∀ pc', (zP y)[k']? = some pc' → ZG p l e R s m args below meth c Q E D cA hs H0 nL pc' ls' st' h' (cells + (zsz h' - zsz h)) (slots + (ztot h' - ztot h))) : ZG p l e R s m args below meth c Q E D cA hs H0 nL pc ls st h cells slots := by
  obtain ⟨-, -, -, h12, hk⟩ := zFf_spec hq
  obtain ⟨ht4, hk1, -⟩ := zty_ok _ h12 _ hk
  obtain ⟨p1, p2, p3⟩ := zpack (t := q.2.2.1) hk1 ht4
  simp only [zstep, p1, p2, p3] at hst
  split at hst
  · next a st0 =>
    split at hst
    · next ht =>
      have hv : (k', ls', st', h') = (k + 1, ls, zval (zty q.2.2.1 q.2.2.2.1) h a q.2.2.2.1 :: st0, h) := by
        split at hst
        · next e0 => cases hst; rw [e0]; rfl
        · next e0 => cases hst; rw [e0]; rfl
        · next e0 => cases hst; rw [e0]; rfl
        · next e0 => cases hst; rw [e0]; rfl
        · cases hst
      cases hv
      have K := kk _ hn
      simp only [Nat.sub_self, Nat.add_zero] at K
      exact fun arr H locs hL hR hl => zw_get X hd hq ht hR (K arr H locs hL hR hl)
    · cases hst
  · cases hst
/-- a field is written: any heap that differs there alone -/
theorem zw_put (X : ZC p R s m meth c E D cA hs H0 y d) {i : Nat} (hd : decode (zBy y) pc = .ok (.putfield i, 3)) {q : Nat × Nat × Nat × Nat × Nat × Nat} (hq : zFf (zY y).2.2.2.2 i = some q) (hfin : (zT q.2.2.1 q.2.2.2.1).2.2.2 = false ∨ (q.1 = q.2.2.1 ∧ q.2.2.2.2.1 = 0 ∧ zini y = true)) {a : Nat} {v : Value} (ht : ztag h a = q.2.2.1) (hnv : narrow (ztyF q.2.2.1 q.2.2.2.1) v = v) (hfv : fits (ztyF q.2.2.1 q.2.2.2.1) v = true)
    (e1 : zsz h' = zsz h) (e2 : ztag h' = ztag h) (e3 : zlen h' = zlen h) (eo : ∀ b, b ≠ a → zI h' b = zI h b ∧ zL h' b = zL h b ∧ zR h' b = zR h b) (ev : ∀ j, j < zN q.2.2.1 → zval (zty q.2.2.1 j) h' a j = updV (fun j => zval (zty q.2.2.1 j) h a j) q.2.2.2.1 v j)
    {H : Heap} {locs : List Loc} {arr : Array Slot} (hR : ZRp E D cA hs H0 h H) (hl : ∀ q ∈ locs, E 0 ≤ q.base)
    (kk : ∀ (H' : Heap) (locs' : List Loc), ZRp E D cA hs H0 h' H' → (∀ q ∈ locs', E 0 ≤ q.base) → W p l e R s m args below meth c H' locs' cells slots Q (F0 m (pc + 3) arr st)) : W p l e R s m args below meth c H locs cells slots Q (F0 m pc arr (v :: .ref a :: st)) := by
  obtain ⟨hx, hb, -, hown, hin, hK, -⟩ := X
  obtain ⟨f1, f2, hw, h12, hk⟩ := zFf_spec hq
  obtain ⟨own', i', t, sl, ne, pl⟩ := q
  dsimp only at f1 f2 hw h12 hk ht kk hfin hnv hfv ev
  subst f1; subst f2
  have hmine := hR.mine hK (a := a) (by omega)
  obtain ⟨cell, q1, q2, q3, q4⟩ := hR.obj hK ht h12
  obtain ⟨hcl, -, hty, -⟩ := zcl_ok t h12
  obtain ⟨hS, hfc, kC, hkC, hkind⟩ := hK.2.1 t _ hcl
  obtain ⟨cf, kf, fi, f, hi, hsl⟩ := hS sl hk
  have hdecl := (zty_ok t h12 sl hk).2.2.1
  have hlays := u_lays (hK.lays h12 args) (fun _ h => h) hk
  have hstt := (u_facts hfc hkC hlays hi).1
  have hft := u_fits hfc hkC hkind hlays hi (hty sl hk) hnv hfv
  have hlt : f.slot < cell.slots.size := by rw [hsl]; exact k2_hasslot (q4 sl hk)
  have fin : ∀ H' : Heap, H'[a]? = some (cell.setSlot f.slot v) → H'.size = H.size → (∀ q, q ≠ a → H'[q]? = H[q]?) → W p l e R s m args below meth c H' (locs ++ [⟨a, f.slot⟩]) cells slots Q (F0 m (pc + 3) arr st) := by
    intro H' g1 g2 g3
    refine kk H' _ (hR.put hmine.1 e1 e2 e3 eo g2 g3 ?_) ?_
    · refine Or.inl ⟨by rw [e2]; omega, ?_⟩
      rw [e2, ht]
      refine ⟨_, g1, by rw [← q2]; rfl, q3, fun j hj => ?_⟩
      rw [hsl, t_set q4 (hK.apart h12) hk v j hj]
      show some _ = some (zval (zty t j) h' a j)
      rw [ev j hj]
    · intro q hq2
      rcases List.mem_append.mp hq2 with z | z
      · exact hl q z
      · rw [List.mem_singleton.mp z]; exact hmine.1
  dsimp only at hi
  have hi' := hi
  rw [hdecl] at hi'
  unfold zFw at hw
  dsimp only at hw
  by_cases hff : (zT t sl).2.2.2 = false
  · have hlay := hK.lays h12 args _ (u_in_lay hk)
    unfold u_lay at hlay
    rw [if_neg (by rw [hff]; decide)] at hlay
    have h6 := u_store hfc hkC hkind hlay hi (hty sl hk) hnv hfv
    split at hw
    · exact W.putK hx hb (f := f) ⟨hown, hK.word hw rfl args, ⟨_, _, _, hi'⟩, hstt⟩ (by rw [q2]; exact h6) q1 q3 hlt rfl rfl hd fin
    · exact va_WputK hx hb (f := f) hown (hK.word hw rfl args) hi' hstt (by rw [q2]; exact h6) q1 q3 hlt rfl rfl hd fin
  · obtain ⟨g1, g2, g3⟩ := hfin.resolve_left hff
    rw [if_pos g2] at hw
    refine W.putFinK hx hb hown (hK.word hw rfl args) hi' hstt ?_ (hin g3) (by rw [q2]; exact hft) q1 q3 hlt rfl rfl hd fin
    have hlay := hK.lays h12 args _ (u_in_lay hk)
    unfold u_lay at hlay
    rw [if_pos (by revert hff; cases (zT t sl).2.2.2 <;> simp)] at hlay
    obtain ⟨_, _, c', _, _, _, -, -, hf', -, -, -, hown2, -⟩ := Cond.laysFinal_spec hlay
    have e1 : c' = cf := by have := hi.symm.trans hf'; simp at this; exact this.1.symm
    rw [hdecl, ← g1] at hown2
    rw [← e1]
    exact Option.some.inj (hown.symm.trans hown2)
theorem zs_putfield {i : Nat} {q : Nat × Nat × Nat × Nat × Nat × Nat} (X : ZC p R s m meth c E D cA hs H0 y d) (hd : decode (zBy y) pc = .ok (.putfield i, 3)) (hq : zFf (zY y).2.2.2.2 i = some q) (hfin : (zT q.2.2.1 q.2.2.2.1).2.2.2 = false ∨ (q.1 = q.2.2.1 ∧ q.2.2.2.2.1 = 0 ∧ zini y = true)) (hn : (zP y)[k + 1]? = some (pc + 3)) (hst : zstep E d (.putfield (q.2.2.2.1 + 100 * zty q.2.2.1 q.2.2.2.1 + 1000 * q.2.2.1)) k ls st h = some (k', ls', st', h')) (kk : ∀ pc', (zP y)[k']? = some pc' → ZG p l e R s m args below meth c Q E D cA hs H0 nL pc' ls' st' h' (cells + (zsz h' - zsz h)) (slots + (ztot h' - ztot h))) : ZG p l e R s m args below meth c Q E D cA hs H0 nL pc ls st h cells slots := by
  obtain ⟨-, -, -, h12, hk⟩ := zFf_spec hq
  obtain ⟨ht4, hk1, -, hF0, hF1, hF3, hF2⟩ := zty_ok _ h12 _ hk
  obtain ⟨p1, p2, p3⟩ := zpack (t := q.2.2.1) hk1 ht4
  simp only [zstep, p1, p2, p3] at hst
  split at hst
  · next v a st0 =>
    split at hst
    · next ht =>
      split at hst
      · next x e0 =>
        cases hst
        have K := kk _ hn
        intro arr H locs hL hR hl
        have hF := hF0 e0
        refine zw_put (h' := zuI h a q.2.2.2.1 x) X hd hq hfin ht (by rw [hF]; rfl) (by rw [hF]; rfl) rfl rfl rfl (fun b hb => ⟨?_, rfl, rfl⟩) (fun j hj => ?_) hR hl (fun H' locs' hR' hl' => by
          have K1 := K arr H' locs' hL hR' hl'
          have z1 : zsz (zuI h a q.2.2.2.1 x) - zsz h = 0 := Nat.sub_self _
          have z2 : ztot (zuI h a q.2.2.2.1 x) - ztot h = 0 := Nat.sub_self _
          rw [z1, z2] at K1
          exact K1)
        · funext j
          show zup (zI h) a _ x b j = _
          simp [zup, hb]
        · by_cases hj2 : j = q.2.2.2.1
          · subst hj2
            show zval _ _ _ _ = _
            rw [e0]
            simp [zval, updV, zI, zuI, zup]
          · simp only [updV, hj2, if_false]
            unfold zval
            split
            · rfl
            · rfl
            · show Value.int (zup (zI h) a _ x a j) = _
              simp [zup, hj2]
      · next x e0 =>
        cases hst
        have K := kk _ hn
        intro arr H locs hL hR hl
        have hF := hF1 e0
        refine zw_put (h' := zuL h a q.2.2.2.1 x) X hd hq hfin ht (by rw [hF]; rfl) (by rw [hF]; rfl) rfl rfl rfl (fun b hb => ⟨rfl, ?_, rfl⟩) (fun j hj => ?_) hR hl (fun H' locs' hR' hl' => by
          have K1 := K arr H' locs' hL hR' hl'
          have z1 : zsz (zuL h a q.2.2.2.1 x) - zsz h = 0 := Nat.sub_self _
          have z2 : ztot (zuL h a q.2.2.2.1 x) - ztot h = 0 := Nat.sub_self _
          rw [z1, z2] at K1
          exact K1)
        · funext j
          show zup (zL h) a _ x b j = _
          simp [zup, hb]
        · by_cases hj2 : j = q.2.2.2.1
          · subst hj2
            rw [e0]
            simp [zval, updV, zL, zuL, zup]
          · simp only [updV, hj2, if_false]
            unfold zval
            split
            · show Value.long (zup (zL h) a _ x a j) = _
              simp [zup, hj2]
            · rfl
            · rfl
      · next x e0 =>
        cases hst
        have K := kk _ hn
        intro arr H locs hL hR hl
        have hF := hF2 e0
        obtain ⟨r1, r2, -⟩ := zref_of hF
        refine zw_put (h' := zuR h a q.2.2.2.1 (x + 1)) X hd hq hfin ht (r1 _) (r2 _) rfl rfl rfl (fun b hb => ⟨rfl, rfl, ?_⟩) (fun j hj => ?_) hR hl (fun H' locs' hR' hl' => by
          have K1 := K arr H' locs' hL hR' hl'
          have z1 : zsz (zuR h a q.2.2.2.1 (x + 1)) - zsz h = 0 := Nat.sub_self _
          have z2 : ztot (zuR h a q.2.2.2.1 (x + 1)) - ztot h = 0 := Nat.sub_self _
          rw [z1, z2] at K1
          exact K1)
        · funext j
          show zup (zR h) a _ (x + 1) b j = _
          simp [zup, hb]
        · by_cases hj2 : j = q.2.2.2.1
          · subst hj2
            rw [e0]
            simp [zval, updV, zR, zuR, zup, zrv]
          · simp only [updV, hj2, if_false]
            unfold zval
            split
            · rfl
            · show zrv (zup (zR h) a _ (x + 1) a j) = _
              simp [zup, hj2]
            · rfl
      · next x e0 =>
        split at hst
        · next hx01 =>
          cases hst
          have K := kk _ hn
          intro arr H locs hL hR hl
          have hF := hF3 e0
          refine zw_put (h' := zuI h a q.2.2.2.1 x) X hd hq hfin ht (by rw [hF]; rcases hx01 with rfl | rfl <;> rfl) (by rw [hF]; rcases hx01 with rfl | rfl <;> rfl) rfl rfl rfl (fun b hb => ⟨?_, rfl, rfl⟩) (fun j hj => ?_) hR hl (fun H' locs' hR' hl' => by
            have K1 := K arr H' locs' hL hR' hl'
            have z1 : zsz (zuI h a q.2.2.2.1 x) - zsz h = 0 := Nat.sub_self _
            have z2 : ztot (zuI h a q.2.2.2.1 x) - ztot h = 0 := Nat.sub_self _
            rw [z1, z2] at K1
            exact K1)
          · funext j
            show zup (zI h) a _ x b j = _
            simp [zup, hb]
          · by_cases hj2 : j = q.2.2.2.1
            · subst hj2
              rw [e0]
              simp [zval, updV, zI, zuI, zup]
            · simp only [updV, hj2, if_false]
              unfold zval
              split
              · rfl
              · rfl
              · show Value.int (zup (zI h) a _ x a j) = _
                simp [zup, hj2]
        · cases hst
      · cases hst
    · cases hst
  · cases hst
end ZST2
