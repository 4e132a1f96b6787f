/-! what is read, what is written, what is made -/
section ZREP
variable {E : Nat → Nat} {D : va_G} {cA : Nat → ClassId} {hs : ZH} {H0 : Heap} {U : State} {h : ZH} {H : Heap}
theorem ZRp.mine (hR : ZRp E D cA hs H0 h H) (hK : ZK E D cA hs H0 U) {a : Nat} (ht : ztag h a ≤ 17) : E 0 ≤ a ∧ a < zsz h := by
  obtain ⟨-, -, -, h4, h5⟩ := hR
  refine ⟨?_, ?_⟩
  · rcases Nat.lt_or_ge a (E 0) with q | q
    · have e := (h5 a q).2.1
      rcases (hK.2.2.2.1 a q).1 with r | r | r <;> omega
    · exact q
  · rcases Nat.lt_or_ge a (zsz h) with q | q
    · exact q
    · have := h4 a q
      omega
theorem ZRp.obj (hR : ZRp E D cA hs H0 h H) (hK : ZK E D cA hs H0 U) {a t : Nat} (ht : ztag h a = t) (h12 : t < 12) : t_OB a (D.1 t) (zN t) (D.2 t) H (fun k => zval (zty t k) h a k) := by
  subst ht
  obtain ⟨q1, q2⟩ := hR.mine hK (a := a) (by omega)
  rcases hR.2.2.1 a q1 q2 with q | q
  · exact q.2
  · omega
theorem ZRp.arr (hR : ZRp E D cA hs H0 h H) (hK : ZK E D cA hs H0 U) {a t : Nat} (ht : ztag h a = t) (h12 : 12 ≤ t) (h17 : t ≤ 17) : H[a]? = some (arrV (cA t) (zlen h a) (fun j => zval (zatn t) h a j)) := by
  subst ht
  obtain ⟨q1, q2⟩ := hR.mine hK (a := a) (by omega)
  rcases hR.2.2.1 a q1 q2 with q | q
  · omega
  · exact q.2.2
theorem ZRp.low (hR : ZRp E D cA hs H0 h H) (hK : ZK E D cA hs H0 U) {a : Nat} (ht : ztag h a = 18 ∨ ztag h a = 19) : a < E 0 := by
  rcases Nat.lt_or_ge a (E 0) with q | q
  · exact q
  · rcases Nat.lt_or_ge a (zsz h) with q2 | q2
    · rcases hR.2.2.1 a q q2 with r | r <;> omega
    · have := hR.2.2.2.1 a q2
      omega
theorem ZRp.stat (hR : ZRp E D cA hs H0 h H) (hK : ZK E D cA hs H0 U) {a : Nat} (ht : ztag h a = 19) : va_X a (zlen h a) (zI h a) U H := by
  have q := hR.low hK (Or.inr ht)
  obtain ⟨e1, e2, e3, e4⟩ := hR.2.2.2.2 a q
  rw [e3, e4]
  exact ((hK.2.2.2.1 a q).2 (by omega)).kept e1
theorem zval_eq {ty : Nat} {h h' : ZH} {b : Nat} (e1 : zI h' b = zI h b) (e2 : zL h' b = zL h b) (e3 : zR h' b = zR h b) (k : Nat) : zval ty h' b k = zval ty h b k := by
  unfold zval
  split <;> simp [e1, e2, e3]
theorem zcell.kept {h' : ZH} {H' : Heap} {b : Nat} (hc : zcell D cA h H b) (e0 : H'[b]? = H[b]?) (e1 : ztag h' b = ztag h b) (e2 : zlen h' b = zlen h b) (e3 : zI h' b = zI h b) (e4 : zL h' b = zL h b) (e5 : zR h' b = zR h b) : zcell D cA h' H' b := by
  unfold zcell
  rw [e1, e2]
  rcases hc with ⟨q1, q2⟩ | ⟨q1, q2, q3⟩
  · exact Or.inl ⟨q1, (q2.kept e0).to (fun k _ => (zval_eq e3 e4 e5 k).symm)⟩
  · refine Or.inr ⟨q1, q2, ?_⟩
    rw [e0, q3]
    congr 2
    funext j
    exact (zval_eq e3 e4 e5 j).symm
theorem ZRp.put (hR : ZRp E D cA hs H0 h H) {a : Nat} (ha : E 0 ≤ a) {h' : ZH} {H' : Heap} (e1 : zsz h' = zsz h) (e2 : ztag h' = ztag h) (e3 : zlen h' = zlen h) (eo : ∀ b, b ≠ a → zI h' b = zI h b ∧ zL h' b = zL h b ∧ zR h' b = zR h b)
    (hz : H'.size = H.size) (ho : ∀ q, q ≠ a → H'[q]? = H[q]?) (hc : zcell D cA h' H' a) : ZRp E D cA hs H0 h' H' := by
  obtain ⟨h1, h2, h3, h4, h5⟩ := hR
  refine ⟨by rw [hz, h1, e1], by rw [e1]; exact h2, fun b hb hb2 => ?_, fun b hb => by rw [e2]; exact h4 b (by rw [← e1]; exact hb), fun b hb => ?_⟩
  · by_cases hba : b = a
    · subst hba; exact hc
    · obtain ⟨i1, i2, i3⟩ := eo b hba
      exact (h3 b hb (by rw [← e1]; exact hb2)).kept (ho b hba) (by rw [e2]) (by rw [e3]) i1 i2 i3
  · have hba : b ≠ a := by omega
    rw [ho b hba, e2, e3, (eo b hba).1]
    exact h5 b hb
theorem ZRp.new (hR : ZRp E D cA hs H0 h H) {tg n : Nat} {H' : Heap} (hz : H'.size = H.size + 1) (ho : ∀ q, q < H.size → H'[q]? = H[q]?) (hc : zcell D cA (znew h tg n) H' (zsz h)) : ZRp E D cA hs H0 (znew h tg n) H' := by
  obtain ⟨h1, h2, h3, h4, h5⟩ := hR
  have e1 : zsz (znew h tg n) = zsz h + 1 := rfl
  have et : ∀ b, b ≠ zsz h → ztag (znew h tg n) b = ztag h b ∧ zlen (znew h tg n) b = zlen h b ∧ zI (znew h tg n) b = zI h b ∧ zL (znew h tg n) b = zL h b ∧ zR (znew h tg n) b = zR h b := by
    intro b hb
    refine ⟨?_, ?_, ?_, ?_, ?_⟩
    · show zup1 (ztag h) (zsz h) tg b = _
      simp [zup1, hb]
    · show zup1 (zlen h) (zsz h) n b = _
      simp [zup1, hb]
    · funext j
      show (if b = zsz h then (0 : Int32) else zI h b j) = _
      simp [hb]
    · funext j
      show (if b = zsz h then (0 : Int64) else zL h b j) = _
      simp [hb]
    · funext j
      show (if b = zsz h then (0 : Nat) else zR h b j) = _
      simp [hb]
  refine ⟨by rw [hz, h1, e1], by rw [e1]; omega, fun b hb hb2 => ?_, fun b hb => ?_, fun b hb => ?_⟩
  · by_cases hba : b = zsz h
    · subst hba; exact hc
    · obtain ⟨i1, i2, i3, i4, i5⟩ := et b hba
      exact (h3 b hb (by omega)).kept (ho b (by omega)) i1 i2 i3 i4 i5
  · rw [(et b (by omega)).1]
    exact h4 b (by omega)
  · have hba : b ≠ zsz h := by omega
    obtain ⟨i1, i2, i3, i4, i5⟩ := et b hba
    rw [ho b (by omega), i1, i2, i3]
    exact h5 b hb
end ZREP


/-! ONE STEP: what the plain machine does, the machine does -/
theorem zidx_spec {pcs : List Nat} {p : Int} {t : Nat} (h : zidx pcs p = some t) : ∃ q : Nat, pcs[t]? = some q ∧ (q : Int) = p := by
  unfold zidx at h
  rw [List.findIdx?_eq_some_iff_getElem] at h
  obtain ⟨hl, h1, -⟩ := h
  exact ⟨pcs[t], List.getElem?_eq_getElem hl, by simpa using h1⟩
theorem zidxs_spec {pcs : List Nat} {pc : Nat} : ∀ {os : List Int} {ts : List Int}, zidxs pcs pc os = some ts → ∀ (j : Nat) (o : Int), os[j]? = some o → ∃ (t q : Nat), ts[j]? = some (t : Int) ∧ pcs[t]? = some q ∧ (q : Int) = pc + o := by
  intro os
  induction os with
  | nil => intro ts _ j o h; simp at h
  | cons a os ih =>
    intro ts h j o hj
    simp only [zidxs] at h
    split at h
    · next t ts' h1 h2 =>
      cases h
      cases j with
      | zero =>
        simp at hj
        subst hj
        obtain ⟨q, hq, e⟩ := zidx_spec h1
        exact ⟨t, q, rfl, hq, e⟩
      | succ j =>
        simp at hj
        obtain ⟨t', q, a1, a2, a3⟩ := ih h2 j o hj
        exact ⟨t', q, by simpa using a1, a2, a3⟩
    · cases h
theorem zidxs_len {pcs : List Nat} {pc : Nat} : ∀ {os : List Int} {ts : List Int}, zidxs pcs pc os = some ts → ts.length = os.length := by
  intro os
  induction os with
  | nil => intro ts h; simp [zidxs] at h; simp [← h]
  | cons a os ih =>
    intro ts h
    simp only [zidxs] at h
    split at h
    · next t ts' h1 h2 => cases h; simp [ih h2]
    · cases h
section ZST
variable {p : Program} {l : Launch} {e : Env} {R : Room} {s : State} {m : MethodId} {args : Array Value} {below : List Frame} {meth : Method} {c : Code} {Q : State → Prop}
variable {E : Nat → Nat} {D : va_G} {cA : Nat → ClassId} {hs : ZH} {H0 : Heap}
def ZC (p : Program) (R : Room) (s : State) (m : MethodId) (meth : Method) (c : Code) (E : Nat → Nat) (D : va_G) (cA : Nat → ClassId) (hs : ZH) (H0 : Heap) (y d : Nat) : Prop :=
  p.tables.exec = Jvm.exec ∧ c.code = zBy y ∧ c.maxLocals = (zM y).2.1 ∧ s.vm.findClass (zcn (zY y).2.2.2.2) = some m.cls ∧ (zini y = true → meth.name = "<init>") ∧ ZK E D cA hs H0 s ∧ d ≤ R.frames ∧ 64 * d ≤ R.locals
def ZG (p : Program) (l : Launch) (e : Env) (R : Room) (s : State) (m : MethodId) (args : Array Value) (below : List Frame) (meth : Method) (c : Code) (Q : State → Prop) (E : Nat → Nat) (D : va_G) (cA : Nat → ClassId) (hs : ZH) (H0 : Heap) (nL pc : Nat) (ls st : List Value) (h : ZH) (cells slots : Nat) : Prop :=
  ∀ (arr : Array Slot) (H : Heap) (locs : List Loc), zLR arr nL ls → ZRp E D cA hs H0 h H → (∀ q ∈ locs, E 0 ≤ q.base) → W p l e R s m args below meth c H locs cells slots Q (F0 m pc arr st)
variable {y d k pc len nL : Nat} {ls st : List Value} {h : ZH} {cells slots : Nat} {k' : Nat} {ls' st' : List Value} {h' : ZH}

theorem zs_iadd (X : ZC p R s m meth c E D cA hs H0 y d) (hd : decode (zBy y) pc = .ok (.iadd, 1)) (hn : (zP y)[k + 1]? = some (pc + 1)) (hst : zstep E d (.iadd) k ls st h = some (k', ls', st', h')) (kk : ∀ pc', (zP y)[k']? = some pc' → ZG p l e R s m args below meth c Q E D cA hs H0 nL pc' ls' st' h' (cells + (zsz h' - zsz h)) (slots + (ztot h' - ztot h)))  : ZG p l e R s m args below meth c Q E D cA hs H0 nL pc ls st h cells slots := by
  simp only [zstep] at hst
  split at hst
  · cases hst
    have K := kk _ hn
    simp only [Nat.sub_self, Nat.add_zero] at K
    exact fun arr H locs hL hR hl => lv_iadd X.1 X.2.1 hd (K arr H locs hL hR hl)
  · cases hst
theorem zs_isub (X : ZC p R s m meth c E D cA hs H0 y d) (hd : decode (zBy y) pc = .ok (.isub, 1)) (hn : (zP y)[k + 1]? = some (pc + 1)) (hst : zstep E d (.isub) k ls st h = some (k', ls', st', h')) (kk : ∀ pc', (zP y)[k']? = some pc' → ZG p l e R s m args below meth c Q E D cA hs H0 nL pc' ls' st' h' (cells + (zsz h' - zsz h)) (slots + (ztot h' - ztot h)))  : ZG p l e R s m args below meth c Q E D cA hs H0 nL pc ls st h cells slots := by
  simp only [zstep] at hst
  split at hst
  · cases hst
    have K := kk _ hn
    simp only [Nat.sub_self, Nat.add_zero] at K
    exact fun arr H locs hL hR hl => lv_isub X.1 X.2.1 hd (K arr H locs hL hR hl)
  · cases hst
theorem zs_imul (X : ZC p R s m meth c E D cA hs H0 y d) (hd : decode (zBy y) pc = .ok (.imul, 1)) (hn : (zP y)[k + 1]? = some (pc + 1)) (hst : zstep E d (.imul) k ls st h = some (k', ls', st', h')) (kk : ∀ pc', (zP y)[k']? = some pc' → ZG p l e R s m args below meth c Q E D cA hs H0 nL pc' ls' st' h' (cells + (zsz h' - zsz h)) (slots + (ztot h' - ztot h)))  : ZG p l e R s m args below meth c Q E D cA hs H0 nL pc ls st h cells slots := by
  simp only [zstep] at hst
  split at hst
  · cases hst
    have K := kk _ hn
    simp only [Nat.sub_self, Nat.add_zero] at K
    exact fun arr H locs hL hR hl => lv_imul X.1 X.2.1 hd (K arr H locs hL hR hl)
  · cases hst
theorem zs_iand (X : ZC p R s m meth c E D cA hs H0 y d) (hd : decode (zBy y) pc = .ok (.iand, 1)) (hn : (zP y)[k + 1]? = some (pc + 1)) (hst : zstep E d (.iand) k ls st h = some (k', ls', st', h')) (kk : ∀ pc', (zP y)[k']? = some pc' → ZG p l e R s m args below meth c Q E D cA hs H0 nL pc' ls' st' h' (cells + (zsz h' - zsz h)) (slots + (ztot h' - ztot h)))  : ZG p l e R s m args below meth c Q E D cA hs H0 nL pc ls st h cells slots := by
  simp only [zstep] at hst
  split at hst
  · cases hst
    have K := kk _ hn
    simp only [Nat.sub_self, Nat.add_zero] at K
    exact fun arr H locs hL hR hl => lv_iand X.1 X.2.1 hd (K arr H locs hL hR hl)
  · cases hst
theorem zs_ior (X : ZC p R s m meth c E D cA hs H0 y d) (hd : decode (zBy y) pc = .ok (.ior, 1)) (hn : (zP y)[k + 1]? = some (pc + 1)) (hst : zstep E d (.ior) k ls st h = some (k', ls', st', h')) (kk : ∀ pc', (zP y)[k']? = some pc' → ZG p l e R s m args below meth c Q E D cA hs H0 nL pc' ls' st' h' (cells + (zsz h' - zsz h)) (slots + (ztot h' - ztot h)))  : ZG p l e R s m args below meth c Q E D cA hs H0 nL pc ls st h cells slots := by
  simp only [zstep] at hst
  split at hst
  · cases hst
    have K := kk _ hn
    simp only [Nat.sub_self, Nat.add_zero] at K
    exact fun arr H locs hL hR hl => lv_ior X.1 X.2.1 hd (K arr H locs hL hR hl)
  · cases hst
theorem zs_ishl (X : ZC p R s m meth c E D cA hs H0 y d) (hd : decode (zBy y) pc = .ok (.ishl, 1)) (hn : (zP y)[k + 1]? = some (pc + 1)) (hst : zstep E d (.ishl) k ls st h = some (k', ls', st', h')) (kk : ∀ pc', (zP y)[k']? = some pc' → ZG p l e R s m args below meth c Q E D cA hs H0 nL pc' ls' st' h' (cells + (zsz h' - zsz h)) (slots + (ztot h' - ztot h)))  : ZG p l e R s m args below meth c Q E D cA hs H0 nL pc ls st h cells slots := by
  simp only [zstep] at hst
  split at hst
  · cases hst
    have K := kk _ hn
    simp only [Nat.sub_self, Nat.add_zero] at K
    exact fun arr H locs hL hR hl => lv_ishl X.1 X.2.1 hd (K arr H locs hL hR hl)
  · cases hst
theorem zs_ishr (X : ZC p R s m meth c E D cA hs H0 y d) (hd : decode (zBy y) pc = .ok (.ishr, 1)) (hn : (zP y)[k + 1]? = some (pc + 1)) (hst : zstep E d (.ishr) k ls st h = some (k', ls', st', h')) (kk : ∀ pc', (zP y)[k']? = some pc' → ZG p l e R s m args below meth c Q E D cA hs H0 nL pc' ls' st' h' (cells + (zsz h' - zsz h)) (slots + (ztot h' - ztot h)))  : ZG p l e R s m args below meth c Q E D cA hs H0 nL pc ls st h cells slots := by
  simp only [zstep] at hst
  split at hst
  · cases hst
    have K := kk _ hn
    simp only [Nat.sub_self, Nat.add_zero] at K
    exact fun arr H locs hL hR hl => lv_ishr X.1 X.2.1 hd (K arr H locs hL hR hl)
  · cases hst
theorem zs_ladd (X : ZC p R s m meth c E D cA hs H0 y d) (hd : decode (zBy y) pc = .ok (.ladd, 1)) (hn : (zP y)[k + 1]? = some (pc + 1)) (hst : zstep E d (.ladd) k ls st h = some (k', ls', st', h')) (kk : ∀ pc', (zP y)[k']? = some pc' → ZG p l e R s m args below meth c Q E D cA hs H0 nL pc' ls' st' h' (cells + (zsz h' - zsz h)) (slots + (ztot h' - ztot h)))  : ZG p l e R s m args below meth c Q E D cA hs H0 nL pc ls st h cells slots := by
  simp only [zstep] at hst
  split at hst
  · cases hst
    have K := kk _ hn
    simp only [Nat.sub_self, Nat.add_zero] at K
    exact fun arr H locs hL hR hl => lv_ladd X.1 X.2.1 hd (K arr H locs hL hR hl)
  · cases hst
theorem zs_lsub (X : ZC p R s m meth c E D cA hs H0 y d) (hd : decode (zBy y) pc = .ok (.lsub, 1)) (hn : (zP y)[k + 1]? = some (pc + 1)) (hst : zstep E d (.lsub) k ls st h = some (k', ls', st', h')) (kk : ∀ pc', (zP y)[k']? = some pc' → ZG p l e R s m args below meth c Q E D cA hs H0 nL pc' ls' st' h' (cells + (zsz h' - zsz h)) (slots + (ztot h' - ztot h)))  : ZG p l e R s m args below meth c Q E D cA hs H0 nL pc ls st h cells slots := by
  simp only [zstep] at hst
  split at hst
  · cases hst
    have K := kk _ hn
    simp only [Nat.sub_self, Nat.add_zero] at K
    exact fun arr H locs hL hR hl => lv_lsub X.1 X.2.1 hd (K arr H locs hL hR hl)
  · cases hst
theorem zs_lmul (X : ZC p R s m meth c E D cA hs H0 y d) (hd : decode (zBy y) pc = .ok (.lmul, 1)) (hn : (zP y)[k + 1]? = some (pc + 1)) (hst : zstep E d (.lmul) k ls st h = some (k', ls', st', h')) (kk : ∀ pc', (zP y)[k']? = some pc' → ZG p l e R s m args below meth c Q E D cA hs H0 nL pc' ls' st' h' (cells + (zsz h' - zsz h)) (slots + (ztot h' - ztot h)))  : ZG p l e R s m args below meth c Q E D cA hs H0 nL pc ls st h cells slots := by
  simp only [zstep] at hst
  split at hst
  · cases hst
    have K := kk _ hn
    simp only [Nat.sub_self, Nat.add_zero] at K
    exact fun arr H locs hL hR hl => lv_lmul X.1 X.2.1 hd (K arr H locs hL hR hl)
  · cases hst
theorem zs_land (X : ZC p R s m meth c E D cA hs H0 y d) (hd : decode (zBy y) pc = .ok (.land, 1)) (hn : (zP y)[k + 1]? = some (pc + 1)) (hst : zstep E d (.land) k ls st h = some (k', ls', st', h')) (kk : ∀ pc', (zP y)[k']? = some pc' → ZG p l e R s m args below meth c Q E D cA hs H0 nL pc' ls' st' h' (cells + (zsz h' - zsz h)) (slots + (ztot h' - ztot h)))  : ZG p l e R s m args below meth c Q E D cA hs H0 nL pc ls st h cells slots := by
  simp only [zstep] at hst
  split at hst
  · cases hst
    have K := kk _ hn
    simp only [Nat.sub_self, Nat.add_zero] at K
    exact fun arr H locs hL hR hl => lv_land X.1 X.2.1 hd (K arr H locs hL hR hl)
  · cases hst
theorem zs_lor (X : ZC p R s m meth c E D cA hs H0 y d) (hd : decode (zBy y) pc = .ok (.lor, 1)) (hn : (zP y)[k + 1]? = some (pc + 1)) (hst : zstep E d (.lor) k ls st h = some (k', ls', st', h')) (kk : ∀ pc', (zP y)[k']? = some pc' → ZG p l e R s m args below meth c Q E D cA hs H0 nL pc' ls' st' h' (cells + (zsz h' - zsz h)) (slots + (ztot h' - ztot h)))  : ZG p l e R s m args below meth c Q E D cA hs H0 nL pc ls st h cells slots := by
  simp only [zstep] at hst
  split at hst
  · cases hst
    have K := kk _ hn
    simp only [Nat.sub_self, Nat.add_zero] at K
    exact fun arr H locs hL hR hl => lv_lor X.1 X.2.1 hd (K arr H locs hL hR hl)
  · cases hst
theorem zs_lneg (X : ZC p R s m meth c E D cA hs H0 y d) (hd : decode (zBy y) pc = .ok (.lneg, 1)) (hn : (zP y)[k + 1]? = some (pc + 1)) (hst : zstep E d (.lneg) k ls st h = some (k', ls', st', h')) (kk : ∀ pc', (zP y)[k']? = some pc' → ZG p l e R s m args below meth c Q E D cA hs H0 nL pc' ls' st' h' (cells + (zsz h' - zsz h)) (slots + (ztot h' - ztot h)))  : ZG p l e R s m args below meth c Q E D cA hs H0 nL pc ls st h cells slots := by
  simp only [zstep] at hst
  split at hst
  · cases hst
    have K := kk _ hn
    simp only [Nat.sub_self, Nat.add_zero] at K
    exact fun arr H locs hL hR hl => lv_lneg X.1 X.2.1 hd (K arr H locs hL hR hl)
  · cases hst
theorem zs_lcmp (X : ZC p R s m meth c E D cA hs H0 y d) (hd : decode (zBy y) pc = .ok (.lcmp, 1)) (hn : (zP y)[k + 1]? = some (pc + 1)) (hst : zstep E d (.lcmp) k ls st h = some (k', ls', st', h')) (kk : ∀ pc', (zP y)[k']? = some pc' → ZG p l e R s m args below meth c Q E D cA hs H0 nL pc' ls' st' h' (cells + (zsz h' - zsz h)) (slots + (ztot h' - ztot h)))  : ZG p l e R s m args below meth c Q E D cA hs H0 nL pc ls st h cells slots := by
  simp only [zstep] at hst
  split at hst
  · cases hst
    have K := kk _ hn
    simp only [Nat.sub_self, Nat.add_zero] at K
    exact fun arr H locs hL hR hl => W.lcmp X.1 X.2.1 hd (K arr H locs hL hR hl)
  · cases hst
theorem zs_iushr (X : ZC p R s m meth c E D cA hs H0 y d) (hd : decode (zBy y) pc = .ok (.iushr, 1)) (hn : (zP y)[k + 1]? = some (pc + 1)) (hst : zstep E d (.iushr) k ls st h = some (k', ls', st', h')) (kk : ∀ pc', (zP y)[k']? = some pc' → ZG p l e R s m args below meth c Q E D cA hs H0 nL pc' ls' st' h' (cells + (zsz h' - zsz h)) (slots + (ztot h' - ztot h)))  : ZG p l e R s m args below meth c Q E D cA hs H0 nL pc ls st h cells slots := by
  simp only [zstep] at hst
  split at hst
  · cases hst
    have K := kk _ hn
    simp only [Nat.sub_self, Nat.add_zero] at K
    exact fun arr H locs hL hR hl => lv_iushr X.1 X.2.1 hd rfl (K arr H locs hL hR hl)
  · cases hst
theorem zs_lshl (X : ZC p R s m meth c E D cA hs H0 y d) (hd : decode (zBy y) pc = .ok (.lshl, 1)) (hn : (zP y)[k + 1]? = some (pc + 1)) (hst : zstep E d (.lshl) k ls st h = some (k', ls', st', h')) (kk : ∀ pc', (zP y)[k']? = some pc' → ZG p l e R s m args below meth c Q E D cA hs H0 nL pc' ls' st' h' (cells + (zsz h' - zsz h)) (slots + (ztot h' - ztot h)))  : ZG p l e R s m args below meth c Q E D cA hs H0 nL pc ls st h cells slots := by
  simp only [zstep] at hst
  split at hst
  · cases hst
    have K := kk _ hn
    simp only [Nat.sub_self, Nat.add_zero] at K
    exact fun arr H locs hL hR hl => lv_lshl X.1 X.2.1 hd rfl (K arr H locs hL hR hl)
  · cases hst
theorem zs_lshr (X : ZC p R s m meth c E D cA hs H0 y d) (hd : decode (zBy y) pc = .ok (.lshr, 1)) (hn : (zP y)[k + 1]? = some (pc + 1)) (hst : zstep E d (.lshr) k ls st h = some (k', ls', st', h')) (kk : ∀ pc', (zP y)[k']? = some pc' → ZG p l e R s m args below meth c Q E D cA hs H0 nL pc' ls' st' h' (cells + (zsz h' - zsz h)) (slots + (ztot h' - ztot h)))  : ZG p l e R s m args below meth c Q E D cA hs H0 nL pc ls st h cells slots := by
  simp only [zstep] at hst
  split at hst
  · cases hst
    have K := kk _ hn
    simp only [Nat.sub_self, Nat.add_zero] at K
    exact fun arr H locs hL hR hl => lv_lshr X.1 X.2.1 hd rfl (K arr H locs hL hR hl)
  · cases hst
theorem zs_i2l (X : ZC p R s m meth c E D cA hs H0 y d) (hd : decode (zBy y) pc = .ok (.i2l, 1)) (hn : (zP y)[k + 1]? = some (pc + 1)) (hst : zstep E d (.i2l) k ls st h = some (k', ls', st', h')) (kk : ∀ pc', (zP y)[k']? = some pc' → ZG p l e R s m args below meth c Q E D cA hs H0 nL pc' ls' st' h' (cells + (zsz h' - zsz h)) (slots + (ztot h' - ztot h)))  : ZG p l e R s m args below meth c Q E D cA hs H0 nL pc ls st h cells slots := by
  simp only [zstep] at hst
  split at hst
  · cases hst
    have K := kk _ hn
    simp only [Nat.sub_self, Nat.add_zero] at K
    exact fun arr H locs hL hR hl => lv_i2l X.1 X.2.1 hd rfl (K arr H locs hL hR hl)
  · cases hst
theorem zs_l2i (X : ZC p R s m meth c E D cA hs H0 y d) (hd : decode (zBy y) pc = .ok (.l2i, 1)) (hn : (zP y)[k + 1]? = some (pc + 1)) (hst : zstep E d (.l2i) k ls st h = some (k', ls', st', h')) (kk : ∀ pc', (zP y)[k']? = some pc' → ZG p l e R s m args below meth c Q E D cA hs H0 nL pc' ls' st' h' (cells + (zsz h' - zsz h)) (slots + (ztot h' - ztot h)))  : ZG p l e R s m args below meth c Q E D cA hs H0 nL pc ls st h cells slots := by
  simp only [zstep] at hst
  split at hst
  · cases hst
    have K := kk _ hn
    simp only [Nat.sub_self, Nat.add_zero] at K
    exact fun arr H locs hL hR hl => lv_l2i X.1 X.2.1 hd rfl (K arr H locs hL hR hl)
  · cases hst
theorem zs_i2b (X : ZC p R s m meth c E D cA hs H0 y d) (hd : decode (zBy y) pc = .ok (.i2b, 1)) (hn : (zP y)[k + 1]? = some (pc + 1)) (hst : zstep E d (.i2b) k ls st h = some (k', ls', st', h')) (kk : ∀ pc', (zP y)[k']? = some pc' → ZG p l e R s m args below meth c Q E D cA hs H0 nL pc' ls' st' h' (cells + (zsz h' - zsz h)) (slots + (ztot h' - ztot h)))  : ZG p l e R s m args below meth c Q E D cA hs H0 nL pc ls st h cells slots := by
  simp only [zstep] at hst
  split at hst
  · cases hst
    have K := kk _ hn
    simp only [Nat.sub_self, Nat.add_zero] at K
    exact fun arr H locs hL hR hl => lv_i2b X.1 X.2.1 hd rfl (K arr H locs hL hR hl)
  · cases hst
theorem zs_i2s (X : ZC p R s m meth c E D cA hs H0 y d) (hd : decode (zBy y) pc = .ok (.i2s, 1)) (hn : (zP y)[k + 1]? = some (pc + 1)) (hst : zstep E d (.i2s) k ls st h = some (k', ls', st', h')) (kk : ∀ pc', (zP y)[k']? = some pc' → ZG p l e R s m args below meth c Q E D cA hs H0 nL pc' ls' st' h' (cells + (zsz h' - zsz h)) (slots + (ztot h' - ztot h)))  : ZG p l e R s m args below meth c Q E D cA hs H0 nL pc ls st h cells slots := by
  simp only [zstep] at hst
  split at hst
  · cases hst
    have K := kk _ hn
    simp only [Nat.sub_self, Nat.add_zero] at K
    exact fun arr H locs hL hR hl => lv_i2s X.1 X.2.1 hd rfl (K arr H locs hL hR hl)
  · cases hst
theorem zs_idiv (X : ZC p R s m meth c E D cA hs H0 y d) (hd : decode (zBy y) pc = .ok (.idiv, 1)) (hn : (zP y)[k + 1]? = some (pc + 1)) (hst : zstep E d (.idiv) k ls st h = some (k', ls', st', h')) (kk : ∀ pc', (zP y)[k']? = some pc' → ZG p l e R s m args below meth c Q E D cA hs H0 nL pc' ls' st' h' (cells + (zsz h' - zsz h)) (slots + (ztot h' - ztot h)))  : ZG p l e R s m args below meth c Q E D cA hs H0 nL pc ls st h cells slots := by
  simp only [zstep] at hst
  split at hst
  · split at hst
    · cases hst
    · next hne =>
      cases hst
      have K := kk _ hn
      simp only [Nat.sub_self, Nat.add_zero] at K
      exact fun arr H locs hL hR hl => lv_idiv X.1 X.2.1 hd hne (K arr H locs hL hR hl)
  · cases hst
theorem zs_irem (X : ZC p R s m meth c E D cA hs H0 y d) (hd : decode (zBy y) pc = .ok (.irem, 1)) (hn : (zP y)[k + 1]? = some (pc + 1)) (hst : zstep E d (.irem) k ls st h = some (k', ls', st', h')) (kk : ∀ pc', (zP y)[k']? = some pc' → ZG p l e R s m args below meth c Q E D cA hs H0 nL pc' ls' st' h' (cells + (zsz h' - zsz h)) (slots + (ztot h' - ztot h)))  : ZG p l e R s m args below meth c Q E D cA hs H0 nL pc ls st h cells slots := by
  simp only [zstep] at hst
  split at hst
  · split at hst
    · cases hst
    · next hne =>
      cases hst
      have K := kk _ hn
      simp only [Nat.sub_self, Nat.add_zero] at K
      exact fun arr H locs hL hR hl => lv_irem X.1 X.2.1 hd hne (K arr H locs hL hR hl)
  · cases hst
theorem zs_ldiv (X : ZC p R s m meth c E D cA hs H0 y d) (hd : decode (zBy y) pc = .ok (.ldiv, 1)) (hn : (zP y)[k + 1]? = some (pc + 1)) (hst : zstep E d (.ldiv) k ls st h = some (k', ls', st', h')) (kk : ∀ pc', (zP y)[k']? = some pc' → ZG p l e R s m args below meth c Q E D cA hs H0 nL pc' ls' st' h' (cells + (zsz h' - zsz h)) (slots + (ztot h' - ztot h)))  : ZG p l e R s m args below meth c Q E D cA hs H0 nL pc ls st h cells slots := by
  simp only [zstep] at hst
  split at hst
  · split at hst
    · cases hst
    · next hne =>
      cases hst
      have K := kk _ hn
      simp only [Nat.sub_self, Nat.add_zero] at K
      exact fun arr H locs hL hR hl => lv_ldiv X.1 X.2.1 hd hne (K arr H locs hL hR hl)
  · cases hst
theorem zs_lrem (X : ZC p R s m meth c E D cA hs H0 y d) (hd : decode (zBy y) pc = .ok (.lrem, 1)) (hn : (zP y)[k + 1]? = some (pc + 1)) (hst : zstep E d (.lrem) k ls st h = some (k', ls', st', h')) (kk : ∀ pc', (zP y)[k']? = some pc' → ZG p l e R s m args below meth c Q E D cA hs H0 nL pc' ls' st' h' (cells + (zsz h' - zsz h)) (slots + (ztot h' - ztot h)))  : ZG p l e R s m args below meth c Q E D cA hs H0 nL pc ls st h cells slots := by
  simp only [zstep] at hst
  split at hst
  · split at hst
    · cases hst
    · next hne =>
      cases hst
      have K := kk _ hn
      simp only [Nat.sub_self, Nat.add_zero] at K
      exact fun arr H locs hL hR hl => lv_lrem X.1 X.2.1 hd hne (K arr H locs hL hR hl)
  · cases hst
theorem zs_dup (X : ZC p R s m meth c E D cA hs H0 y d) (hd : decode (zBy y) pc = .ok (.dup, 1)) (hn : (zP y)[k + 1]? = some (pc + 1)) (hst : zstep E d (.dup) k ls st h = some (k', ls', st', h')) (kk : ∀ pc', (zP y)[k']? = some pc' → ZG p l e R s m args below meth c Q E D cA hs H0 nL pc' ls' st' h' (cells + (zsz h' - zsz h)) (slots + (ztot h' - ztot h)))  : ZG p l e R s m args below meth c Q E D cA hs H0 nL pc ls st h cells slots := by
  simp only [zstep] at hst
  split at hst
  · split at hst
    · next hc =>
      cases hst
      have K := kk _ hn
      simp only [Nat.sub_self, Nat.add_zero] at K
      exact fun arr H locs hL hR hl => lv_dup X.1 X.2.1 hd hc (K arr H locs hL hR hl)
    · cases hst
  · cases hst
theorem zs_pop (X : ZC p R s m meth c E D cA hs H0 y d) (hd : decode (zBy y) pc = .ok (.pop, 1)) (hn : (zP y)[k + 1]? = some (pc + 1)) (hst : zstep E d (.pop) k ls st h = some (k', ls', st', h')) (kk : ∀ pc', (zP y)[k']? = some pc' → ZG p l e R s m args below meth c Q E D cA hs H0 nL pc' ls' st' h' (cells + (zsz h' - zsz h)) (slots + (ztot h' - ztot h)))  : ZG p l e R s m args below meth c Q E D cA hs H0 nL pc ls st h cells slots := by
  simp only [zstep] at hst
  split at hst
  · split at hst
    · next hc =>
      cases hst
      have K := kk _ hn
      simp only [Nat.sub_self, Nat.add_zero] at K
      exact fun arr H locs hL hR hl => lv_pop X.1 X.2.1 hd hc (K arr H locs hL hR hl)
    · cases hst
  · cases hst
theorem zs_dup2 (X : ZC p R s m meth c E D cA hs H0 y d) (hd : decode (zBy y) pc = .ok (.dup2, 1)) (hn : (zP y)[k + 1]? = some (pc + 1)) (hst : zstep E d (.dup2) k ls st h = some (k', ls', st', h')) (kk : ∀ pc', (zP y)[k']? = some pc' → ZG p l e R s m args below meth c Q E D cA hs H0 nL pc' ls' st' h' (cells + (zsz h' - zsz h)) (slots + (ztot h' - ztot h)))  : ZG p l e R s m args below meth c Q E D cA hs H0 nL pc ls st h cells slots := by
  simp only [zstep] at hst
  split at hst
  · cases hst
    have K := kk _ hn
    simp only [Nat.sub_self, Nat.add_zero] at K
    exact fun arr H locs hL hR hl => lv_dup2_2 X.1 X.2.1 hd rfl (K arr H locs hL hR hl)
  · split at hst
    · next hc =>
      cases hst
      have K := kk _ hn
      simp only [Nat.sub_self, Nat.add_zero] at K
      exact fun arr H locs hL hR hl => lv_dup2_11 X.1 X.2.1 hd rfl hc (K arr H locs hL hR hl)
    · cases hst
  · cases hst
theorem zs_iconst {n : Int} (X : ZC p R s m meth c E D cA hs H0 y d) (hd : decode (zBy y) pc = .ok (.iconst n, 1)) (hn : (zP y)[k + 1]? = some (pc + 1)) (hst : zstep E d (.iconst n) k ls st h = some (k', ls', st', h')) (kk : ∀ pc', (zP y)[k']? = some pc' → ZG p l e R s m args below meth c Q E D cA hs H0 nL pc' ls' st' h' (cells + (zsz h' - zsz h)) (slots + (ztot h' - ztot h)))  : ZG p l e R s m args below meth c Q E D cA hs H0 nL pc ls st h cells slots := by
  simp only [zstep] at hst
  · cases hst
    have K := kk _ hn
    simp only [Nat.sub_self, Nat.add_zero] at K
    exact fun arr H locs hL hR hl => lv_iconst X.1 X.2.1 hd rfl (K arr H locs hL hR hl)
theorem zs_bipush {n : Int} (X : ZC p R s m meth c E D cA hs H0 y d) (hd : decode (zBy y) pc = .ok (.bipush n, 2)) (hn : (zP y)[k + 1]? = some (pc + 2)) (hst : zstep E d (.iconst n) k ls st h = some (k', ls', st', h')) (kk : ∀ pc', (zP y)[k']? = some pc' → ZG p l e R s m args below meth c Q E D cA hs H0 nL pc' ls' st' h' (cells + (zsz h' - zsz h)) (slots + (ztot h' - ztot h))) (hv : (Int8.ofInt n).toInt32 = Int32.ofInt n) : ZG p l e R s m args below meth c Q E D cA hs H0 nL pc ls st h cells slots := by
  simp only [zstep] at hst
  · cases hst
    have K := kk _ hn
    simp only [Nat.sub_self, Nat.add_zero] at K
    exact fun arr H locs hL hR hl => lv_bipush X.1 X.2.1 hd hv (K arr H locs hL hR hl)
theorem zs_sipush {n : Int} (X : ZC p R s m meth c E D cA hs H0 y d) (hd : decode (zBy y) pc = .ok (.sipush n, 3)) (hn : (zP y)[k + 1]? = some (pc + 3)) (hst : zstep E d (.iconst n) k ls st h = some (k', ls', st', h')) (kk : ∀ pc', (zP y)[k']? = some pc' → ZG p l e R s m args below meth c Q E D cA hs H0 nL pc' ls' st' h' (cells + (zsz h' - zsz h)) (slots + (ztot h' - ztot h))) (hv : (Int16.ofInt n).toInt32 = Int32.ofInt n) : ZG p l e R s m args below meth c Q E D cA hs H0 nL pc ls st h cells slots := by
  simp only [zstep] at hst
  · cases hst
    have K := kk _ hn
    simp only [Nat.sub_self, Nat.add_zero] at K
    exact fun arr H locs hL hR hl => lv_sipush X.1 X.2.1 hd hv (K arr H locs hL hR hl)
theorem zs_lconst {n : Fin 2} (X : ZC p R s m meth c E D cA hs H0 y d) (hd : decode (zBy y) pc = .ok (.lconst n, 1)) (hn : (zP y)[k + 1]? = some (pc + 1)) (hst : zstep E d (.jsr_w ((n.val : Nat) : Int)) k ls st h = some (k', ls', st', h')) (kk : ∀ pc', (zP y)[k']? = some pc' → ZG p l e R s m args below meth c Q E D cA hs H0 nL pc' ls' st' h' (cells + (zsz h' - zsz h)) (slots + (ztot h' - ztot h)))  : ZG p l e R s m args below meth c Q E D cA hs H0 nL pc ls st h cells slots := by
  simp only [zstep] at hst
  cases hst
  have K := kk _ hn
  simp only [Nat.sub_self, Nat.add_zero] at K
  have e : Int64.ofNat n.val = Int64.ofInt ((n.val : Nat) : Int) := by
    rcases n with ⟨n, hn2⟩
    match n, hn2 with
    | 0, _ => rfl
    | 1, _ => rfl
  exact fun arr H locs hL hR hl => lv_lconst X.1 X.2.1 hd e (K arr H locs hL hR hl)
theorem zs_iload {n : Nat} (X : ZC p R s m meth c E D cA hs H0 y d) (hd : decode (zBy y) pc = .ok (.iload n, 2)) (hn : (zP y)[k + 1]? = some (pc + 2)) (hst : zstep E d (.iload n) k ls st h = some (k', ls', st', h')) (kk : ∀ pc', (zP y)[k']? = some pc' → ZG p l e R s m args below meth c Q E D cA hs H0 nL pc' ls' st' h' (cells + (zsz h' - zsz h)) (slots + (ztot h' - ztot h)))  : ZG p l e R s m args below meth c Q E D cA hs H0 nL pc ls st h cells slots := by
  simp only [zstep] at hst
  split at hst
  · next x hx =>
    cases hst
    have K := kk _ hn
    simp only [Nat.sub_self, Nat.add_zero] at K
    exact fun arr H locs hL hR hl => lv_iload X.1 X.2.1 hd (hL.2.2.2.1 _ _ hx (fun q => by cases q)) (K arr H locs hL hR hl)
  · cases hst
theorem zs_iload_n {n : Fin 4} (X : ZC p R s m meth c E D cA hs H0 y d) (hd : decode (zBy y) pc = .ok (.iload_n n, 1)) (hn : (zP y)[k + 1]? = some (pc + 1)) (hst : zstep E d (.iload n.val) k ls st h = some (k', ls', st', h')) (kk : ∀ pc', (zP y)[k']? = some pc' → ZG p l e R s m args below meth c Q E D cA hs H0 nL pc' ls' st' h' (cells + (zsz h' - zsz h)) (slots + (ztot h' - ztot h)))  : ZG p l e R s m args below meth c Q E D cA hs H0 nL pc ls st h cells slots := by
  simp only [zstep] at hst
  split at hst
  · next x hx =>
    cases hst
    have K := kk _ hn
    simp only [Nat.sub_self, Nat.add_zero] at K
    exact fun arr H locs hL hR hl => lv_iload_n X.1 X.2.1 hd rfl (hL.2.2.2.1 _ _ hx (fun q => by cases q)) (K arr H locs hL hR hl)
  · cases hst
theorem zs_lload {n : Nat} (X : ZC p R s m meth c E D cA hs H0 y d) (hd : decode (zBy y) pc = .ok (.lload n, 2)) (hn : (zP y)[k + 1]? = some (pc + 2)) (hst : zstep E d (.lload n) k ls st h = some (k', ls', st', h')) (kk : ∀ pc', (zP y)[k']? = some pc' → ZG p l e R s m args below meth c Q E D cA hs H0 nL pc' ls' st' h' (cells + (zsz h' - zsz h)) (slots + (ztot h' - ztot h)))  : ZG p l e R s m args below meth c Q E D cA hs H0 nL pc ls st h cells slots := by
  simp only [zstep] at hst
  split at hst
  · next x hx =>
    cases hst
    have K := kk _ hn
    simp only [Nat.sub_self, Nat.add_zero] at K
    exact fun arr H locs hL hR hl => lv_lload X.1 X.2.1 hd (hL.2.2.2.1 _ _ hx (fun q => by cases q)) (K arr H locs hL hR hl)
  · cases hst
theorem zs_lload_n {n : Fin 4} (X : ZC p R s m meth c E D cA hs H0 y d) (hd : decode (zBy y) pc = .ok (.lload_n n, 1)) (hn : (zP y)[k + 1]? = some (pc + 1)) (hst : zstep E d (.lload n.val) k ls st h = some (k', ls', st', h')) (kk : ∀ pc', (zP y)[k']? = some pc' → ZG p l e R s m args below meth c Q E D cA hs H0 nL pc' ls' st' h' (cells + (zsz h' - zsz h)) (slots + (ztot h' - ztot h)))  : ZG p l e R s m args below meth c Q E D cA hs H0 nL pc ls st h cells slots := by
  simp only [zstep] at hst
  split at hst
  · next x hx =>
    cases hst
    have K := kk _ hn
    simp only [Nat.sub_self, Nat.add_zero] at K
    exact fun arr H locs hL hR hl => lv_lload_n X.1 X.2.1 hd rfl (hL.2.2.2.1 _ _ hx (fun q => by cases q)) (K arr H locs hL hR hl)
  · cases hst
theorem zs_aload {n : Nat} (X : ZC p R s m meth c E D cA hs H0 y d) (hd : decode (zBy y) pc = .ok (.aload n, 2)) (hn : (zP y)[k + 1]? = some (pc + 2)) (hst : zstep E d (.aload n) k ls st h = some (k', ls', st', h')) (kk : ∀ pc', (zP y)[k']? = some pc' → ZG p l e R s m args below meth c Q E D cA hs H0 nL pc' ls' st' h' (cells + (zsz h' - zsz h)) (slots + (ztot h' - ztot h)))  : ZG p l e R s m args below meth c Q E D cA hs H0 nL pc ls st h cells slots := by
  simp only [zstep] at hst
  split at hst
  · next x hx =>
    cases hst
    have K := kk _ hn
    simp only [Nat.sub_self, Nat.add_zero] at K
    exact fun arr H locs hL hR hl => lv_aload X.1 X.2.1 hd (hL.2.2.2.1 _ _ hx (fun q => by cases q)) (K arr H locs hL hR hl)
  · cases hst
theorem zs_aload_n {n : Fin 4} (X : ZC p R s m meth c E D cA hs H0 y d) (hd : decode (zBy y) pc = .ok (.aload_n n, 1)) (hn : (zP y)[k + 1]? = some (pc + 1)) (hst : zstep E d (.aload n.val) k ls st h = some (k', ls', st', h')) (kk : ∀ pc', (zP y)[k']? = some pc' → ZG p l e R s m args below meth c Q E D cA hs H0 nL pc' ls' st' h' (cells + (zsz h' - zsz h)) (slots + (ztot h' - ztot h)))  : ZG p l e R s m args below meth c Q E D cA hs H0 nL pc ls st h cells slots := by
  simp only [zstep] at hst
  split at hst
  · next x hx =>
    cases hst
    have K := kk _ hn
    simp only [Nat.sub_self, Nat.add_zero] at K
    exact fun arr H locs hL hR hl => lv_aload_n X.1 X.2.1 hd rfl (hL.2.2.2.1 _ _ hx (fun q => by cases q)) (K arr H locs hL hR hl)
  · cases hst
theorem zs_istore {n : Nat} (X : ZC p R s m meth c E D cA hs H0 y d) (hd : decode (zBy y) pc = .ok (.istore n, 2)) (hn : (zP y)[k + 1]? = some (pc + 2)) (hst : zstep E d (.istore n) k ls st h = some (k', ls', st', h')) (kk : ∀ pc', (zP y)[k']? = some pc' → ZG p l e R s m args below meth c Q E D cA hs H0 nL pc' ls' st' h' (cells + (zsz h' - zsz h)) (slots + (ztot h' - ztot h)))  : ZG p l e R s m args below meth c Q E D cA hs H0 nL pc ls st h cells slots := by
  simp only [zstep] at hst
  split at hst
  · next x st0 =>
    split at hst
    · next hn2 =>
      cases hst
      have K := kk _ hn
      simp only [Nat.sub_self, Nat.add_zero] at K
      intro arr H locs hL hR hl
      rw [hL.2.1] at hn2
      obtain ⟨arr', e', hL'⟩ := hL.store1 (v := .int x) (n := n) hn2 rfl
      intro T hT Y
      obtain ⟨t, a, b⟩ := K arr' H locs hL' hR hl T hT Y
      refine ⟨t, ?_, b⟩
      have hx := X.1
      have hb := X.2.1
      jvm_step Y.here [Y.here.top, ↓top_set Y.here.top, hx, hb, hd, e']
      exact a
    · cases hst
  · cases hst
theorem zs_istore_n {n : Fin 4} (X : ZC p R s m meth c E D cA hs H0 y d) (hd : decode (zBy y) pc = .ok (.istore_n n, 1)) (hn : (zP y)[k + 1]? = some (pc + 1)) (hst : zstep E d (.istore n.val) k ls st h = some (k', ls', st', h')) (kk : ∀ pc', (zP y)[k']? = some pc' → ZG p l e R s m args below meth c Q E D cA hs H0 nL pc' ls' st' h' (cells + (zsz h' - zsz h)) (slots + (ztot h' - ztot h)))  : ZG p l e R s m args below meth c Q E D cA hs H0 nL pc ls st h cells slots := by
  simp only [zstep] at hst
  split at hst
  · next x st0 =>
    split at hst
    · next hn2 =>
      cases hst
      have K := kk _ hn
      simp only [Nat.sub_self, Nat.add_zero] at K
      intro arr H locs hL hR hl
      rw [hL.2.1] at hn2
      obtain ⟨arr', e', hL'⟩ := hL.store1 (v := .int x) (n := n.val) hn2 rfl
      intro T hT Y
      obtain ⟨t, a, b⟩ := K arr' H locs hL' hR hl T hT Y
      refine ⟨t, ?_, b⟩
      have hx := X.1
      have hb := X.2.1
      jvm_step Y.here [Y.here.top, ↓top_set Y.here.top, hx, hb, hd, e']
      exact a
    · cases hst
  · cases hst
theorem zs_lstore {n : Nat} (X : ZC p R s m meth c E D cA hs H0 y d) (hd : decode (zBy y) pc = .ok (.lstore n, 2)) (hn : (zP y)[k + 1]? = some (pc + 2)) (hst : zstep E d (.lstore n) k ls st h = some (k', ls', st', h')) (kk : ∀ pc', (zP y)[k']? = some pc' → ZG p l e R s m args below meth c Q E D cA hs H0 nL pc' ls' st' h' (cells + (zsz h' - zsz h)) (slots + (ztot h' - ztot h)))  : ZG p l e R s m args below meth c Q E D cA hs H0 nL pc ls st h cells slots := by
  simp only [zstep] at hst
  split at hst
  · next x st0 =>
    split at hst
    · next hn2 =>
      cases hst
      have K := kk _ hn
      simp only [Nat.sub_self, Nat.add_zero] at K
      intro arr H locs hL hR hl
      rw [hL.2.1] at hn2
      obtain ⟨arr', e', hL'⟩ := hL.store2 (x := x) (n := n) hn2
      intro T hT Y
      obtain ⟨t, a, b⟩ := K arr' H locs hL' hR hl T hT Y
      refine ⟨t, ?_, b⟩
      have hx := X.1
      have hb := X.2.1
      jvm_step Y.here [Y.here.top, ↓top_set Y.here.top, hx, hb, hd, e']
      exact a
    · cases hst
  · cases hst
theorem zs_lstore_n {n : Fin 4} (X : ZC p R s m meth c E D cA hs H0 y d) (hd : decode (zBy y) pc = .ok (.lstore_n n, 1)) (hn : (zP y)[k + 1]? = some (pc + 1)) (hst : zstep E d (.lstore n.val) k ls st h = some (k', ls', st', h')) (kk : ∀ pc', (zP y)[k']? = some pc' → ZG p l e R s m args below meth c Q E D cA hs H0 nL pc' ls' st' h' (cells + (zsz h' - zsz h)) (slots + (ztot h' - ztot h)))  : ZG p l e R s m args below meth c Q E D cA hs H0 nL pc ls st h cells slots := by
  simp only [zstep] at hst
  split at hst
  · next x st0 =>
    split at hst
    · next hn2 =>
      cases hst
      have K := kk _ hn
      simp only [Nat.sub_self, Nat.add_zero] at K
      intro arr H locs hL hR hl
      rw [hL.2.1] at hn2
      obtain ⟨arr', e', hL'⟩ := hL.store2 (x := x) (n := n.val) hn2
      intro T hT Y
      obtain ⟨t, a, b⟩ := K arr' H locs hL' hR hl T hT Y
      refine ⟨t, ?_, b⟩
      have hx := X.1
      have hb := X.2.1
      jvm_step Y.here [Y.here.top, ↓top_set Y.here.top, hx, hb, hd, e']
      exact a
    · cases hst
  · cases hst
theorem zs_astore {n : Nat} (X : ZC p R s m meth c E D cA hs H0 y d) (hd : decode (zBy y) pc = .ok (.astore n, 2)) (hn : (zP y)[k + 1]? = some (pc + 2)) (hst : zstep E d (.astore n) k ls st h = some (k', ls', st', h')) (kk : ∀ pc', (zP y)[k']? = some pc' → ZG p l e R s m args below meth c Q E D cA hs H0 nL pc' ls' st' h' (cells + (zsz h' - zsz h)) (slots + (ztot h' - ztot h)))  : ZG p l e R s m args below meth c Q E D cA hs H0 nL pc ls st h cells slots := by
  simp only [zstep] at hst
  split at hst
  · next x st0 =>
    split at hst
    · next hn2 =>
      cases hst
      have K := kk _ hn
      simp only [Nat.sub_self, Nat.add_zero] at K
      intro arr H locs hL hR hl
      rw [hL.2.1] at hn2
      obtain ⟨arr', e', hL'⟩ := hL.store1 (v := .ref x) (n := n) hn2 rfl
      intro T hT Y
      obtain ⟨t, a, b⟩ := K arr' H locs hL' hR hl T hT Y
      refine ⟨t, ?_, b⟩
      have hx := X.1
      have hb := X.2.1
      jvm_step Y.here [Y.here.top, ↓top_set Y.here.top, hx, hb, hd, e']
      exact ⟨rfl, a⟩
    · cases hst
  · cases hst
theorem zs_astore_n {n : Fin 4} (X : ZC p R s m meth c E D cA hs H0 y d) (hd : decode (zBy y) pc = .ok (.astore_n n, 1)) (hn : (zP y)[k + 1]? = some (pc + 1)) (hst : zstep E d (.astore n.val) k ls st h = some (k', ls', st', h')) (kk : ∀ pc', (zP y)[k']? = some pc' → ZG p l e R s m args below meth c Q E D cA hs H0 nL pc' ls' st' h' (cells + (zsz h' - zsz h)) (slots + (ztot h' - ztot h)))  : ZG p l e R s m args below meth c Q E D cA hs H0 nL pc ls st h cells slots := by
  simp only [zstep] at hst
  split at hst
  · next x st0 =>
    split at hst
    · next hn2 =>
      cases hst
      have K := kk _ hn
      simp only [Nat.sub_self, Nat.add_zero] at K
      intro arr H locs hL hR hl
      rw [hL.2.1] at hn2
      obtain ⟨arr', e', hL'⟩ := hL.store1 (v := .ref x) (n := n.val) hn2 rfl
      intro T hT Y
      obtain ⟨t, a, b⟩ := K arr' H locs hL' hR hl T hT Y
      refine ⟨t, ?_, b⟩
      have hx := X.1
      have hb := X.2.1
      jvm_step Y.here [Y.here.top, ↓top_set Y.here.top, hx, hb, hd, e']
      exact ⟨rfl, a⟩
    · cases hst
  · cases hst
theorem zs_iinc {n : Nat} {v : Int} (X : ZC p R s m meth c E D cA hs H0 y d) (hd : decode (zBy y) pc = .ok (.iinc n v, 3)) (hn : (zP y)[k + 1]? = some (pc + 3)) (hst : zstep E d (.iinc n v) k ls st h = some (k', ls', st', h')) (kk : ∀ pc', (zP y)[k']? = some pc' → ZG p l e R s m args below meth c Q E D cA hs H0 nL pc' ls' st' h' (cells + (zsz h' - zsz h)) (slots + (ztot h' - ztot h)))  : ZG p l e R s m args below meth c Q E D cA hs H0 nL pc ls st h cells slots := by
  simp only [zstep] at hst
  split at hst
  · next x hx0 =>
    cases hst
    have K := kk _ hn
    simp only [Nat.sub_self, Nat.add_zero] at K
    intro arr H locs hL hR hl
    have hn2 : n < nL := by rw [← hL.2.1]; exact (List.getElem?_eq_some_iff.mp hx0).1
    have hg := hL.2.2.2.1 _ _ hx0 (fun q => by cases q)
    obtain ⟨arr', e', hL'⟩ := hL.store1 (v := .int (x + Int32.ofInt v)) (n := n) hn2 rfl
    intro T hT Y
    obtain ⟨t, a, b⟩ := K arr' H locs hL' hR hl T hT Y
    refine ⟨t, ?_, b⟩
    have hx := X.1
    have hb := X.2.1
    jvm_step Y.here [Y.here.top, ↓top_set Y.here.top, hx, hb, hd, hg, e']
    exact a
  · cases hst
theorem zs_ifCond {cc : Jvm.ClassFile.Cond} {o : Int} {t : Nat} (X : ZC p R s m meth c E D cA hs H0 y d) (hd : decode (zBy y) pc = .ok (.ifCond cc o, 3)) (hn : (zP y)[k + 1]? = some (pc + 3)) (hst : zstep E d (.ifCond cc (t : Int)) k ls st h = some (k', ls', st', h')) (kk : ∀ pc', (zP y)[k']? = some pc' → ZG p l e R s m args below meth c Q E D cA hs H0 nL pc' ls' st' h' (cells + (zsz h' - zsz h)) (slots + (ztot h' - ztot h))) (ht : zidx (zP y) (pc + o) = some t) : ZG p l e R s m args below meth c Q E D cA hs H0 nL pc ls st h cells slots := by
  obtain ⟨q, hq, eq⟩ := zidx_spec ht
  simp only [zstep, Int.toNat_natCast] at hst
  split at hst
  · next a0 st0 =>
    cases hst
    simp only [Nat.sub_self, Nat.add_zero] at kk
    intro arr H locs hL hR hl
    cases cc
    · refine lv_if_eq (tgt := q) X.1 X.2.1 hd eq.symm (fun hc => kk q ?_ arr H locs hL hR hl) (fun hc => kk _ ?_ arr H locs hL hR hl)
      · rw [if_pos (c := zcmp .eq a0 0 = true) (by simpa [zcmp] using hc)]; exact hq
      · rw [if_neg (c := zcmp .eq a0 0 = true) (by simpa [zcmp] using hc)]; exact hn
    · refine lv_if_ne (tgt := q) X.1 X.2.1 hd eq.symm (fun hc => kk q ?_ arr H locs hL hR hl) (fun hc => kk _ ?_ arr H locs hL hR hl)
      · rw [if_pos (c := zcmp .ne a0 0 = true) (by simpa [zcmp] using hc)]; exact hq
      · rw [if_neg (c := zcmp .ne a0 0 = true) (by simpa [zcmp] using hc)]; exact hn
    · refine lv_if_lt (tgt := q) X.1 X.2.1 hd eq.symm (fun hc => kk q ?_ arr H locs hL hR hl) (fun hc => kk _ ?_ arr H locs hL hR hl)
      · rw [if_pos (c := zcmp .lt a0 0 = true) (by simpa [zcmp] using hc)]; exact hq
      · rw [if_neg (c := zcmp .lt a0 0 = true) (by simpa [zcmp] using hc)]; exact hn
    · refine lv_if_ge (tgt := q) X.1 X.2.1 hd eq.symm (fun hc => kk q ?_ arr H locs hL hR hl) (fun hc => kk _ ?_ arr H locs hL hR hl)
      · rw [if_pos (c := zcmp .ge a0 0 = true) (by simpa [zcmp] using hc)]; exact hq
      · rw [if_neg (c := zcmp .ge a0 0 = true) (by simpa [zcmp] using hc)]; exact hn
    · refine lv_if_gt (tgt := q) X.1 X.2.1 hd eq.symm (fun hc => kk q ?_ arr H locs hL hR hl) (fun hc => kk _ ?_ arr H locs hL hR hl)
      · rw [if_pos (c := zcmp .gt a0 0 = true) (by simpa [zcmp] using hc)]; exact hq
      · rw [if_neg (c := zcmp .gt a0 0 = true) (by simpa [zcmp] using hc)]; exact hn
    · refine lv_if_le (tgt := q) X.1 X.2.1 hd eq.symm (fun hc => kk q ?_ arr H locs hL hR hl) (fun hc => kk _ ?_ arr H locs hL hR hl)
      · rw [if_pos (c := zcmp .le a0 0 = true) (by simpa [zcmp] using hc)]; exact hq
      · rw [if_neg (c := zcmp .le a0 0 = true) (by simpa [zcmp] using hc)]; exact hn
  · cases hst
theorem zs_if_icmp {cc : Jvm.ClassFile.Cond} {o : Int} {t : Nat} (X : ZC p R s m meth c E D cA hs H0 y d) (hd : decode (zBy y) pc = .ok (.if_icmp cc o, 3)) (hn : (zP y)[k + 1]? = some (pc + 3)) (hst : zstep E d (.if_icmp cc (t : Int)) k ls st h = some (k', ls', st', h')) (kk : ∀ pc', (zP y)[k']? = some pc' → ZG p l e R s m args below meth c Q E D cA hs H0 nL pc' ls' st' h' (cells + (zsz h' - zsz h)) (slots + (ztot h' - ztot h))) (ht : zidx (zP y) (pc + o) = some t) : ZG p l e R s m args below meth c Q E D cA hs H0 nL pc ls st h cells slots := by
  obtain ⟨q, hq, eq⟩ := zidx_spec ht
  simp only [zstep, Int.toNat_natCast] at hst
  split at hst
  · next b0 a0 st0 =>
    cases hst
    simp only [Nat.sub_self, Nat.add_zero] at kk
    intro arr H locs hL hR hl
    cases cc
    · refine lv_icmp_eq (tgt := q) X.1 X.2.1 hd eq.symm (fun hc => kk q ?_ arr H locs hL hR hl) (fun hc => kk _ ?_ arr H locs hL hR hl)
      · rw [if_pos (c := zcmp .eq a0 b0 = true) (by simpa [zcmp] using hc)]; exact hq
      · rw [if_neg (c := zcmp .eq a0 b0 = true) (by simpa [zcmp] using hc)]; exact hn
    · refine lv_icmp_ne (tgt := q) X.1 X.2.1 hd eq.symm (fun hc => kk q ?_ arr H locs hL hR hl) (fun hc => kk _ ?_ arr H locs hL hR hl)
      · rw [if_pos (c := zcmp .ne a0 b0 = true) (by simpa [zcmp] using hc)]; exact hq
      · rw [if_neg (c := zcmp .ne a0 b0 = true) (by simpa [zcmp] using hc)]; exact hn
    · refine lv_icmp_lt (tgt := q) X.1 X.2.1 hd eq.symm (fun hc => kk q ?_ arr H locs hL hR hl) (fun hc => kk _ ?_ arr H locs hL hR hl)
      · rw [if_pos (c := zcmp .lt a0 b0 = true) (by simpa [zcmp] using hc)]; exact hq
      · rw [if_neg (c := zcmp .lt a0 b0 = true) (by simpa [zcmp] using hc)]; exact hn
    · refine lv_icmp_ge (tgt := q) X.1 X.2.1 hd eq.symm (fun hc => kk q ?_ arr H locs hL hR hl) (fun hc => kk _ ?_ arr H locs hL hR hl)
      · rw [if_pos (c := zcmp .ge a0 b0 = true) (by simpa [zcmp] using hc)]; exact hq
      · rw [if_neg (c := zcmp .ge a0 b0 = true) (by simpa [zcmp] using hc)]; exact hn
    · refine lv_icmp_gt (tgt := q) X.1 X.2.1 hd eq.symm (fun hc => kk q ?_ arr H locs hL hR hl) (fun hc => kk _ ?_ arr H locs hL hR hl)
      · rw [if_pos (c := zcmp .gt a0 b0 = true) (by simpa [zcmp] using hc)]; exact hq
      · rw [if_neg (c := zcmp .gt a0 b0 = true) (by simpa [zcmp] using hc)]; exact hn
    · refine lv_icmp_le (tgt := q) X.1 X.2.1 hd eq.symm (fun hc => kk q ?_ arr H locs hL hR hl) (fun hc => kk _ ?_ arr H locs hL hR hl)
      · rw [if_pos (c := zcmp .le a0 b0 = true) (by simpa [zcmp] using hc)]; exact hq
      · rw [if_neg (c := zcmp .le a0 b0 = true) (by simpa [zcmp] using hc)]; exact hn
  · cases hst
theorem zs_ifnonnull {o : Int} {t : Nat} (X : ZC p R s m meth c E D cA hs H0 y d) (hd : decode (zBy y) pc = .ok (.ifnonnull o, 3)) (hn : (zP y)[k + 1]? = some (pc + 3)) (hst : zstep E d (.ifnonnull (t : Int)) k ls st h = some (k', ls', st', h')) (kk : ∀ pc', (zP y)[k']? = some pc' → ZG p l e R s m args below meth c Q E D cA hs H0 nL pc' ls' st' h' (cells + (zsz h' - zsz h)) (slots + (ztot h' - ztot h))) (ht : zidx (zP y) (pc + o) = some t) : ZG p l e R s m args below meth c Q E D cA hs H0 nL pc ls st h cells slots := by
  obtain ⟨q, hq, eq⟩ := zidx_spec ht
  simp only [zstep, Int.toNat_natCast] at hst
  split at hst
  · cases hst
    simp only [Nat.sub_self, Nat.add_zero] at kk
    exact fun arr H locs hL hR hl => lv_ifnonnull (tgt := q) X.1 X.2.1 hd eq.symm (kk q hq arr H locs hL hR hl)
  · cases hst
    have K := kk _ hn
    simp only [Nat.sub_self, Nat.add_zero] at K
    exact fun arr H locs hL hR hl => lv_ifnonnullN X.1 X.2.1 hd (K arr H locs hL hR hl)
  · cases hst
theorem zs_goto {o : Int} {t : Nat} (X : ZC p R s m meth c E D cA hs H0 y d) (hd : decode (zBy y) pc = .ok (.goto o, 3)) (hst : zstep E d (.goto (t : Int)) k ls st h = some (k', ls', st', h')) (kk : ∀ pc', (zP y)[k']? = some pc' → ZG p l e R s m args below meth c Q E D cA hs H0 nL pc' ls' st' h' (cells + (zsz h' - zsz h)) (slots + (ztot h' - ztot h))) (ht : zidx (zP y) (pc + o) = some t) : ZG p l e R s m args below meth c Q E D cA hs H0 nL pc ls st h cells slots := by
  obtain ⟨q, hq, eq⟩ := zidx_spec ht
  simp only [zstep, Int.toNat_natCast] at hst
  cases hst
  simp only [Nat.sub_self, Nat.add_zero] at kk
  exact fun arr H locs hL hR hl => lv_goto (tgt := q) X.1 X.2.1 hd eq.symm (kk q hq arr H locs hL hR hl)
theorem zs_tableswitch {df lo hi : Int} {offs : Array Int} {t : Nat} {ts : List Int} (X : ZC p R s m meth c E D cA hs H0 y d) (hd : decode (zBy y) pc = .ok (.tableswitch df lo hi offs, len)) (hst : zstep E d (.tableswitch (t : Int) lo hi ts.toArray) k ls st h = some (k', ls', st', h')) (kk : ∀ pc', (zP y)[k']? = some pc' → ZG p l e R s m args below meth c Q E D cA hs H0 nL pc' ls' st' h' (cells + (zsz h' - zsz h)) (slots + (ztot h' - ztot h))) (ht : zidx (zP y) (pc + df) = some t) (hts : zidxs (zP y) pc offs.toList = some ts) : ZG p l e R s m args below meth c Q E D cA hs H0 nL pc ls st h cells slots := by
  obtain ⟨q, hq, eq⟩ := zidx_spec ht
  simp only [zstep] at hst
  split at hst
  · next x st0 =>
    simp only [Option.map_eq_some_iff] at hst
    obtain ⟨t0, e0, e1⟩ := hst
    cases e1
    simp only [Nat.sub_self, Nat.add_zero] at kk
    unfold zsw at e0
    intro arr H locs hL hR hl
    split at e0
    · next ho =>
      simp only [Int.toNat_natCast, Option.some.injEq] at e0
      subst e0
      exact lv_tableOut (tgt := q) X.1 X.2.1 hd ho eq.symm (kk q hq arr H locs hL hR hl)
    · next ho =>
      simp only [Option.map_eq_some_iff] at e0
      obtain ⟨o, ho1, ho2⟩ := e0
      rw [List.getElem?_toArray] at ho1
      have hlt : (x.toInt - lo).toNat < offs.toList.length := by
        rw [← zidxs_len hts]
        exact (List.getElem?_eq_some_iff.mp ho1).1
      obtain ⟨t', q', a1, a2, a3⟩ := zidxs_spec hts _ _ (List.getElem?_eq_getElem hlt)
      rw [a1] at ho1
      cases ho1
      simp only [Int.toNat_natCast] at ho2
      subst ho2
      refine lv_tableIn (tgt := q') X.1 X.2.1 hd (fun z => ho (Or.inl z)) (fun z => ho (Or.inr z)) (off := offs.toList[(x.toInt - lo).toNat]) ?_ a3.symm (kk q' a2 arr H locs hL hR hl)
      rw [← Array.getElem?_toList]
      exact List.getElem?_eq_getElem hlt
  · cases hst
end ZST
