/-! ONE STEP, on: the JDK's own -/
theorem zJf_spec {own i : Nat} {q : Nat × Nat × Nat × Nat} (h : zJf own i = some q) : q.1 = own ∧ q.2.1 = i ∧ lw_tbl[q.2.2.2]? = some (.methodLink (zcn q.1) q.2.1 (zJn q.2.2.1)) := by
  have h1 := List.find?_some h
  have h2 := List.all_eq_true.mp zJL_ok q (List.mem_of_find?_eq_some h)
  simp only [Bool.and_eq_true, beq_iff_eq, decide_eq_true_eq] at h1 h2
  exact ⟨h1.1, h1.2, h2⟩
set_option maxRecDepth 100000 in
theorem zJw : lw_tbl[800]? = some (.static Lib.Math.max.name) ∧ lw_tbl[196]? = some (.static Lib.Math.min.name) ∧ lw_tbl[133]? = some (.initialized "java/lang/Math") ∧ lw_tbl[801]? = some (.code Lib.Math.max.name Lib.Math.max.code 2 (some .int)) ∧ lw_tbl[197]? = some (.code Lib.Math.min.name Lib.Math.min.code 2 (some .int)) ∧ lw_tbl[170]? = some (.native arraycopyName) ∧ lw_tbl[169]? = some (.static arraycopyName) ∧ lw_tbl[132]? = some (.initialized "java/lang/System") ∧ lw_tbl[154]? = some (.instanceMethod objectInit) ∧ lw_tbl[155]? = some (.code objectInit ⟨#[0xb1]⟩ 1 none) := by decide +kernel
section ZST4
variable {p : Program} {l : Launch} {e : Env} {R : Room} {s : State} {m : MethodId} {args : Array Value} {below : List Frame} {meth : Method} {c : Code} {Q : State → Prop}
variable {E : Nat → Nat} {D : va_G} {cA : Nat → ClassId} {hs : ZH} {H0 : Heap}
variable {y d k pc len nL : Nat} {ls st : List Value} {h : ZH} {cells slots : Nat} {k' : Nat} {ls' st' : List Value} {h' : ZH}
theorem zs_max {i : Nat} {q : Nat × Nat × Nat × Nat} (X : ZC p R s m meth c E D cA hs H0 y d) (hd : decode (zBy y) pc = .ok (.invokestatic i, 3)) (hn : (zP y)[k + 1]? = some (pc + 3)) (hst : zstep E d (.invokedynamic 0) k ls st h = some (k', ls', st', h')) (kk : ∀ pc', (zP y)[k']? = some pc' → ZG p l e R s m args below meth c Q E D cA hs H0 nL pc' ls' st' h' (cells + (zsz h' - zsz h)) (slots + (ztot h' - ztot h))) (hnL : (zM y).2.1 = nL) (hq : zJf (zY y).2.2.2.2 i = some q) (hj : q.2.2.1 = 0) (hrc : cells + (zsz h' - zsz h) ≤ R.cells) (hrs : slots + (ztot h' - ztot h) ≤ R.slots) : ZG p l e R s m args below meth c Q E D cA hs H0 nL pc ls st h cells slots := by
  obtain ⟨e1, e2, hw⟩ := zJf_spec hq
  rw [e1, e2, hj] at hw
  have hK := X.2.2.2.2.2.1
  have hfr := X.2.2.2.2.2.2
  simp only [zstep] at hst
  split at hst
  · split at hst
    · next hc =>
      cases hst
      have K := kk _ hn
      simp only [Nat.sub_self, Nat.add_zero] at K hrc hrs
      intro arr H locs hL hR hl
      have h8 := hc.2
      unfold zcat at h8
      exact va_mmax X.1 X.2.1 (by rw [X.2.2.1, hL.1, hnL]) X.2.2.2.1 (hK.word hw rfl args) (hK.word zJw.1 rfl args) (hK.word zJw.2.2.1 rfl args) (hK.word zJw.2.2.2.1 rfl args) (by omega) (by omega) hrc hrs hd (K arr H locs hL hR hl)
    · cases hst
  · cases hst
theorem zs_min {i : Nat} {q : Nat × Nat × Nat × Nat} (X : ZC p R s m meth c E D cA hs H0 y d) (hd : decode (zBy y) pc = .ok (.invokestatic i, 3)) (hn : (zP y)[k + 1]? = some (pc + 3)) (hst : zstep E d (.invokedynamic 1) k ls st h = some (k', ls', st', h')) (kk : ∀ pc', (zP y)[k']? = some pc' → ZG p l e R s m args below meth c Q E D cA hs H0 nL pc' ls' st' h' (cells + (zsz h' - zsz h)) (slots + (ztot h' - ztot h))) (hnL : (zM y).2.1 = nL) (hq : zJf (zY y).2.2.2.2 i = some q) (hj : q.2.2.1 = 1) (hrc : cells + (zsz h' - zsz h) ≤ R.cells) (hrs : slots + (ztot h' - ztot h) ≤ R.slots) : ZG p l e R s m args below meth c Q E D cA hs H0 nL pc ls st h cells slots := by
  obtain ⟨e1, e2, hw⟩ := zJf_spec hq
  rw [e1, e2, hj] at hw
  have hK := X.2.2.2.2.2.1
  have hfr := X.2.2.2.2.2.2
  simp only [zstep] at hst
  split at hst
  · split at hst
    · next hc =>
      cases hst
      have K := kk _ hn
      simp only [Nat.sub_self, Nat.add_zero] at K hrc hrs
      intro arr H locs hL hR hl
      have h8 := hc.2
      unfold zcat at h8
      exact va_mmin X.1 X.2.1 (by rw [X.2.2.1, hL.1, hnL]) X.2.2.2.1 (hK.word hw rfl args) (hK.word zJw.2.1 rfl args) (hK.word zJw.2.2.1 rfl args) (hK.word zJw.2.2.2.2.1 rfl args) (by omega) (by omega) hrc hrs hd (K arr H locs hL hR hl)
    · cases hst
  · cases hst
theorem zs_object {i : Nat} {q : Nat × Nat × Nat × Nat} (X : ZC p R s m meth c E D cA hs H0 y d) (hd : decode (zBy y) pc = .ok (.invokespecial i, 3)) (hn : (zP y)[k + 1]? = some (pc + 3)) (hst : zstep E d (.invokedynamic 3) k ls st h = some (k', ls', st', h')) (kk : ∀ pc', (zP y)[k']? = some pc' → ZG p l e R s m args below meth c Q E D cA hs H0 nL pc' ls' st' h' (cells + (zsz h' - zsz h)) (slots + (ztot h' - ztot h))) (hnL : (zM y).2.1 = nL) (hq : zJf (zY y).2.2.2.2 i = some q) (hj : q.2.2.1 = 3) : ZG p l e R s m args below meth c Q E D cA hs H0 nL pc ls st h cells slots := by
  obtain ⟨e1, e2, hw⟩ := zJf_spec hq
  rw [e1, e2, hj] at hw
  have hK := X.2.2.2.2.2.1
  have hfr := X.2.2.2.2.2.2
  simp only [zstep] at hst
  split at hst
  · split at hst
    · next hc =>
      cases hst
      have K := kk _ hn
      simp only [Nat.sub_self, Nat.add_zero] at K
      intro arr H locs hL hR hl
      have h8 := hc.2
      unfold zcat at h8
      exact W.objInit X.1 X.2.1 X.2.2.2.1 (hK.word hw rfl args) (hK.word zJw.2.2.2.2.2.2.2.2.1 rfl args) (hK.word zJw.2.2.2.2.2.2.2.2.2 rfl args) rfl (by rw [X.2.2.1, hnL]; exact hL.1) rfl hd (by omega) (by show 2 * 0 + _ + 12 ≤ _; omega) (K arr H locs hL hR hl)
    · cases hst
  · cases hst
theorem zstretch {cell : Cell} {f : Nat → Int32} {sp n : Nat} (hc : ∀ j, j < sp + n → cell.slots[j]? = some (.int (f j))) : cell.stretch sp n = (List.range n).map (fun i => Value.int (f (sp + i))) := by
  unfold Cell.stretch
  apply List.map_congr_left
  intro i hi
  have hi' := List.mem_range.mp hi
  rw [Array.getD_eq_getD_getElem?, hc _ (by omega)]
  rfl
theorem zcopied {cs : Cell} {f g : Nat → Int32} {c1 : ClassId} {n1 : Nat} {sp dp n : Int32} (hc : ∀ j, j < sp.toNatClampNeg + n.toNatClampNeg → cs.slots[j]? = some (.int (f j))) :
    copied cs (arrV c1 n1 (fun j => .int (g j))) sp dp n = arrV c1 n1 (fun j => .int (zcpy f g sp.toNatClampNeg dp.toNatClampNeg n.toNatClampNeg j)) := by
  show (arrV c1 n1 (fun j => .int (g j))).storeRun dp.toNatClampNeg (cs.stretch sp.toNatClampNeg n.toNatClampNeg) = _
  rw [zstretch hc, Cell.storeRun, va_pairs]
  congr 1
  funext k
  simp only [zcpy, List.length_map, List.length_range, Nat.add_zero]
  by_cases h : dp.toNatClampNeg ≤ k ∧ k < dp.toNatClampNeg + n.toNatClampNeg
  · rw [if_pos h, if_pos h, List.getD_eq_getElem?_getD, List.getElem?_map, List.getElem?_range (by omega)]
    rfl
  · rw [if_neg h, if_neg h]
theorem zs_arraycopy {i : Nat} {q : Nat × Nat × Nat × Nat} (X : ZC p R s m meth c E D cA hs H0 y d) (hd : decode (zBy y) pc = .ok (.invokestatic i, 3)) (hn : (zP y)[k + 1]? = some (pc + 3)) (hst : zstep E d (.invokedynamic 2) k ls st h = some (k', ls', st', h')) (kk : ∀ pc', (zP y)[k']? = some pc' → ZG p l e R s m args below meth c Q E D cA hs H0 nL pc' ls' st' h' (cells + (zsz h' - zsz h)) (slots + (ztot h' - ztot h))) (hnL : (zM y).2.1 = nL) (hq : zJf (zY y).2.2.2.2 i = some q) (hj : q.2.2.1 = 2) : ZG p l e R s m args below meth c Q E D cA hs H0 nL pc ls st h cells slots := by
  obtain ⟨e1, e2, hw⟩ := zJf_spec hq
  rw [e1, e2, hj] at hw
  have hK := X.2.2.2.2.2.1
  have hfr := X.2.2.2.2.2.2
  simp only [zstep] at hst
  split at hst
  · next n dp a sp b st0 =>
    split at hst
    · next hc =>
      obtain ⟨hd5, h8, ta, tb, n0, sp0, dp0, hs1, hs2⟩ := hc
      cases hst
      have K := kk _ hn
      intro arr H locs hL hR hl
      unfold zcat at h8
      have hm := hR.mine hK (a := a) (by omega)
      have hca := hR.arr hK ta (by decide) (by decide)
      have hsrc : ∃ cs : Cell, H[b]? = some cs ∧ (∀ k, cs.vm ≠ .statics k) ∧ cs.vm ≠ .unknown ∧ cs.slots.size = zlen h b ∧ (∃ (k0 : Class) (cm : ClassId), s.vm.classes[cs.cls]? = some k0 ∧ k0.kind = .array cm .int) ∧ ∀ j, j < zlen h b → cs.slots[j]? = some (.int (zI h b j)) := by
        rcases tb with tb | tb
        · have hcb := hR.arr hK tb (by decide) (by decide)
          obtain ⟨-, k0, hk0, cm0, hkk0⟩ := (hK.2.2.1 13 (by decide) (by decide)).1 (zlen h b) (fun j => zval (zatn 13) h b j)
          exact ⟨_, hcb, (fun k q => by cases q), (fun q => by cases q), arrV_size _ _ _, ⟨k0, cm0, hk0, hkk0⟩, (fun j hj => arrV_read _ _ hj)⟩
        · obtain ⟨scr, g1, ⟨g2, k0, hk0, cm0, hkk0⟩, g3, g4, g5⟩ := hR.stat hK tb
          exact ⟨scr, g1, g2, g3, g4, ⟨k0, cm0, hk0, hkk0⟩, g5⟩
      obtain ⟨cs, c1, c2, c3, c4, ⟨k0, cm0, hk0, hkk0⟩, c5⟩ := hsrc
      obtain ⟨-, k1, hk1, cm1, hkk1⟩ := (hK.2.2.1 13 (by decide) (by decide)).1 (zlen h a) (fun j => zval (zatn 13) h a j)
      have nn : ∀ z : Int32, 0 ≤ z → z.toInt = (z.toNatClampNeg : Int) := by
        intro z hz
        have hz0 : (0 : Int) ≤ z.toInt := by simpa using Int32.le_iff_toInt_le.mp hz
        show z.toInt = ((z.toInt.toNat : Nat) : Int)
        omega
      have hnw : nativeFrameWords "java/lang/System" "arraycopy" 5 ≤ 100 := by decide
      intro T hT Y
      obtain ⟨vm', Y', step⟩ := Y.arraycopy X.1 X.2.2.2.1 (hK.word hw rfl args) (hK.word zJw.2.2.2.2.2.1 rfl args) (hK.word zJw.2.2.2.2.2.2.1 rfl args) (hK.word zJw.2.2.2.2.2.2.2.1 rfl args) (src := b) (dst := a) (cs := cs) (cd := arrV (cA 13) (zlen h a) (fun j => zval (zatn 13) h a j)) (srcPos := sp) (destPos := dp) (n := n) (by rw [hT]; exact c1) (by rw [hT]; exact hca)
        c2 (fun _ h => by cases h) c3 (fun h => by cases h) hk0 hk1 hkk0 hkk1 (by rfl) (Int32.not_lt.mpr sp0) (Int32.not_lt.mpr dp0) (Int32.not_lt.mpr n0)
        (by rw [nn sp sp0, nn n n0, c4]; omega)
        (by rw [nn dp dp0, nn n n0, arrV_size]; omega)
        (fun vm₁ _ i hi => by
          have e : cs.slots.getD (sp.toNatClampNeg + i) .null = .int (zI h b (sp.toNatClampNeg + i)) := by
            rw [Array.getD_eq_getD_getElem?, c5 _ (by omega)]
            rfl
          rw [e]
          exact ⟨rfl, trivial⟩)
        (g := F0 m pc arr (.int n :: .int dp :: .ref a :: .int sp :: .ref b :: st')) rfl (by rw [X.2.2.1, hnL]; exact hL.1) (rest := st') rfl (by rw [X.2.1]; exact hd) (by omega) (by show 2 * 0 + _ + (nativeFrameWords "java/lang/System" "arraycopy" 5 + 11) ≤ _; omega)
      have e1 : copied cs (arrV (cA 13) (zlen h a) (fun j => zval (zatn 13) h a j)) sp dp n = arrV (cA 13) (zlen h a) (fun j => .int (zcpy (zI h b) (zI h a) sp.toNatClampNeg dp.toNatClampNeg n.toNatClampNeg j)) := zcopied (fun j hj => c5 j (by omega))
      rw [e1] at Y' step
      have hal : a < H.size := (Array.getElem?_eq_some_iff.mp hca).1
      have hheap : ((T.setVm vm').setCell a (arrV (cA 13) (zlen h a) (fun j => .int (zcpy (zI h b) (zI h a) sp.toNatClampNeg dp.toNatClampNeg n.toNatClampNeg j)))).heap = H.setIfInBounds a (arrV (cA 13) (zlen h a) (fun j => .int (zcpy (zI h b) (zI h a) sp.toNatClampNeg dp.toNatClampNeg n.toNatClampNeg j))) := by rw [← hT]; rfl
      have z1 : zsz (zuA h a (zcpy (zI h b) (zI h a) sp.toNatClampNeg dp.toNatClampNeg n.toNatClampNeg)) - zsz h = 0 := Nat.sub_self _
      have z2 : ztot (zuA h a (zcpy (zI h b) (zI h a) sp.toNatClampNeg dp.toNatClampNeg n.toNatClampNeg)) - ztot h = 0 := Nat.sub_self _
      rw [z1, z2] at K
      obtain ⟨t, a1, b1⟩ := K arr (H.setIfInBounds a (arrV (cA 13) (zlen h a) (fun j => .int (zcpy (zI h b) (zI h a) sp.toNatClampNeg dp.toNatClampNeg n.toNatClampNeg j)))) _ hL (by
          refine hR.put (a := a) hm.1 rfl rfl rfl (fun b hb => ⟨?_, rfl, rfl⟩) (by simp) (fun q hq => by simp [Array.getElem?_setIfInBounds, Ne.symm hq]) (Or.inr ⟨?_, ?_, ?_⟩)
          · funext j
            show zrow (zI h) a _ b j = _
            simp [zrow, hb]
          · show 12 ≤ ztag h a
            omega
          · show ztag h a ≤ 17
            omega
          · show (H.setIfInBounds a _)[a]? = some (arrV (cA (ztag h a)) (zlen h a) _)
            rw [ta]
            simp only [Array.getElem?_setIfInBounds, hal, if_true]
            congr 2
            funext j
            show _ = zval (zatn (ztag h a)) _ a j
            rw [ta]
            show _ = Value.int (if a = a then zcpy (zI h b) (zI h a) sp.toNatClampNeg dp.toNatClampNeg n.toNatClampNeg j else zI h a j)
            simp) (fun q hq => by
          rcases List.mem_append.mp hq with z | z
          · exact hl q z
          · obtain ⟨w, -, hw2⟩ := List.mem_map.mp z
            rw [← hw2]
            exact hm.1) _ hheap Y'
      exact ⟨t, step t a1, b1⟩
    · cases hst
  · cases hst
end ZST4
