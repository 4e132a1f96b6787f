/-! EVERY STEP -/
section ZST5
variable {p : Program} {l : Launch} {e : Env} {R : Room} {s : State} {m : MethodId} {args : Array Value} {below : List Frame} {meth : Method} {c : Code} {Q : State → Prop}
variable {E : Nat → Nat} {D : va_G} {cA : Nat → ClassId} {hs : ZH} {H0 : Heap}
variable {y d k pc len nL : Nat} {ls st : List Value} {h : ZH} {cells slots : Nat} {k' : Nat} {ls' st' : List Value} {h' : ZH}
theorem zs_length {i : Nat} {q : Nat × Nat × Nat × Nat} (X : ZC p R s m meth c E D cA hs H0 y d) (hd : decode (zBy y) pc = .ok (.invokevirtual i, 3)) (hn : (zP y)[k + 1]? = some (pc + 3)) (hst : zstep E d (.invokedynamic 4) k ls st h = some (k', ls', st', h')) (kk : ∀ pc', (zP y)[k']? = some pc' → ZG p l e R s m args below meth c Q E D cA hs H0 nL pc' ls' st' h' (cells + (zsz h' - zsz h)) (slots + (ztot h' - ztot h))) (hnL : (zM y).2.1 = nL) (hq : zJf (zY y).2.2.2.2 i = some q) (hj : q.2.2.1 = 4) (hrc : cells + (zsz h' - zsz h) ≤ R.cells) (hrs : slots + (ztot h' - ztot h) ≤ R.slots) : ZG p l e R s m args below meth c Q E D cA hs H0 nL pc ls st h cells slots := by
  obtain ⟨e1, e2, hw⟩ := zJf_spec hq
  rw [e1, e2, hj] at hw
  have hK := X.2.2.2.2.2.1
  have hfr := X.2.2.2.2.2.2
  simp only [zstep] at hst
  split at hst
  · next a st0 =>
    split at hst
    · next hc =>
      obtain ⟨hd5, h8, ht⟩ := hc
      cases hst
      have K := kk _ hn
      simp only [Nat.sub_self, Nat.add_zero] at K hrc hrs
      intro arr H locs hL hR hl
      unfold zcat at h8
      have hlo := hR.low hK (Or.inl ht)
      obtain ⟨l1, l2, l3, l4⟩ := hR.2.2.2.2 a hlo
      obtain ⟨s1, s2, s3⟩ := hK.2.2.2.2.2.2.2.1 a (by rw [← l2]; exact ht)
      subst s1
      have hH : ∀ q, q < E 0 → H[q]? = H0[q]? := fun q hq => (hR.2.2.2.2 q hq).1
      rw [l3, s2] at K
      exact jcall (v := some (.int 135)) (va_runV (bytes := prog_15_method_54_code) (maxL := 1) (ret := some .int) (n := 0) (index := i) (As := []) (rest := _) (own := zcn (zY y).2.2.2.2) (C := "java/lang/String") (Ts := []) ⟨X.1, X.2.1, by rw [X.2.2.1, hnL], X.2.2.2.1, fun w hw => by cases hw⟩ (jm_len (d := 0)) ⟨⟨rfl, rfl, by show 4 + 1 ≤ _; omega, by show 8 + (1 + 11) + 64 * 4 ≤ _; omega, jws hK jw_len, List.mem_singleton.mpr rfl, hK.word jw_len rfl _, hK.word zSw.1 rfl _, by decide, jlen (by decide +kernel), hK.word hw rfl _⟩, hK.word jl_len_i rfl _, hK.word jl_len_s rfl _⟩ (jprev hK hH) rfl rfl hL.1 rfl (by show 2 * 0 + _ ≤ 8; omega) hd ⟨hrc, hrs⟩) (K arr H locs hL hR hl)
    · cases hst
  · cases hst
theorem zs_charAt {i : Nat} {q : Nat × Nat × Nat × Nat} (X : ZC p R s m meth c E D cA hs H0 y d) (hd : decode (zBy y) pc = .ok (.invokevirtual i, 3)) (hn : (zP y)[k + 1]? = some (pc + 3)) (hst : zstep E d (.invokedynamic 5) k ls st h = some (k', ls', st', h')) (kk : ∀ pc', (zP y)[k']? = some pc' → ZG p l e R s m args below meth c Q E D cA hs H0 nL pc' ls' st' h' (cells + (zsz h' - zsz h)) (slots + (ztot h' - ztot h))) (hnL : (zM y).2.1 = nL) (hq : zJf (zY y).2.2.2.2 i = some q) (hj : q.2.2.1 = 5) (hrc : cells + (zsz h' - zsz h) ≤ R.cells) (hrs : slots + (ztot h' - ztot h) ≤ R.slots) : ZG p l e R s m args below meth c Q E D cA hs H0 nL pc ls st h cells slots := by
  obtain ⟨e1, e2, hw⟩ := zJf_spec hq
  rw [e1, e2, hj] at hw
  have hK := X.2.2.2.2.2.1
  have hfr := X.2.2.2.2.2.2
  simp only [zstep] at hst
  split at hst
  · next j a st0 =>
    split at hst
    · next hc =>
      obtain ⟨hd5, h8, ht, hb⟩ := hc
      cases hst
      have K := kk _ hn
      simp only [Nat.sub_self, Nat.add_zero] at K hrc hrs
      intro arr H locs hL hR hl
      unfold zcat at h8
      have hlo := hR.low hK (Or.inl ht)
      obtain ⟨l1, l2, l3, l4⟩ := hR.2.2.2.2 a hlo
      obtain ⟨s1, s2, s3⟩ := hK.2.2.2.2.2.2.2.1 a (by rw [← l2]; exact ht)
      subst s1
      have hH : ∀ q, q < E 0 → H[q]? = H0[q]? := fun q hq => (hR.2.2.2.2 q hq).1
      rw [l3, s2] at hb
      rw [l4, s3] at K
      obtain ⟨n1, n2, n3⟩ := zin_spec hb
      have hlt : j < 135 := by
        have e : j.toInt = (j.toNatClampNeg : Int) := by
          have hz0 : (0 : Int) ≤ j.toInt := by simpa using Int32.le_iff_toInt_le.mp (Int32.not_lt.mp n2)
          show j.toInt = ((j.toInt.toNat : Nat) : Int)
          omega
        rw [Int32.lt_iff_toInt_lt, e]
        have : ((135 : Int32).toInt) = 135 := by decide
        omega
      exact jcall (v := some (.int (zNames.getD j.toNatClampNeg 0))) (va_runV (bytes := prog_15_method_56_code) (maxL := 2) (ret := some .char) (n := 1) (index := i) (As := [.int j]) (rest := _) (own := zcn (zY y).2.2.2.2) (C := "java/lang/String") (Ts := []) ⟨X.1, X.2.1, by rw [X.2.2.1, hnL], X.2.2.2.1, fun w hw => by cases hw⟩ (jm_chr (d := 0) n2 hlt n3) ⟨⟨rfl, rfl, by show 4 + 1 ≤ _; omega, by show 8 + (2 + 11) + 64 * 4 ≤ _; omega, jws hK jw_chr, List.mem_singleton.mpr rfl, hK.word jw_chr rfl _, hK.word zSw.1 rfl _, by decide, jlen (by decide +kernel), hK.word hw rfl _⟩, hK.word jl_chr_i rfl _, hK.word jl_chr_s rfl _⟩ (jprev hK hH) rfl rfl hL.1 rfl (by show 2 * 0 + _ ≤ 8; omega) hd ⟨hrc, hrs⟩) (K arr H locs hL hR hl)
    · cases hst
  · cases hst
theorem zs_ldcs {i : Nat} {q : Nat × Nat × Nat} (X : ZC p R s m meth c E D cA hs H0 y d) (hd : decode (zBy y) pc = .ok (.ldc i, 2)) (hn : (zP y)[k + 1]? = some (pc + 2)) (hst : zstep E d (.ldc 7) k ls st h = some (k', ls', st', h')) (kk : ∀ pc', (zP y)[k']? = some pc' → ZG p l e R s m args below meth c Q E D cA hs H0 nL pc' ls' st' h' (cells + (zsz h' - zsz h)) (slots + (ztot h' - ztot h))) (hq : zSf (zY y).2.2.2.2 i = some q) : ZG p l e R s m args below meth c Q E D cA hs H0 nL pc ls st h cells slots := by
  have h1 := List.find?_some hq
  have h2 := List.mem_of_find?_eq_some hq
  simp only [Bool.and_eq_true, beq_iff_eq] at h1
  rw [show zSR = [(8, 48, 605)] from rfl, List.mem_singleton] at h2
  subst h2
  obtain ⟨h1, rfl⟩ := h1
  have hK := X.2.2.2.2.2.1
  simp only [zstep] at hst
  cases hst
  have K := kk _ hn
  simp only [Nat.sub_self, Nat.add_zero] at K
  have hown := X.2.2.2.1
  rw [← h1] at hown
  exact fun arr H locs hL hR hl => va_ldcS X.1 X.2.1 hown hK.2.2.2.2.2.1 hd (K arr H locs hL hR hl)
theorem zs_all (X : ZC p R s m meth c E D cA hs H0 y d) (hnL : (zM y).2.1 = nL) {raw z : Instr} (hd : decode (zBy y) pc = .ok (raw, len)) (hz : zres (zY y).2.2.2.2 (zini y) (zP y) pc raw = some z) (hil : zil raw = 0 ∨ zil raw = len) (hf : zfall raw = true ∨ (zP y)[k + 1]? = some (pc + len)) (hcall : zcall z = none) (hst : zstep E d z k ls st h = some (k', ls', st', h')) (hrc : cells + (zsz h' - zsz h) ≤ R.cells) (hrs : slots + (ztot h' - ztot h) ≤ R.slots)
    (kk : ∀ pc', (zP y)[k']? = some pc' → ZG p l e R s m args below meth c Q E D cA hs H0 nL pc' ls' st' h' (cells + (zsz h' - zsz h)) (slots + (ztot h' - ztot h))) : ZG p l e R s m args below meth c Q E D cA hs H0 nL pc ls st h cells slots := by
  cases raw with
  | iadd =>
    cases hz
    obtain rfl : 1 = len := hil.resolve_left (by intro q; cases q)
    exact zs_iadd X hd (hf.resolve_left (by intro q; cases q)) hst kk
  | isub =>
    cases hz
    obtain rfl : 1 = len := hil.resolve_left (by intro q; cases q)
    exact zs_isub X hd (hf.resolve_left (by intro q; cases q)) hst kk
  | imul =>
    cases hz
    obtain rfl : 1 = len := hil.resolve_left (by intro q; cases q)
    exact zs_imul X hd (hf.resolve_left (by intro q; cases q)) hst kk
  | idiv =>
    cases hz
    obtain rfl : 1 = len := hil.resolve_left (by intro q; cases q)
    exact zs_idiv X hd (hf.resolve_left (by intro q; cases q)) hst kk
  | irem =>
    cases hz
    obtain rfl : 1 = len := hil.resolve_left (by intro q; cases q)
    exact zs_irem X hd (hf.resolve_left (by intro q; cases q)) hst kk
  | iand =>
    cases hz
    obtain rfl : 1 = len := hil.resolve_left (by intro q; cases q)
    exact zs_iand X hd (hf.resolve_left (by intro q; cases q)) hst kk
  | ior =>
    cases hz
    obtain rfl : 1 = len := hil.resolve_left (by intro q; cases q)
    exact zs_ior X hd (hf.resolve_left (by intro q; cases q)) hst kk
  | ishl =>
    cases hz
    obtain rfl : 1 = len := hil.resolve_left (by intro q; cases q)
    exact zs_ishl X hd (hf.resolve_left (by intro q; cases q)) hst kk
  | ishr =>
    cases hz
    obtain rfl : 1 = len := hil.resolve_left (by intro q; cases q)
    exact zs_ishr X hd (hf.resolve_left (by intro q; cases q)) hst kk
  | iushr =>
    cases hz
    obtain rfl : 1 = len := hil.resolve_left (by intro q; cases q)
    exact zs_iushr X hd (hf.resolve_left (by intro q; cases q)) hst kk
  | ladd =>
    cases hz
    obtain rfl : 1 = len := hil.resolve_left (by intro q; cases q)
    exact zs_ladd X hd (hf.resolve_left (by intro q; cases q)) hst kk
  | lsub =>
    cases hz
    obtain rfl : 1 = len := hil.resolve_left (by intro q; cases q)
    exact zs_lsub X hd (hf.resolve_left (by intro q; cases q)) hst kk
  | lmul =>
    cases hz
    obtain rfl : 1 = len := hil.resolve_left (by intro q; cases q)
    exact zs_lmul X hd (hf.resolve_left (by intro q; cases q)) hst kk
  | ldiv =>
    cases hz
    obtain rfl : 1 = len := hil.resolve_left (by intro q; cases q)
    exact zs_ldiv X hd (hf.resolve_left (by intro q; cases q)) hst kk
  | lrem =>
    cases hz
    obtain rfl : 1 = len := hil.resolve_left (by intro q; cases q)
    exact zs_lrem X hd (hf.resolve_left (by intro q; cases q)) hst kk
  | land =>
    cases hz
    obtain rfl : 1 = len := hil.resolve_left (by intro q; cases q)
    exact zs_land X hd (hf.resolve_left (by intro q; cases q)) hst kk
  | lor =>
    cases hz
    obtain rfl : 1 = len := hil.resolve_left (by intro q; cases q)
    exact zs_lor X hd (hf.resolve_left (by intro q; cases q)) hst kk
  | lneg =>
    cases hz
    obtain rfl : 1 = len := hil.resolve_left (by intro q; cases q)
    exact zs_lneg X hd (hf.resolve_left (by intro q; cases q)) hst kk
  | lshl =>
    cases hz
    obtain rfl : 1 = len := hil.resolve_left (by intro q; cases q)
    exact zs_lshl X hd (hf.resolve_left (by intro q; cases q)) hst kk
  | lshr =>
    cases hz
    obtain rfl : 1 = len := hil.resolve_left (by intro q; cases q)
    exact zs_lshr X hd (hf.resolve_left (by intro q; cases q)) hst kk
  | lcmp =>
    cases hz
    obtain rfl : 1 = len := hil.resolve_left (by intro q; cases q)
    exact zs_lcmp X hd (hf.resolve_left (by intro q; cases q)) hst kk
  | i2l =>
    cases hz
    obtain rfl : 1 = len := hil.resolve_left (by intro q; cases q)
    exact zs_i2l X hd (hf.resolve_left (by intro q; cases q)) hst kk
  | l2i =>
    cases hz
    obtain rfl : 1 = len := hil.resolve_left (by intro q; cases q)
    exact zs_l2i X hd (hf.resolve_left (by intro q; cases q)) hst kk
  | i2b =>
    cases hz
    obtain rfl : 1 = len := hil.resolve_left (by intro q; cases q)
    exact zs_i2b X hd (hf.resolve_left (by intro q; cases q)) hst kk
  | i2s =>
    cases hz
    obtain rfl : 1 = len := hil.resolve_left (by intro q; cases q)
    exact zs_i2s X hd (hf.resolve_left (by intro q; cases q)) hst kk
  | pop =>
    cases hz
    obtain rfl : 1 = len := hil.resolve_left (by intro q; cases q)
    exact zs_pop X hd (hf.resolve_left (by intro q; cases q)) hst kk
  | dup =>
    cases hz
    obtain rfl : 1 = len := hil.resolve_left (by intro q; cases q)
    exact zs_dup X hd (hf.resolve_left (by intro q; cases q)) hst kk
  | dup2 =>
    cases hz
    obtain rfl : 1 = len := hil.resolve_left (by intro q; cases q)
    exact zs_dup2 X hd (hf.resolve_left (by intro q; cases q)) hst kk
  | iaload =>
    cases hz
    obtain rfl : 1 = len := hil.resolve_left (by intro q; cases q)
    exact zs_iaload X hd (hf.resolve_left (by intro q; cases q)) hst kk
  | laload =>
    cases hz
    obtain rfl : 1 = len := hil.resolve_left (by intro q; cases q)
    exact zs_laload X hd (hf.resolve_left (by intro q; cases q)) hst kk
  | baload =>
    cases hz
    obtain rfl : 1 = len := hil.resolve_left (by intro q; cases q)
    exact zs_baload X hd (hf.resolve_left (by intro q; cases q)) hst kk
  | aaload =>
    cases hz
    obtain rfl : 1 = len := hil.resolve_left (by intro q; cases q)
    exact zs_aaload X hd (hf.resolve_left (by intro q; cases q)) hst kk
  | iastore =>
    cases hz
    obtain rfl : 1 = len := hil.resolve_left (by intro q; cases q)
    exact zs_iastore X hd (hf.resolve_left (by intro q; cases q)) hst kk
  | lastore =>
    cases hz
    obtain rfl : 1 = len := hil.resolve_left (by intro q; cases q)
    exact zs_lastore X hd (hf.resolve_left (by intro q; cases q)) hst kk
  | bastore =>
    cases hz
    obtain rfl : 1 = len := hil.resolve_left (by intro q; cases q)
    exact zs_bastore X hd (hf.resolve_left (by intro q; cases q)) hst kk
  | aastore =>
    cases hz
    obtain rfl : 1 = len := hil.resolve_left (by intro q; cases q)
    exact zs_aastore X hd (hf.resolve_left (by intro q; cases q)) hst kk
  | arraylength =>
    cases hz
    obtain rfl : 1 = len := hil.resolve_left (by intro q; cases q)
    exact zs_arraylength X hd (hf.resolve_left (by intro q; cases q)) hst kk
  | iconst n =>
    cases hz
    obtain rfl : 1 = len := hil.resolve_left (by intro q; cases q)
    exact zs_iconst X hd (hf.resolve_left (by intro q; cases q)) hst kk
  | lconst n =>
    cases hz
    obtain rfl : 1 = len := hil.resolve_left (by intro q; cases q)
    exact zs_lconst X hd (hf.resolve_left (by intro q; cases q)) hst kk
  | iload n =>
    cases hz
    obtain rfl : 2 = len := hil.resolve_left (by intro q; cases q)
    exact zs_iload X hd (hf.resolve_left (by intro q; cases q)) hst kk
  | iload_n n =>
    cases hz
    obtain rfl : 1 = len := hil.resolve_left (by intro q; cases q)
    exact zs_iload_n X hd (hf.resolve_left (by intro q; cases q)) hst kk
  | istore n =>
    cases hz
    obtain rfl : 2 = len := hil.resolve_left (by intro q; cases q)
    exact zs_istore X hd (hf.resolve_left (by intro q; cases q)) hst kk
  | istore_n n =>
    cases hz
    obtain rfl : 1 = len := hil.resolve_left (by intro q; cases q)
    exact zs_istore_n X hd (hf.resolve_left (by intro q; cases q)) hst kk
  | lload n =>
    cases hz
    obtain rfl : 2 = len := hil.resolve_left (by intro q; cases q)
    exact zs_lload X hd (hf.resolve_left (by intro q; cases q)) hst kk
  | lload_n n =>
    cases hz
    obtain rfl : 1 = len := hil.resolve_left (by intro q; cases q)
    exact zs_lload_n X hd (hf.resolve_left (by intro q; cases q)) hst kk
  | lstore n =>
    cases hz
    obtain rfl : 2 = len := hil.resolve_left (by intro q; cases q)
    exact zs_lstore X hd (hf.resolve_left (by intro q; cases q)) hst kk
  | lstore_n n =>
    cases hz
    obtain rfl : 1 = len := hil.resolve_left (by intro q; cases q)
    exact zs_lstore_n X hd (hf.resolve_left (by intro q; cases q)) hst kk
  | aload n =>
    cases hz
    obtain rfl : 2 = len := hil.resolve_left (by intro q; cases q)
    exact zs_aload X hd (hf.resolve_left (by intro q; cases q)) hst kk
  | aload_n n =>
    cases hz
    obtain rfl : 1 = len := hil.resolve_left (by intro q; cases q)
    exact zs_aload_n X hd (hf.resolve_left (by intro q; cases q)) hst kk
  | astore n =>
    cases hz
    obtain rfl : 2 = len := hil.resolve_left (by intro q; cases q)
    exact zs_astore X hd (hf.resolve_left (by intro q; cases q)) hst kk
  | astore_n n =>
    cases hz
    obtain rfl : 1 = len := hil.resolve_left (by intro q; cases q)
    exact zs_astore_n X hd (hf.resolve_left (by intro q; cases q)) hst kk
  | iinc n v =>
    cases hz
    obtain rfl : 3 = len := hil.resolve_left (by intro q; cases q)
    exact zs_iinc X hd (hf.resolve_left (by intro q; cases q)) hst kk
  | bipush n =>
    simp only [zres] at hz
    split at hz
    · next hv =>
      cases hz
      obtain rfl : 2 = len := hil.resolve_left (by intro q; cases q)
      exact zs_bipush X hd (hf.resolve_left (by intro q; cases q)) hst kk hv
    · cases hz
  | sipush n =>
    simp only [zres] at hz
    split at hz
    · next hv =>
      cases hz
      obtain rfl : 3 = len := hil.resolve_left (by intro q; cases q)
      exact zs_sipush X hd (hf.resolve_left (by intro q; cases q)) hst kk hv
    · cases hz
  | ldc i =>
    simp only [zres] at hz
    split at hz
    · next q hq =>
      cases hz
      obtain rfl : 2 = len := hil.resolve_left (by intro q; cases q)
      exact zs_ldc X hd (hf.resolve_left (by intro q; cases q)) hst kk hq
    · split at hz
      · next q hq =>
        cases hz
        obtain rfl : 2 = len := hil.resolve_left (by intro q; cases q)
        exact zs_ldcs X hd (hf.resolve_left (by intro q; cases q)) hst kk hq
      · cases hz
  | ldc_w i =>
    simp only [zres] at hz
    split at hz
    · next q hq =>
      cases hz
      obtain rfl : 3 = len := hil.resolve_left (by intro q; cases q)
      exact zs_ldc_w X hd (hf.resolve_left (by intro q; cases q)) hst kk hq
    · cases hz
  | ldc2_w i =>
    simp only [zres] at hz
    split at hz
    · next q hq =>
      cases hz
      obtain rfl : 3 = len := hil.resolve_left (by intro q; cases q)
      exact zs_ldc2_w X hd (hf.resolve_left (by intro q; cases q)) hst kk hq
    · cases hz
  | ifCond cc o =>
    simp only [zres, Option.map_eq_some_iff] at hz
    obtain ⟨t, ht, e0⟩ := hz
    cases e0
    simp only [Option.bind_eq_bind, Option.bind_eq_some_iff, Option.pure_def, Option.some.injEq] at ht
    obtain ⟨a, ha, rfl⟩ := ht
    obtain rfl : 3 = len := hil.resolve_left (by intro q; cases q)
    exact zs_ifCond X hd (hf.resolve_left (by intro q; cases q)) hst kk ha
  | if_icmp cc o =>
    simp only [zres, Option.map_eq_some_iff] at hz
    obtain ⟨t, ht, e0⟩ := hz
    cases e0
    simp only [Option.bind_eq_bind, Option.bind_eq_some_iff, Option.pure_def, Option.some.injEq] at ht
    obtain ⟨a, ha, rfl⟩ := ht
    obtain rfl : 3 = len := hil.resolve_left (by intro q; cases q)
    exact zs_if_icmp X hd (hf.resolve_left (by intro q; cases q)) hst kk ha
  | ifnonnull o =>
    simp only [zres, Option.map_eq_some_iff] at hz
    obtain ⟨t, ht, e0⟩ := hz
    cases e0
    simp only [Option.bind_eq_bind, Option.bind_eq_some_iff, Option.pure_def, Option.some.injEq] at ht
    obtain ⟨a, ha, rfl⟩ := ht
    obtain rfl : 3 = len := hil.resolve_left (by intro q; cases q)
    exact zs_ifnonnull X hd (hf.resolve_left (by intro q; cases q)) hst kk ha
  | goto o =>
    simp only [zres, Option.map_eq_some_iff] at hz
    obtain ⟨t, ht, e0⟩ := hz
    cases e0
    simp only [Option.bind_eq_bind, Option.bind_eq_some_iff, Option.pure_def, Option.some.injEq] at ht
    obtain ⟨a, ha, rfl⟩ := ht
    obtain rfl : 3 = len := hil.resolve_left (by intro q; cases q)
    exact zs_goto X hd hst kk ha
  | tableswitch df lo hi offs =>
    simp only [zres] at hz
    split at hz
    · next t ts ht hts =>
      cases hz
      exact zs_tableswitch X hd hst kk ht hts
    · cases hz
  | getfield i =>
    simp only [zres] at hz
    split at hz
    · next q hq =>
      cases hz
      obtain rfl : 3 = len := hil.resolve_left (by intro q; cases q)
      exact zs_getfield X hd hq (hf.resolve_left (by intro q; cases q)) hst kk
    · cases hz
  | putfield i =>
    simp only [zres] at hz
    split at hz
    · next q hq =>
      split at hz
      · next hfin =>
        cases hz
        obtain rfl : 3 = len := hil.resolve_left (by intro q; cases q)
        exact zs_putfield X hd hq hfin (hf.resolve_left (by intro q; cases q)) hst kk
      · cases hz
    · cases hz
  | getstatic i =>
    simp only [zres] at hz
    split at hz
    · next q hq =>
      cases hz
      obtain rfl : 3 = len := hil.resolve_left (by intro q; cases q)
      exact zs_getstatic X hd (hf.resolve_left (by intro q; cases q)) hst kk hq
    · cases hz
  | new i =>
    simp only [zres] at hz
    split at hz
    · next q hq =>
      cases hz
      obtain rfl : 3 = len := hil.resolve_left (by intro q; cases q)
      exact zs_new X hd (hf.resolve_left (by intro q; cases q)) hst kk hq hrc hrs
    · cases hz
  | newarray t =>
    cases hz
    obtain rfl : 2 = len := hil.resolve_left (by intro q; cases q)
    exact zs_newarray X hd (hf.resolve_left (by intro q; cases q)) hst kk hrc hrs
  | anewarray i =>
    simp only [zres] at hz
    split at hz
    · next q hq =>
      split at hz
      · next e0 =>
        cases hz
        obtain rfl : 3 = len := hil.resolve_left (by intro q; cases q)
        exact zs_anewarray X hd (hf.resolve_left (by intro q; cases q)) hst kk hq (Or.inl ⟨e0, rfl⟩) hrc hrs
      · split at hz
        · next e0 =>
          cases hz
          obtain rfl : 3 = len := hil.resolve_left (by intro q; cases q)
          exact zs_anewarray X hd (hf.resolve_left (by intro q; cases q)) hst kk hq (Or.inr ⟨e0, rfl⟩) hrc hrs
        · cases hz
    · cases hz
  | invokestatic i =>
    simp only [zres] at hz
    split at hz
    · split at hz
      · cases hz
        cases hcall
      · cases hz
    · split at hz
      · next q hq =>
        split at hz
        · next hlt =>
          cases hz
          obtain rfl : 3 = len := hil.resolve_left (by intro q; cases q)
          have h3 : q.2.2.1 = 0 ∨ q.2.2.1 = 1 ∨ q.2.2.1 = 2 := by omega
          rcases h3 with h3 | h3 | h3
          · rw [h3] at hst
            exact zs_max X hd (hf.resolve_left (by intro q; cases q)) hst kk hnL hq h3 hrc hrs
          · rw [h3] at hst
            exact zs_min X hd (hf.resolve_left (by intro q; cases q)) hst kk hnL hq h3 hrc hrs
          · rw [h3] at hst
            exact zs_arraycopy X hd (hf.resolve_left (by intro q; cases q)) hst kk hnL hq h3
        · cases hz
      · cases hz
  | invokevirtual i =>
    simp only [zres] at hz
    split at hz
    · split at hz
      · cases hz
        cases hcall
      · cases hz
    · split at hz
      · next q hq =>
        split at hz
        · next hlt =>
          cases hz
          obtain rfl : 3 = len := hil.resolve_left (by intro q; cases q)
          rcases hlt with h3 | h3
          · rw [h3] at hst
            exact zs_length X hd (hf.resolve_left (by intro q; cases q)) hst kk hnL hq h3 hrc hrs
          · rw [h3] at hst
            exact zs_charAt X hd (hf.resolve_left (by intro q; cases q)) hst kk hnL hq h3 hrc hrs
        · cases hz
      · cases hz
  | invokespecial i =>
    simp only [zres] at hz
    split at hz
    · split at hz
      · cases hz
        cases hcall
      · cases hz
    · split at hz
      · next q hq =>
        split at hz
        · next h3 =>
          cases hz
          obtain rfl : 3 = len := hil.resolve_left (by intro q; cases q)
          exact zs_object X hd (hf.resolve_left (by intro q; cases q)) hst kk hnL hq h3
        · cases hz
      · cases hz
  | ireturn =>
    cases hz
    simp only [zstep] at hst
    cases hst
  | lreturn =>
    cases hz
    simp only [zstep] at hst
    cases hst
  | areturn =>
    cases hz
    simp only [zstep] at hst
    cases hst
  | return_ =>
    cases hz
    simp only [zstep] at hst
    cases hst
  | _ => simp only [zres] at hz; cases hz
end ZST5
