/-! EVERY STEP -/
section ZST5
variable {p : Program} {l : Launch} {e : Env} {R : Room} {s : State} {m : MethodId} {args : Array Value} {below : List Frame} {meth : Method} {c : Code} {Q : State → Prop}
variable {E : Nat → Nat} {D : va_G} {cA : Nat → ClassId} {hs : ZH} {H0 : Heap}
variable {y d k pc len nL : Nat} {ls st : List Value} {h : ZH} {cells slots : Nat} {k' : Nat} {ls' st' : List Value} {h' : ZH}
theorem zs_length {i : Nat} {q : Nat × Nat × Nat × Nat} (X : ZC p R s m meth c E D cA hs H0 y d) (hd : decode (zBy y) pc = .ok (.invokevirtual i, 3)) (hn : (zP y)[k + 1]? = some (pc + 3)) (hst : zstep E d (.invokedynamic 4) k ls st h = some (k', ls', st', h')) (kk : ∀ pc', (zP y)[k']? = some pc' → ZG p l e R s m args below meth c Q E D cA hs H0 nL pc' ls' st' h' (cells + (zsz h' - zsz h)) (slots + (ztot h' - ztot h))) (hnL : (zM y).2.1 = nL) (hq : zJf (zY y).2.2.2.2 i = some q) (hj : q.2.2.1 = 4) (hrc : cells + (zsz h' - zsz h) ≤ R.cells) (hrs : slots + (ztot h' - ztot h) ≤ R.slots) : ZG p l e R s m args below meth c Q E D cA hs H0 nL pc ls st h cells slots := by
  sorry
theorem zs_charAt {i : Nat} {q : Nat × Nat × Nat × Nat} (X : ZC p R s m meth c E D cA hs H0 y d) (hd : decode (zBy y) pc = .ok (.invokevirtual i, 3)) (hn : (zP y)[k + 1]? = some (pc + 3)) (hst : zstep E d (.invokedynamic 5) k ls st h = some (k', ls', st', h')) (kk : ∀ pc', (zP y)[k']? = some pc' → ZG p l e R s m args below meth c Q E D cA hs H0 nL pc' ls' st' h' (cells + (zsz h' - zsz h)) (slots + (ztot h' - ztot h))) (hnL : (zM y).2.1 = nL) (hq : zJf (zY y).2.2.2.2 i = some q) (hj : q.2.2.1 = 5) (hrc : cells + (zsz h' - zsz h) ≤ R.cells) (hrs : slots + (ztot h' - ztot h) ≤ R.slots) : ZG p l e R s m args below meth c Q E D cA hs H0 nL pc ls st h cells slots := by
  sorry
theorem zs_ldcs {i : Nat} {q : Nat × Nat × Nat} (X : ZC p R s m meth c E D cA hs H0 y d) (hd : decode (zBy y) pc = .ok (.ldc i, 2)) (hn : (zP y)[k + 1]? = some (pc + 2)) (hst : zstep E d (.ldc 7) k ls st h = some (k', ls', st', h')) (kk : ∀ pc', (zP y)[k']? = some pc' → ZG p l e R s m args below meth c Q E D cA hs H0 nL pc' ls' st' h' (cells + (zsz h' - zsz h)) (slots + (ztot h' - ztot h))) (hq : zSf (zY y).2.2.2.2 i = some q) : ZG p l e R s m args below meth c Q E D cA hs H0 nL pc ls st h cells slots := by
  sorry
theorem zs_all (X : ZC p R s m meth c E D cA hs H0 y d) (hnL : (zM y).2.1 = nL) {raw z : Instr} (hd : decode (zBy y) pc = .ok (raw, len)) (hz : zres (zY y).2.2.2.2 (zini y) (zP y) pc raw = some z) (hil : zil raw = 0 ∨ zil raw = len) (hf : zfall raw = true ∨ (zP y)[k + 1]? = some (pc + len)) (hcall : zcall z = none) (hst : zstep E d z k ls st h = some (k', ls', st', h')) (hrc : cells + (zsz h' - zsz h) ≤ R.cells) (hrs : slots + (ztot h' - ztot h) ≤ R.slots)
    (kk : ∀ pc', (zP y)[k']? = some pc' → ZG p l e R s m args below meth c Q E D cA hs H0 nL pc' ls' st' h' (cells + (zsz h' - zsz h)) (slots + (ztot h' - ztot h))) : ZG p l e R s m args below meth c Q E D cA hs H0 nL pc ls st h cells slots := by
  cases raw with
  | iadd =>
    cases hz
    obtain rfl : 1 = len := hil.resolve_left (by intro q; cases q)
    exact zs_iadd X hd (hf.resolve_left (by intro q; cases q)) hst kk
  | isub =>
    cases hz
    obtain rfl : 1 = len := hil.resolve_left (by intro q; cases q)
    exact zs_isub X hd (hf.resolve_left (by intro q; cases q)) hst kk
  | imul =>
    cases hz
    obtain rfl : 1 = len := hil.resolve_left (by intro q; cases q)
    exact zs_imul X hd (hf.resolve_left (by intro q; cases q)) hst kk
  | idiv =>
    cases hz
    obtain rfl : 1 = len := hil.resolve_left (by intro q; cases q)
    exact zs_idiv X hd (hf.resolve_left (by intro q; cases q)) hst kk
  | irem =>
    cases hz
    obtain rfl : 1 = len := hil.resolve_left (by intro q; cases q)
    exact zs_irem X hd (hf.resolve_left (by intro q; cases q)) hst kk
  | iand =>
    cases hz
    obtain rfl : 1 = len := hil.resolve_left (by intro q; cases q)
    exact zs_iand X hd (hf.resolve_left (by intro q; cases q)) hst kk
  | ior =>
    cases hz
    obtain rfl : 1 = len := hil.resolve_left (by intro q; cases q)
    exact zs_ior X hd (hf.resolve_left (by intro q; cases q)) hst kk
  | ishl =>
    cases hz
    obtain rfl : 1 = len := hil.resolve_left (by intro q; cases q)
    exact zs_ishl X hd (hf.resolve_left (by intro q; cases q)) hst kk
  | ishr =>
    cases hz
    obtain rfl : 1 = len := hil.resolve_left (by intro q; cases q)
    exact zs_ishr X hd (hf.resolve_left (by intro q; cases q)) hst kk
  | iushr =>
    cases hz
    obtain rfl : 1 = len := hil.resolve_left (by intro q; cases q)
    exact zs_iushr X hd (hf.resolve_left (by intro q; cases q)) hst kk
  | ladd =>
    cases hz
    obtain rfl : 1 = len := hil.resolve_left (by intro q; cases q)
    exact zs_ladd X hd (hf.resolve_left (by intro q; cases q)) hst kk
  | lsub =>
    cases hz
    obtain rfl : 1 = len := hil.resolve_left (by intro q; cases q)
    exact zs_lsub X hd (hf.resolve_left (by intro q; cases q)) hst kk
  | lmul =>
    cases hz
    obtain rfl : 1 = len := hil.resolve_left (by intro q; cases q)
    exact zs_lmul X hd (hf.resolve_left (by intro q; cases q)) hst kk
  | ldiv =>
    cases hz
    obtain rfl : 1 = len := hil.resolve_left (by intro q; cases q)
    exact zs_ldiv X hd (hf.resolve_left (by intro q; cases q)) hst kk
  | lrem =>
    cases hz
    obtain rfl : 1 = len := hil.resolve_left (by intro q; cases q)
    exact zs_lrem X hd (hf.resolve_left (by intro q; cases q)) hst kk
  | land =>
    cases hz
    obtain rfl : 1 = len := hil.resolve_left (by intro q; cases q)
    exact zs_land X hd (hf.resolve_left (by intro q; cases q)) hst kk
  | lor =>
    cases hz
    obtain rfl : 1 = len := hil.resolve_left (by intro q; cases q)
    exact zs_lor X hd (hf.resolve_left (by intro q; cases q)) hst kk
  | lneg =>
    cases hz
    obtain rfl : 1 = len := hil.resolve_left (by intro q; cases q)
    exact zs_lneg X hd (hf.resolve_left (by intro q; cases q)) hst kk
  | lshl =>
    cases hz
    obtain rfl : 1 = len := hil.resolve_left (by intro q; cases q)
    exact zs_lshl X hd (hf.resolve_left (by intro q; cases q)) hst kk
  | lshr =>
    cases hz
    obtain rfl : 1 = len := hil.resolve_left (by intro q; cases q)
    exact zs_lshr X hd (hf.resolve_left (by intro q; cases q)) hst kk
  | lcmp =>
    cases hz
    obtain rfl : 1 = len := hil.resolve_left (by intro q; cases q)
    exact zs_lcmp X hd (hf.resolve_left (by intro q; cases q)) hst kk
  | i2l =>
    cases hz
    obtain rfl : 1 = len := hil.resolve_left (by intro q; cases q)
    exact zs_i2l X hd (hf.resolve_left (by intro q; cases q)) hst kk
  | l2i =>
    cases hz
    obtain rfl : 1 = len := hil.resolve_left (by intro q; cases q)
    exact zs_l2i X hd (hf.resolve_left (by intro q; cases q)) hst kk
  | i2b =>
    cases hz
    obtain rfl : 1 = len := hil.resolve_left (by intro q; cases q)
    exact zs_i2b X hd (hf.resolve_left (by intro q; cases q)) hst kk
  | i2s =>
    cases hz
    obtain rfl : 1 = len := hil.resolve_left (by intro q; cases q)
    exact zs_i2s X hd (hf.resolve_left (by intro q; cases q)) hst kk
  | pop =>
    cases hz
    obtain rfl : 1 = len := hil.resolve_left (by intro q; cases q)
    exact zs_pop X hd (hf.resolve_left (by intro q; cases q)) hst kk
  | dup =>
    cases hz
    obtain rfl : 1 = len := hil.resolve_left (by intro q; cases q)
    exact zs_dup X hd (hf.resolve_left (by intro q; cases q)) hst kk
  | dup2 =>
    cases hz
    obtain rfl : 1 = len := hil.resolve_left (by intro q; cases q)
    exact zs_dup2 X hd (hf.resolve_left (by intro q; cases q)) hst kk
  | iaload =>
    cases hz
    obtain rfl : 1 = len := hil.resolve_left (by intro q; cases q)
    exact zs_iaload X hd (hf.resolve_left (by intro q; cases q)) hst kk
  | laload =>
    cases hz
    obtain rfl : 1 = len := hil.resolve_left (by intro q; cases q)
    exact zs_laload X hd (hf.resolve_left (by intro q; cases q)) hst kk
  | baload =>
    cases hz
    obtain rfl : 1 = len := hil.resolve_left (by intro q; cases q)
    exact zs_baload X hd (hf.resolve_left (by intro q; cases q)) hst kk
  | aaload =>
    cases hz
    obtain rfl : 1 = len := hil.resolve_left (by intro q; cases q)
    exact zs_aaload X hd (hf.resolve_left (by intro q; cases q)) hst kk
  | iastore =>
    cases hz
    obtain rfl : 1 = len := hil.resolve_left (by intro q; cases q)
    exact zs_iastore X hd (hf.resolve_left (by intro q; cases q)) hst kk
  | lastore =>
    cases hz
    obtain rfl : 1 = len := hil.resolve_left (by intro q; cases q)
    exact zs_lastore X hd (hf.resolve_left (by intro q; cases q)) hst kk
  | bastore =>
    cases hz
    obtain rfl : 1 = len := hil.resolve_left (by intro q; cases q)
    exact zs_bastore X hd (hf.resolve_left (by intro q; cases q)) hst kk
  | aastore =>
    cases hz
    obtain rfl : 1 = len := hil.resolve_left (by intro q; cases q)
    exact zs_aastore X hd (hf.resolve_left (by intro q; cases q)) hst kk
  | arraylength =>
    cases hz
    obtain rfl : 1 = len := hil.resolve_left (by intro q; cases q)
    exact zs_arraylength X hd (hf.resolve_left (by intro q; cases q)) hst kk
  | iconst n =>
    cases hz
    obtain rfl : 1 = len := hil.resolve_left (by intro q; cases q)
    exact zs_iconst X hd (hf.resolve_left (by intro q; cases q)) hst kk
  | lconst n =>
    cases hz
    obtain rfl : 1 = len := hil.resolve_left (by intro q; cases q)
    exact zs_lconst X hd (hf.resolve_left (by intro q; cases q)) hst kk
  | iload n =>
    cases hz
    obtain rfl : 2 = len := hil.resolve_left (by intro q; cases q)
    exact zs_iload X hd (hf.resolve_left (by intro q; cases q)) hst kk
  | iload_n n =>
    cases hz
    obtain rfl : 1 = len := hil.resolve_left (by intro q; cases q)
    exact zs_iload_n X hd (hf.resolve_left (by intro q; cases q)) hst kk
  | istore n =>
    cases hz
    obtain rfl : 2 = len := hil.resolve_left (by intro q; cases q)
    exact zs_istore X hd (hf.resolve_left (by intro q; cases q)) hst kk
  | istore_n n =>
    cases hz
    obtain rfl : 1 = len := hil.resolve_left (by intro q; cases q)
    exact zs_istore_n X hd (hf.resolve_left (by intro q; cases q)) hst kk
  | lload n =>
    cases hz
    obtain rfl : 2 = len := hil.resolve_left (by intro q; cases q)
    exact zs_lload X hd (hf.resolve_left (by intro q; cases q)) hst kk
  | lload_n n =>
    cases hz
    obtain rfl : 1 = len := hil.resolve_left (by intro q; cases q)
    exact zs_lload_n X hd (hf.resolve_left (by intro q; cases q)) hst kk
  | lstore n =>
    cases hz
    obtain rfl : 2 = len := hil.resolve_left (by intro q; cases q)
    exact zs_lstore X hd (hf.resolve_left (by intro q; cases q)) hst kk
  | lstore_n n =>
    cases hz
    obtain rfl : 1 = len := hil.resolve_left (by intro q; cases q)
    exact zs_lstore_n X hd (hf.resolve_left (by intro q; cases q)) hst kk
  | aload n =>
    cases hz
    obtain rfl : 2 = len := hil.resolve_left (by intro q; cases q)
    exact zs_aload X hd (hf.resolve_left (by intro q; cases q)) hst kk
  | aload_n n =>
    cases hz
    obtain rfl : 1 = len := hil.resolve_left (by intro q; cases q)
    exact zs_aload_n X hd (hf.resolve_left (by intro q; cases q)) hst kk
  | astore n =>
    cases hz
    obtain rfl : 2 = len := hil.resolve_left (by intro q; cases q)
    exact zs_astore X hd (hf.resolve_left (by intro q; cases q)) hst kk
  | astore_n n =>
    cases hz
    obtain rfl : 1 = len := hil.resolve_left (by intro q; cases q)
    exact zs_astore_n X hd (hf.resolve_left (by intro q; cases q)) hst kk
  | iinc n v =>
    cases hz
    obtain rfl : 3 = len := hil.resolve_left (by intro q; cases q)
    exact zs_iinc X hd (hf.resolve_left (by intro q; cases q)) hst kk
  | bipush n =>
    simp only [zres] at hz
    split at hz
    · next hv =>
      cases hz
      obtain rfl : 2 = len := hil.resolve_left (by intro q; cases q)
      exact zs_bipush X hd (hf.resolve_left (by intro q; cases q)) hst kk hv
    · cases hz
  | sipush n =>
    simp only [zres] at hz
    split at hz
    · next hv =>
      cases hz
      obtain rfl : 3 = len := hil.resolve_left (by intro q; cases q)
      exact zs_sipush X hd (hf.resolve_left (by intro q; cases q)) hst kk hv
    · cases hz
  | ldc i =>
    simp only [zres] at hz
    split at hz
    · next q hq =>
      cases hz
      obtain rfl : 2 = len := hil.resolve_left (by intro q; cases q)
      exact zs_ldc X hd (hf.resolve_left (by intro q; cases q)) hst kk hq
    · split at hz
      · next q hq =>
        cases hz
        obtain rfl : 2 = len := hil.resolve_left (by intro q; cases q)
        exact zs_ldcs X hd (hf.resolve_left (by intro q; cases q)) hst kk hq
      · cases hz
  | ldc_w i =>
    simp only [zres] at hz
    split at hz
    · next q hq =>
      cases hz
      obtain rfl : 3 = len := hil.resolve_left (by intro q; cases q)
      exact zs_ldc_w X hd (hf.resolve_left (by intro q; cases q)) hst kk hq
    · cases hz
  | ldc2_w i =>
    simp only [zres] at hz
    split at hz
    · next q hq =>
      cases hz
      obtain rfl : 3 = len := hil.resolve_left (by intro q; cases q)
      exact zs_ldc2_w X hd (hf.resolve_left (by intro q; cases q)) hst kk hq
    · cases hz
  | ifCond cc o =>
    simp only [zres, Option.map_eq_some_iff] at hz
    obtain ⟨t, ht, e0⟩ := hz
    cases e0
    simp only [Option.bind_eq_bind, Option.bind_eq_some_iff, Option.pure_def, Option.some.injEq] at ht
    obtain ⟨a, ha, rfl⟩ := ht
    obtain rfl : 3 = len := hil.resolve_left (by intro q; cases q)
    exact zs_ifCond X hd (hf.resolve_left (by intro q; cases q)) hst kk ha
  | if_icmp cc o =>
    simp only [zres, Option.map_eq_some_iff] at hz
    obtain ⟨t, ht, e0⟩ := hz
    cases e0
    simp only [Option.bind_eq_bind, Option.bind_eq_some_iff, Option.pure_def, Option.some.injEq] at ht
    obtain ⟨a, ha, rfl⟩ := ht
    obtain rfl : 3 = len := hil.resolve_left (by intro q; cases q)
    exact zs_if_icmp X hd (hf.resolve_left (by intro q; cases q)) hst kk ha
  | ifnonnull o =>
    simp only [zres, Option.map_eq_some_iff] at hz
    obtain ⟨t, ht, e0⟩ := hz
    cases e0
    simp only [Option.bind_eq_bind, Option.bind_eq_some_iff, Option.pure_def, Option.some.injEq] at ht
    obtain ⟨a, ha, rfl⟩ := ht
    obtain rfl : 3 = len := hil.resolve_left (by intro q; cases q)
    exact zs_ifnonnull X hd (hf.resolve_left (by intro q; cases q)) hst kk ha
  | goto o =>
    simp only [zres, Option.map_eq_some_iff] at hz
    obtain ⟨t, ht, e0⟩ := hz
    cases e0
    simp only [Option.bind_eq_bind, Option.bind_eq_some_iff, Option.pure_def, Option.some.injEq] at ht
    obtain ⟨a, ha, rfl⟩ := ht
    obtain rfl : 3 = len := hil.resolve_left (by intro q; cases q)
    exact zs_goto X hd hst kk ha
  | tableswitch df lo hi offs =>
    simp only [zres] at hz
    split at hz
    · next t ts ht hts =>
      cases hz
      exact zs_tableswitch X hd hst kk ht hts
    · cases hz
  | getfield i =>
    simp only [zres] at hz
    split at hz
    · next q hq =>
      cases hz
      obtain rfl : 3 = len := hil.resolve_left (by intro q; cases q)
      exact zs_getfield X hd hq (hf.resolve_left (by intro q; cases q)) hst kk
    · cases hz
  | putfield i =>
    simp only [zres] at hz
    split at hz
    · next q hq =>
      split at hz
      · next hfin =>
        cases hz
        obtain rfl : 3 = len := hil.resolve_left (by intro q; cases q)
        exact zs_putfield X hd hq hfin (hf.resolve_left (by intro q; cases q)) hst kk
      · cases hz
    · cases hz
  | getstatic i =>
    simp only [zres] at hz
    split at hz
    · next q hq =>
      cases hz
      obtain rfl : 3 = len := hil.resolve_left (by intro q; cases q)
      exact zs_getstatic X hd (hf.resolve_left (by intro q; cases q)) hst kk hq
    · cases hz
  | new i =>
    simp only [zres] at hz
    split at hz
    · next q hq =>
      cases hz
      obtain rfl : 3 = len := hil.resolve_left (by intro q; cases q)
      exact zs_new X hd (hf.resolve_left (by intro q; cases q)) hst kk hq hrc hrs
    · cases hz
  | newarray t =>
    cases hz
    obtain rfl : 2 = len := hil.resolve_left (by intro q; cases q)
    exact zs_newarray X hd (hf.resolve_left (by intro q; cases q)) hst kk hrc hrs
  | anewarray i =>
    simp only [zres] at hz
    split at hz
    · next q hq =>
      split at hz
      · next e0 =>
        cases hz
        obtain rfl : 3 = len := hil.resolve_left (by intro q; cases q)
        exact zs_anewarray X hd (hf.resolve_left (by intro q; cases q)) hst kk hq (Or.inl ⟨e0, rfl⟩) hrc hrs
      · split at hz
        · next e0 =>
          cases hz
          obtain rfl : 3 = len := hil.resolve_left (by intro q; cases q)
          exact zs_anewarray X hd (hf.resolve_left (by intro q; cases q)) hst kk hq (Or.inr ⟨e0, rfl⟩) hrc hrs
        · cases hz
    · cases hz
  | invokestatic i =>
    simp only [zres] at hz
    split at hz
    · split at hz
      · cases hz
        cases hcall
      · cases hz
    · split at hz
      · next q hq =>
        split at hz
        · next hlt =>
          cases hz
          obtain rfl : 3 = len := hil.resolve_left (by intro q; cases q)
          have h3 : q.2.2.1 = 0 ∨ q.2.2.1 = 1 ∨ q.2.2.1 = 2 := by omega
          rcases h3 with h3 | h3 | h3
          · rw [h3] at hst
            exact zs_max X hd (hf.resolve_left (by intro q; cases q)) hst kk hnL hq h3 hrc hrs
          · rw [h3] at hst
            exact zs_min X hd (hf.resolve_left (by intro q; cases q)) hst kk hnL hq h3 hrc hrs
          · rw [h3] at hst
            exact zs_arraycopy X hd (hf.resolve_left (by intro q; cases q)) hst kk hnL hq h3
        · cases hz
      · cases hz
  | invokevirtual i =>
    simp only [zres] at hz
    split at hz
    · split at hz
      · cases hz
        cases hcall
      · cases hz
    · split at hz
      · next q hq =>
        split at hz
        · next hlt =>
          cases hz
          obtain rfl : 3 = len := hil.resolve_left (by intro q; cases q)
          rcases hlt with h3 | h3
          · rw [h3] at hst
            exact zs_length X hd (hf.resolve_left (by intro q; cases q)) hst kk hnL hq h3 hrc hrs
          · rw [h3] at hst
            exact zs_charAt X hd (hf.resolve_left (by intro q; cases q)) hst kk hnL hq h3 hrc hrs
        · cases hz
      · cases hz
  | invokespecial i =>
    simp only [zres] at hz
    split at hz
    · split at hz
      · cases hz
        cases hcall
      · cases hz
    · split at hz
      · next q hq =>
        split at hz
        · next h3 =>
          cases hz
          obtain rfl : 3 = len := hil.resolve_left (by intro q; cases q)
          exact zs_object X hd (hf.resolve_left (by intro q; cases q)) hst kk hnL hq h3
        · cases hz
      · cases hz
  | ireturn =>
    cases hz
    simp only [zstep] at hst
    cases hst
  | lreturn =>
    cases hz
    simp only [zstep] at hst
    cases hst
  | areturn =>
    cases hz
    simp only [zstep] at hst
    cases hst
  | return_ =>
    cases hz
    simp only [zstep] at hst
    cases hst
  | _ => simp only [zres] at hz; cases hz
end ZST5
