/-! EVERY RUN: what the plain machine comes to, the machine comes to -/
theorem zstep_mono {E : Nat → Nat} {d : Nat} {i : Instr} {k : Nat} {ls st : List Value} {h : ZH} {k' : Nat} {ls' st' : List Value} {h' : ZH} (hst : zstep E d i k ls st h = some (k', ls', st', h')) : zsz h ≤ zsz h' ∧ ztot h ≤ ztot h' := by
  have hn : ∀ t n, zsz h ≤ zsz (znew h t n) ∧ ztot h ≤ ztot (znew h t n) := fun t n => ⟨Nat.le_succ _, Nat.le_add_right _ _⟩
  unfold zstep at hst
  split at hst
  all_goals (repeat' (split at hst))
  all_goals first
    | (cases hst; done)
    | (cases hst; exact ⟨Nat.le_refl _, Nat.le_refl _⟩)
    | (cases hst; exact hn _ _)
    | (simp only [Option.map_eq_some_iff] at hst; obtain ⟨t, -, e⟩ := hst; cases e; exact ⟨Nat.le_refl _, Nat.le_refl _⟩)
theorem zx_mono {E : Nat → Nat} {M : Nat → ZM} {T : Nat → Nat} : ∀ (n d y k : Nat) (ls st : List Value) (h : ZH) (v : Option Value) (h' : ZH), zx E M T n d y k ls st h = some (v, h') → zsz h ≤ zsz h' ∧ ztot h ≤ ztot h' := by
  intro n
  induction n with
  | zero => intro d y k ls st h v h' hx; simp [zx] at hx
  | succ n ih =>
    intro d y k ls st h v h' hx
    simp only [zx] at hx
    split at hx
    · cases hx
    · split at hx
      · cases hx; exact ⟨Nat.le_refl _, Nat.le_refl _⟩
      · split at hx
        · split at hx
          · cases hx
          · next hst =>
            have a := zstep_mono hst
            have b := ih _ _ _ _ _ _ _ _ hx
            exact ⟨Nat.le_trans a.1 b.1, Nat.le_trans a.2 b.2⟩
        · split at hx
          · cases hx
          · split at hx
            · split at hx
              · cases hx
              · next v1 h1 h2 =>
                have a := ih _ _ _ _ _ _ _ _ h2
                have b := ih _ _ _ _ _ _ _ _ hx
                exact ⟨Nat.le_trans a.1 b.1, Nat.le_trans a.2 b.2⟩
            · cases hx
theorem zret_spec {b : Bool} {i : Instr} {st : List Value} {v : Option Value} (h : zret b i st = some v) : (i = .ireturn ∧ ∃ x, st = [.int x] ∧ v = some (.int x) ∧ (b = false ∨ x = 0 ∨ x = 1)) ∨ (i = .lreturn ∧ ∃ x, st = [.long x] ∧ v = some (.long x)) ∨ (i = .areturn ∧ ∃ x, st = [.ref x] ∧ v = some (.ref x)) ∨ (i = .return_ ∧ st = [] ∧ v = none) := by
  unfold zret at h
  split at h
  · split at h
    · next hb => cases h; exact Or.inl ⟨rfl, _, rfl, rfl, hb⟩
    · cases h
  · cases h; exact Or.inr (Or.inl ⟨rfl, _, rfl, rfl⟩)
  · cases h; exact Or.inr (Or.inr (Or.inl ⟨rfl, _, rfl, rfl⟩))
  · cases h; exact Or.inr (Or.inr (Or.inr ⟨rfl, rfl, rfl⟩))
  · cases h
theorem zres_ret {own : Nat} {ini : Bool} {pcs : List Nat} {pc : Nat} {raw i : Instr} (hz : zres own ini pcs pc raw = some i) (hi : i = .ireturn ∨ i = .lreturn ∨ i = .areturn ∨ i = .return_) : raw = i := by
  rcases hi with rfl | rfl | rfl | rfl
  all_goals
    (cases raw
     all_goals (simp only [zres, Option.map_eq_some_iff] at hz)
     all_goals first
       | rfl
       | (cases hz; done)
       | (obtain ⟨t, -, e⟩ := hz; cases e; done)
       | (repeat' (split at hz)) <;> (cases hz; done))
theorem zres_call {own : Nat} {ini : Bool} {pcs : List Nat} {pc : Nat} {raw i : Instr} {z : Nat} (hz : zres own ini pcs pc raw = some i) (hi : zcall i = some z) :
    ∃ (idx : Nat) (q : Nat × Nat × Nat × Nat × Nat), zMf own idx = some q ∧ q.2.2.1 = z ∧ ((raw = .invokestatic idx ∧ i = .invokestatic z ∧ (zMP.getD z (9, 0, 0, 0, 0, 0)).1 = 0) ∨ (raw = .invokevirtual idx ∧ i = .invokevirtual z ∧ (zMP.getD z (9, 0, 0, 0, 0, 0)).1 = 1) ∨ (raw = .invokespecial idx ∧ i = .invokespecial z ∧ (zMP.getD z (9, 0, 0, 0, 0, 0)).1 = 2)) := by
  cases raw
  case invokestatic idx =>
    simp only [zres] at hz
    split at hz
    · next q hq =>
      split at hz
      · next hk =>
        cases hz
        cases hi
        exact ⟨idx, q, hq, rfl, Or.inl ⟨rfl, rfl, hk⟩⟩
      · cases hz
    · (repeat' (split at hz)) <;> cases hz <;> cases hi
  case invokevirtual idx =>
    simp only [zres] at hz
    split at hz
    · next q hq =>
      split at hz
      · next hk =>
        cases hz
        cases hi
        exact ⟨idx, q, hq, rfl, Or.inr (Or.inl ⟨rfl, rfl, hk⟩)⟩
      · cases hz
    · (repeat' (split at hz)) <;> cases hz <;> cases hi
  case invokespecial idx =>
    simp only [zres] at hz
    split at hz
    · next q hq =>
      split at hz
      · next hk =>
        cases hz
        cases hi
        exact ⟨idx, q, hq, rfl, Or.inr (Or.inr ⟨rfl, rfl, hk⟩)⟩
      · cases hz
    · (repeat' (split at hz)) <;> cases hz <;> cases hi
  all_goals (simp only [zres, Option.map_eq_some_iff] at hz)
  all_goals first
    | (cases hz; done)
    | (cases hz; cases hi; done)
    | (obtain ⟨t, -, e⟩ := hz; cases e; cases hi; done)
    | ((repeat' (split at hz)) <;> first | (cases hz; done) | (cases hz; cases hi; done))
theorem zMf_spec {own i : Nat} {q : Nat × Nat × Nat × Nat × Nat} (h : zMf own i = some q) : q.1 = own ∧ q.2.1 = i ∧ lw_tbl[q.2.2.2.2]? = some (zMw q) ∧ q.2.2.1 < 219 := by
  have h1 := List.find?_some h
  have h2 := List.all_eq_true.mp zML_ok q (List.mem_of_find?_eq_some h)
  simp only [Bool.and_eq_true, beq_iff_eq, decide_eq_true_eq] at h1 h2
  exact ⟨h1.1, h1.2, h2.1, h2.2⟩
/-- what the check of a method's words says -/
theorem zw_spec {y : Nat} (hy : y < 219) : lw_tbl[(zmp y).2.1]? = some (.code (zY y).1 (zBy y) (zY y).2.2.1 (zY y).2.2.2.1) ∧ lw_tbl[(zmp y).2.2.1]? = some (if (zmp y).1 = 0 then .static (zY y).1 else .instanceMethod (zY y).1) ∧ ((zmp y).1 = 1 → lw_tbl[(zmp y).2.2.2.1]? = some (.selects (zcn (zY y).2.2.2.2) (zY y).1 (zY y).1)) ∧ lw_tbl[(zmp y).2.2.2.2.1]? = some (.initialized (zcn (zY y).2.2.2.2)) ∧ (zY y).1.cls = zcn (zY y).2.2.2.2 ∧ ((zY y).1.cls ≠ "java/lang/invoke/MethodHandle" ∧ (zY y).1.cls ≠ "java/lang/invoke/VarHandle") ∧ (parseMethodDescriptor (zY y).1.desc).map (fun d => d.parameters.length) = some (zmp y).2.2.2.2.2 ∧ (zM y).2.1 = (zY y).2.2.1 ∧ (zM y).2.2 = (if (zmp y).1 = 0 then (zmp y).2.2.2.2.2 else (zmp y).2.2.2.2.2 + 1) ∧ (zP y)[0]? = some 0 ∧ (zY y).2.2.1 ≤ 25 ∧ ((zmp y).1 = 2 → (zY y).1.name = "<init>" ∧ (zY y).2.2.2.1 = none) ∧ plainName (zY y).1.cls = true ∧ zTg y = (zY y).2.2.2.2 + (if (zY y).2.2.2.1 = some .boolean then 100 else 0) ∧ (zY y).2.2.2.2 < 12 ∧ ((zY y).2.2.2.1 = none ∨ (zY y).2.2.2.1 = some .int ∨ (zY y).2.2.2.1 = some .long ∨ (zY y).2.2.2.1 = some .boolean ∨ ∃ n, (zY y).2.2.2.1 = some (.object n)) := by
  have h := zw_all y hy
  unfold zMPw at h
  simp only [Bool.and_eq_true, decide_eq_true_eq, Bool.or_eq_true] at h
  obtain ⟨⟨⟨⟨⟨⟨⟨⟨⟨⟨⟨⟨⟨⟨⟨h1, h2⟩, h3⟩, h4⟩, h5⟩, h6⟩, h7⟩, h8⟩, h9⟩, h10⟩, h11⟩, h12⟩, h13⟩, h14⟩, h15⟩, h16⟩ := h
  refine ⟨?_, h2, fun e => h3.resolve_left (fun z => z e), h4, h5, h6, h7, h8, h9, h10, h11, fun e => h12.resolve_left (fun z => z e), h13, h14, h15, ?_⟩
  · unfold zcw at h1
    unfold zBy
    rw [if_neg (by omega)]
    split at h1
    · next y' b n' r' e0 =>
      simp only [decide_eq_true_eq] at h1
      obtain ⟨e1, e2, e3⟩ := h1
      subst e1; subst e2; subst e3
      rw [e0]
    · cases h1
  · split at h16
    · next e0 => exact Or.inl e0
    · next e0 => exact Or.inr (Or.inl e0)
    · next e0 => exact Or.inr (Or.inr (Or.inl e0))
    · next e0 => exact Or.inr (Or.inr (Or.inr (Or.inl e0)))
    · next n e0 => exact Or.inr (Or.inr (Or.inr (Or.inr ⟨n, e0⟩)))
    · cases h16
