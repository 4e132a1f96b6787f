/-! the two long ones, piece by piece -/
def zchkN (bytes : ByteArray) (own : Nat) (ini : Bool) (all : List Nat) : Nat → List Instr → List Nat → Bool
  | 0, _, _ => true
  | n + 1, i :: is, pc :: ps => (match decode bytes pc with
      | .ok (raw, len) => decide (zres own ini all pc raw = some i ∧ (zil raw = 0 ∨ zil raw = len)) && (zfall raw || (match ps with
        | q :: _ => q == pc + len
        | [] => false))
      | _ => false) && zchkN bytes own ini all n is ps
  | _, _, _ => false
theorem zchkN_spec {bytes : ByteArray} {own : Nat} {ini : Bool} {all : List Nat} : ∀ {n : Nat} {cs : List Instr} {ps : List Nat}, zchkN bytes own ini all n cs ps = true → ∀ (k : Nat) (i : Instr), k < n → cs[k]? = some i →
    ∃ (pc : Nat) (raw : Instr) (len : Nat), ps[k]? = some pc ∧ decode bytes pc = .ok (raw, len) ∧ zres own ini all pc raw = some i ∧ (zil raw = 0 ∨ zil raw = len) ∧ (zfall raw = true ∨ ps[k + 1]? = some (pc + len)) := by
  intro n
  induction n with
  | zero => intro cs ps _ k i hn; exact absurd hn (Nat.not_lt_zero _)
  | succ n ih =>
    intro cs ps h k i hn hk
    cases cs with
    | nil => simp at hk
    | cons c cs =>
    cases ps with
    | nil => simp [zchkN] at h
    | cons pc ps =>
      simp only [zchkN, Bool.and_eq_true] at h
      obtain ⟨h1, h2⟩ := h
      cases k with
      | zero =>
        simp at hk
        subst hk
        split at h1
        next raw len hd =>
          simp only [Bool.and_eq_true, decide_eq_true_eq, Bool.or_eq_true] at h1
          refine ⟨pc, raw, len, rfl, hd, h1.1.1, h1.1.2, ?_⟩
          rcases h1.2 with h3 | h3
          · exact Or.inl h3
          · right
            cases ps with
            | nil => simp at h3
            | cons q ps => simp at h3; simp [h3]
        next => simp at h1
      | succ k =>
        simp at hk
        obtain ⟨pc', raw, len, a1, a2, a3, a0, a4⟩ := ih h2 k i (by omega) hk
        exact ⟨pc', raw, len, by simpa using a1, a2, a3, a0, by simpa using a4⟩
/-- what the check says of a method -/
def zOK (y : Nat) : Prop := ∀ (k : Nat) (i : Instr), (zM y).1[k]? = some i →
    ∃ (pc : Nat) (raw : Instr) (len : Nat), (zP y)[k]? = some pc ∧ decode (zBy y) pc = .ok (raw, len) ∧ zres (zY y).2.2.2.2 (zini y) (zP y) pc raw = some i ∧ (zil raw = 0 ∨ zil raw = len) ∧ (zfall raw = true ∨ (zP y)[k + 1]? = some (pc + len))
theorem zOK_of {y : Nat} (h : zchk y = true) : zOK y := fun k i hk => zchkL_spec h k i hk
def zseg (y a n : Nat) : Bool := zchkN (zBy y) (zY y).2.2.2.2 (zini y) (zP y) n ((zM y).1.drop a) ((zP y).drop a)
theorem zseg_spec {y a n : Nat} (h : zseg y a n = true) (k : Nat) (i : Instr) (h1 : a ≤ k) (h2 : k < a + n) (hk : (zM y).1[k]? = some i) :
    ∃ (pc : Nat) (raw : Instr) (len : Nat), (zP y)[k]? = some pc ∧ decode (zBy y) pc = .ok (raw, len) ∧ zres (zY y).2.2.2.2 (zini y) (zP y) pc raw = some i ∧ (zil raw = 0 ∨ zil raw = len) ∧ (zfall raw = true ∨ (zP y)[k + 1]? = some (pc + len)) := by
  obtain ⟨j, rfl⟩ := Nat.exists_eq_add_of_le h1
  obtain ⟨pc, raw, len, a1, a2, a3, a0, a4⟩ := zchkN_spec h j i (by omega) (by rw [List.getElem?_drop]; exact hk)
  rw [List.getElem?_drop] at a1 a4
  exact ⟨pc, raw, len, a1, a2, a3, a0, by rw [Nat.add_assoc]; exact a4⟩
set_option maxRecDepth 100000 in
theorem zw_134 : zMPw 134 (zmp 134) = true := by decide +kernel
