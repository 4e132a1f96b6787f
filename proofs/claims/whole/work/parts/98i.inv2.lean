/-! THE READER: numbers; every step keeps what holds; bits -/
theorem tN_a : ∀ l, l < 17 → slN l = 1 → ¬ (l = 8 ∨ l = 12) → lwT (tmN l) ≤ loN l ∧ hiN l ≤ hgT (tmN l) ∧ tmN l < 20 := by decide
theorem tN_b : ∀ l, l < 17 → slN l = 1 → ¬ (l = 8 ∨ l = 12) → tmN l ≠ 13 ∧ tmN l ≠ 3 ∧ tmN l ≠ 4 := by decide
theorem sN_a : ∀ l, l < 17 → ¬ (l = 3 ∨ l = 14 ∨ l = 15) → slN l ≤ 1 := by decide
theorem tB_15 : ∀ s, s < 3 → ∀ i, i < 3 → lwT (30 + 3 * s + i) = 0 ∧ hgT (30 + 3 * s + i) = 4 := by decide
section RDJ
variable {ln sl tm : Nat} {to : Nat → Bool} {t : Nat → Nat} {k : TkT} {tn p : Nat}
theorem stV_ok (R : RdO ln sl tm to t) (hl : ln < 17) (h8 : ¬ ln = 8) (h12 : ¬ ln = 12) (hs : ¬ sl = slN ln) (hw : ¬ (sl = 0 ∧ (ln = 14 ∨ ln = 15))) (e : (stV ln sl tm to t k).1 = 0) : RdK (stV ln sl tm to t k).2 := by
  obtain ⟨-, s1, m0, m1, m2, B, d, c, F⟩ := R
  have s1 := s1 hl
  unfold stV at e ⊢
  generalize k.2.1.toNat = v at e ⊢
  by_cases h1 : ¬ k.1 = 2
  · rw [if_pos h1] at e; simp at e
  rw [if_neg h1] at e ⊢
  by_cases h2 : v < (if ln = 3 ∧ sl = 1 then t 3 else loN ln) ∨ hiN ln < v
  · rw [if_pos h2] at e; simp at e
  rw [if_neg h2] at e ⊢
  by_cases h3 : ln = 15 ∧ sl = 3 ∧ ¬ t (tm - 2) + t (tm - 1) + v = 4
  · rw [if_pos h3] at e; simp at e
  rw [if_neg h3]
  clear e
  show RdO ln (sl + 1) (tm + 1) to (upt t tm v)
  by_cases c3 : ln = 3
  · subst c3
    have m0 := m0 hl (by omega) (by omega) h8 h12
    rw [show tmN 3 = 3 from rfl] at m0
    have e3 : slN 3 = 2 := rfl
    rw [show hiN 3 = 4 from rfl, show loN 3 = 0 from rfl] at h2
    have c' : ∀ s, s < 3 → upt t tm v (30 + 3 * s) + upt t tm v (31 + 3 * s) + upt t tm v (32 + 3 * s) = 4 := fun s hs => by
      rw [upt_n (by omega), upt_n (by omega), upt_n (by omega)]
      rcases c s hs with h | h <;> omega
    have z : sl = 0 ∨ sl = 1 := by omega
    refine ⟨by omega, fun _ => by omega, fun _ _ _ _ _ => by rw [show tmN 3 = 3 from rfl]; omega, fun q => absurd q (by omega), fun q => absurd q (by omega), tb_up B ?_ ?_, ?_, fun s hs => Or.inl (c' s hs), ?_⟩
    · rcases z with rfl | rfl
      · rw [show tm = 3 from m0]; exact Nat.zero_le _
      · rw [show tm = 4 from m0]; exact Nat.zero_le _
    · rcases z with rfl | rfl
      · rw [show tm = 3 from m0]; show v ≤ 4; omega
      · rw [show tm = 4 from m0]; show v ≤ 4; omega
    · intro q
      rcases z with rfl | rfl
      · exact absurd ⟨rfl, rfl⟩ q
      · rw [show tm = 4 from m0, upt_e, upt_n (by omega)]
        rw [if_pos ⟨rfl, rfl⟩] at h2
        omega
    · rw [upt_n (by omega)]; exact F
  have d' := d (by omega)
  rw [if_neg (fun q => c3 q.1)] at h2
  by_cases c14 : ln = 14
  · subst c14
    have e14 : slN 14 = 2 := rfl
    have z : sl = 1 := by omega
    subst z
    have mm := (m1 rfl).2 rfl
    rw [show hiN 14 = 60 from rfl, show loN 14 = 1 from rfl] at h2
    refine ⟨by omega, fun _ => by omega, fun _ q => absurd rfl q, fun _ => ⟨fun q => absurd q (by omega), fun q => absurd q (by omega)⟩, fun q => absurd q (by omega), tb_up B ?_ ?_, fun _ => ?_, fun s hs => Or.inl ?_, ?_⟩
    · have : tm = 20 ∨ tm = 21 ∨ tm = 22 := by omega
      rcases this with rfl | rfl | rfl <;> exact Nat.zero_le _
    · have : tm = 20 ∨ tm = 21 ∨ tm = 22 := by omega
      have vv : v ≤ 60 := by omega
      rcases this with rfl | rfl | rfl <;> exact vv
    · rw [upt_n (by omega), upt_n (by omega)]; exact d'
    · rw [upt_n (by omega), upt_n (by omega), upt_n (by omega)]
      rcases c s hs with h | h <;> omega
    · rw [upt_n (by omega)]; exact F
  by_cases c15 : ln = 15
  · subst c15
    have e15 : slN 15 = 4 := rfl
    obtain ⟨s0, hs0, mm⟩ : ∃ s, s < 3 ∧ tm = 30 + 3 * s + (sl - 1) := by
      have := (m2 rfl).2 (by omega) (by omega)
      exact ⟨(tm - 29 - sl) / 3, by omega, by omega⟩
    rw [show hiN 15 = 4 from rfl, show loN 15 = 0 from rfl] at h2
    have tB := tB_15 s0 hs0 (sl - 1) (by omega)
    refine ⟨by omega, fun _ => by omega, fun _ _ q => absurd rfl q, fun q => absurd q (by omega), fun _ => ⟨fun q => absurd q (by omega), fun _ q => by omega⟩, tb_up B (by rw [mm, tB.1]; omega) (by rw [mm, tB.2]; omega), fun _ => ?_, fun s hs => ?_, ?_⟩
    · rw [upt_n (by omega), upt_n (by omega)]; exact d'
    · by_cases es : s = s0
      · subst es
        by_cases e3 : sl = 3
        · left
          have : t (tm - 2) + t (tm - 1) + v = 4 := by
            apply Classical.byContradiction
            intro q
            exact h3 ⟨rfl, e3, q⟩
          rw [show 32 + 3 * s = tm by omega, upt_e, upt_n (by omega), upt_n (by omega), show 30 + 3 * s = tm - 2 by omega, show 31 + 3 * s = tm - 1 by omega]
          exact this
        · right
          omega
      · left
        rw [upt_n (by omega), upt_n (by omega), upt_n (by omega)]
        rcases c s hs with h | h
        · exact h
        · omega
    · rw [upt_n (by omega)]; exact F
  have m0 := m0 hl c14 c15 h8 h12
  have s2 := sN_a ln hl (by omega)
  have a1 := tN_a ln hl (by omega) (by omega)
  have a2 := tN_b ln hl (by omega) (by omega)
  have z : sl = 0 := by omega
  subst z
  rw [show tm = tmN ln by omega]
  refine ⟨by omega, fun _ => by omega, fun _ _ _ _ _ => by omega, fun q => absurd q c14, fun q => absurd q c15, tb_up B (by omega) (by omega), fun _ => ?_, fun s hs => Or.inl ?_, ?_⟩
  · rw [upt_n (by omega), upt_n (by omega)]; exact d'
  · rw [upt_n (by omega), upt_n (by omega), upt_n (by omega)]
    rcases c s hs with h | h <;> omega
  · rw [upt_n (by omega)]; exact F
theorem stp_ok {S : RdT} (R : RdK S) (e : (stp S k).1 = 0) : RdK (stp S k).2 := by
  obtain ⟨ln, sl, tm, to, t⟩ := S
  have R : RdO ln sl tm to t := R
  unfold stp at e ⊢
  dsimp only at e ⊢
  by_cases h0 : k.1 = 0
  · rw [if_pos h0] at e; simp at e
  rw [if_neg h0] at e ⊢
  by_cases h1 : ln = 17
  · subst h1
    rw [if_pos rfl] at e ⊢
    exact stN_ok R e
  rw [if_neg h1] at e ⊢
  have hl : ln < 17 := by have := R.1; omega
  by_cases h2 : sl = slN ln
  · rw [if_pos h2] at e ⊢
    exact stE_ok R hl h2 e
  rw [if_neg h2] at e ⊢
  by_cases h3 : ln = 8
  · subst h3
    rw [if_pos rfl] at e ⊢
    exact stM_ok R h2 e
  rw [if_neg h3] at e ⊢
  by_cases h4 : ln = 12
  · subst h4
    rw [if_pos rfl] at e ⊢
    exact stF_ok R h2 e
  rw [if_neg h4] at e ⊢
  by_cases h5 : sl = 0 ∧ (ln = 14 ∨ ln = 15)
  · rw [if_pos h5] at e ⊢
    obtain ⟨rfl, h5⟩ := h5
    exact stW_ok R h5 e
  rw [if_neg h5] at e ⊢
  exact stV_ok R hl h3 h4 h2 h5 e
end RDJ
/-! bits of what was told -/
def Tol (v : Int32) (n : Nat) (f : Nat → Bool) : Prop := ∀ k, k < n → ((v >>> ((jI (k : Int)) &&& 31)) &&& 1 = 1 ↔ f k = true)
theorem sh_k : ∀ k : Nat, k < 32 → ((jI (k : Int)) &&& 31).toBitVec.smod 32 = BitVec.ofNat 32 k := by decide +kernel
theorem tol_b (v : Int32) {k : Nat} (hk : k < 32) : ((v >>> ((jI (k : Int)) &&& 31)) &&& 1 = 1 ↔ v.toBitVec.getLsbD k = true) := by
  have e : ((v >>> ((jI (k : Int)) &&& 31)) &&& 1).toBitVec = (v.toBitVec.sshiftRight k) &&& 1#32 := by
    rw [Int32.toBitVec_and, Int32.toBitVec_shiftRight, sh_k k hk]
    show v.toBitVec.sshiftRight (BitVec.ofNat 32 k).toNat &&& 1#32 = _
    rw [BitVec.toNat_ofNat, Nat.mod_eq_of_lt (by omega)]
  rw [← Int32.toBitVec_inj, e]
  constructor
  · intro h
    have := congrArg (fun b => BitVec.getLsbD b 0) h
    rw [BitVec.getLsbD_and, BitVec.getLsbD_sshiftRight] at this
    have e1 : (1#32).getLsbD 0 = true := by decide
    rw [e1] at this
    simp at this
    rw [if_pos (by omega)] at this
    exact this
  · intro h
    apply BitVec.eq_of_getLsbD_eq
    intro i hi
    rw [BitVec.getLsbD_and, BitVec.getLsbD_sshiftRight]
    by_cases e0 : i = 0
    · subst e0
      simp [h]
      omega
    · have : (1#32).getLsbD i = false := by simp [BitVec.getLsbD_one]; omega
      rw [this, Bool.and_false]
      exact this.symm
theorem tol_0 (n : Nat) (hn : n ≤ 32) : Tol 0 n (fun _ => false) := by
  intro k hk
  rw [tol_b 0 (by omega)]
  simp
theorem tol_j : ∀ j : Nat, j < 32 → ((1 : Int32) <<< ((jI (j : Int)) &&& 31)).toBitVec = BitVec.twoPow 32 j := by decide +kernel
theorem tol_m {v : Int32} {n j : Nat} {f : Nat → Bool} (hn : n ≤ 32) (hj : j < 32) (T : Tol v n f) : Tol (v ||| ((1 : Int32) <<< ((jI (j : Int)) &&& 31))) n (mkd f j) := by
  intro k hk
  rw [tol_b _ (by omega), Int32.toBitVec_or, tol_j j hj, BitVec.getLsbD_or, BitVec.getLsbD_twoPow]
  have := T k hk
  rw [tol_b _ (by omega)] at this
  unfold mkd
  by_cases e : k = j
  · subst e
    rw [if_pos rfl]
    simp
    exact Or.inr (by omega)
  · rw [if_neg e, ← this]
    simp
    omega
