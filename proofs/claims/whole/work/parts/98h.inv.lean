/-! THE READER: what holds of its numbers; bits -/
def RdO (ln sl tm : Nat) (to : Nat → Bool) (t : Nat → Nat) : Prop := ln ≤ 17 ∧ (ln < 17 → sl ≤ slN ln) ∧ (ln < 17 → ¬ ln = 14 → ¬ ln = 15 → ¬ ln = 8 → ¬ ln = 12 → tm = tmN ln + sl) ∧ (ln = 14 → (sl = 0 → tm = 20) ∧ (sl = 1 → 20 ≤ tm ∧ tm ≤ 22)) ∧ (ln = 15 → (sl = 0 → tm = 30) ∧ (1 ≤ sl → sl ≤ 3 → 29 + sl ≤ tm ∧ tm ≤ 35 + sl ∧ (tm - 29 - sl) % 3 = 0)) ∧ (∀ k, k < 39 → lwT k ≤ t k ∧ t k ≤ hgT k) ∧ (¬ (ln = 3 ∧ sl = 1) → t 3 ≤ t 4) ∧ (∀ s, s < 3 → t (30 + 3 * s) + t (31 + 3 * s) + t (32 + 3 * s) = 4 ∨ (ln = 15 ∧ 2 ≤ sl ∧ sl ≤ 3 ∧ tm = 30 + 3 * s + (sl - 1))) ∧ (∀ w, w < 3 → (t 13 / 2 ^ w % 2 = 1 ↔ to (23 + w) = true))
def RdK (S : RdT) : Prop := RdO S.1 S.2.1 S.2.2.1 S.2.2.2.1 S.2.2.2.2
theorem rdo_0 : RdK rd0 := by
  refine ⟨Nat.le_refl _, fun h => absurd h (by decide), fun h => absurd h (by decide), fun h => absurd h (by decide), fun h => absurd h (by decide), ?_, fun _ => by decide, ?_, ?_⟩
  · show ∀ k, k < 39 → lwT k ≤ tp_t0 k ∧ tp_t0 k ≤ hgT k
    decide
  · intro s hs
    exact Or.inl (tp_t0_ok.2.2.2.2.2.2.2.2.2.2.2.2.2.2.2.2 s hs)
  · show ∀ w, w < 3 → (tp_t0 13 / 2 ^ w % 2 = 1 ↔ false = true)
    decide
theorem rdo_ok {sl tm : Nat} {to : Nat → Bool} {t : Nat → Nat} (R : RdO 17 sl tm to t) : tp_Ok t := by
  obtain ⟨-, -, -, -, -, B, d, c, -⟩ := R
  have b : ∀ k, k < 39 → ∀ a b, lwT k = a → hgT k = b → a ≤ t k ∧ t k ≤ b := fun k hk a b e1 e2 => by rw [← e1, ← e2]; exact B k hk
  have d := d (by omega)
  refine ⟨b 0 (by omega) _ _ rfl rfl, b 1 (by omega) _ _ rfl rfl, b 2 (by omega) _ _ rfl rfl, ⟨d, (b 4 (by omega) _ _ rfl rfl).2⟩, (b 5 (by omega) _ _ rfl rfl).2, b 6 (by omega) _ _ rfl rfl, (b 7 (by omega) _ _ rfl rfl).2, (b 8 (by omega) _ _ rfl rfl).2, (b 9 (by omega) _ _ rfl rfl).2, (b 10 (by omega) _ _ rfl rfl).2, (b 11 (by omega) _ _ rfl rfl).2, (b 12 (by omega) _ _ rfl rfl).2, (b 13 (by omega) _ _ rfl rfl).2, (b 14 (by omega) _ _ rfl rfl).2, (b 15 (by omega) _ _ rfl rfl).2, fun s hs => ?_, fun s hs => ?_⟩
  · have : s = 0 ∨ s = 1 ∨ s = 2 := by omega
    rcases this with rfl | rfl | rfl
    · exact (b 20 (by omega) _ _ rfl rfl).2
    · exact (b 21 (by omega) _ _ rfl rfl).2
    · exact (b 22 (by omega) _ _ rfl rfl).2
  · rcases c s hs with h | h
    · exact h
    · omega
theorem tb_up {t : Nat → Nat} (B : ∀ k, k < 39 → lwT k ≤ t k ∧ t k ≤ hgT k) {j v : Nat} (h1 : lwT j ≤ v) (h2 : v ≤ hgT j) : ∀ k, k < 39 → lwT k ≤ upt t j v k ∧ upt t j v k ≤ hgT k := by
  intro k hk
  by_cases e : k = j
  · subst e
    rw [upt_e]
    exact ⟨h1, h2⟩
  · rw [upt_n e]
    exact B k hk
theorem tmN_b1 : ∀ l, l < 17 → ¬ (l = 14 ∨ l = 15) → tmN l < 20 := by decide
theorem tmN_b2 : ∀ l, l < 17 → ¬ l = 3 → tmN l ≠ 3 ∧ tmN l ≠ 4 := by decide
theorem slN_b1 : ∀ l, l < 17 → slN l = 0 → (l = 10 ∨ l = 11) := by decide
theorem slN_b2 : ∀ l, l < 17 → slN l ≤ 4 := by decide
theorem tmN_b (l : Nat) (hl : l < 17) : (¬ l = 14 → ¬ l = 15 → tmN l < 20 ∧ (¬ l = 3 → tmN l ≠ 3 ∧ tmN l ≠ 4)) ∧ (slN l = 0 → (l = 10 ∨ l = 11)) ∧ slN l ≤ 4 := ⟨fun a b => ⟨tmN_b1 l hl (by omega), tmN_b2 l hl⟩, slN_b1 l hl, slN_b2 l hl⟩
theorem rd_bit1 : ∀ a : Nat, a < 8 → ∀ w : Nat, w < 3 → ¬ a / 2 ^ w % 2 = 1 → a + 2 ^ w ≤ 7 := by decide
theorem rd_bit2 : ∀ a : Nat, a < 8 → ∀ w : Nat, w < 3 → ∀ v : Nat, v < 3 → ¬ a / 2 ^ w % 2 = 1 → (a + 2 ^ w) / 2 ^ v % 2 = if v = w then 1 else a / 2 ^ v % 2 := by decide
theorem rd_bit (a : Nat) (ha : a < 8) (w : Nat) (hw : w < 3) (h : ¬ a / 2 ^ w % 2 = 1) : a + 2 ^ w ≤ 7 ∧ ∀ v : Nat, v < 3 → ((a + 2 ^ w) / 2 ^ v % 2 = 1 ↔ v = w ∨ a / 2 ^ v % 2 = 1) := ⟨rd_bit1 a ha w hw h, fun v hv => by rw [rd_bit2 a ha w hw v hv h]; split <;> omega⟩
section RDI
variable {ln sl tm : Nat} {to : Nat → Bool} {t : Nat → Nat} {k : TkT} {tn p : Nat}
theorem rdo_mk {j : Nat} (hj : j < 23) (F : ∀ w, w < 3 → (t 13 / 2 ^ w % 2 = 1 ↔ to (23 + w) = true)) : ∀ w, w < 3 → (t 13 / 2 ^ w % 2 = 1 ↔ mkd to j (23 + w) = true) := by
  intro w hw
  unfold mkd
  rw [if_neg (by omega)]
  exact F w hw
theorem stN_ok (R : RdO 17 sl tm to t) (e : (stN to t k).1 = 0) : RdK (stN to t k).2 := by
  obtain ⟨-, -, -, -, -, B, d, c, F⟩ := R
  have d := d (by omega)
  have c' : ∀ s, s < 3 → t (30 + 3 * s) + t (31 + 3 * s) + t (32 + 3 * s) = 4 := fun s hs => by rcases c s hs with h | h <;> omega
  unfold stN at e ⊢
  generalize k.2.1.toNat = v at e ⊢
  split at e
  · simp at e
  next h1 =>
  split at e
  · simp at e
  next h2 =>
  rw [if_neg h1, if_neg h2]
  have tb := tmN_b v (by omega)
  split at e
  · next h3 =>
    rw [if_pos h3]
    refine ⟨by show v ≤ 17; omega, fun _ => Nat.zero_le _, fun _ a b c d => ?_, fun e => ⟨fun _ => ?_, fun q => absurd (show 0 = 1 from q) (by omega)⟩, fun e => ⟨fun _ => ?_, fun q => absurd q (by show ¬ 1 ≤ 0; omega)⟩, B, fun _ => d, fun s hs => Or.inl (c' s hs), F⟩
    · rfl
    · show tmN v = 20
      rw [show v = 14 from e]; rfl
    · show tmN v = 30
      rw [show v = 15 from e]; rfl
  · next h3 =>
    split at e
    · simp at e
    next h4 =>
    rw [if_neg h3, if_neg h4]
    have t1 := tb.1 (by omega) (by omega)
    refine ⟨by show v ≤ 17; omega, fun _ => Nat.zero_le _, fun _ a b c d => rfl, fun e => absurd (show v = 14 from e) (by omega), fun e => absurd (show v = 15 from e) (by omega), ?_, fun _ => ?_, fun s hs => Or.inl ?_, ?_⟩
    · show ∀ k, k < 39 → lwT k ≤ (if slN v = 0 then upt t (tmN v) 1 else t) k ∧ (if slN v = 0 then upt t (tmN v) 1 else t) k ≤ hgT k
      split
      · next h5 =>
        have := tb.2.1 h5
        rcases this with rfl | rfl <;> exact tb_up B (by decide) (by decide)
      · exact B
    · show (if slN v = 0 then upt t (tmN v) 1 else t) 3 ≤ (if slN v = 0 then upt t (tmN v) 1 else t) 4
      split
      · next h5 =>
        have := t1.2 (by intro q; rw [q] at h5; exact absurd h5 (by decide))
        rw [upt_n (by omega), upt_n (by omega)]
        exact d
      · exact d
    · show (if slN v = 0 then upt t (tmN v) 1 else t) (30 + 3 * s) + (if slN v = 0 then upt t (tmN v) 1 else t) (31 + 3 * s) + (if slN v = 0 then upt t (tmN v) 1 else t) (32 + 3 * s) = 4
      split
      · rw [upt_n (by omega), upt_n (by omega), upt_n (by omega)]
        exact c' s hs
      · exact c' s hs
    · show ∀ w, w < 3 → ((if slN v = 0 then upt t (tmN v) 1 else t) 13 / 2 ^ w % 2 = 1 ↔ mkd to v (23 + w) = true)
      have e13 : (if slN v = 0 then upt t (tmN v) 1 else t) 13 = t 13 := by
        split
        · next h5 =>
          have := tb.2.1 h5
          rcases this with rfl | rfl <;> exact upt_n (by decide)
        · rfl
      rw [e13]
      exact rdo_mk (by omega) F
theorem stE_ok (R : RdO ln sl tm to t) (hl : ln < 17) (hs : sl = slN ln) (e : (stE sl tm to t k).1 = 0) : RdK (stE sl tm to t k).2 := by
  obtain ⟨-, -, -, -, -, B, d, c, F⟩ := R
  unfold stE at e ⊢
  split at e
  · simp at e
  next h1 =>
  rw [if_neg h1]
  refine ⟨Nat.le_refl _, fun h => absurd h (by show ¬ 17 < 17; omega), fun h => absurd h (by show ¬ 17 < 17; omega), fun h => absurd h (by show ¬ 17 = 14; omega), fun h => absurd h (by show ¬ 17 = 15; omega), B, fun _ => d ?_, fun s hs' => Or.inl ?_, F⟩
  · rintro ⟨rfl, e⟩
    rw [e] at hs
    exact absurd hs (by decide)
  · rcases c s hs' with h | ⟨rfl, h2, h3, h4⟩
    · exact h
    · rw [hs] at h3
      exact absurd h3 (by decide)
theorem stM_ok (R : RdO 8 sl tm to t) (hs : ¬ sl = slN 8) (e : (stM sl tm to t k).1 = 0) : RdK (stM sl tm to t k).2 := by
  obtain ⟨-, s1, -, -, -, B, d, c, F⟩ := R
  have s1 := s1 (by omega)
  have d := d (by omega)
  have e8 : slN 8 = 1 := rfl
  unfold stM at e ⊢
  generalize k.2.1.toNat = v at e ⊢
  split at e
  · simp at e
  next h1 =>
  rw [if_neg h1]
  rw [Classical.not_not] at h1
  refine ⟨by show 8 ≤ 17; omega, fun _ => (by show sl + 1 ≤ slN 8; omega), fun _ _ _ q => absurd rfl q, fun e => absurd (show 8 = 14 from e) (by omega), fun e => absurd (show 8 = 15 from e) (by omega), tb_up B (by show lwT 9 ≤ v - 16; rw [show lwT 9 = 0 from rfl]; omega) (by show v - 16 ≤ hgT 9; rw [show hgT 9 = 2 from rfl]; omega), fun _ => ?_, fun s hs => Or.inl ?_, ?_⟩
  · show upt t 9 (v - 16) 3 ≤ upt t 9 (v - 16) 4
    rw [upt_n (by omega), upt_n (by omega)]; exact d
  · show upt t 9 (v - 16) (30 + 3 * s) + upt t 9 (v - 16) (31 + 3 * s) + upt t 9 (v - 16) (32 + 3 * s) = 4
    rw [upt_n (by omega), upt_n (by omega), upt_n (by omega)]
    rcases c s hs with h | h <;> omega
  · show ∀ w, w < 3 → (upt t 9 (v - 16) 13 / 2 ^ w % 2 = 1 ↔ to (23 + w) = true)
    rw [upt_n (by omega)]
    exact F
theorem stF_ok (R : RdO 12 sl tm to t) (hs : ¬ sl = slN 12) (e : (stF sl tm to t k).1 = 0) : RdK (stF sl tm to t k).2 := by
  obtain ⟨-, s1, -, -, -, B, d, c, F⟩ := R
  have s1 := s1 (by omega)
  have d := d (by omega)
  have e8 : slN 12 = 1 := rfl
  have b13 := (B 13 (by omega)).2
  rw [show hgT 13 = 7 from rfl] at b13
  unfold stF at e ⊢
  generalize k.2.1.toNat = v at e ⊢
  split at e
  · simp at e
  next h1 =>
  split at e
  · simp at e
  next h2 =>
  rw [if_neg h1, if_neg h2]
  rw [Classical.not_not] at h1
  have f0 : ¬ t 13 / 2 ^ (v - 19) % 2 = 1 := fun q => h2 (by rw [show 4 + v = 23 + (v - 19) by omega]; exact (F (v - 19) (by omega)).mp q)
  have rb := rd_bit (t 13) (by omega) (v - 19) (by omega) f0
  refine ⟨by show 12 ≤ 17; omega, fun _ => (by show sl + 1 ≤ slN 12; omega), fun _ _ _ _ q => absurd rfl q, fun e => absurd (show 12 = 14 from e) (by omega), fun e => absurd (show 12 = 15 from e) (by omega), tb_up B (by rw [show lwT 13 = 0 from rfl]; exact Nat.zero_le _) (by rw [show hgT 13 = 7 from rfl]; exact rb.1), fun _ => ?_, fun s hs => Or.inl ?_, ?_⟩
  · show upt t 13 (t 13 + 2 ^ (v - 19)) 3 ≤ upt t 13 (t 13 + 2 ^ (v - 19)) 4
    rw [upt_n (by omega), upt_n (by omega)]; exact d
  · show upt t 13 (t 13 + 2 ^ (v - 19)) (30 + 3 * s) + upt t 13 (t 13 + 2 ^ (v - 19)) (31 + 3 * s) + upt t 13 (t 13 + 2 ^ (v - 19)) (32 + 3 * s) = 4
    rw [upt_n (by omega), upt_n (by omega), upt_n (by omega)]
    rcases c s hs with h | h <;> omega
  · show ∀ w, w < 3 → (upt t 13 (t 13 + 2 ^ (v - 19)) 13 / 2 ^ w % 2 = 1 ↔ mkd to (4 + v) (23 + w) = true)
    intro w hw
    show upt t 13 (t 13 + 2 ^ (v - 19)) 13 / 2 ^ w % 2 = 1 ↔ mkd to (4 + v) (23 + w) = true
    rw [upt_e, rb.2 w hw, F w hw]
    unfold mkd
    by_cases e : w = v - 19
    · rw [if_pos (by omega)]
      exact ⟨fun _ => rfl, fun _ => Or.inl e⟩
    · rw [if_neg (by omega)]
      exact ⟨fun q => q.resolve_left e, Or.inr⟩
theorem stW_ok (R : RdO ln 0 tm to t) (hl : ln = 14 ∨ ln = 15) (e : (stW ln tm to t k).1 = 0) : RdK (stW ln tm to t k).2 := by
  obtain ⟨-, -, -, m1, m2, B, d, c, F⟩ := R
  have d := d (by omega)
  unfold stW at e ⊢
  generalize k.2.1.toNat = v at e ⊢
  have hb : 2 < v ∨ (if ln = 14 then 17 else 20) + v < 23 := by split <;> omega
  generalize (if ln = 14 then 17 else 20) + v = b at e hb ⊢
  split at e
  · simp at e
  next h1 =>
  split at e
  · simp at e
  next h2 =>
  split at e
  · simp at e
  next h3 =>
  rw [if_neg h1, if_neg h2, if_neg h3]
  refine ⟨by show ln ≤ 17; omega, fun _ => (by show 1 ≤ slN ln; rcases hl with rfl | rfl <;> decide), fun _ a b _ _ => absurd hl (by have a : ¬ ln = 14 := a; have b : ¬ ln = 15 := b; omega), fun e => ⟨fun q => absurd (show 1 = 0 from q) (by omega), fun _ => ?_⟩, fun e => ⟨fun q => absurd (show 1 = 0 from q) (by omega), fun _ _ => ?_⟩, B, fun _ => d, fun s hs => Or.inl ?_, rdo_mk (by omega) F⟩
  · have e : ln = 14 := e
    have := (m1 e).1 rfl
    show 20 ≤ tm + (if ln = 14 then 1 else 3) * v ∧ tm + (if ln = 14 then 1 else 3) * v ≤ 22
    rw [if_pos e]
    omega
  · have e : ln = 15 := e
    have := (m2 e).1 rfl
    show 29 + 1 ≤ tm + (if ln = 14 then 1 else 3) * v ∧ tm + (if ln = 14 then 1 else 3) * v ≤ 35 + 1 ∧ (tm + (if ln = 14 then 1 else 3) * v - 29 - 1) % 3 = 0
    rw [if_neg (by omega)]
    omega
  · rcases c s hs with h | h <;> omega
end RDI
