/-! FRACTIONS: the class halves, the model takes the greatest common part -/
theorem jL_bit (x : Int64) : (x &&& 1) = 0 ↔ x.toInt % 2 = 0 := by
  have h : (x &&& 1).toUInt64.toNat = x.toUInt64.toNat % 2 := by
    show (x.toUInt64 &&& Int64.toUInt64 1).toNat = _
    rw [UInt64.toNat_and]
    exact Nat.and_two_pow_sub_one_eq_mod _ 1
  have hi : x.toInt = if 2 * x.toUInt64.toNat < 18446744073709551616 then (x.toUInt64.toNat : Int) else (x.toUInt64.toNat : Int) - 18446744073709551616 := BitVec.toInt_eq_toNat_cond _
  have hz : (x &&& 1) = 0 ↔ (x &&& 1).toUInt64.toNat = 0 := ⟨fun z => by rw [z]; rfl, fun z => congrArg UInt64.toInt64 (UInt64.toNat_inj.mp (z.trans rfl))⟩
  rw [hz, h, hi]
  split <;> omega
theorem jL_and1 {v : Int} (h1 : -9223372036854775808 ≤ v) (h2 : v < 9223372036854775808) : (jL v &&& 1) = 0 ↔ v % 2 = 0 := by rw [jL_bit, jL_toInt h1 h2]
theorem jL_half {v : Int} (h1 : -9223372036854775808 ≤ v) (h2 : v < 9223372036854775808) : jL v >>> ((1 : Int32).toInt64 &&& 63) = jL (v / 2) := by
  have hD : (((1 : Int32).toInt64 &&& 63).toBitVec.smod 64).toNat = 1 := by decide
  apply Int64.toInt_inj.mp
  have e : (jL v >>> ((1 : Int32).toInt64 &&& 63)).toInt = (jL v).toInt >>> 1 := by
    rw [← hD]
    exact BitVec.toInt_sshiftRight ..
  rw [e, Int.shiftRight_eq_div_pow, jL_toInt h1 h2, jL_toInt (by omega) (by omega)]
  rfl
theorem jL_divx {g n : Int} (hg : 0 < g) (g2 : g < 9223372036854775808) (n1 : -9223372036854775808 ≤ n) (n2 : n < 9223372036854775808) (h1 : -9223372036854775808 ≤ n * g) (h2 : n * g < 9223372036854775808) : jL (n * g) / jL g = jL n := by
  apply Int64.toInt_inj.mp
  rw [Int64.toInt_div, jL_toInt h1 h2, jL_toInt (by omega) g2, jL_toInt n1 n2, Int.mul_tdiv_cancel _ (by omega)]
  show Int.bmod n 18446744073709551616 = n
  rw [Int.bmod_def]
  split <;> omega
theorem jshl2 : ∀ k : Nat, k < 41 → ((1 : Int64) <<< ((jI (k : Int)).toInt64 &&& 63)) = jL (2 ^ k) := by decide
def tp_nu : Nat → Int → Int
  | 0, v => v
  | n + 1, v => if v % 2 = 0 then tp_nu n (v / 2) else v
def tp_de : Nat → Int → Nat
  | 0, _ => 0
  | n + 1, v => if v % 2 = 0 then tp_de n (v / 2) else n + 1
theorem tp_de_le : ∀ n v, tp_de n v ≤ n
  | 0, _ => Nat.le_refl 0
  | n + 1, v => by
    unfold tp_de
    split
    · have := tp_de_le n (v / 2); omega
    · omega
section FRC
variable {E : Nat → Nat} {h : ZH} {Q : Option Value → ZH → Prop}
theorem l128 {d w : Nat} (hw : w < 2) : ∀ n (v : Int), n ≤ 40 → -9223372036854775808 ≤ v → v < 9223372036854775808 → Q (some (.long (if w = 0 then jL (tp_nu n v) else jL (2 ^ tp_de n v)))) h → wl_128_6 E d Q (n + 1) (jI (w : Int)) (jL v) (jI (n : Int)) h
  | 0, v, hn, h1, h2, q => by
    rw [wl_128_6]
    refine ⟨fun _ => ?_, fun c => absurd (by decide) c⟩
    refine ek_v (P := fun z => Q (some (.long z)) h) ?_ q
    rw [jshl2 0 (by omega), show (0 : Int32) = jI ((0 : Nat) : Int) from rfl]
    by_cases c : w = 0
    · rw [if_pos c, if_neg (by rw [jI_eqn (by omega) (by omega)]; omega)]; rfl
    · rw [if_neg c, if_pos (by rw [jI_eqn (by omega) (by omega)]; omega)]; rfl
  | n + 1, v, hn, h1, h2, q => by
    rw [wl_128_6]
    refine ⟨fun c => ?_, fun _ => ⟨fun c => ?_, fun c => nm_r (jL_half h1 h2) (nm_r (e' := jI (n : Int)) ?_ (l128 hw n (v / 2) (by omega) (by omega) (by omega) ?_))⟩⟩
    · exfalso
      rw [show (0 : Int32) = jI ((0 : Nat) : Int) from rfl, jI_len (by omega) (by omega)] at c
      omega
    · rw [jL_and1 h1 h2] at c
      refine ek_v (P := fun z => Q (some (.long z)) h) ?_ q
      unfold tp_nu tp_de
      rw [if_neg c, if_neg c, jshl2 _ (by omega), show (0 : Int32) = jI ((0 : Nat) : Int) from rfl]
      by_cases c2 : w = 0
      · rw [if_pos c2, if_neg (by rw [jI_eqn (by omega) (by omega)]; omega)]
      · rw [if_neg c2, if_pos (by rw [jI_eqn (by omega) (by omega)]; omega)]
    · rw [show ((-1) : Int32) = jI (-1) from rfl, jI_add]
      congr 1
      omega
    · have c' := Classical.not_not.mp c
      rw [jL_and1 h1 h2] at c'
      unfold tp_nu tp_de at q
      rw [if_pos c', if_pos c'] at q
      exact q
theorem ct_128 {d w days : Nat} {v : Int} (hd : 1 ≤ d) (hw : w < 2) (hdy : days ≤ 20) (h1 : -9223372036854775808 ≤ v) (h2 : v < 9223372036854775808) (q : Q (some (.long (if w = 0 then jL (tp_nu (2 * days) v) else jL (2 ^ tp_de (2 * days) v)))) h) : Ct E d 128 [.long (jL v), .int (jI (days : Int)), .int (jI (w : Int))] h Q := by
  obtain ⟨d, rfl⟩ : ∃ n, d = n + 1 := ⟨d - 1, by omega⟩
  exact ok_128 (nm_r (e' := jI ((2 * days : Nat) : Int)) (by rw [show (2 : Int32) = jI 2 from rfl, jI_mul]; rfl) ⟨2 * days + 1, l128 hw (2 * days) v (by omega) h1 h2 q⟩)
theorem tp_gcd : ∀ n (v : Int), ∃ k, Nat.gcd v.natAbs (2 ^ n) = 2 ^ k ∧ v = tp_nu n v * 2 ^ k ∧ tp_de n v + k = n
  | 0, v => ⟨0, by simp, by simp [tp_nu], rfl⟩
  | n + 1, v => by
    by_cases c : v % 2 = 0
    · obtain ⟨k, e1, e2, e3⟩ := tp_gcd n (v / 2)
      refine ⟨k + 1, ?_, ?_, ?_⟩
      · have hv : v.natAbs = 2 * (v / 2).natAbs := by omega
        rw [hv, Nat.pow_succ, Nat.mul_comm (2 ^ n) 2, Nat.gcd_mul_left, e1, Nat.pow_succ, Nat.mul_comm]
      · unfold tp_nu
        rw [if_pos c, Int.pow_succ, ← Int.mul_assoc, ← e2]
        omega
      · unfold tp_de
        rw [if_pos c]
        omega
    · refine ⟨0, ?_, ?_, ?_⟩
      · have h2 : Nat.Coprime v.natAbs 2 := by
          show Nat.gcd v.natAbs 2 = 1
          rw [Nat.gcd_comm, Nat.gcd_rec]
          have : v.natAbs % 2 = 1 := by omega
          rw [this]
          decide
        exact Nat.Coprime.pow_right (n + 1) h2
      · unfold tp_nu
        rw [if_neg c]
        simp
      · unfold tp_de
        rw [if_neg c]
theorem l184 {d : Nat} {u0 d0 : Int64} {w : Int32} : ∀ (b a : Nat), a < 9223372036854775808 → b < 9223372036854775808 → wb_184_24 E d Q u0 d0 w (jL ((Nat.gcd a b : Nat) : Int)) h → ∃ mm, wl_184_11 E d Q mm u0 d0 w (jL (a : Int)) (jL (b : Int)) h := by
  intro b
  induction b using Nat.strongRecOn with
  | ind b ih =>
    intro a ha hb q
    by_cases c : b = 0
    · subst c
      refine ⟨1, ?_⟩
      rw [wl_184_11]
      refine ⟨fun _ => ?_, fun c => absurd rfl c⟩
      rw [Nat.gcd_zero_right] at q
      exact q
    · have hm : a % b < b := Nat.mod_lt _ (by omega)
      have hg : Nat.gcd b (a % b) = Nat.gcd a b := by rw [Nat.gcd_comm a b, Nat.gcd_rec b a, Nat.gcd_comm]
      obtain ⟨mm, hmm⟩ := ih (a % b) hm b hb (by omega) (by rw [hg]; exact q)
      refine ⟨mm + 1, ?_⟩
      have hne : ¬ jL (b : Int) = 0 := by
        rw [show (0 : Int64) = jL 0 from rfl, jL_eq (by omega) (by omega) (by omega) (by omega)]
        omega
      rw [wl_184_11]
      refine ⟨fun z => absurd z hne, fun _ => ⟨hne, nm_r (e' := jL ((a % b : Nat) : Int)) ?_ hmm⟩⟩
      rw [← jL_n, ← jL_n, ← jL_n]
      exact pk_lRem ha (by omega) hb
theorem ct_184 {d w n : Nat} {v : Int} (hd : 1 ≤ d) (hw : w < 2) (hn : n ≤ 40) (h1 : -9223372036854775808 < v) (h2 : v < 9223372036854775808) (q : Q (some (.long (if w = 0 then jL (tp_nu n v) else jL (2 ^ tp_de n v)))) h) : Ct E d 184 [.long (jL v), .long (jL (2 ^ n)), .int (jI (w : Int))] h Q := by
  obtain ⟨d, rfl⟩ : ∃ n, d = n + 1 := ⟨d - 1, by omega⟩
  have hp : (2 : Nat) ^ n ≤ 2 ^ 40 := Nat.pow_le_pow_right (by omega) hn
  have hp' : (2 : Nat) ^ n < 9223372036854775808 := Nat.lt_of_le_of_lt hp (by decide)
  obtain ⟨k, e1, e2, e3⟩ := tp_gcd n v
  have hk : (2 : Nat) ^ k ≤ 2 ^ 40 := Nat.pow_le_pow_right (by omega) (by omega)
  have hk0 : 0 < (2 : Nat) ^ k := Nat.pos_of_ne_zero (by simp)
  have hkz : ((2 : Int) ^ k) = ((2 ^ k : Nat) : Int) := by simp
  have hnz : ((2 : Int) ^ n) = ((2 ^ n : Nat) : Int) := by simp
  have hk40 : (2 : Nat) ^ 40 = 1099511627776 := by decide
  refine ok_184 (nm_r (e' := jL ((v.natAbs : Nat) : Int)) ?_ ?_)
  · rw [show (0 : Int64) = jL 0 from rfl]
    simp (disch := omega) only [jL_le, jL_neg]
    split
    · congr 1; omega
    · congr 1; omega
  · rw [hnz]
    refine l184 (2 ^ n) v.natAbs (by omega) hp' ?_
    rw [e1]
    refine ⟨?_, ?_⟩
    · rw [show (0 : Int64) = jL 0 from rfl, jL_eq (by omega) (by omega) (by omega) (by omega)]
      omega
    · refine ek_v (P := fun z => Q (some (.long z)) h) ?_ q
      rw [show (0 : Int32) = jI ((0 : Nat) : Int) from rfl]
      by_cases c : w = 0
      · rw [if_pos c, if_neg (by rw [jI_eqn (by omega) (by omega)]; omega)]
        have hb : (tp_nu n v).natAbs ≤ v.natAbs := by
          have e := congrArg Int.natAbs e2
          rw [Int.natAbs_mul, hkz] at e
          rw [e]
          exact Nat.le_mul_of_pos_right _ (by simpa using hk0)
        rw [hkz] at e2
        have := jL_divx (g := ((2 ^ k : Nat) : Int)) (n := tp_nu n v) (by omega) (by omega) (by omega) (by omega) (by rw [← e2]; omega) (by rw [← e2]; omega)
        rw [← e2] at this
        exact this
      · rw [if_neg c, if_pos (by rw [jI_eqn (by omega) (by omega)]; omega)]
        have hsplit : (2 : Nat) ^ n = 2 ^ tp_de n v * 2 ^ k := by rw [← Nat.pow_add, e3]
        have hdz : ((2 : Int) ^ tp_de n v) = ((2 ^ tp_de n v : Nat) : Int) := by simp
        have hd40 : (2 : Nat) ^ tp_de n v ≤ 2 ^ 40 := Nat.pow_le_pow_right (by omega) (by omega)
        have hsz : ((2 ^ n : Nat) : Int) = ((2 ^ tp_de n v : Nat) : Int) * ((2 ^ k : Nat) : Int) := by rw [hsplit, Int.natCast_mul]
        have hd0 : 0 < (2 : Nat) ^ tp_de n v := Nat.pos_of_ne_zero (by simp)
        rw [hk40] at hd40 hk
        rw [hdz]
        generalize (2 ^ tp_de n v : Nat) = D at hsz hd40 hd0 ⊢
        generalize (2 ^ k : Nat) = K at hsz hk hk0 ⊢
        generalize (2 ^ n : Nat) = M at hsz hp' ⊢
        have g1 : -9223372036854775808 ≤ (D : Int) * (K : Int) := by rw [← hsz]; omega
        have g2 : (D : Int) * (K : Int) < 9223372036854775808 := by rw [← hsz]; omega
        rw [hsz]
        exact jL_divx (by omega) (by omega) (by omega) (by omega) g1 g2
end FRC
/-- four times as much of a number of parts that is four times as large -/
theorem tp_nu_4 (n : Nat) (v : Int) : tp_nu (n + 2) (4 * v) = tp_nu n v ∧ tp_de (n + 2) (4 * v) = tp_de n v := by
  have h1 : (4 * v) % 2 = 0 := by omega
  have h2 : (4 * v / 2) % 2 = 0 := by omega
  have h3 : 4 * v / 2 / 2 = v := by omega
  refine ⟨?_, ?_⟩
  · show (if (4 * v) % 2 = 0 then (if (4 * v / 2) % 2 = 0 then tp_nu n (4 * v / 2 / 2) else 4 * v / 2) else 4 * v) = _
    rw [if_pos h1, if_pos h2, h3]
  · show (if (4 * v) % 2 = 0 then (if (4 * v / 2) % 2 = 0 then tp_de n (4 * v / 2 / 2) else n + 1) else n + 1 + 1) = _
    rw [if_pos h1, if_pos h2, h3]
