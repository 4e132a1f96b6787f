/-! NUMBERS: jI z, jL z: a whole number as an int, as a long -/
def jI (z : Int) : Int32 := Int32.ofInt z
def jL (z : Int) : Int64 := Int64.ofInt z
theorem jI_add (a b : Int) : jI a + jI b = jI (a + b) := by unfold jI; rw [Int32.ofInt_add]
theorem jI_sub (a b : Int) : jI a - jI b = jI (a - b) := by unfold jI; rw [Int32.ofInt_sub]
theorem jI_mul (a b : Int) : jI a * jI b = jI (a * b) := by unfold jI; rw [Int32.ofInt_mul]
theorem jI_neg (a : Int) : - jI a = jI (-a) := by unfold jI; rw [Int32.ofInt_neg]
theorem jL_add (a b : Int) : jL a + jL b = jL (a + b) := by unfold jL; rw [Int64.ofInt_add]
theorem jL_sub (a b : Int) : jL a - jL b = jL (a - b) := by unfold jL; rw [Int64.ofInt_sub]
theorem jL_mul (a b : Int) : jL a * jL b = jL (a * b) := by unfold jL; rw [Int64.ofInt_mul]
theorem jL_neg (a : Int) : - jL a = jL (-a) := by unfold jL; rw [Int64.ofInt_neg]
theorem jI_toInt {a : Int} (h : -2147483648 ≤ a) (h' : a < 2147483648) : (jI a).toInt = a := by
  unfold jI
  rw [Int32.toInt_ofInt]
  have e : (Int32.size : Int) = 4294967296 := rfl
  first
    | (rw [e]; rw [Int.bmod_eq_of_le (by omega) (by omega)])
    | (show Int.bmod a 4294967296 = a; rw [Int.bmod_def]; split <;> omega)
theorem jL_toInt {a : Int} (h : -9223372036854775808 ≤ a) (h' : a < 9223372036854775808) : (jL a).toInt = a := by
  unfold jL
  rw [Int64.toInt_ofInt]
  show Int.bmod a 18446744073709551616 = a
  rw [Int.bmod_def]
  split <;> omega
theorem jI_lt {a b : Int} (h : -2147483648 ≤ a) (h' : a < 2147483648) (g : -2147483648 ≤ b) (g' : b < 2147483648) : jI a < jI b ↔ a < b := by rw [Int32.lt_iff_toInt_lt, jI_toInt h h', jI_toInt g g']
theorem jI_le {a b : Int} (h : -2147483648 ≤ a) (h' : a < 2147483648) (g : -2147483648 ≤ b) (g' : b < 2147483648) : jI a ≤ jI b ↔ a ≤ b := by rw [Int32.le_iff_toInt_le, jI_toInt h h', jI_toInt g g']
theorem jI_eq {a b : Int} (h : -2147483648 ≤ a) (h' : a < 2147483648) (g : -2147483648 ≤ b) (g' : b < 2147483648) : jI a = jI b ↔ a = b := by rw [← Int32.toInt_inj, jI_toInt h h', jI_toInt g g']
theorem jL_lt {a b : Int} (h : -9223372036854775808 ≤ a) (h' : a < 9223372036854775808) (g : -9223372036854775808 ≤ b) (g' : b < 9223372036854775808) : jL a < jL b ↔ a < b := by rw [Int64.lt_iff_toInt_lt, jL_toInt h h', jL_toInt g g']
theorem jL_le {a b : Int} (h : -9223372036854775808 ≤ a) (h' : a < 9223372036854775808) (g : -9223372036854775808 ≤ b) (g' : b < 9223372036854775808) : jL a ≤ jL b ↔ a ≤ b := by rw [Int64.le_iff_toInt_le, jL_toInt h h', jL_toInt g g']
theorem jL_eq {a b : Int} (h : -9223372036854775808 ≤ a) (h' : a < 9223372036854775808) (g : -9223372036854775808 ≤ b) (g' : b < 9223372036854775808) : jL a = jL b ↔ a = b := by rw [← Int64.toInt_inj, jL_toInt h h', jL_toInt g g']
theorem jI_of (x : Int32) : ∃ z : Int, -2147483648 ≤ z ∧ z < 2147483648 ∧ x = jI z := by
  refine ⟨x.toInt, ?_, ?_, ?_⟩
  · have := Int32.le_toInt x; simpa using this
  · have := Int32.toInt_lt x; simpa using this
  · unfold jI; rw [Int32.ofInt_toInt]
theorem jL_of (x : Int64) : ∃ z : Int, -9223372036854775808 ≤ z ∧ z < 9223372036854775808 ∧ x = jL z := by
  refine ⟨x.toInt, ?_, ?_, ?_⟩
  · have := Int64.le_toInt x; simpa using this
  · have := Int64.toInt_lt x; simpa using this
  · unfold jL; rw [Int64.ofInt_toInt]
theorem jI_n (n : Nat) : nI n = jI (n : Int) := by
  unfold jI nI
  rw [Int32.ofInt_eq_ofNat]
theorem jL_n (n : Nat) : lN n = jL (n : Int) := by
  unfold jL lN
  rw [Int64.ofInt_eq_ofNat]
theorem jI_cl {a : Int} (h : -2147483648 ≤ a) (h' : a < 2147483648) : (jI a).toNatClampNeg = a.toNat := by
  show (jI a).toInt.toNat = a.toNat
  rw [jI_toInt h h']
theorem jI_toL {a : Int} (h : -2147483648 ≤ a) (h' : a < 2147483648) : (jI a).toInt64 = jL a := by
  rw [← Int64.toInt_inj, Int32.toInt_toInt64, jI_toInt h h', jL_toInt (by omega) (by omega)]
theorem jL_toI (a : Int) : (jL a).toInt32 = jI a := by
  unfold jL jI
  rw [Int64.toInt32_ofInt]
theorem jI_div {a b : Nat} (ha : a < 2147483648) (h0 : 0 < b) (hb : b < 2147483648) : jI (a : Int) / jI (b : Int) = jI ((a / b : Nat) : Int) := by
  rw [← jI_n, ← jI_n, ← jI_n]
  exact pk_div ha h0 hb
theorem jI_rem {a b : Nat} (ha : a < 2147483648) (h0 : 0 < b) (hb : b < 2147483648) : jI (a : Int) - jI (a : Int) / jI (b : Int) * jI (b : Int) = jI ((a % b : Nat) : Int) := by
  rw [← jI_n, ← jI_n, ← jI_n]
  exact pk_rem ha h0 hb
theorem zin_j {a : Int} {n : Nat} (h : 0 ≤ a) (h' : a < n) (hn : n ≤ 1000000) : zin (jI a) n = true := by
  unfold zin
  rw [jI_cl (by omega) (by omega)]
  have h0 : (0 : Int32) ≤ jI a := by
    show jI 0 ≤ jI a
    rw [jI_le (by omega) (by omega) (by omega) (by omega)]
    exact h
  have h2 : a.toNat < n := by omega
  simp [h0, h2]
theorem zmax_j {a b : Int} (h : -2147483648 ≤ a) (h' : a < 2147483648) (g : -2147483648 ≤ b) (g' : b < 2147483648) : zmax (jI a) (jI b) = jI (max a b) := by
  unfold zmax
  simp only [jI_lt h h' g g']
  split
  · next hc => rw [Int.max_eq_right (by omega)]
  · next hc => rw [Int.max_eq_left (by omega)]
theorem zmin_j {a b : Int} (h : -2147483648 ≤ a) (h' : a < 2147483648) (g : -2147483648 ≤ b) (g' : b < 2147483648) : zmin (jI a) (jI b) = jI (min a b) := by
  unfold zmin
  simp only [jI_lt g g' h h']
  split
  · next hc => rw [Int.min_eq_right (by omega)]
  · next hc => rw [Int.min_eq_left (by omega)]
theorem jlits : (0 : Int32) = jI 0 ∧ (1 : Int32) = jI 1 ∧ (2 : Int32) = jI 2 ∧ (3 : Int32) = jI 3 ∧ (4 : Int32) = jI 4 ∧ (5 : Int32) = jI 5 ∧ (6 : Int32) = jI 6 ∧ (7 : Int32) = jI 7 ∧ (8 : Int32) = jI 8 ∧ (9 : Int32) = jI 9 ∧ (10 : Int32) = jI 10 ∧ (11 : Int32) = jI 11 ∧ (12 : Int32) = jI 12 ∧ (13 : Int32) = jI 13 ∧ (14 : Int32) = jI 14 ∧ (15 : Int32) = jI 15 ∧ (16 : Int32) = jI 16 ∧ (17 : Int32) = jI 17 ∧ (18 : Int32) = jI 18 ∧ (19 : Int32) = jI 19 ∧ (20 : Int32) = jI 20 ∧ (21 : Int32) = jI 21 ∧ (22 : Int32) = jI 22 ∧ (23 : Int32) = jI 23 ∧ (24 : Int32) = jI 24 ∧ (25 : Int32) = jI 25 ∧ (26 : Int32) = jI 26 ∧ (27 : Int32) = jI 27 ∧ (28 : Int32) = jI 28 ∧ (29 : Int32) = jI 29 ∧ (30 : Int32) = jI 30 ∧ (31 : Int32) = jI 31 ∧ (32 : Int32) = jI 32 ∧ (33 : Int32) = jI 33 ∧ (34 : Int32) = jI 34 ∧ (35 : Int32) = jI 35 ∧ (36 : Int32) = jI 36 ∧ (37 : Int32) = jI 37 ∧ (38 : Int32) = jI 38 ∧ (39 : Int32) = jI 39 ∧ (40 : Int32) = jI 40 ∧ (41 : Int32) = jI 41 ∧ (42 : Int32) = jI 42 ∧ (43 : Int32) = jI 43 ∧ (44 : Int32) = jI 44 ∧ (45 : Int32) = jI 45 ∧ (46 : Int32) = jI 46 ∧ (47 : Int32) = jI 47 ∧ (48 : Int32) = jI 48 ∧ (49 : Int32) = jI 49 ∧ (50 : Int32) = jI 50 ∧ (51 : Int32) = jI 51 ∧ (52 : Int32) = jI 52 ∧ (53 : Int32) = jI 53 ∧ (54 : Int32) = jI 54 ∧ (55 : Int32) = jI 55 ∧ (56 : Int32) = jI 56 ∧ (57 : Int32) = jI 57 ∧ (58 : Int32) = jI 58 ∧ (59 : Int32) = jI 59 ∧ (60 : Int32) = jI 60 ∧ (61 : Int32) = jI 61 ∧ (62 : Int32) = jI 62 ∧ (63 : Int32) = jI 63 ∧ (80 : Int32) = jI 80 ∧ (97 : Int32) = jI 97 ∧ (99 : Int32) = jI 99 ∧ (100 : Int32) = jI 100 ∧ (112 : Int32) = jI 112 ∧ (113 : Int32) = jI 113 ∧ (117 : Int32) = jI 117 ∧ (122 : Int32) = jI 122 ∧ (128 : Int32) = jI 128 ∧ (192 : Int32) = jI 192 ∧ (255 : Int32) = jI 255 ∧ (320 : Int32) = jI 320 ∧ (351 : Int32) = jI 351 ∧ (377 : Int32) = jI 377 ∧ (441 : Int32) = jI 441 ∧ (693 : Int32) = jI 693 ∧ (2457 : Int32) = jI 2457 ∧ (7371 : Int32) = jI 7371 ∧ (12345 : Int32) = jI 12345 ∧ (13860 : Int32) = jI 13860 ∧ (32767 : Int32) = jI 32767 ∧ (41580 : Int32) = jI 41580 ∧ (154791 : Int32) = jI 154791 ∧ (1000000 : Int32) = jI 1000000 ∧ (1000002 : Int32) = jI 1000002 ∧ (1103515245 : Int32) = jI 1103515245 := by
  refine ⟨?_, ?_, ?_, ?_, ?_, ?_, ?_, ?_, ?_, ?_, ?_, ?_, ?_, ?_, ?_, ?_, ?_, ?_, ?_, ?_, ?_, ?_, ?_, ?_, ?_, ?_, ?_, ?_, ?_, ?_, ?_, ?_, ?_, ?_, ?_, ?_, ?_, ?_, ?_, ?_, ?_, ?_, ?_, ?_, ?_, ?_, ?_, ?_, ?_, ?_, ?_, ?_, ?_, ?_, ?_, ?_, ?_, ?_, ?_, ?_, ?_, ?_, ?_, ?_, ?_, ?_, ?_, ?_, ?_, ?_, ?_, ?_, ?_, ?_, ?_, ?_, ?_, ?_, ?_, ?_, ?_, ?_, ?_, ?_, ?_, ?_, ?_, ?_, ?_, ?_⟩ <;> rfl
theorem jlitsL : (0 : Int64) = jL 0 ∧ (1 : Int64) = jL 1 ∧ (2 : Int64) = jL 2 ∧ (3 : Int64) = jL 3 ∧ (4 : Int64) = jL 4 ∧ (9 : Int64) = jL 9 ∧ (32 : Int64) = jL 32 ∧ (48 : Int64) = jL 48 ∧ (57 : Int64) = jL 57 ∧ (63 : Int64) = jL 63 ∧ (97 : Int64) = jL 97 ∧ (100 : Int64) = jL 100 ∧ (122 : Int64) = jL 122 ∧ (255 : Int64) = jL 255 ∧ (4294967295 : Int64) = jL 4294967295 ∧ (9000000000000000001 : Int64) = jL 9000000000000000001 ∧ (9000000000000000002 : Int64) = jL 9000000000000000002 := by
  refine ⟨?_, ?_, ?_, ?_, ?_, ?_, ?_, ?_, ?_, ?_, ?_, ?_, ?_, ?_, ?_, ?_, ?_⟩ <;> rfl
