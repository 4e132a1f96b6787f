/-! TOKENS: what is read of a tape -/
def wds : List (List Nat) := [[121, 101, 97, 114, 115], [100, 97, 121, 115], [113, 117, 97, 110, 116, 105, 116, 121], [100, 97, 121], [112, 97, 105, 100], [98, 97, 115, 101], [105, 110, 100, 101, 120], [115, 117, 114, 99, 104, 97, 114, 103, 101], [109, 97, 100, 101], [114, 101, 115, 116], [99, 97, 114, 114, 105, 101, 100], [110, 111, 116, 105, 99, 101], [102, 114, 101, 101], [99, 111, 115, 116], [112, 114, 105, 99, 101], [99, 104, 97, 110, 99, 101], [115, 116, 97, 114, 116], [102, 105, 114, 115, 116], [108, 97, 115, 116], [110, 111, 98, 111, 100, 121], [115, 101, 108, 108, 101, 114], [98, 117, 121, 101, 114]]
def wd (j : Nat) : List Nat := wds.getD j []
def wdi (j : Nat) : Nat := [0, 0, 0, 0, 0, 0, 1, 1, 1, 1, 1, 2, 2, 2, 2, 2, 2, 2, 2, 2, 3, 3, 3, 3, 4, 4, 4, 4, 4, 5, 5, 5, 5, 5, 6, 6, 6, 6, 6, 6, 7, 7, 7, 7, 7, 7, 7, 7, 7, 7, 8, 8, 8, 8, 8, 9, 9, 9, 9, 9, 10, 10, 10, 10, 10, 10, 10, 10, 11, 11, 11, 11, 11, 11, 11, 12, 12, 12, 12, 12, 13, 13, 13, 13, 13, 14, 14, 14, 14, 14, 14, 15, 15, 15, 15, 15, 15, 15, 16, 16, 16, 16, 16, 16, 17, 17, 17, 17, 17, 17, 18, 18, 18, 18, 18, 19, 19, 19, 19, 19, 19, 19, 20, 20, 20, 20, 20, 20, 20, 21, 21, 21, 21, 21, 21].getD j 0
def wdp (j : Nat) : Nat := [0, 1, 2, 3, 4, 5, 0, 1, 2, 3, 4, 0, 1, 2, 3, 4, 5, 6, 7, 8, 0, 1, 2, 3, 0, 1, 2, 3, 4, 0, 1, 2, 3, 4, 0, 1, 2, 3, 4, 5, 0, 1, 2, 3, 4, 5, 6, 7, 8, 9, 0, 1, 2, 3, 4, 0, 1, 2, 3, 4, 0, 1, 2, 3, 4, 5, 6, 7, 0, 1, 2, 3, 4, 5, 6, 0, 1, 2, 3, 4, 0, 1, 2, 3, 4, 0, 1, 2, 3, 4, 5, 0, 1, 2, 3, 4, 5, 6, 0, 1, 2, 3, 4, 5, 0, 1, 2, 3, 4, 5, 0, 1, 2, 3, 4, 0, 1, 2, 3, 4, 5, 6, 0, 1, 2, 3, 4, 5, 6, 0, 1, 2, 3, 4, 5].getD j 0
theorem wd_N : ∀ j, j < 135 → (zNames.getD j 0 = 32 → wdp j = (wd (wdi j)).length ∧ (j + 1 < 135 → wdi (j + 1) = wdi j + 1 ∧ wdp (j + 1) = 0) ∧ (¬ j + 1 < 135 → wdi j = 21)) ∧ (¬ zNames.getD j 0 = 32 → wdp j < (wd (wdi j)).length ∧ zNames.getD j 0 = jI ((wd (wdi j)).getD (wdp j) 0 : Int) ∧ (wd (wdi j)).getD (wdp j) 0 < 128 ∧ j + 1 < 135 ∧ wdi (j + 1) = wdi j ∧ wdp (j + 1) = wdp j + 1) := by decide +kernel
theorem wd_M : ∀ j, j < 22 → (mcs 2).getD (j + 1) 0 - (mcs 2).getD j 0 = jI ((wd j).length : Int) ∧ (wd j).length < 10 ∧ ∀ i, i < (wd j).length → ((mcs 2).getD j 0 + jI (i : Int)).toNatClampNeg < 113 ∧ zin ((mcs 2).getD j 0 + jI (i : Int)) 113 = true ∧ (mcs 3).getD ((mcs 2).getD j 0 + jI (i : Int)).toNatClampNeg 0 = jI ((wd j).getD i 0 : Int) ∧ (wd j).getD i 0 < 128 := by decide +kernel
def bt (tb : Nat → Int32) (i : Nat) : Nat := (tb i).toNatClampNeg
theorem bt_of {tb : Nat → Int32} (B : TpB tb) (i : Nat) : tb i = jI (bt tb i : Int) ∧ bt tb i < 256 := by
  obtain ⟨b, hb, e⟩ := B i
  have : bt tb i = b := by unfold bt; rw [e, jI_cln (by omega)]
  rw [this]
  exact ⟨e, hb⟩
def cb (tb : Nat → Int32) (i : Nat) : Int := if bt tb i < 128 then (bt tb i : Int) else (bt tb i : Int) - 256
theorem cb_of {tb : Nat → Int32} (B : TpB tb) (i : Nat) : (tb i).toInt8.toInt32 = jI (cb tb i) ∧ -128 ≤ cb tb i ∧ cb tb i < 128 := by
  obtain ⟨e, hb⟩ := bt_of B i
  unfold cb
  refine ⟨?_, by split <;> omega, by split <;> omega⟩
  rw [e]
  generalize bt tb i = b at hb
  apply Int32.toInt_inj.mp
  rw [Int8.toInt_toInt32, Int32.toInt_toInt8, jI_toInt (by omega) (by omega), jI_toInt (by split <;> omega) (by split <;> omega), Int.bmod_def]
  split <;> split <;> omega
/-- as far as P goes -/
def rn (P : Nat → Bool) : Nat → Nat → Nat
  | 0, p => p
  | r + 1, p => if P p = true then rn P r (p + 1) else p
theorem rn_in (P : Nat → Bool) : ∀ r p, p ≤ rn P r p ∧ rn P r p ≤ p + r
  | 0, p => ⟨Nat.le_refl _, Nat.le_refl _⟩
  | r + 1, p => by
    have := rn_in P r (p + 1)
    rw [rn]
    split <;> omega
theorem rn_at (P : Nat → Bool) : ∀ r p, rn P r p < p + r → P (rn P r p) = false
  | 0, p, h => by rw [rn] at h; omega
  | r + 1, p, h => by
    rw [rn] at h ⊢
    split
    · next c =>
      rw [if_pos c] at h
      exact rn_at P r (p + 1) (by omega)
    · next c => simpa using c
def isS (tb : Nat → Int32) (i : Nat) : Bool := decide (bt tb i = 32)
def isA (tb : Nat → Int32) (i : Nat) : Bool := decide (97 ≤ bt tb i ∧ bt tb i ≤ 122)
def isD (tb : Nat → Int32) (i : Nat) : Bool := decide (48 ≤ bt tb i ∧ bt tb i ≤ 57)
def dg (tb : Nat → Int32) (q : Nat) : Nat → Int
  | 0 => 0
  | i + 1 => if 3 ≤ i then dg tb q i else 10 * dg tb q i + (bt tb (q + i) : Int) - 48
theorem dg_3 (tb : Nat → Int32) (q : Nat) : ∀ i, 3 ≤ i → dg tb q i = dg tb q 3
  | i + 1, h => by
    by_cases c : 3 ≤ i
    · rw [dg, if_pos c, dg_3 tb q i c]
    · have : i + 1 = 3 := by omega
      rw [this]
/-- the first i letters of a word are there -/
def mtw (tb : Nat → Int32) (q n : Nat) (w : List Nat) : Nat → Bool
  | 0 => true
  | i + 1 => mtw tb q n w i && (decide (i < n) && decide (bt tb (q + i) = w.getD i 0))
def eqw (tb : Nat → Int32) (q n : Nat) (w : List Nat) : Bool := mtw tb q n w w.length && decide (w.length = n)
def nmF (tb : Nat → Int32) (q n : Nat) : Nat → Nat → Int
  | 0, _ => -4
  | r + 1, j => if eqw tb q n (wd j) = true then (j : Int) else nmF tb q n r (j + 1)
def nmw (tb : Nat → Int32) (q n : Nat) : Int := nmF tb q n 22 0
theorem nmF_b (tb : Nat → Int32) (q n : Nat) : ∀ r j, nmF tb q n r j = -4 ∨ ((j : Int) ≤ nmF tb q n r j ∧ nmF tb q n r j < (j : Int) + r)
  | 0, j => Or.inl rfl
  | r + 1, j => by
    have := nmF_b tb q n r (j + 1)
    rw [nmF]
    split <;> omega
/-! a token: kind (0 none, 1 name, 2 number, 3 sign, 4 end), value, place, next -/
abbrev TkT : Type := Nat × Int × Nat × Nat
def tkS (tb : Nat → Int32) (tn p : Nat) : Nat := rn (isS tb) (tn - p) p
def tkA (tb : Nat → Int32) (tn q : Nat) : TkT := if tn ≤ q then (4, 0, q, q) else if isA tb q = true then (if nmw tb q (rn (isA tb) (tn - q) q - q) = -4 then 0 else 1, nmw tb q (rn (isA tb) (tn - q) q - q), q, rn (isA tb) (tn - q) q) else if isD tb q = true then (if rn (isD tb) (tn - q) q - q ≤ 3 then 2 else 0, dg tb q (rn (isD tb) (tn - q) q - q), q, rn (isD tb) (tn - q) q) else (if bt tb q = 59 then 3 else 0, 0, q, q + 1)
def tk (tb : Nat → Int32) (tn p : Nat) : TkT := tkA tb tn (tkS tb tn p)
section TKC
variable {E : Nat → Nat} {h : ZH} {x m tn d : Nat} {tb : Nat → Int32} {Q : Option Value → ZH → Prop}
/-- the class's tape -/
def TpD (h : ZH) (x tn : Nat) (tb : Nat → Int32) : Prop := TSh h (x + 8) ∧ zI h (x + 8) 1 = jI (tn : Int) ∧ ∀ i, i < tn → zI h (x + 9) i = jI (cb tb i)
def tp_St (x : Nat) : Nat → Nat → Prop := fun a i => a = x + 8 ∧ 2 ≤ i
theorem TpD.fr {h1 : ZH} (T : TpD h x tn tb) (y : Fr (tp_St x) h h1) : TpD h1 x tn tb := ⟨T.1.fr y, by rw [y.I (by unfold tp_St; omega)]; exact T.2.1, fun i hi => by rw [y.I (by unfold tp_St; omega)]; exact T.2.2 i hi⟩
def TkC (h : ZH) (x : Nat) (k : TkT) : Prop := zI h (x + 8) 3 = jI (k.1 : Int) ∧ zI h (x + 8) 4 = jI k.2.1 ∧ zI h (x + 8) 5 = jI (k.2.2.1 : Int) ∧ zI h (x + 8) 2 = jI (k.2.2.2 : Int)
theorem cb_A (B : TpB tb) (i : Nat) : (97 ≤ cb tb i ∧ cb tb i ≤ 122) ↔ isA tb i = true := by
  have := (bt_of B i).2
  unfold isA cb
  rw [decide_eq_true_iff]
  split <;> omega
theorem cb_D (B : TpB tb) (i : Nat) : (48 ≤ cb tb i ∧ cb tb i ≤ 57) ↔ isD tb i = true := by
  have := (bt_of B i).2
  unfold isD cb
  rw [decide_eq_true_iff]
  split <;> omega
theorem cb_E (B : TpB tb) (i : Nat) {c : Nat} (hc : c < 128) : cb tb i = (c : Int) ↔ bt tb i = c := by
  have := (bt_of B i).2
  unfold cb
  split <;> omega
theorem s80 {i : Nat} (B : TpB tb) (T : TpD h x tn tb) (hn : tn ≤ 320) (hi : i < tn) : sz_80 E h (x + 8) (jI (i : Int)) ∧ (fz_80 E h (x + 8) (jI (i : Int)) = 0 ↔ ¬ isA tb i = true) := by
  have A := T.1.2
  have c := cb_of B i
  refine ⟨⟨T.1.1, x + 8 + 1, A.1, A.tb, A.inn (by omega) (by omega), ⟨fun _ => trivial, fun _ => ⟨A.inn (by omega) (by omega), trivial⟩⟩, trivial⟩, ?_⟩
  show (if zI h (zR h (x + 8) 0 - 1) (jI (i : Int)).toNatClampNeg < jI 97 then (0 : Int32) else if jI 122 < zI h (zR h (x + 8) 0 - 1) (jI (i : Int)).toNatClampNeg then 0 else 1) = 0 ↔ _
  rw [A.sub, jI_cln (by omega), show x + 8 + 1 = x + 9 from rfl, T.2.2 i hi, jif2 (by omega) (by omega) (by omega) (by omega) (by omega) (by omega), ← cb_A B]
  exact j01
theorem s81 {i : Nat} (B : TpB tb) (T : TpD h x tn tb) (hn : tn ≤ 320) (hi : i < tn) : sz_81 E h (x + 8) (jI (i : Int)) ∧ (fz_81 E h (x + 8) (jI (i : Int)) = 0 ↔ ¬ isD tb i = true) := by
  have A := T.1.2
  have c := cb_of B i
  refine ⟨⟨T.1.1, x + 8 + 1, A.1, A.tb, A.inn (by omega) (by omega), ⟨fun _ => trivial, fun _ => ⟨A.inn (by omega) (by omega), trivial⟩⟩, trivial⟩, ?_⟩
  show (if zI h (zR h (x + 8) 0 - 1) (jI (i : Int)).toNatClampNeg < jI 48 then (0 : Int32) else if jI 57 < zI h (zR h (x + 8) 0 - 1) (jI (i : Int)).toNatClampNeg then 0 else 1) = 0 ↔ _
  rw [A.sub, jI_cln (by omega), show x + 8 + 1 = x + 9 from rfl, T.2.2 i hi, jif2 (by omega) (by omega) (by omega) (by omega) (by omega) (by omega), ← cb_D B]
  exact j01
end TKC
