/-! THE CLASS'S PAGE: what its questions answer -/
section PGQ
variable {E : Nat → Nat} {d : Nat} {h : ZH} {p : Nat} {t u : Nat → Nat} {Q : Option Value → ZH → Prop}
theorem jm4 : (-4 : Int32) = jI (-4) := rfl
theorem jfree : ∀ a : Nat, a < 8 → ∀ w : Nat, w < 3 → ((((jI (a : Int)) >>> ((jI (w : Int)) &&& 31)) &&& 1 : Int32) = 1 ↔ a / 2 ^ w % 2 = 1) := by decide
theorem sz35 {z : Int} (P : PgC h p t u) : sz_35 E h p (jI z) := ⟨⟨fun _ => trivial, fun _ => ⟨P.1.1, trivial⟩⟩, trivial⟩
theorem fz35 {z : Int} (ok : tp_Ok t) (hT : zI h p 6 = jI (tp_T t : Int)) (h1 : -2147483648 ≤ z) (h2 : z < 2147483648) : fz_35 E h p (jI z) = if 0 ≤ z ∧ z < tp_T t then 1 else 0 := by
  unfold fz_35
  have := ok.T
  rw [hT, show (0 : Int32) = jI 0 from rfl]
  simp (disch := omega) only [jI_lt, jI_le]
  by_cases c : 0 ≤ z ∧ z < tp_T t
  · rw [if_neg (by omega), if_neg (by omega), if_pos c]
  · rw [if_neg c]
    split
    · rfl
    · rw [if_pos (by omega)]
theorem sz36 {z : Int} (P : PgC h p t u) : sz_36 E h p (jI z) := by
  obtain ⟨⟨S0, S1, S2, S3, S4, S5, S6⟩, Pt, Pu⟩ := P
  refine ⟨⟨fun _ => trivial, fun _ => ⟨S0, S1.ne, ?_, ?_, trivial⟩⟩, trivial⟩
  · rw [S1.sub]; exact S1.ti
  · rw [S1.sub]; exact S1.inc (by decide)
theorem fz36 {z : Int} (ok : tp_Ok t) (P : PgC h p t u) (h1 : -2147483648 ≤ z) (h2 : z < 2147483648) : fz_36 E h p (jI z) = if 0 ≤ z ∧ z < t 0 then 1 else 0 := by
  obtain ⟨⟨S0, S1, S2, S3, S4, S5, S6⟩, Pt, Pu⟩ := P
  have := ok.1
  unfold fz_36
  rw [S1.sub, Pt 0 (by omega), show (0 : Int32) = jI 0 from rfl]
  simp (disch := omega) only [jI_lt, jI_le]
  by_cases c : 0 ≤ z ∧ z < t 0
  · rw [if_neg (by omega), if_neg (by omega), if_pos c]
  · rw [if_neg c]
    split
    · rfl
    · rw [if_pos (by omega)]
theorem sz37 {x : Int32} (P : PgC h p t u) : sz_37 E h p x := by
  obtain ⟨⟨S0, S1, S2, S3, S4, S5, S6⟩, Pt, Pu⟩ := P
  exact ⟨S0, p + 1, S1.1, S1.ti, S1.inc (by decide), trivial⟩
theorem fz37 {y : Nat} (P : PgC h p t u) : fz_37 E h p (jI (y : Int)) = jI (((y : Int) + 1) * t 1 - 1) := by
  obtain ⟨⟨S0, S1, S2, S3, S4, S5, S6⟩, Pt, Pu⟩ := P
  unfold fz_37
  rw [S1.sub]
  dsimp only
  rw [Pt 1 (by omega), show (1 : Int32) = jI 1 from rfl, jI_add, jI_mul, jI_sub]
theorem sz38 {x : Int32} (P : PgC h p t u) : sz_38 E h p x := by
  obtain ⟨⟨S0, S1, S2, S3, S4, S5, S6⟩, Pt, Pu⟩ := P
  exact ⟨S0, p + 1, S1.1, S1.ti, S1.inc (by decide), trivial⟩
theorem fz38 {w : Nat} (ok : tp_Ok t) (P : PgC h p t u) (hw : w < 3) : fz_38 E h p (jI (w : Int)) = if tp_fr t w = true then 1 else 0 := by
  obtain ⟨⟨S0, S1, S2, S3, S4, S5, S6⟩, Pt, Pu⟩ := P
  unfold fz_38
  rw [S1.sub]
  dsimp only
  have h13 : t 13 ≤ 7 := ok.2.2.2.2.2.2.2.2.2.2.2.2.1
  rw [Pt 13 (by omega)]
  simp only [jfree (t 13) (by omega) w hw]
  unfold tp_fr
  simp only [decide_eq_true_eq]
  by_cases c : t 13 / 2 ^ w % 2 = 1
  · simp [c]
  · simp [c]
theorem sz39 (P : PgC h p t u) : sz_39 E h p := by
  obtain ⟨⟨S0, S1, S2, S3, S4, S5, S6⟩, Pt, Pu⟩ := P
  exact ⟨S0, p + 1, S1.1, S1.ti, S1.inc (by decide), S1.inc (by decide), trivial⟩
theorem fz39 (ok : tp_Ok t) (P : PgC h p t u) : fz_39 E h p = jI (tp_top t : Int) := by
  obtain ⟨⟨S0, S1, S2, S3, S4, S5, S6⟩, Pt, Pu⟩ := P
  have h25 : t 2 * t 5 ≤ 16 * 100 := Nat.mul_le_mul ok.2.2.1.2 ok.2.2.2.2.1
  unfold fz_39
  rw [S1.sub]
  dsimp only
  rw [Pt 2 (by omega), Pt 5 (by omega), jI_mul, ← Int.natCast_mul, show (100 : Int32) = jI ((100 : Nat) : Int) from rfl, jI_div (by omega) (by omega) (by omega), show (12 : Int32) = jI ((12 : Nat) : Int) from rfl, zmin_j (by omega) (by omega) (by omega) (by omega)]
  unfold tp_top
  congr 1
  omega
theorem sz40 {x y : Int32} (ok : tp_Ok t) (P : PgC h p t u) : sz_40 E h p x y := by
  obtain ⟨⟨S0, S1, S2, S3, S4, S5, S6⟩, Pt, Pu⟩ := P
  have := ok.2.1
  refine ⟨S0, p + 1, S1.1, S1.ti, S1.inc (by decide), nm_r (Pt 1 (by omega)) ⟨⟨fun _ => trivial, fun _ => ⟨fun q => ?_, trivial⟩⟩, trivial⟩⟩
  rw [show (0 : Int32) = jI 0 from rfl, jI_eq (by omega) (by omega) (by omega) (by omega)] at q
  omega
theorem fz40 {v f : Nat} (ok : tp_Ok t) (P : PgC h p t u) (hv : v ≤ 16) (hf : f ≤ t 1) : fz_40 E h p (jI (v : Int)) (jI (f : Int)) = jI (tp_ls t v f : Int) := by
  obtain ⟨⟨S0, S1, S2, S3, S4, S5, S6⟩, Pt, Pu⟩ := P
  have h1 := ok.2.1
  have hvf : v * f ≤ 16 * 5 := Nat.mul_le_mul hv (by omega)
  unfold fz_40
  rw [S1.sub]
  dsimp only
  rw [Pt 1 (by omega), show (0 : Int32) = jI 0 from rfl, if_neg (by rw [jI_le (by omega) (by omega) (by omega) (by omega)]; omega), jI_mul, ← Int.natCast_mul, jI_div (by omega) (by omega) (by omega), jI_sub]
  unfold tp_ls
  congr 1
  have : v * f / t 1 ≤ v := by
    refine Nat.le_trans (Nat.div_le_div_right (Nat.mul_le_mul_left v hf)) ?_
    rw [Nat.mul_div_cancel _ (by omega)]
    exact Nat.le_refl _
  omega
theorem sz44 {dd : Nat} (P : PgC h p t u) (hd : dd < 20) : sz_44 E h p (jI (dd : Int)) := by
  obtain ⟨⟨S0, S1, S2, S3, S4, S5, S6⟩, Pt, Pu⟩ := P
  refine ⟨S0, p + 2, S2.1, S2.ti, S2.inn hd (by omega), ⟨fun _ => trivial, fun _ => ⟨S1.ne, ?_, ?_, trivial⟩⟩, trivial⟩
  · rw [S1.sub]; exact S1.ti
  · rw [S1.sub]; exact S1.inc (by decide)
theorem fz44 {dd : Nat} (ou : tp_Ou u) (P : PgC h p t u) (hd : dd < 20) : fz_44 E h p (jI (dd : Int)) = jI (tp_lo t u dd : Int) := by
  obtain ⟨⟨S0, S1, S2, S3, S4, S5, S6⟩, Pt, Pu⟩ := P
  have hb := tp_uJ_b ou dd
  have hn := tp_uJ_n (u := u) dd
  unfold fz_44
  rw [S1.sub, S2.sub]
  dsimp only
  rw [jI_cln (by omega), Pu dd hd, Pt 3 (by omega), jm4]
  simp (disch := omega) only [jI_eq, hn]
  unfold tp_lo
  by_cases c : u dd = 3
  · rw [if_neg (fun q => q c), if_pos c]
  · rw [if_pos c, if_neg c]; rfl
theorem sz45 {dd : Nat} (P : PgC h p t u) (hd : dd < 20) : sz_45 E h p (jI (dd : Int)) := by
  obtain ⟨⟨S0, S1, S2, S3, S4, S5, S6⟩, Pt, Pu⟩ := P
  refine ⟨S0, p + 2, S2.1, S2.ti, S2.inn hd (by omega), ⟨fun _ => trivial, fun _ => ⟨S1.ne, ?_, ?_, trivial⟩⟩, trivial⟩
  · rw [S1.sub]; exact S1.ti
  · rw [S1.sub]; exact S1.inc (by decide)
theorem fz45 {dd : Nat} (ou : tp_Ou u) (P : PgC h p t u) (hd : dd < 20) : fz_45 E h p (jI (dd : Int)) = jI (tp_hi t u dd : Int) := by
  obtain ⟨⟨S0, S1, S2, S3, S4, S5, S6⟩, Pt, Pu⟩ := P
  have hb := tp_uJ_b ou dd
  have hn := tp_uJ_n (u := u) dd
  unfold fz_45
  rw [S1.sub, S2.sub]
  dsimp only
  rw [jI_cln (by omega), Pu dd hd, Pt 4 (by omega), jm4]
  simp (disch := omega) only [jI_eq, hn]
  unfold tp_hi
  by_cases c : u dd = 3
  · rw [if_neg (fun q => q c), if_pos c]
  · rw [if_pos c, if_neg c]; rfl
theorem tp_lohi (ok : tp_Ok t) (dd : Nat) : tp_lo t u dd ≤ tp_hi t u dd ∧ tp_hi t u dd ≤ 4 := by
  have := ok.2.2.2.1
  unfold tp_lo tp_hi
  split <;> omega
theorem sz46 {dd : Nat} {x : Int32} (P : PgC h p t u) (hd : dd < 20) : sz_46 E h p (jI (dd : Int)) x := ⟨P.1.1, sz44 P hd, ⟨fun _ => trivial, fun _ => ⟨sz45 P hd, trivial⟩⟩, trivial⟩
theorem fz46 {dd x : Nat} (ok : tp_Ok t) (ou : tp_Ou u) (P : PgC h p t u) (hd : dd < 20) (hx : x ≤ 1000) : fz_46 E h p (jI (dd : Int)) (jI (x : Int)) = if tp_lo t u dd ≤ x ∧ x ≤ tp_hi t u dd then 1 else 0 := by
  have hb := tp_lohi (u := u) ok dd
  unfold fz_46
  rw [fz44 ou P hd, fz45 ou P hd]
  simp (disch := omega) only [jI_lt]
  by_cases c : tp_lo t u dd ≤ x ∧ x ≤ tp_hi t u dd
  · rw [if_neg (by omega), if_neg (by omega), if_pos c]
  · rw [if_neg c]
    split
    · rfl
    · rw [if_pos (by omega)]
theorem sz47 {x y : Int32} (P : PgC h p t u) : sz_47 E h p x y := by
  obtain ⟨⟨S0, S1, S2, S3, S4, S5, S6⟩, Pt, Pu⟩ := P
  exact ⟨S0, p + 1, S1.1, S1.ti, S1.inc (by decide), S1.inc (by decide), S1.inc (by decide), trivial⟩
theorem fz47 {v n : Nat} (ok : tp_Ok t) (P : PgC h p t u) : fz_47 E h p (jI (v : Int)) (jI (n : Int)) = jI (tp_un t v n : Int) := by
  obtain ⟨⟨S0, S1, S2, S3, S4, S5, S6⟩, Pt, Pu⟩ := P
  have h7 : t 7 ≤ 100 := ok.2.2.2.2.2.2.1
  unfold fz_47
  rw [S1.sub]
  dsimp only
  rw [Pt 6 (by omega), Pt 7 (by omega), show (100 : Int32) = jI 100 from rfl, jI_mul, jI_sub, jI_mul, jI_mul, jI_add]
  unfold tp_un
  congr 1
  rw [Int.natCast_add, Int.natCast_mul, Int.natCast_mul, Int.natCast_mul, Int.natCast_sub h7]
  rfl
theorem sz48 {s v : Nat} (P : PgC h p t u) (hs : s < 3) (hv : v < 3) : sz_48 E h p (jI (s : Int)) (jI (v : Int)) := by
  obtain ⟨⟨S0, S1, S2, S3, S4, S5, S6⟩, Pt, Pu⟩ := P
  refine ⟨S0, p + 1, S1.1, S1.ti, ?_, trivial⟩
  rw [show (30 : Int32) = jI 30 from rfl, show (3 : Int32) = jI 3 from rfl, jI_mul, jI_add, jI_add]
  exact S1.inb (by omega) (by omega) (by omega)
theorem fz48 {s v : Nat} (P : PgC h p t u) (hs : s < 3) (hv : v < 3) : fz_48 E h p (jI (s : Int)) (jI (v : Int)) = jI (tp_ch t s v : Int) := by
  obtain ⟨⟨S0, S1, S2, S3, S4, S5, S6⟩, Pt, Pu⟩ := P
  unfold fz_48
  rw [S1.sub]
  dsimp only
  rw [show (30 : Int32) = jI 30 from rfl, show (3 : Int32) = jI 3 from rfl, jI_mul, jI_add, jI_add, show (30 + 3 * (s : Int) + (v : Int)) = ((30 + 3 * s + v : Nat) : Int) by omega, jI_cln (by omega)]
  exact Pt _ (by omega)
theorem tp_ch_le (ok : tp_Ok t) {s v : Nat} (hs : s < 3) (hv : v < 3) : tp_ch t s v ≤ 4 := by
  have := ok.2.2.2.2.2.2.2.2.2.2.2.2.2.2.2.2 s hs
  unfold tp_ch
  have : v = 0 ∨ v = 1 ∨ v = 2 := by omega
  rcases this with e | e | e <;> subst e
  · show t (30 + 3 * s) ≤ 4; omega
  · have e : 30 + 3 * s + 1 = 31 + 3 * s := by omega
    rw [e]; omega
  · have e : 30 + 3 * s + 2 = 32 + 3 * s := by omega
    rw [e]; omega
theorem tp_ch_sum (ok : tp_Ok t) {s : Nat} (hs : s < 3) : tp_ch t s 0 + tp_ch t s 1 + tp_ch t s 2 = 4 := by
  have := ok.2.2.2.2.2.2.2.2.2.2.2.2.2.2.2.2 s hs
  unfold tp_ch
  have e : 30 + 3 * s + 1 = 31 + 3 * s := by omega
  have e2 : 30 + 3 * s + 2 = 32 + 3 * s := by omega
  rw [e, e2]
  exact this
/-- the state behind one, by what is drawn -/
def tp_bh (t : Nat → Nat) (s v : Nat) : Nat := if v < tp_ch t s 0 then 0 else if v < tp_ch t s 0 + tp_ch t s 1 then 1 else 2
theorem sz50 {s : Nat} {x : Int32} (P : PgC h p t u) (hs : s < 3) : sz_50 E h p (jI (s : Int)) x := ⟨P.1.1, sz48 (v := 0) P hs (by omega), fun _ => ⟨sz48 (v := 0) P hs (by omega), sz48 (v := 1) P hs (by omega), trivial⟩, fun _ => trivial⟩
theorem fz50 {s v : Nat} (ok : tp_Ok t) (P : PgC h p t u) (hs : s < 3) (hv : v < 4) : fz_50 E h p (jI (s : Int)) (jI (v : Int)) = jI (tp_bh t s v : Int) := by
  have h0 := tp_ch_le ok hs (show 0 < 3 by omega)
  have h1 := tp_ch_le ok hs (show 1 < 3 by omega)
  unfold fz_50
  rw [show (0 : Int32) = jI ((0 : Nat) : Int) from rfl, show (1 : Int32) = jI ((1 : Nat) : Int) from rfl, fz48 P hs (by omega), fz48 P hs (by omega), jI_add]
  simp (disch := omega) only [jI_le]
  unfold tp_bh
  by_cases c0 : v < tp_ch t s 0
  · rw [if_neg (by omega), if_pos c0]
  · rw [if_pos (by omega), if_neg c0]
    by_cases c1 : v < tp_ch t s 0 + tp_ch t s 1
    · rw [if_neg (by omega), if_pos c1]
    · rw [if_pos (by omega), if_neg c1]; rfl
end PGQ
