/-! THE CLASS'S PAGE: its loops -/
def PgY (h : ZH) (p : Nat) (t u : Nat → Nat) : Prop := PgC h p t u ∧ (∀ d, d < tp_T t → zI h (p + 5) d = jI ((d / t 1 : Nat) : Int)) ∧ (∀ d, d < tp_T t → zI h (p + 6) d = jI (if (d + 1) % t 1 = 0 then 1 else 0)) ∧ zI h p 6 = jI (tp_T t : Int)
theorem PgR.y {h : ZH} {p : Nat} {t u : Nat → Nat} (x : PgR h p t u) : PgY h p t u := ⟨x.1, x.2.2.2.1, x.2.2.2.2.1, x.2.2.2.2.2⟩
theorem PgY.fr {S : Nat → Nat → Prop} {h h1 : ZH} {p : Nat} {t u : Nat → Nat} (x : PgY h p t u) (y : Fr S h h1) (hS : ∀ a i, (a = p ∨ a = p + 1 ∨ a = p + 2 ∨ a = p + 5 ∨ a = p + 6) → ¬ S a i) : PgY h1 p t u := by
  refine ⟨⟨x.1.1.fr y, fun k hk => ?_, fun k hk => ?_⟩, fun k hk => ?_, fun k hk => ?_, ?_⟩
  · rw [y.I (hS _ _ (by omega))]; exact x.1.2.1 k hk
  · rw [y.I (hS _ _ (by omega))]; exact x.1.2.2 k hk
  · rw [y.I (hS _ _ (by omega))]; exact x.2.1 k hk
  · rw [y.I (hS _ _ (by omega))]; exact x.2.2.1 k hk
  · rw [y.I (hS _ _ (by omega))]; exact x.2.2.2
theorem jcast {m n : Nat} : ((m : Int) = (n : Int)) ↔ m = n := by omega
section PGL
variable {E : Nat → Nat} {d : Nat} {h : ZH} {p : Nat} {t u : Nat → Nat} {Q : Option Value → ZH → Prop}
def tp_p41 (t u : Nat → Nat) (y : Nat) : Nat → Bool := fun d => decide (d / t 1 = y) && (decide (u d ≠ 3) && tp_fr t (u d))
def tp_p42 (t u : Nat → Nat) (y : Nat) : Nat → Bool := fun d => decide (d / t 1 = y) && decide (u d ≠ 3)
theorem l41 {y : Nat} (hd : 1 ≤ d) (ok : tp_Ok t) (ou : tp_Ou u) (P : PgY h p t u) (hy : y ≤ 4) (q0 : Q (some (.int (jI (tp_cnt (tp_p41 t u y) (tp_T t) : Int)))) h) : ∀ n i, i + n = tp_T t → wl_41_4 E d Q (n + 1) p (jI (y : Int)) (jI (tp_cnt (tp_p41 t u y) i : Int)) (jI (i : Int)) h
  | 0, i, e => by
    have hT := ok.T
    have PC := P.1
    obtain ⟨⟨⟨S0, S1, S2, S3, S4, S5, S6⟩, Pt, Pu⟩, Py, Pcl, Ptot⟩ := P
    rw [wl_41_4]
    refine ⟨S0, fun _ => ?_, fun q => ?_⟩
    · have e2 : i = tp_T t := by omega
      subst e2
      exact q0
    · exfalso
      rw [Ptot, jI_le (by omega) (by omega) (by omega) (by omega)] at q
      omega
  | n + 1, i, e => by
    have ih := l41 (y := y) hd ok ou P hy q0 n (i + 1) (by omega)
    have hT := ok.T
    have PC := P.1
    obtain ⟨⟨⟨S0, S1, S2, S3, S4, S5, S6⟩, Pt, Pu⟩, Py, Pcl, Ptot⟩ := P
    have hi : i < 20 := by omega
    have hu := ou i
    have hub := tp_uJ_b ou i
    have hdy : i / t 1 ≤ 20 := Nat.le_trans (Nat.div_le_self _ _) (by omega)
    have key : ∀ w : Nat, u i = w → w ≠ 3 → sz_38 E h p (zI h (p + 2) i) := fun w _ _ => sz38 PC
    rw [wl_41_4]
    refine ⟨S0, fun q => ?_, fun _ => ?_⟩
    · exfalso
      rw [Ptot, jI_le (by omega) (by omega) (by omega) (by omega)] at q
      omega
    · refine ⟨p + 5, S5.1, S5.ti, S5.inn (by omega) (by omega), ⟨fun _ => trivial, fun _ => ⟨S2.ne, ?_, ?_, ⟨fun _ => trivial, fun _ => ⟨S2.ne, ?_, hd, sz38 PC, trivial⟩⟩, trivial⟩⟩, nm_r (e' := jI ((i + 1 : Nat) : Int)) (by rw [show (1 : Int32) = jI 1 from rfl, jI_add]; rfl) ?_⟩
      · rw [S2.sub]; exact S2.ti
      · rw [S2.sub]; exact S2.inn hi (by omega)
      · rw [S2.sub]; exact S2.inn hi (by omega)
      · refine ek_v (P := fun z => wl_41_4 E d Q (n + 1) p (jI (y : Int)) z _ h) ?_ ih
        rw [S2.sub, jI_cln (by omega), Py i (by omega), Pu i hi, jm4]
        simp (disch := omega) only [jI_eqn, jI_eq, tp_uJ_n]
        show _ = jI ((tp_cnt (tp_p41 t u y) i + (if tp_p41 t u y i = true then 1 else 0) : Nat) : Int)
        by_cases c1 : i / t 1 = y
        · rw [if_neg (fun q => q c1)]
          by_cases c2 : u i = 3
          · rw [if_pos c2, if_neg (by simp [tp_p41, c2])]
            rfl
          · rw [if_neg c2]
            have c3 : tp_uJ (u i) = (u i : Int) := by unfold tp_uJ; rw [if_neg c2]
            rw [c3, fz38 ok PC (by omega)]
            by_cases c4 : tp_fr t (u i) = true
            · rw [if_pos c4, if_neg (by decide), if_pos (by simp [tp_p41, c1, c2, c4]), show (1 : Int32) = jI 1 from rfl, jI_add]
              rfl
            · rw [if_neg c4, if_pos rfl, if_neg (by simp [tp_p41, c4])]
              rfl
        · rw [if_pos c1, if_neg (by simp [tp_p41, c1])]
          rfl
theorem ct_41 {y : Nat} (hd : 2 ≤ d) (ok : tp_Ok t) (ou : tp_Ou u) (P : PgY h p t u) (hy : y < t 0) (q : Q (some (.int (jI (tp_frN t u y : Int)))) h) : Ct E d 41 [.ref p, .int (jI (y : Int))] h Q := by
  obtain ⟨d, rfl⟩ : ∃ n, d = n + 1 := ⟨d - 1, by omega⟩
  refine ok_41 ?_
  refine ⟨tp_T t + 1, ?_⟩
  have h4 := ok.1.2
  refine l41 (y := y) (by omega) ok ou P (by omega) ?_ (tp_T t) 0 (by omega)
  have e : tp_cnt (tp_p41 t u y) (tp_T t) = tp_frN t u y := tp_cnt_year (fun d => decide (u d ≠ 3) && tp_fr t (u d)) (by have := ok.2.1; omega) y (t 0) hy
  rw [e]
  exact q
theorem l42 {y : Nat} (ok : tp_Ok t) (ou : tp_Ou u) (P : PgY h p t u) (hy : y ≤ 4) (q0 : Q (some (.int (jI (tp_cnt (tp_p42 t u y) (tp_T t) : Int)))) h) : ∀ n i, i + n = tp_T t → wl_42_4 E d Q (n + 1) p (jI (y : Int)) (jI (tp_cnt (tp_p42 t u y) i : Int)) (jI (i : Int)) h
  | 0, i, e => by
    have hT := ok.T
    obtain ⟨⟨⟨S0, S1, S2, S3, S4, S5, S6⟩, Pt, Pu⟩, Py, Pcl, Ptot⟩ := P
    rw [wl_42_4]
    refine ⟨S0, fun _ => ?_, fun q => ?_⟩
    · have e2 : i = tp_T t := by omega
      subst e2
      exact q0
    · exfalso
      rw [Ptot, jI_le (by omega) (by omega) (by omega) (by omega)] at q
      omega
  | n + 1, i, e => by
    have ih := l42 (y := y) ok ou P hy q0 n (i + 1) (by omega)
    have hT := ok.T
    obtain ⟨⟨⟨S0, S1, S2, S3, S4, S5, S6⟩, Pt, Pu⟩, Py, Pcl, Ptot⟩ := P
    have hi : i < 20 := by omega
    have hu := ou i
    have hub := tp_uJ_b ou i
    have hdy : i / t 1 ≤ 20 := Nat.le_trans (Nat.div_le_self _ _) (by omega)
    rw [wl_42_4]
    refine ⟨S0, fun q => ?_, fun _ => ?_⟩
    · exfalso
      rw [Ptot, jI_le (by omega) (by omega) (by omega) (by omega)] at q
      omega
    · refine ⟨p + 5, S5.1, S5.ti, S5.inn (by omega) (by omega), ⟨fun _ => trivial, fun _ => ⟨S2.ne, ?_, ?_, trivial⟩⟩, nm_r (e' := jI ((i + 1 : Nat) : Int)) (by rw [show (1 : Int32) = jI 1 from rfl, jI_add]; rfl) ?_⟩
      · rw [S2.sub]; exact S2.ti
      · rw [S2.sub]; exact S2.inn hi (by omega)
      · refine ek_v (P := fun z => wl_42_4 E d Q (n + 1) p (jI (y : Int)) z _ h) ?_ ih
        rw [S2.sub, jI_cln (by omega), Py i (by omega), Pu i hi, jm4]
        simp (disch := omega) only [jI_eqn, jI_eq, tp_uJ_n]
        show _ = jI ((tp_cnt (tp_p42 t u y) i + (if tp_p42 t u y i = true then 1 else 0) : Nat) : Int)
        by_cases c1 : i / t 1 = y
        · rw [if_neg (fun q => q c1)]
          by_cases c2 : u i = 3
          · rw [if_pos c2, if_neg (by simp [tp_p42, c2])]
            rfl
          · rw [if_neg c2, if_pos (by simp [tp_p42, c1, c2]), show (1 : Int32) = jI 1 from rfl, jI_add]
            rfl
        · rw [if_pos c1, if_neg (by simp [tp_p42, c1])]
          rfl
theorem ct_42 {y : Nat} (hd : 1 ≤ d) (ok : tp_Ok t) (ou : tp_Ou u) (P : PgY h p t u) (hy : y < t 0) (q : Q (some (.int (jI (tp_shN t u y : Int)))) h) : Ct E d 42 [.ref p, .int (jI (y : Int))] h Q := by
  obtain ⟨d, rfl⟩ : ∃ n, d = n + 1 := ⟨d - 1, by omega⟩
  refine ok_42 ?_
  refine ⟨tp_T t + 1, ?_⟩
  have h4 := ok.1.2
  refine l42 (y := y) ok ou P (by omega) ?_ (tp_T t) 0 (by omega)
  have e : tp_cnt (tp_p42 t u y) (tp_T t) = tp_shN t u y := tp_cnt_year (fun d => decide (u d ≠ 3)) (by have := ok.2.1; omega) y (t 0) hy
  rw [e]
  exact q
/-- the days that are shut in the first years -/
def tp_shS (t u : Nat → Nat) : Nat → Nat
  | 0 => 0
  | y + 1 => tp_shS t u y + tp_shN t u y
theorem tp_shS_cnt (t u : Nat → Nat) : ∀ y, tp_shS t u y = tp_cnt (fun d => decide (u d ≠ 3)) (y * t 1)
  | 0 => by rw [Nat.zero_mul]; rfl
  | y + 1 => by
    rw [Nat.succ_mul, tp_cnt_add, ← tp_shS_cnt t u y]
    rfl
theorem l43 (hd : 1 ≤ d) (ok : tp_Ok t) (ou : tp_Ou u) (P : PgY h p t u) (q0 : Q (some (.int (jI (tp_shS t u (t 0) : Int)))) h) : ∀ n y, y + n = t 0 → wl_43_4 E d Q (n + 1) p (jI (tp_shS t u y : Int)) (jI (y : Int)) h
  | 0, y, e => by
    have h4 := ok.1
    obtain ⟨⟨⟨S0, S1, S2, S3, S4, S5, S6⟩, Pt, Pu⟩, Py, Pcl, Ptot⟩ := P
    rw [wl_43_4]
    refine ⟨S0, p + 1, S1.1, S1.ti, S1.inc (by decide), fun _ => ?_, fun q => ?_⟩
    · have e2 : y = t 0 := by omega
      subst e2
      exact q0
    · exfalso
      rw [Pt 0 (by omega), jI_le (by omega) (by omega) (by omega) (by omega)] at q
      omega
  | n + 1, y, e => by
    have ih := l43 hd ok ou P q0 n (y + 1) (by omega)
    have h4 := ok.1
    have PY := P
    obtain ⟨⟨⟨S0, S1, S2, S3, S4, S5, S6⟩, Pt, Pu⟩, Py, Pcl, Ptot⟩ := P
    rw [wl_43_4]
    refine ⟨S0, p + 1, S1.1, S1.ti, S1.inc (by decide), fun q => ?_, fun _ => ?_⟩
    · exfalso
      rw [Pt 0 (by omega), jI_le (by omega) (by omega) (by omega) (by omega)] at q
      omega
    · refine ct_42 hd ok ou PY (by omega) ⟨_, rfl, nm_r (e' := jI (tp_shS t u (y + 1) : Int)) (by rw [jI_add]; rfl) (nm_r (e' := jI ((y + 1 : Nat) : Int)) (by rw [show (1 : Int32) = jI 1 from rfl, jI_add]; rfl) ih)⟩
theorem ct_43 (hd : 2 ≤ d) (ok : tp_Ok t) (ou : tp_Ou u) (P : PgY h p t u) (q : Q (some (.int (jI (tp_cnt (fun d => decide (u d ≠ 3)) (tp_T t) : Int)))) h) : Ct E d 43 [.ref p] h Q := by
  obtain ⟨d, rfl⟩ : ∃ n, d = n + 1 := ⟨d - 1, by omega⟩
  refine ok_43 ?_
  refine ⟨t 0 + 1, ?_⟩
  refine l43 (by omega) ok ou P ?_ (t 0) 0 (by omega)
  rw [tp_shS_cnt]
  exact q
theorem ct_49 {s : Nat} (hd : 2 ≤ d) (P : PgC h p t u) (hs : s < 3) (q : Q (some (.int (jI ((tp_ch t s 0 * t 20 + tp_ch t s 1 * t 21 + tp_ch t s 2 * t 22 : Nat) : Int)))) h) : Ct E d 49 [.ref p, .int (jI (s : Int))] h Q := by
  obtain ⟨d, rfl⟩ : ∃ n, d = n + 1 := ⟨d - 1, by omega⟩
  refine ok_49 ?_
  have PC := P
  obtain ⟨⟨S0, S1, S2, S3, S4, S5, S6⟩, Pt, Pu⟩ := P
  refine ⟨4, ?_⟩
  have st : ∀ (n v : Nat) (a : Int), v < 3 → wl_49_4 E d Q n p (jI (s : Int)) (jI (a + (tp_ch t s v * t (20 + v) : Nat))) (jI ((v + 1 : Nat) : Int)) h → wl_49_4 E d Q (n + 1) p (jI (s : Int)) (jI a) (jI (v : Int)) h := by
    intro n v a hv k
    rw [wl_49_4]
    refine ⟨fun q => ?_, fun _ => ⟨S0, by omega, sz48 PC hs hv, p + 1, S1.1, S1.ti, ?_, nm_r (e' := jI (a + (tp_ch t s v * t (20 + v) : Nat))) ?_ (nm_r (e' := jI ((v + 1 : Nat) : Int)) (by rw [show (1 : Int32) = jI 1 from rfl, jI_add]; rfl) k)⟩⟩
    · exfalso
      rw [show (3 : Int32) = jI 3 from rfl, jI_le (by omega) (by omega) (by omega) (by omega)] at q
      omega
    · rw [show (20 : Int32) = jI 20 from rfl, jI_add]
      exact S1.inb (by omega) (by omega) (by omega)
    · rw [fz48 PC hs hv, show (20 : Int32) = jI 20 from rfl, jI_add, show (20 + (v : Int)) = ((20 + v : Nat) : Int) by omega, jI_cln (by omega), Pt _ (by omega), jI_mul, jI_add]
      rfl
  refine st 3 0 0 (by omega) (st 2 1 _ (by omega) (st 1 2 _ (by omega) ?_))
  rw [wl_49_4]
  refine ⟨fun _ => ?_, fun q => absurd (by decide) q⟩
  refine ek_v (P := fun z => Q (some (.int z)) h) ?_ q
  congr 1
  show (0 : Int) + ((tp_ch t s 0 * t 20 : Nat) : Int) + ((tp_ch t s 1 * t 21 : Nat) : Int) + ((tp_ch t s 2 * t 22 : Nat) : Int) = ((tp_ch t s 0 * t 20 + tp_ch t s 1 * t 21 + tp_ch t s 2 * t 22 : Nat) : Int)
  generalize tp_ch t s 0 * t 20 = A
  generalize tp_ch t s 1 * t 21 = B
  generalize tp_ch t s 2 * t 22 = C
  omega
end PGL
