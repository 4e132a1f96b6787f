/-! THE CLASS'S PAGE AND MOVES -/
theorem jI_cln {n : Nat} (h : n < 2147483648) : (jI (n : Int)).toNatClampNeg = n := by
  rw [jI_cl (by omega) (by omega)]
  exact Int.toNat_natCast n
theorem jI_eqn {a b : Nat} (ha : a < 2147483648) (hb : b < 2147483648) : jI (a : Int) = jI (b : Int) ↔ a = b := by
  rw [← jI_n, ← jI_n]
  exact nI_eq ha hb
theorem jI_len {a b : Nat} (ha : a < 2147483648) (hb : b < 2147483648) : jI (a : Int) ≤ jI (b : Int) ↔ a ≤ b := by
  rw [← jI_n, ← jI_n]
  exact nI_leI ha hb
theorem jI_ltn {a b : Nat} (ha : a < 2147483648) (hb : b < 2147483648) : jI (a : Int) < jI (b : Int) ↔ a < b := by
  rw [← jI_n, ← jI_n]
  exact nI_ltI ha hb
theorem zAr.inc {h : ZH} {m s r tg n : Nat} (x : zAr h m s r tg n) {v : Int32} (hz : zin v n = true) : zin v (zlen h r) = true := by
  rw [x.2.2]
  exact hz
theorem zAr.inn {h : ZH} {m s r tg n : Nat} (x : zAr h m s r tg n) {a : Nat} (h' : a < n) (hn : n ≤ 1000000) : zin (jI (a : Int)) (zlen h r) = true := x.inb (by omega) (by omega) hn
theorem zAr.tg {h : ZH} {m s r tg n : Nat} (x : zAr h m s r tg n) : ztag h r = tg := x.2.1
def PgC (h : ZH) (p : Nat) (t u : Nat → Nat) : Prop := PSh h p ∧ (∀ k, k < 39 → zI h (p + 1) k = jI (t k : Int)) ∧ ∀ k, k < 20 → zI h (p + 2) k = jI (tp_uJ (u k))
def PgR (h : ZH) (p : Nat) (t u : Nat → Nat) : Prop := PgC h p t u ∧ (∀ y, y < t 0 → zI h (p + 3) y = jI (tp_qt t u y : Int)) ∧ (∀ y, y < t 0 → zI h (p + 4) y = jI (tp_tp t u y : Int)) ∧ (∀ d, d < tp_T t → zI h (p + 5) d = jI ((d / t 1 : Nat) : Int)) ∧ (∀ d, d < tp_T t → zI h (p + 6) d = jI (if (d + 1) % t 1 = 0 then 1 else 0)) ∧ zI h p 6 = jI (tp_T t : Int)
section PGF
variable {S : Nat → Nat → Prop} {h h1 : ZH} {p : Nat} {t u : Nat → Nat}
theorem PgC.fr (x : PgC h p t u) (y : Fr S h h1) (hS : ∀ a i, (a = p + 1 ∨ a = p + 2) → ¬ S a i) : PgC h1 p t u := by
  refine ⟨x.1.fr y, fun k hk => ?_, fun k hk => ?_⟩
  · rw [y.I (hS _ _ (by omega))]; exact x.2.1 k hk
  · rw [y.I (hS _ _ (by omega))]; exact x.2.2 k hk
theorem PgR.fr (x : PgR h p t u) (y : Fr S h h1) (hS : ∀ a i, p ≤ a → a ≤ p + 6 → ¬ S a i) : PgR h1 p t u := by
  refine ⟨x.1.fr y (fun a i ha => hS a i (by omega) (by omega)), fun k hk => ?_, fun k hk => ?_, fun k hk => ?_, fun k hk => ?_, ?_⟩
  · rw [y.I (hS _ _ (by omega) (by omega))]; exact x.2.1 k hk
  · rw [y.I (hS _ _ (by omega) (by omega))]; exact x.2.2.1 k hk
  · rw [y.I (hS _ _ (by omega) (by omega))]; exact x.2.2.2.1 k hk
  · rw [y.I (hS _ _ (by omega) (by omega))]; exact x.2.2.2.2.1 k hk
  · rw [y.I (hS _ _ (by omega) (by omega))]; exact x.2.2.2.2.2
/-- a move's cell is none of a page's -/
theorem PSh.off (x : PSh h p) {a : Nat} (ha : ztag h a = 2 ∨ ztag h a = 0 ∨ ztag h a = 14 ∨ ztag h a = 7 ∨ ztag h a = 9 ∨ ztag h a = 1) : a < p ∨ p + 6 < a := by
  obtain ⟨s0, s1, s2, s3, s4, s5, s6⟩ := x
  have e1 := s1.tg
  have e2 := s2.tg
  have e3 := s3.tg
  have e4 := s4.tg
  have e5 := s5.tg
  have e6 := s6.tg
  by_cases c : a < p ∨ p + 6 < a
  · exact c
  · exfalso
    have c2 : a = p ∨ a = p + 1 ∨ a = p + 2 ∨ a = p + 3 ∨ a = p + 4 ∨ a = p + 5 ∨ a = p + 6 := by omega
    rcases c2 with e | e | e | e | e | e | e <;> subst e <;> omega
end PGF
section PGM
variable {E : Nat → Nat} {d : Nat} {h : ZH} {p : Nat} {t u : Nat → Nat} {Q : Option Value → ZH → Prop}
theorem tp_Ok.T (ok : tp_Ok t) : 1 ≤ tp_T t ∧ tp_T t ≤ 20 := by
  obtain ⟨a, b, -⟩ := ok
  unfold tp_T
  exact ⟨Nat.mul_le_mul a.1 b.1, Nat.mul_le_mul a.2 b.2⟩
theorem tp_Ok.y (ok : tp_Ok t) {dd : Nat} (h : dd < tp_T t) : dd / t 1 < t 0 := by
  rw [Nat.div_lt_iff_lt_mul (by have := ok.2.1.1; omega)]
  exact h
theorem tp_uJ_b {u : Nat → Nat} (ou : tp_Ou u) (k : Nat) : -4 ≤ tp_uJ (u k) ∧ tp_uJ (u k) ≤ 2 := by
  have := ou k
  unfold tp_uJ
  split <;> omega
theorem tp_uJ_n {u : Nat → Nat} (k : Nat) : tp_uJ (u k) = -4 ↔ u k = 3 := by
  unfold tp_uJ
  split <;> omega
theorem ct_24 {a : Nat} {v1 v2 v3 : Int32} (hd : 1 ≤ d) (ht : ztag h a = 2) (q : Q none (zuI (zuI (zuI h a 3 v1) a 4 v2) a 5 v3)) : Ct E d 24 [.ref a, .int v1, .int v2, .int v3] h Q := by
  obtain ⟨d, rfl⟩ : ∃ n, d = n + 1 := ⟨d - 1, by omega⟩
  refine ok_24 ?_
  exact ⟨ht, nm_e (nm_e (nm_e q))⟩
/-- a move that was made -/
def MvT (h : ZH) (mv : Nat) (t u : Nat → Nat) (dd c m k x : Nat) : Prop := zI h mv 0 = jI (x : Int) ∧ zI h mv 1 = jI (tp_mU t u dd c m k x : Int) ∧ zI h mv 2 = jI (tp_nC t u dd c m k x : Int) ∧ zI h mv 3 = jI (tp_c1 t u dd c m k x : Int) ∧ zI h mv 4 = jI (tp_m1 t u dd c m k x : Int) ∧ zI h mv 5 = jI (k : Int) ∧ zI h mv 6 = jI 0 ∧ zI h mv 7 = jI (tp_fl t u dd c m k x : Int) ∧ zI h mv 8 = jI 0
set_option maxHeartbeats 2000000 in
theorem ct_25 {mv dd c m k x : Nat} (hd : 6 ≤ d) (ok : tp_Ok t) (P : PgR h p t u) (hm : ztag h mv = 2) (hdd : dd < tp_T t) (hc : c ≤ 20) (hmm : m ≤ 12) (hk : k ≤ 8) (hx : x ≤ 9) : Ct E d 25 [.ref mv, .ref p, .int (jI (dd : Int)), .int (jI (c : Int)), .int (jI (m : Int)), .int (jI (k : Int)), .int (jI (x : Int))] h (fun v h' => v = none ∧ Fr (fun a _ => a = mv) h h' ∧ MvT h' mv t u dd c m k x) := by
  obtain ⟨d, rfl⟩ : ∃ n, d = n + 1 := ⟨d - 1, by omega⟩
  refine ok_25 ?_
  unfold w_25
  have hT := ok.T
  have hy := ok.y hdd
  have hy4 : t 0 ≤ 4 := ok.1.2
  have off := P.1.1.off (Or.inl hm)
  obtain ⟨⟨⟨S0, S1, S2, S3, S4, S5, S6⟩, Pt, Pu⟩, Pq, Ptp, Py, Pcl, Ptot⟩ := P
  have ht9 : t 9 ≤ 2 := ok.2.2.2.2.2.2.2.2.1
  have htp := tp_tp_le t u (dd / t 1)
  have hqt := tp_qt_le ok u (dd / t 1)
  have n1 : p + 1 ≠ mv := by omega
  have n3 : p + 3 ≠ mv := by omega
  refine ⟨S0, p + 5, S5.1, S5.ti, S5.inn (by omega) (by omega), nm_r (e' := jI ((dd / t 1 : Nat) : Int)) (by rw [jI_cln (by omega)]; exact Py dd hdd) ?_⟩
  refine ⟨p + 1, S1.1, S1.ti, S1.inc (by decide), nm_r (Pt 9 (by omega)) ?_⟩
  refine ⟨p + 4, S4.1, S4.ti, S4.inn (by omega) (by omega), by omega, nm_r (e' := jI ((tp_tp t u (dd / t 1) - k - c : Nat) : Int)) (by (simp (disch := omega) only [Ptp (dd / t 1) hy, jI_cln, jI_add, jI_sub, jI_mul, jI_neg, jlits, zmax_j, zmin_j, jI_lt, jI_le, jI_eq]); first | rfl | ((repeat' split) <;> first | rfl | (congr 1; omega) | omega | (exfalso; omega))) ?_⟩
  refine ⟨⟨fun _ => trivial, fun _ => ⟨by omega, trivial⟩⟩, nm_r (e' := jI ((if t 9 = 2 then min x (tp_tp t u (dd / t 1) - k - c) else 0 : Nat) : Int)) (by (simp (disch := omega) only [jI_cln, jI_add, jI_sub, jI_mul, jI_neg, jlits, zmax_j, zmin_j, jI_lt, jI_le, jI_eq]); first | rfl | ((repeat' split) <;> first | rfl | (congr 1; omega) | omega | (exfalso; omega))) ?_⟩
  refine ⟨hm, nm_e ?_⟩
  refine ⟨⟨fun _ => ⟨by omega, trivial⟩, fun _ => trivial⟩, nm_r (e' := zuI (zuI h mv 0 (jI (x : Int))) mv 1 (jI (tp_mU t u dd c m k x : Int))) (by
    congr 1
    unfold tp_mU
    have hcf : (if t 9 = 2 then min x (tp_tp t u (dd / t 1) - k - c) else 0) ≤ x := by split <;> omega
    generalize (if t 9 = 2 then min x (tp_tp t u (dd / t 1) - k - c) else 0) = cf at hcf ⊢
    (simp (disch := omega) only [jI_cln, jI_add, jI_sub, jI_mul, jI_neg, jlits, zmax_j, zmin_j, jI_lt, jI_le, jI_eq]); first | rfl | ((repeat' split) <;> first | rfl | (congr 1; omega) | omega | (exfalso; omega))) ?_⟩
  have hmu := tp_mU_x t u dd c m k x
  have hmm2 := tp_mU_m t u dd c m k x
  refine nm_r (e' := zuI (zuI (zuI h mv 0 (jI (x : Int))) mv 1 (jI (tp_mU t u dd c m k x : Int))) mv 2 (jI (tp_nC t u dd c m k x : Int))) (by
    rw [zI_here, jI_sub]
    congr 2
    unfold tp_nC
    omega) ?_
  refine nm_r (e' := jI ((c + tp_nC t u dd c m k x : Nat) : Int)) (by rw [zI_here, jI_add]; rfl) ?_
  have hnc := tp_nC_x t u dd c m k x
  refine ⟨p + 3, S3.1, S3.ti, S3.inn (by omega) (by omega), by omega, by omega, nm_r (e' := jI (tp_oV t u dd c m k x : Int)) (by
    rw [zI_here, zI_offa n3, zI_offa n3, zI_offa n3, jI_cln (by omega), Pq _ hy]
    unfold tp_oV
    (simp (disch := omega) only [jI_cln, jI_add, jI_sub, jI_mul, jI_neg, jlits, zmax_j, zmin_j, jI_lt, jI_le, jI_eq]); first | rfl | ((repeat' split) <;> first | rfl | (congr 1; omega) | omega | (exfalso; omega))) ?_⟩
  refine ⟨S1.inc (by decide), S1.inc (by decide), nm_r (e' := zuI (zuI (zuI (zuI h mv 0 (jI (x : Int))) mv 1 (jI (tp_mU t u dd c m k x : Int))) mv 2 (jI (tp_nC t u dd c m k x : Int))) mv 7 (jI (tp_fl t u dd c m k x : Int))) (by
    rw [zI_offa n1, zI_offa n1, zI_offa n1, zI_offa n1, zI_offa n1, zI_offa n1, zI_offi (by omega : (1 : Nat) ≠ 2), zI_here, Pt 8 (by omega), Pt 10 (by omega)]
    congr 1
    simp only [jlits, jI_mul, jI_add]
    rfl) ?_⟩
  refine nm_e (nm_e ⟨by omega, ?_⟩)
  refine ct_24 (by omega) hm ⟨rfl, rfl, ?_, ?_⟩
  · exact Fr.uI (Fr.uI (Fr.uI (Fr.uI (Fr.uI (Fr.uI (Fr.uI (Fr.uI (Fr.uI Fr.rf rfl) rfl) rfl) rfl) rfl) rfl) rfl) rfl) rfl
  · have e3 : zmin 20 (jI ((c + tp_nC t u dd c m k x : Nat) : Int)) = jI (tp_c1 t u dd c m k x : Int) := by
      unfold tp_c1
      (simp (disch := omega) only [jI_cln, jI_add, jI_sub, jI_mul, jI_neg, jlits, zmax_j, zmin_j, jI_lt, jI_le, jI_eq]); first | rfl | ((repeat' split) <;> first | rfl | (congr 1; omega) | omega | (exfalso; omega))
    have e4 : jI (m : Int) - jI (tp_mU t u dd c m k x : Int) = jI (tp_m1 t u dd c m k x : Int) := by
      rw [jI_sub]
      congr 1
      unfold tp_m1
      omega
    unfold MvT
    refine ⟨?_, ?_, ?_, ?_, ?_, ?_, ?_, ?_, ?_⟩ <;> simp only [zI_uI, Nat.reduceEqDiff, and_false, and_true, if_false, if_true, true_and, e3, e4] <;> rfl
set_option maxHeartbeats 2000000 in
theorem ct_26 {mv dd c k : Nat} {m : Int32} (hd : 6 ≤ d) (ok : tp_Ok t) (P : PgR h p t u) (hm : ztag h mv = 2) (hdd : dd < tp_T t) (hc : c ≤ 20) (hk : k ≤ 8) (hc3 : zI h mv 3 = jI (c : Int)) (hc5 : zI h mv 5 = jI (k : Int)) : Ct E d 26 [.ref mv, .ref p, .int (jI (dd : Int))] h (fun v h' => v = none ∧ Fr (fun a i => a = mv ∧ (i = 3 ∨ i = 4 ∨ i = 5 ∨ i = 6 ∨ i = 8)) h h' ∧ ((dd + 1) % t 1 ≠ 0 → h' = h) ∧ ((dd + 1) % t 1 = 0 → zI h' mv 3 = jI 0 ∧ zI h' mv 4 = jI (tp_mE t u (dd / t 1) c k : Int) ∧ zI h' mv 5 = jI (tp_kE t u (dd / t 1) c : Int) ∧ zI h' mv 6 = jI (tp_sE t u (dd / t 1) c k : Int) ∧ zI h' mv 8 = jI ((100 * t 6 * tp_sE t u (dd / t 1) c k : Nat) : Int))) := by
  obtain ⟨d, rfl⟩ : ∃ n, d = n + 1 := ⟨d - 1, by omega⟩
  refine ok_26 ?_
  unfold w_26
  have hT := ok.T
  have hy := ok.y hdd
  have hy4 : t 0 ≤ 4 := ok.1.2
  have off := P.1.1.off (Or.inl hm)
  obtain ⟨⟨⟨S0, S1, S2, S3, S4, S5, S6⟩, Pt, Pu⟩, Pq, Ptp, Py, Pcl, Ptot⟩ := P
  have ht9 : t 9 ≤ 2 := ok.2.2.2.2.2.2.2.2.1
  have ht11 : t 11 ≤ 1 := ok.2.2.2.2.2.2.2.2.2.2.1
  have htp := tp_tp_le t u (dd / t 1)
  have hqt := tp_qt_le ok u (dd / t 1)
  have n1 : p + 1 ≠ mv := by omega
  have n3 : p + 3 ≠ mv := by omega
  refine ⟨S0, p + 6, S6.1, S6.tz, S6.inn (by omega) (by omega), ?_⟩
  have ecl : zI h (p + 6) (jI (dd : Int)).toNatClampNeg = jI (if (dd + 1) % t 1 = 0 then 1 else 0) := by rw [jI_cln (by omega)]; exact Pcl dd hdd
  rw [ecl]
  by_cases hl : (dd + 1) % t 1 = 0
  · rw [if_pos hl]
    refine ⟨fun _ => ?_, fun q => absurd (by decide : ¬ jI 1 = 0) q⟩
    refine ⟨p + 5, S5.1, S5.ti, S5.inn (by omega) (by omega), nm_r (e' := jI ((dd / t 1 : Nat) : Int)) (by rw [jI_cln (by omega)]; exact Py dd hdd) ?_⟩
    refine ⟨p + 4, S4.1, S4.ti, S4.inn (by omega) (by omega), hm, by omega, nm_r (e' := zuI h mv 6 (jI (tp_sE t u (dd / t 1) c k : Int))) (by
      congr 1
      unfold tp_sE
      rw [hc3, hc5]
      (simp (disch := omega) only [Ptp (dd / t 1) hy, jI_cln, jI_add, jI_sub, jI_mul, jI_neg, jlits, zmax_j, zmin_j, jI_lt, jI_le, jI_eq]); first | rfl | ((repeat' split) <;> first | rfl | (congr 1; omega) | omega | (exfalso; omega))) ?_⟩
    refine ⟨p + 1, S1.1, S1.ti, S1.inc (by decide), nm_r (e' := zuI (zuI h mv 6 (jI (tp_sE t u (dd / t 1) c k : Int))) mv 8 (jI ((100 * t 6 * tp_sE t u (dd / t 1) c k : Nat) : Int))) (by
      rw [zI_here, zI_offa n1, Pt 6 (by omega)]
      congr 1
      simp only [jlits, jI_mul, Int.natCast_mul]
      rfl) ?_⟩
    refine ⟨p + 3, S3.1, S3.ti, S3.inn (by omega) (by omega), by omega, nm_r (e' := jI ((c - tp_qt t u (dd / t 1) : Nat) : Int)) (by
      rw [zI_offi (by omega : (3 : Nat) ≠ 8), zI_offi (by omega : (3 : Nat) ≠ 6), hc3, zI_offa n3, zI_offa n3, jI_cln (by omega), Pq _ hy]
      (simp (disch := omega) only [jI_cln, jI_add, jI_sub, jI_mul, jI_neg, jlits, zmax_j, zmin_j, jI_lt, jI_le, jI_eq]); first | rfl | ((repeat' split) <;> first | rfl | (congr 1; omega) | omega | (exfalso; omega))) ?_⟩
    have e11 : zI (zuI (zuI h mv 6 (jI (tp_sE t u (dd / t 1) c k : Int))) mv 8 (jI ((100 * t 6 * tp_sE t u (dd / t 1) c k : Nat) : Int))) (p + 1) 11 = jI (t 11 : Int) := by rw [zI_offa n1, zI_offa n1, Pt 11 (by omega)]
    have e9 : zI (zuI (zuI h mv 6 (jI (tp_sE t u (dd / t 1) c k : Int))) mv 8 (jI ((100 * t 6 * tp_sE t u (dd / t 1) c k : Nat) : Int))) (p + 1) 9 = jI (t 9 : Int) := by rw [zI_offa n1, zI_offa n1, Pt 9 (by omega)]
    have e6 : zI (zuI (zuI h mv 6 (jI (tp_sE t u (dd / t 1) c k : Int))) mv 8 (jI ((100 * t 6 * tp_sE t u (dd / t 1) c k : Nat) : Int))) mv 6 = jI (tp_sE t u (dd / t 1) c k : Int) := by rw [zI_offi (by omega : (6 : Nat) ≠ 8), zI_here]
    refine ⟨S1.inc (by decide), ⟨fun _ => trivial, fun _ => ⟨by omega, trivial⟩⟩, nm_r (e' := jI (tp_kE t u (dd / t 1) c : Int)) (by
      rw [e11]
      unfold tp_kE
      (simp (disch := omega) only [jI_cln, jI_add, jI_sub, jI_mul, jI_neg, jlits, zmax_j, zmin_j, jI_lt, jI_le, jI_eq]); first | rfl | ((repeat' split) <;> first | rfl | (congr 1; omega) | omega | (exfalso; omega))) ?_⟩
    refine ⟨S1.inc (by decide), ?_⟩
    have em : (if ¬ (zI (zuI (zuI h mv 6 (jI (tp_sE t u (dd / t 1) c k : Int))) mv 8 (jI ((100 * t 6 * tp_sE t u (dd / t 1) c k : Nat) : Int))) (p + 1) 9 : Int32) = 0 then zI (zuI (zuI h mv 6 (jI (tp_sE t u (dd / t 1) c k : Int))) mv 8 (jI ((100 * t 6 * tp_sE t u (dd / t 1) c k : Nat) : Int))) mv 6 else 0) = jI (tp_mE t u (dd / t 1) c k : Int) := by
      rw [e9, e6]
      unfold tp_mE
      (simp (disch := omega) only [jI_cln, jI_add, jI_sub, jI_mul, jI_neg, jlits, zmax_j, zmin_j, jI_lt, jI_le, jI_eq]); first | rfl | ((repeat' split) <;> first | rfl | (congr 1; omega) | omega | (exfalso; omega))
    rw [em]
    refine ct_24 (by omega) hm ⟨rfl, rfl, ?_, fun q => absurd hl q, fun _ => ?_⟩
    · exact Fr.uI (Fr.uI (Fr.uI (Fr.uI (Fr.uI Fr.rf ⟨rfl, by omega⟩) ⟨rfl, by omega⟩) ⟨rfl, by omega⟩) ⟨rfl, by omega⟩) ⟨rfl, by omega⟩
    · refine ⟨?_, ?_, ?_, ?_, ?_⟩ <;> simp only [zI_uI, Nat.reduceEqDiff, and_false, and_true, if_false, if_true, true_and] <;> rfl
  · rw [if_neg hl]
    refine ⟨fun q => absurd rfl q, fun _ => ⟨rfl, Fr.rf, fun _ => rfl, fun q => absurd q hl⟩⟩
end PGM
