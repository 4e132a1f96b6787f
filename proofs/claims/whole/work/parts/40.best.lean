/-! THE CLASS'S BEST: its cells, its stamps -/
def tp_ce (c m k : Nat) : Nat := if m = 0 ∨ k = 0 then (if m = 0 then k else 8 + m) * 21 + c else 441 + (m - 1) * 21 + c
/-- the places that are kept: MADE alone, CREDIT alone, or MADE beside the one CREDIT that was asked for -/
def tp_V (ac c m k : Nat) : Prop := c ≤ 20 ∧ m ≤ 12 ∧ k ≤ 8 ∧ (m = 0 ∨ k = 0 ∨ k = ac)
theorem tp_ce_lt {c m k : Nat} (hc : c ≤ 20) (hm : m ≤ 12) (hk : k ≤ 8) : tp_ce c m k < 693 ∧ (tp_ce c m k < 441 ↔ m = 0 ∨ k = 0) := by
  unfold tp_ce
  split
  · split <;> omega
  · omega
theorem tp_ce_inj {ac c m k c' m' k' : Nat} (h : tp_V ac c m k) (h' : tp_V ac c' m' k') (e : tp_ce c m k = tp_ce c' m' k') : c = c' ∧ m = m' ∧ k = k' := by
  obtain ⟨a1, a2, a3, a4⟩ := h
  obtain ⟨b1, b2, b3, b4⟩ := h'
  unfold tp_ce at e
  split at e <;> split at e <;> (try split at e) <;> (try split at e) <;> omega
theorem tp_V_next {t : Nat → Nat} (ok : tp_Ok t) (u : Nat → Nat) {ac d c m k x : Nat} (h : tp_V ac c m k) : tp_V ac (tp_c2 t u d c m k x) (tp_m2 t u d c m k x) (tp_k2 t u d c m k x) := by
  obtain ⟨a1, a2, a3, a4⟩ := h
  refine ⟨tp_c2_le _ _ _ _ _ _ _, tp_m2_le _ _ _ _ _ _ a2, tp_k2_le _ _ _ _ _ _ a3, ?_⟩
  rcases a4 with q | q | q
  · have := tp_own ok u d c x (Or.inl q : m = 0 ∨ k = 0); omega
  · have := tp_own ok u d c x (Or.inr q : m = 0 ∨ k = 0); omega
  · have := tp_own2 ok u d c m k x; omega
def BSh (h : ZH) (b : Nat) : Prop := ztag h b = 0 ∧ zAr h b 0 (b + 1) 14 41580 ∧ zAr h b 1 (b + 2) 13 13860 ∧ zAr h b 2 (b + 3) 16 20 ∧ zAr h b 3 (b + 4) 13 60 ∧ zAr h b 4 (b + 5) 13 60 ∧ zAr h b 5 (b + 6) 14 21 ∧ ∀ i, i < 20 → zR h (b + 3) i = b + 7 + i + 1 ∧ ztag h (b + 7 + i) = 2
/-- whose page it is, its prices, the parts of a day -/
def BPr (h : ZH) (b p : Nat) (t : Nat → Nat) (pr : Nat → Nat → Nat) : Prop := zR h b 6 = p + 1 ∧ (∀ d s, d < tp_T t → s < 3 → zI h (b + 4) (3 * d + s) = jI (pr d s : Int)) ∧ (∀ d s, d < tp_T t → s < 3 → zI h (b + 5) (3 * d + s) = jI (tp_un t (pr d s) 4 : Int)) ∧ ∀ d, d ≤ tp_T t → zL h (b + 6) d = jL (4 ^ (tp_T t - d))
def BSd (h : ZH) (b d c m k : Nat) : Prop := zI h (b + 2) (d * 693 + tp_ce c m k) = if m = 0 ∨ k = 0 then zI h b 7 else zI h b 8
/-- what is stamped is right, and what it leads to is stamped -/
def BOk (h : ZH) (b : Nat) (t u : Nat → Nat) (pr : Nat → Nat → Nat) (ac : Nat) : Prop := ∀ d c m k, d < tp_T t → tp_V ac c m k → BSd h b d c m k → (∀ s, s < 3 → zL h (b + 1) (3 * (d * 693 + tp_ce c m k) + s) = jL (tp_A t u pr (tp_T t - d) d c m k s)) ∧ (d + 1 < tp_T t → ∀ x, tp_lo t u d ≤ x → x ≤ tp_hi t u d → BSd h b (d + 1) (tp_c2 t u d c m k x) (tp_m2 t u d c m k x) (tp_k2 t u d c m k x))
section BSF
variable {S : Nat → Nat → Prop} {h h1 : ZH} {b p ac : Nat} {t u : Nat → Nat} {pr : Nat → Nat → Nat}
theorem BSh.fr (x : BSh h b) (y : Fr S h h1) : BSh h1 b := by
  unfold BSh zAr at x ⊢
  rw [y.2.1, y.2.2.1, y.2.2.2.1]
  exact x
theorem BPr.fr (x : BPr h b p t pr) (y : Fr S h h1) (hS : ∀ a i, b + 4 ≤ a → a ≤ b + 6 → ¬ S a i) : BPr h1 b p t pr := by
  refine ⟨by rw [y.rr]; exact x.1, fun d s hd hs => ?_, fun d s hd hs => ?_, fun d hd => ?_⟩
  · rw [y.I (hS _ _ (by omega) (by omega))]; exact x.2.1 d s hd hs
  · rw [y.I (hS _ _ (by omega) (by omega))]; exact x.2.2.1 d s hd hs
  · rw [y.L (hS _ _ (by omega) (by omega))]; exact x.2.2.2 d hd
theorem BSd.fr {d c m k : Nat} (y : Fr S h h1) (h2 : ¬ S (b + 2) (d * 693 + tp_ce c m k)) (h7 : ¬ S b 7) (h8 : ¬ S b 8) : BSd h1 b d c m k ↔ BSd h b d c m k := by
  unfold BSd
  rw [y.I h2, y.I h7, y.I h8]
theorem BOk.fr (x : BOk h b t u pr ac) (y : Fr S h h1) (h1' : ∀ i, ¬ S (b + 1) i) (h2 : ∀ i, ¬ S (b + 2) i) (h7 : ¬ S b 7) (h8 : ¬ S b 8) : BOk h1 b t u pr ac := by
  intro d c m k hd hv hs
  rw [BSd.fr y (h2 _) h7 h8] at hs
  obtain ⟨e1, e2⟩ := x d c m k hd hv hs
  refine ⟨fun s hs => ?_, fun hd2 x hx1 hx2 => ?_⟩
  · rw [y.L (h1' _)]; exact e1 s hs
  · rw [BSd.fr y (h2 _) h7 h8]; exact e2 hd2 x hx1 hx2
end BSF
/-! a move that was made and closed -/
def MvC (h : ZH) (mv : Nat) (t u : Nat → Nat) (dd c m k x : Nat) : Prop := zI h mv 0 = jI (x : Int) ∧ zI h mv 1 = jI (tp_mU t u dd c m k x : Int) ∧ zI h mv 2 = jI (tp_nC t u dd c m k x : Int) ∧ zI h mv 3 = jI (tp_c2 t u dd c m k x : Int) ∧ zI h mv 4 = jI (tp_m2 t u dd c m k x : Int) ∧ zI h mv 5 = jI (tp_k2 t u dd c m k x : Int) ∧ zI h mv 6 = jI (tp_sh t u dd c m k x : Int) ∧ zI h mv 7 = jI (tp_fl t u dd c m k x : Int) ∧ zI h mv 8 = jI ((100 * t 6 * tp_sh t u dd c m k x : Nat) : Int)
theorem MvC.fr {S : Nat → Nat → Prop} {h h1 : ZH} {mv : Nat} {t u : Nat → Nat} {dd c m k x : Nat} (q : MvC h mv t u dd c m k x) (y : Fr S h h1) (hS : ∀ i, ¬ S mv i) : MvC h1 mv t u dd c m k x := by
  unfold MvC at q ⊢
  rw [y.I (hS _), y.I (hS _), y.I (hS _), y.I (hS _), y.I (hS _), y.I (hS _), y.I (hS _), y.I (hS _), y.I (hS _)]
  exact q
section MVC
variable {E : Nat → Nat} {d : Nat} {h : ZH} {p : Nat} {t u : Nat → Nat} {Q : Option Value → ZH → Prop}
/-- take and close, one behind the other -/
theorem ct_2526 {R : ZH → Prop} {mv dd c m k x : Nat} (hd : 6 ≤ d) (ok : tp_Ok t) (P : PgR h p t u) (hm : ztag h mv = 2) (hdd : dd < tp_T t) (hc : c ≤ 20) (hmm : m ≤ 12) (hk : k ≤ 8) (hx : x ≤ 9) (q : ∀ h1, Fr (fun a _ => a = mv) h h1 → MvT h1 mv t u dd c m k x → (∀ Q1 : ZH → Prop, (∀ h', Fr (fun a _ => a = mv) h h' → MvC h' mv t u dd c m k x → Q1 h') → Ct E d 26 [.ref mv, .ref p, .int (jI (dd : Int))] h1 (fun v h2 => v = none ∧ Q1 h2)) → R h1) : Ct E d 25 [.ref mv, .ref p, .int (jI (dd : Int)), .int (jI (c : Int)), .int (jI (m : Int)), .int (jI (k : Int)), .int (jI (x : Int))] h (fun v h1 => v = none ∧ R h1) := by
  have off := P.1.1.off (Or.inl hm)
  refine Ct.mono (ct_25 hd ok P hm hdd hc hmm hk hx) ?_
  rintro v h1 ⟨rfl, F1, T1⟩
  refine ⟨rfl, q h1 F1 T1 (fun Q1 q1 => ?_)⟩
  have P1 : PgR h1 p t u := P.fr F1 (fun a i h1 h2 e => by omega)
  obtain ⟨t0, t1, t2, t3, t4, t5, t6, t7, t8⟩ := T1
  refine Ct.mono (ct_26 (m := 0) hd ok P1 (by rw [F1.tg]; exact hm) hdd (tp_c1_le _ _ _ _ _ _ _) hk t3 t5) ?_
  rintro v h2 ⟨rfl, F2, n1, n2⟩
  refine ⟨rfl, q1 h2 (F1.tr (F2.wd (fun a i e => e.1))) ?_⟩
  have f0 : ∀ i, i = 0 ∨ i = 1 ∨ i = 2 ∨ i = 7 → zI h2 mv i = zI h1 mv i := fun i hi => F2.I (fun e => by omega)
  unfold MvC tp_c2 tp_m2 tp_k2 tp_sh
  by_cases c : (dd + 1) % t 1 = 0
  · obtain ⟨c3, c4, c5, c6, c8⟩ := n2 c
    rw [f0 0 (by omega), f0 1 (by omega), f0 2 (by omega), f0 7 (by omega), if_pos c, if_pos c, if_pos c, if_pos c]
    exact ⟨t0, t1, t2, c3, c4, c5, c6, t7, c8⟩
  · rw [n1 c, if_neg c, if_neg c, if_neg c, if_neg c]
    exact ⟨t0, t1, t2, t3, t4, t5, t6, t7, t8⟩
end MVC
section BWM
variable {E : Nat → Nat} {d : Nat} {h : ZH} {b p ac : Nat} {t u : Nat → Nat} {pr : Nat → Nat → Nat} {Q : Option Value → ZH → Prop}
theorem sz5 (x y z : Int32) : sz_5 E h x y z := ⟨fun _ => trivial, fun _ => ⟨fun _ => trivial, fun _ => trivial⟩⟩
theorem fz5 {c m k : Nat} (hc : c ≤ 20) (hm : m ≤ 12) (hk : k ≤ 8) : fz_5 E h (jI (c : Int)) (jI (m : Int)) (jI (k : Int)) = jI (tp_ce c m k : Int) := by
  unfold fz_5 tp_ce
  rw [show (0 : Int32) = jI 0 from rfl, show (8 : Int32) = jI 8 from rfl, show (21 : Int32) = jI 21 from rfl, show (441 : Int32) = jI 441 from rfl, show (1 : Int32) = jI 1 from rfl, jI_add, jI_sub, jI_mul, jI_add, jI_add]
  simp (disch := omega) only [jI_eq, jI_le]
  by_cases c1 : m = 0
  · rw [if_pos (by omega), if_pos (by omega), if_pos (Or.inl c1), if_pos c1, jI_mul, jI_add]
    first | rfl | (congr 1; omega)
  · rw [if_neg (by omega)]
    by_cases c2 : k = 0
    · rw [if_neg (by omega), if_neg (by omega), if_pos (Or.inr c2), if_neg c1, jI_mul, jI_add]
      first | rfl | (congr 1; omega)
    · rw [if_pos (by omega), if_neg (by omega)]
      first | rfl | (congr 1; omega)
theorem jrow {a n : Nat} (c : Nat) (h : a < n) : a * c + c ≤ n * c := by
  have := Nat.mul_le_mul_right c (show a + 1 ≤ n from h)
  rw [Nat.succ_mul] at this
  exact this
set_option maxHeartbeats 2000000 in
/-- the worth of a move that was made -/
theorem fsz11 {mv dd c m k s x : Nat} (ok : tp_Ok t) (hpr : tp_Pr pr) (P : PgR h p t u) (B : BSh h b) (R : BPr h b p t pr) (hm : ztag h mv = 2) (M : MvC h mv t u dd c m k x) (hdd : dd < tp_T t) (hs : s < 3) (hx : x ≤ 4) (hmm : m ≤ 12) (hk : k ≤ 8) (hA : dd + 1 < tp_T t → zL h (b + 1) (3 * ((dd + 1) * 693 + tp_ce (tp_c2 t u dd c m k x) (tp_m2 t u dd c m k x) (tp_k2 t u dd c m k x)) + s) = jL (tp_A t u pr (tp_T t - (dd + 1)) (dd + 1) (tp_c2 t u dd c m k x) (tp_m2 t u dd c m k x) (tp_k2 t u dd c m k x) s)) : sz_11 E h b mv (jI (dd : Int)) (jI (s : Int)) ∧ fz_11 E h b mv (jI (dd : Int)) (jI (s : Int)) = jL (tp_X t u pr (tp_T t - (dd + 1)) dd c m k s x) := by
  have hT := ok.T
  obtain ⟨B0, B1, B2, B3, B4, B5, B6, Bm⟩ := B
  obtain ⟨R6, Rp, Ru, Rq⟩ := R
  obtain ⟨M0, M1, M2, M3, M4, M5, M6, M7, M8⟩ := M
  have PT := P.1.1.1
  have Ptot := P.2.2.2.2.2
  have e1 : (3 * jI (dd : Int) + jI (s : Int) : Int32) = jI ((3 * dd + s : Nat) : Int) := by
    rw [show (3 : Int32) = jI 3 from rfl, jI_mul, jI_add]; congr 1
  have e2 : (jI (dd : Int) + 1 : Int32) = jI ((dd + 1 : Nat) : Int) := by
    rw [show (1 : Int32) = jI 1 from rfl, jI_add]; rfl
  have hc2 := tp_c2_le t u dd c m k x
  have hm2 := tp_m2_le t u dd c k x hmm
  have hk2 := tp_k2_le t u dd c m x hk
  have hce := (tp_ce_lt hc2 hm2 hk2).1
  have e3 : dd + 1 < tp_T t → (3 * ((jI ((dd + 1 : Nat) : Int) * 693) + jI (tp_ce (tp_c2 t u dd c m k x) (tp_m2 t u dd c m k x) (tp_k2 t u dd c m k x) : Int)) + jI (s : Int) : Int32) = jI ((3 * ((dd + 1) * 693 + tp_ce (tp_c2 t u dd c m k x) (tp_m2 t u dd c m k x) (tp_k2 t u dd c m k x)) + s : Nat) : Int) := fun _ => by
    rw [show (3 : Int32) = jI 3 from rfl, show (693 : Int32) = jI 693 from rfl, jI_mul, jI_add, jI_mul, jI_add]; congr 1
  have hlt : ((jI ((dd + 1 : Nat) : Int)) < (zI h p 6 : Int32)) ↔ dd + 1 < tp_T t := by
    rw [Ptot, jI_lt (by omega) (by omega) (by omega) (by omega)]
    omega
  have bd1 := tp_paid_le ok u dd c m k hx (hpr dd s hs)
  have bd2 : 100 * pr dd s * x ≤ 100 * 240 * 4 := Nat.mul_le_mul (Nat.mul_le_mul_left _ (hpr dd s hs)) hx
  have egain : ((100 * (zI h (b + 4) (jI ((3 * dd + s : Nat) : Int)).toNatClampNeg)) * (zI h mv 0)) - (((zI h mv 2) * (zI h (b + 5) (jI ((3 * dd + s : Nat) : Int)).toNatClampNeg)) + (4 * ((zI h mv 7) + (zI h mv 8)))) = jI (tp_g4 t u pr dd c m k s x) := by
    rw [jI_cln (by omega), Rp dd s hdd hs, Ru dd s hdd hs, M0, M2, M7, M8, show (100 : Int32) = jI 100 from rfl, show (4 : Int32) = jI 4 from rfl, jI_mul, jI_mul, jI_mul, jI_add, jI_mul, jI_add, jI_sub]
    rfl
  have hgb := tp_g4_bd ok u hpr (d := dd) (c := c) (m := m) (k := k) hs hx
  have eL : ((jI (tp_g4 t u pr dd c m k s x)).toInt64) * (zL h (b + 6) (jI ((dd + 1 : Nat) : Int)).toNatClampNeg) = jL (tp_g4 t u pr dd c m k s x * 4 ^ (tp_T t - (dd + 1))) := by
    rw [jI_cln (by omega), Rq (dd + 1) (by omega), jI_toL (by omega) (by omega), jL_mul]
  constructor
  · unfold sz_11
    refine nm_r e1 ⟨hm, B0, b + 5, B5.1, B5.ti, B5.inn (by omega) (by omega), nm_e ⟨b + 4, B4.1, B4.ti, B4.inn (by omega) (by omega), b + 6, B6.1, B6.tg, ?_, nm_e ⟨p, R6, PT, fun hc => ⟨sz5 _ _ _, ?_⟩, fun _ => trivial⟩⟩⟩
    · rw [e2]; exact B6.inn (by omega) (by omega)
    · rw [e2] at hc
      have hc' := hlt.mp hc
      have := jrow 693 hc'
      refine nm_r (e' := (jI ((dd + 1 : Nat) : Int) * 693) + jI (tp_ce (tp_c2 t u dd c m k x) (tp_m2 t u dd c m k x) (tp_k2 t u dd c m k x) : Int)) (by rw [e2, M3, M4, M5, fz5 hc2 hm2 hk2]) ⟨b + 1, B1.1, B1.tg, ?_, trivial⟩
      rw [e3 hc']
      exact B1.inn (by omega) (by omega)
  · unfold fz_11
    rw [B5.sub, B4.sub, B6.sub, show zR h b 6 - 1 = p by rw [R6]; rfl, B1.sub]
    dsimp only
    rw [e1, e2, egain, eL]
    unfold tp_X
    by_cases c1 : dd + 1 < tp_T t
    · have := jrow 693 c1
      rw [if_pos (hlt.mpr c1), M3, M4, M5, fz5 hc2 hm2 hk2, e3 c1, jI_cln (by omega), hA c1, jL_add]
    · rw [if_neg (fun q => c1 (hlt.mp q))]
      have e0 : tp_T t - (dd + 1) = 0 := by omega
      rw [e0]
      unfold tp_A tp_W
      congr 1
      omega
end BWM
