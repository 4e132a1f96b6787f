/-! FIGURES: whole, without -/
section FBD
variable {t u : Nat → Nat}
theorem tp_B_le (ok : tp_Ok t) (u : Nat → Nat) (pr : Nat → Nat → Nat) (n d c m k s : Nat) : tp_lo t u d ≤ tp_B t u pr n d c m k s ∧ tp_B t u pr n d c m k s ≤ tp_hi t u d ∧ tp_B t u pr n d c m k s ≤ 4 := by
  have h := tp_ma_in (f := tp_X t u pr n d c m k s) (lo := tp_lo t u d) (tp_hi t u d - tp_lo t u d)
  have hl := tp_lohi (u := u) ok d
  unfold tp_B
  omega
theorem tp_cb_bd (ok : tp_Ok t) (u : Nat → Nat) (j n d c m k : Nat) {s : Nat} (hs : s < 3) : -(512000 * 4 ^ n) ≤ tp_cb t u j n d c m k s ∧ tp_cb t u j n d c m k s ≤ 512000 * 4 ^ n := by
  have hx := (tp_B_le ok u (tp_pr t) n d c m k s).2.2
  have hpow : (0 : Int) ≤ 4 ^ n := Int.pow_nonneg (by omega)
  have key : ∀ z : Int, -512000 ≤ z → z ≤ 512000 → -(512000 * 4 ^ n) ≤ 4 ^ n * z ∧ 4 ^ n * z ≤ 512000 * 4 ^ n := fun z h1 h2 => by
    have g1 := Int.mul_le_mul_of_nonneg_left h1 hpow
    have g2 := Int.mul_le_mul_of_nonneg_left h2 hpow
    rw [Int.mul_comm (4 ^ n) (-512000)] at g1
    rw [Int.mul_comm (4 ^ n) 512000] at g2
    omega
  unfold tp_cb
  generalize tp_B t u (tp_pr t) n d c m k s = x at hx
  match j with
  | 0 =>
    refine key _ ?_ ?_
    all_goals
      have a1 := tp_paid_le ok u d c m k hx (tp_pr_ok ok d s hs)
      have h14 : t 14 ≤ 60 := ok.2.2.2.2.2.2.2.2.2.2.2.2.2.1
      have a2 : 100 * t 14 * x ≤ 100 * 60 * 4 := Nat.mul_le_mul (Nat.mul_le_mul_left _ h14) hx
      have e1 : (100 * (t 14 : Int) * (x : Int)) = ((100 * t 14 * x : Nat) : Int) := by simp only [Int.natCast_mul]; rfl
      have e2 : (tp_nC t u d c m k x : Int) * (tp_un t (tp_pr t d s) 4 : Int) = ((tp_nC t u d c m k x * tp_un t (tp_pr t d s) 4 : Nat) : Int) := by simp only [Int.natCast_mul]
      rw [e1, e2]
      omega
  | 1 => exact key _ (by omega) (by omega)
  | 2 =>
    have := tp_sh_le t u d c m k x
    exact key _ (by omega) (by omega)
  | j + 3 =>
    have := tp_mU_x t u d c m k x
    exact key _ (by omega) (by omega)
theorem tp_F_bd (ok : tp_Ok t) (u : Nat → Nat) (j : Nat) : ∀ n d c m k s, s < 3 → -(tp_bd n) ≤ 4 * tp_F t u j n d c m k s ∧ 4 * tp_F t u j n d c m k s ≤ tp_bd n
  | 0, d, c, m, k, s, _ => by simp [tp_F, tp_bd]
  | n + 1, d, c, m, k, s, hs => by
    have hg := tp_cb_bd ok u j n d c m k hs
    have w := fun v hv => tp_F_bd ok u j n (d + 1) (tp_c2 t u d c m k (tp_B t u (tp_pr t) n d c m k s)) (tp_m2 t u d c m k (tp_B t u (tp_pr t) n d c m k s)) (tp_k2 t u d c m k (tp_B t u (tp_pr t) n d c m k s)) v hv
    have w0 := w 0 (by omega)
    have w1 := w 1 (by omega)
    have w2 := w 2 (by omega)
    have hc := tp_ch_sum ok hs
    rw [tp_F_s, tp_bd_s]
    generalize tp_F t u j n (d + 1) (tp_c2 t u d c m k (tp_B t u (tp_pr t) n d c m k s)) (tp_m2 t u d c m k (tp_B t u (tp_pr t) n d c m k s)) (tp_k2 t u d c m k (tp_B t u (tp_pr t) n d c m k s)) 0 = W0 at *
    generalize tp_F t u j n (d + 1) (tp_c2 t u d c m k (tp_B t u (tp_pr t) n d c m k s)) (tp_m2 t u d c m k (tp_B t u (tp_pr t) n d c m k s)) (tp_k2 t u d c m k (tp_B t u (tp_pr t) n d c m k s)) 1 = W1 at *
    generalize tp_F t u j n (d + 1) (tp_c2 t u d c m k (tp_B t u (tp_pr t) n d c m k s)) (tp_m2 t u d c m k (tp_B t u (tp_pr t) n d c m k s)) (tp_k2 t u d c m k (tp_B t u (tp_pr t) n d c m k s)) 2 = W2 at *
    have s1 := tp_comb (a := (tp_ch t s 0 : Int)) (b := (tp_ch t s 1 : Int)) (c := (tp_ch t s 2 : Int)) (B := tp_bd n) (by omega) (by omega) (by omega) (by omega) w0.2 w1.2 w2.2
    have s2 := tp_combL (a := (tp_ch t s 0 : Int)) (b := (tp_ch t s 1 : Int)) (c := (tp_ch t s 2 : Int)) (B := tp_bd n) (by omega) (by omega) (by omega) (by omega) w0.1 w1.1 w2.1
    have r : (tp_ch t s 0 : Int) * (4 * W0) + (tp_ch t s 1 : Int) * (4 * W1) + (tp_ch t s 2 : Int) * (4 * W2) = 4 * ((tp_ch t s 0 : Int) * W0 + (tp_ch t s 1 : Int) * W1 + (tp_ch t s 2 : Int) * W2) := by grind
    rw [r] at s1 s2
    omega
theorem tp_Fv_bd (ok : tp_Ok t) (u : Nat → Nat) (j : Nat) : -2814749767106560000 ≤ tp_F t u j (tp_T t) 0 0 0 0 (t 15) ∧ tp_F t u j (tp_T t) 0 0 0 0 (t 15) ≤ 2814749767106560000 := by
  have hT := ok.T
  have h15 : t 15 ≤ 2 := ok.2.2.2.2.2.2.2.2.2.2.2.2.2.2.1
  have := tp_F_bd ok u j (tp_T t) 0 0 0 0 (t 15) (by omega)
  have hb := tp_bd_le (show tp_T t ≤ 20 by omega)
  omega
theorem tp_wh_bd (ok : tp_Ok t) (u : Nat → Nat) (w : Nat) : -2814749767106560000 ≤ tp_wh t u w ∧ tp_wh t u w ≤ 2814749767106560000 := by
  have hT := ok.T
  have h15 : t 15 ≤ 2 := ok.2.2.2.2.2.2.2.2.2.2.2.2.2.2.1
  unfold tp_wh
  split
  · have := tp_W_bd ok u (tp_pr_ok ok) (tp_T t) 0 0 0 0 (t 15) (by omega)
    have hb := tp_bd_le (show tp_T t ≤ 20 by omega)
    omega
  · exact tp_Fv_bd ok u 0
end FBD
section FIH
variable {E : Nat → Nat} {h : ZH} {x zs zt rb rt rp gb gt g bt sp : Nat} {t u rs : Nat → Nat} {Q : Option Value → ZH → Prop}
/-- what whole() and units() ask for -/
def FgW (h : ZH) (x : Nat) (t u : Nat → Nat) : Prop := zL h (x + 34) 0 = jL (tp_wh t u 0) ∧ ∀ j, j < 4 → zL h (x + 34) (1 + j) = jL (tp_F t u j (tp_T t) 0 0 0 0 (t 15))
def FgL (h : ZH) (x : Nat) (t u : Nat → Nat) : Prop := ∀ w, w < 8 → ¬ zI h (x + 33) w = 0 → zL h (x + 35) (2 * w) = jL (tp_wh (tp_lo8 t w) u 0 - tp_wh t u 0) ∧ zL h (x + 35) (2 * w + 1) = jL (tp_wh (tp_lo8 t w) u 1 - tp_wh t u 1)
/-! offers: how many are held, and the best of them: PAID, BASE, what the seller gets -/
abbrev OfT : Type := Nat × Nat × Nat × Int
def of_t (t : Nat → Nat) (p b : Nat) : Nat → Nat := fun k => if k = 5 then p else if k = 6 then b else t k
def of_st (t u : Nat → Nat) (p b : Nat) (s : OfT) : OfT := if tp_wh t u 0 ≤ tp_wh (of_t t p b) u 0 then (s.1 + 1, if s.1 = 0 ∨ s.2.2.2 < tp_wh (of_t t p b) u 1 then (p, b, tp_wh (of_t t p b) u 1) else s.2) else s
abbrev of_ok (t : Nat → Nat) (k : Nat) : Prop := 20 ≤ t 5 + 20 * (k / 3) ∧ t 5 + 20 * (k / 3) ≤ 120 ∧ 2 ≤ t 6 + k % 3 ∧ t 6 + k % 3 ≤ 61
def of_go (t u : Nat → Nat) : Nat → OfT
  | 0 => (0, 0, 0, 0)
  | k + 1 => if of_ok t k then of_st t u (t 5 + 20 * (k / 3) - 20) (t 6 + k % 3 - 1) (of_go t u k) else of_go t u k
def FgO (h : ZH) (x : Nat) (t u : Nat → Nat) (s : OfT) : Prop := zI h (x + 24) 14 = jI (s.1 : Int) ∧ (s.1 ≠ 0 → zI h (x + 24) 15 = jI (s.2.1 : Int) ∧ zI h (x + 24) 16 = jI (s.2.2.1 : Int) ∧ zL h (x + 24) 17 = jL (s.2.2.2 - tp_wh t u 1))
/-! what would have come of the best, had the states been known -/
def cm (t u rs : Nat → Nat) : Nat → Nat × Nat × Nat × Int
  | 0 => (0, 0, 0, 0)
  | d + 1 => (tp_c2 t u d (cm t u rs d).1 (cm t u rs d).2.1 (cm t u rs d).2.2.1 (tp_B t u (tp_prk t rs) (tp_T t - (d + 1)) d (cm t u rs d).1 (cm t u rs d).2.1 (cm t u rs d).2.2.1 0), tp_m2 t u d (cm t u rs d).1 (cm t u rs d).2.1 (cm t u rs d).2.2.1 (tp_B t u (tp_prk t rs) (tp_T t - (d + 1)) d (cm t u rs d).1 (cm t u rs d).2.1 (cm t u rs d).2.2.1 0), tp_k2 t u d (cm t u rs d).1 (cm t u rs d).2.1 (cm t u rs d).2.2.1 (tp_B t u (tp_prk t rs) (tp_T t - (d + 1)) d (cm t u rs d).1 (cm t u rs d).2.1 (cm t u rs d).2.2.1 0), 5 * (cm t u rs d).2.2.2 + (tp_B t u (tp_prk t rs) (tp_T t - (d + 1)) d (cm t u rs d).1 (cm t u rs d).2.1 (cm t u rs d).2.2.1 0 : Int))
def FgM (h : ZH) (x : Nat) (t u rs : Nat → Nat) : Prop := zI h (x + 24) 18 = jI (tp_W t u (tp_prk t rs) (tp_T t) 0 0 0 0 0 / 4 ^ tp_T t) ∧ (tp_T t ≤ 13 → zI h (x + 24) 19 = jI (cm t u rs (tp_T t)).2.2.2)
/-- what is kept, and that it is right where a flag says so -/
def FgK (h : ZH) (x rb rt rp gb : Nat) (t u rs : Nat → Nat) : Prop := (¬ zI h (x + 24) 7 = 0 → ∃ b ac, rb = b + 1 ∧ BAl h b (x + 1) ac gb t u (tp_pr t)) ∧ (¬ zI h (x + 24) 8 = 0 → rt ≠ 0 ∧ rp ≠ 0 ∧ FgW h x t u) ∧ (¬ zI h (x + 24) 9 = 0 → FgO h x t u (of_go t u 9)) ∧ (¬ zI h (x + 24) 10 = 0 → FgM h x t u rs) ∧ FgL h x t u
def Fg (h : ZH) (x zs zt g : Nat) (t u rs : Nat → Nat) : Prop := ∃ rb rt rp gb gt, gb ≤ g ∧ gt ≤ g ∧ Rm h x zs zt rb rt rp gb gt ∧ FgK h x rb rt rp gb t u rs
theorem Fg.mono {g' : Nat} (F : Fg h x zs zt g t u rs) (hg : g ≤ g') : Fg h x zs zt g' t u rs := by
  obtain ⟨rb, rt, rp, gb, gt, q1, q2, q⟩ := F
  exact ⟨rb, rt, rp, gb, gt, by omega, by omega, q⟩
/-- nothing of it changed -/
theorem Fg.ag {h1 : ZH} (F : Fg h x zs zt g t u rs) (y : Ag (fun a => a = x + 24 ∨ (x + 33 ≤ a ∧ a ≤ x + 35) ∨ x + 70 ≤ a) h h1) (z : zsz h1 = zsz h) (w : ztot h1 = ztot h) : Fg h1 x zs zt g t u rs := by
  obtain ⟨rb, rt, rp, gb, gt, q1, q2, R, f7, f8, f9, f10, fl⟩ := F
  have fI : ∀ i, zI h1 (x + 24) i = zI h (x + 24) i := fun i => y.I (Or.inl rfl) i
  refine ⟨rb, rt, rp, gb, gt, q1, q2, R.ag (y.wk (fun a ha => Or.inr (Or.inr ha))) (fun i _ _ => y.R (Or.inl rfl) i) z w, ?_, ?_, ?_, ?_, ?_⟩
  · rw [fI]
    intro q
    obtain ⟨b, ac, e1, e2⟩ := f7 q
    have := R.2.1 b e1
    exact ⟨b, ac, e1, e2.ag (y.wk (fun a ha => by unfold Rg at ha; omega))⟩
  · rw [fI]
    intro q
    obtain ⟨e1, e2, e3, e4⟩ := f8 q
    refine ⟨e1, e2, by rw [y.L (by omega)]; exact e3, fun j hj => by rw [y.L (by omega)]; exact e4 j hj⟩
  · rw [fI]
    intro q
    obtain ⟨e1, e2⟩ := f9 q
    refine ⟨by rw [fI]; exact e1, fun c => ?_⟩
    obtain ⟨e3, e4, e5⟩ := e2 c
    exact ⟨by rw [fI]; exact e3, by rw [fI]; exact e4, by rw [y.L (Or.inl rfl)]; exact e5⟩
  · rw [fI]
    intro q
    obtain ⟨e1, e2⟩ := f10 q
    exact ⟨by rw [fI]; exact e1, fun c => by rw [fI]; exact e2 c⟩
  · intro w hw q
    rw [y.I (by omega)] at q
    obtain ⟨e1, e2⟩ := fl w hw q
    exact ⟨by rw [y.L (by omega)]; exact e1, by rw [y.L (by omega)]; exact e2⟩
theorem ct_15 {d : Nat} (hd : 1 ≤ d) (hf : ztag h (x + 24) = 1) (kQ : ∀ h', Fr (fun a i => a = x + 24 ∧ i = 10) h h' → zI h' (x + 24) 10 = 0 → Q none h') : Ct E d 15 [.ref (x + 24)] h Q := by
  obtain ⟨d, rfl⟩ : ∃ n, d = n + 1 := ⟨d - 1, by omega⟩
  exact ok_15 ⟨hf, nm_e (kQ _ (Fr.uI Fr.rf ⟨rfl, rfl⟩) (by rw [zI_here]))⟩
/-- the row changed -/
theorem Fg.row {h1 : ZH} {rs' : Nat → Nat} {S : Nat → Nat → Prop} (F : Fg h x zs zt g t u rs) (y : Fr S h h1) (hS : ∀ a i, (a = x + 24 ∧ i ≠ 10) ∨ (x + 33 ≤ a ∧ a ≤ x + 35) ∨ x + 70 ≤ a → ¬ S a i) (z10 : zI h1 (x + 24) 10 = 0) : Fg h1 x zs zt g t u rs' := by
  obtain ⟨rb, rt, rp, gb, gt, q1, q2, R, f7, f8, f9, f10, fl⟩ := F
  have fI : ∀ i, i ≠ 10 → zI h1 (x + 24) i = zI h (x + 24) i := fun i hi => y.I (hS _ _ (Or.inl ⟨rfl, hi⟩))
  have yb : Ag (fun a => x + 70 ≤ a) h h1 := y.ag (fun a i ha => hS a i (Or.inr (Or.inr ha)))
  refine ⟨rb, rt, rp, gb, gt, q1, q2, R.ag yb (fun i _ _ => y.rr _ _) y.sz (by unfold ztot; rw [y.1]), ?_, ?_, ?_, fun q => absurd z10 q, ?_⟩
  · rw [fI 7 (by omega)]
    intro q
    obtain ⟨b, ac, e1, e2⟩ := f7 q
    have := R.2.1 b e1
    exact ⟨b, ac, e1, e2.ag (yb.wk (fun a ha => by unfold Rg at ha; omega))⟩
  · rw [fI 8 (by omega)]
    intro q
    obtain ⟨e1, e2, e3, e4⟩ := f8 q
    refine ⟨e1, e2, by rw [y.L (hS _ _ (by omega))]; exact e3, fun j hj => by rw [y.L (hS _ _ (by omega))]; exact e4 j hj⟩
  · rw [fI 9 (by omega)]
    intro q
    obtain ⟨e1, e2⟩ := f9 q
    refine ⟨by rw [fI 14 (by omega)]; exact e1, fun c => ?_⟩
    obtain ⟨e3, e4, e5⟩ := e2 c
    exact ⟨by rw [fI 15 (by omega)]; exact e3, by rw [fI 16 (by omega)]; exact e4, by rw [y.L (hS _ _ (by omega))]; exact e5⟩
  · intro w hw q
    rw [y.I (hS _ _ (by omega))] at q
    obtain ⟨e1, e2⟩ := fl w hw q
    exact ⟨by rw [y.L (hS _ _ (by omega))]; exact e1, by rw [y.L (hS _ _ (by omega))]; exact e2⟩
theorem l14 {d : Nat} {h0 : ZH} (hf : ztag h0 (x + 24) = 1) (hr : zAr h0 (x + 24) 11 (x + 33) 15 8) (kQ : ∀ h', Fr (fun a _ => a = x + 33) h0 h' → (∀ w, w < 8 → zI h' (x + 33) w = 0) → wb_14_21 E d Q (x + 24) h') : ∀ r i h1, i + r = 8 → Fr (fun a _ => a = x + 33) h0 h1 → (∀ w, w < i → zI h1 (x + 33) w = 0) → wl_14_11 E d Q (r + 1) (x + 24) (jI (i : Int)) h1
  | 0, i, h1, e, F1, I1 => by
    have ei : i = 8 := by omega
    subst ei
    rw [wl_14_11]
    exact ⟨fun _ => kQ h1 F1 I1, fun c => absurd (by decide) c⟩
  | r + 1, i, h1, e, F1, I1 => by
    have hr1 := hr.fr F1
    rw [wl_14_11]
    refine ⟨fun c => ?_, fun _ => ⟨by rw [F1.tg]; exact hf, x + 33, hr1.1, Or.inr hr1.tg, hr1.inn (by omega) (by omega), nm_r (e' := zuI h1 (x + 33) i 0) (by rw [jI_cln (by omega), hr1.tg]; rfl) (nm_r (e' := jI ((i + 1 : Nat) : Int)) (by rw [show (1 : Int32) = jI 1 from rfl, jI_add]; rfl) (l14 hf hr kQ r (i + 1) _ (by omega) (F1.uI rfl) (fun w hw => ?_)))⟩⟩
    · exfalso
      rw [show (8 : Int32) = jI ((8 : Nat) : Int) from rfl, jI_len (by omega) (by omega)] at c
      omega
    · by_cases cw : w = i
      · subst cw; rw [zI_here]
      · rw [zI_offi cw]; exact I1 w (by omega)
/-- all is forgotten -/
theorem ct_14 {d : Nat} {t' u' rs' : Nat → Nat} (hd : 2 ≤ d) (X : XSh h x) (F : Fg h x zs zt g t u rs) (kQ : ∀ h', Fr (fun a i => (a = x + 24 ∧ 7 ≤ i ∧ i ≤ 10) ∨ a = x + 33) h h' → Fg h' x zs zt g t' u' rs' → Q none h') : Ct E d 14 [.ref (x + 24)] h Q := by
  obtain ⟨d, rfl⟩ : ∃ n, d = n + 1 := ⟨d - 1, by omega⟩
  have hf := X.2.2.2.2.2.2.2.2.2.1
  have F0 : Fr (fun a i => (a = x + 24 ∧ 7 ≤ i ∧ i ≤ 10) ∨ a = x + 33) h (zuI (zuI (zuI h (x + 24) 7 0) (x + 24) 8 0) (x + 24) 9 0) := Fr.uI (Fr.uI (Fr.uI Fr.rf (by omega)) (by omega)) (by omega)
  refine ok_14 ⟨hf.1, nm_e (nm_e (nm_e ⟨9, l14 (h0 := zuI (zuI (zuI h (x + 24) 7 0) (x + 24) 8 0) (x + 24) 9 0) hf.1 hf.2.2.2.2.2.1 (fun h1 F1 z1 => ⟨by rw [F1.tg]; exact hf.1, ct_15 (by omega) (by rw [F1.tg]; exact hf.1) (fun h2 F2 z2 => ⟨rfl, ?_⟩)⟩) 8 0 _ (by omega) Fr.rf (fun w hw => by omega)⟩))⟩
  have FF : Fr (fun a i => (a = x + 24 ∧ 7 ≤ i ∧ i ≤ 10) ∨ a = x + 33) h h2 := (F0.tr (F1.wd (fun a i e => Or.inr e))).tr (F2.wd (fun a i e => Or.inl (by omega)))
  obtain ⟨rb, rt, rp, gb, gt, q1, q2, R, -⟩ := F
  refine kQ h2 FF ⟨rb, rt, rp, gb, gt, q1, q2, R.ag (FF.ag (fun a i ha => by omega)) (fun i _ _ => FF.rr _ _) FF.sz (by unfold ztot; rw [FF.1]), fun q => ?_, fun q => ?_, fun q => ?_, fun q => absurd z2 q, fun w hw q => ?_⟩
  · exfalso; apply q
    rw [F2.I (by omega), F1.I (by omega), zI_offi (by omega), zI_offi (by omega), zI_here]
  · exfalso; apply q
    rw [F2.I (by omega), F1.I (by omega), zI_offi (by omega), zI_here]
  · exfalso; apply q
    rw [F2.I (by omega), F1.I (by omega), zI_here]
  · exfalso; apply q
    rw [F2.I (by omega)]
    exact z1 w hw
end FIH
