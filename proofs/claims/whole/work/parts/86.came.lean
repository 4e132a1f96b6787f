/-! FIGURES: what would have come -/
theorem jL_shr {v : Int} {T : Nat} (h1 : -9223372036854775808 ≤ v) (h2 : v < 9223372036854775808) (hT : T ≤ 20) : jL v >>> ((2 * jI (T : Int) : Int32).toInt64 &&& 63) = jL (v / 4 ^ T) := by
  have hD : ((((2 : Int32) * jI (T : Int)).toInt64 &&& 63).toBitVec.smod 64).toNat = 2 * T := (show ∀ T : Nat, T < 21 → ((((2 : Int32) * jI (T : Int)).toInt64 &&& 63).toBitVec.smod 64).toNat = 2 * T by decide) T (by omega)
  have e : (jL v >>> ((2 * jI (T : Int) : Int32).toInt64 &&& 63)).toInt = (jL v).toInt >>> (2 * T) := by
    rw [← hD]
    exact BitVec.toInt_sshiftRight ..
  have e4 : (((2 : Nat) ^ (2 * T) : Nat) : Int) = 4 ^ T := by
    rw [Nat.pow_mul]
    exact Int.natCast_pow (2 ^ 2) T
  rw [jL_toInt h1 h2, Int.shiftRight_eq_div_pow, e4] at e
  rw [← e]
  exact (Int64.ofInt_toInt _).symm
section FIM
variable {E : Nat → Nat} {h : ZH} {x zs zt rb rt rp gb gt g bt sp : Nat} {t u rs : Nat → Nat} {Q : Option Value → ZH → Prop}
def tp_S22 (x bt : Nat) : Nat → Nat → Prop := fun a j => (a = x + 24 ∧ j = 19) ∨ a = x + 32 ∨ (bt + 7 ≤ a ∧ a ≤ bt + 26) ∨ (a = bt ∧ j = 11)
def CmL (h0 : ZH) (x bt ac gq : Nat) (t u rs : Nat → Nat) (i : Nat) (h' : ZH) : Prop := BAl h' bt (x + 1) ac gq t u (tp_prk t rs) ∧ (i < tp_T t → BSd h' bt i (cm t u rs i).1 (cm t u rs i).2.1 (cm t u rs i).2.2.1) ∧ tp_V ac (cm t u rs i).1 (cm t u rs i).2.1 (cm t u rs i).2.2.1 ∧ (zI h' (x + 32) 3 = jI ((cm t u rs i).1 : Int) ∧ zI h' (x + 32) 4 = jI ((cm t u rs i).2.1 : Int) ∧ zI h' (x + 32) 5 = jI ((cm t u rs i).2.2.1 : Int)) ∧ zI h' (x + 24) 19 = jI (cm t u rs i).2.2.2 ∧ Fr (tp_S22 x bt) h0 h'
theorem l22 {d ac gq : Nat} {h0 : ZH} (hd : 9 ≤ d) (ok : tp_Ok t) (ou : tp_Ou u) (hrs : ∀ d, rs d < 3) (X0 : XSh h0 x) (P0 : PgR h0 (x + 1) t u) (hb : x + 70 ≤ bt) (r5 : zR h0 (x + 24) 5 = bt + 1) (kQ : ∀ h' i, CmL h0 x bt ac gq t u rs i h' → (tp_T t ≤ 13 → i = tp_T t) → wb_22_109 E d Q (x + 24) h') : ∀ r i h1, i + r = tp_T t → CmL h0 x bt ac gq t u rs i h1 → wl_22_52 E d Q (r + 1) (x + 24) (jI (i : Int)) h1 := by
  have hT := ok.T
  intro r
  induction r with
  | zero =>
    intro i h1 e L1
    obtain ⟨A, D, V, M, i19, F⟩ := id L1
    have X1 := X0.fr F
    have P1 : PgR h1 (x + 1) t u := P0.ag (F.ag (fun a i ha => by unfold Rg at ha; unfold tp_S22; omega))
    rw [wl_22_52]
    refine ⟨X1.t24, x + 1, X1.q0, P1.1.1.1, ?_⟩
    rw [P1.2.2.2.2.2]
    refine ⟨fun _ => kQ h1 i L1 (fun _ => by omega), fun c => absurd ?_ c⟩
    rw [jI_len (by omega) (by omega)]
    omega
  | succ r ih =>
    intro i h1 e L1
    obtain ⟨A, D, V, M, i19, F⟩ := id L1
    have X1 := X0.fr F
    have P1 : PgR h1 (x + 1) t u := P0.ag (F.ag (fun a i ha => by unfold Rg at ha; unfold tp_S22; omega))
    have D := D (by omega)
    rw [wl_22_52]
    refine ⟨X1.t24, x + 1, X1.q0, P1.1.1.1, ?_⟩
    rw [P1.2.2.2.2.2]
    refine ⟨fun c => ?_, fun _ => ⟨fun c => kQ h1 i L1 (fun q => ?_), fun c13 => ?_⟩⟩
    · exfalso
      rw [jI_len (by omega) (by omega)] at c
      omega
    · exfalso
      rw [show (13 : Int32) = jI ((13 : Nat) : Int) from rfl, jI_ltn (by omega) (by omega)] at c
      omega
    have hV := V
    obtain ⟨v1, v2, v3, v4⟩ := hV
    obtain ⟨m3, m4, m5⟩ := M
    refine ⟨bt, by rw [F.rr]; exact r5, x + 32, X1.q3, X1.t32, A.1.1, ?_⟩
    rw [m3, m4, m5]
    refine ct_12 (s := 0) ok ou (tp_prk_ok ok hrs) (by omega) (show i < tp_T t by omega) (by omega) P1 A.1 A.2.1 A.2.2.1 V D (by omega) (fun h2 F2 w2 => ?_)
    have X2 := X1.fr F2
    have y2 : Ag (fun a => a < bt) h1 h2 := F2.ag (fun a i ha => by unfold tp_S12; omega)
    have P2 : PgR h2 (x + 1) t u := P1.ag (y2.wk (fun a ha => by unfold Rg at ha; omega))
    refine ⟨_, rfl, X2.t24, x + 32, X2.q3, x + 1, X2.q0, X2.t32, ?_⟩
    rw [y2.I (by omega), y2.I (by omega), y2.I (by omega), m3, m4, m5]
    have hB := (tp_B_le ok u (tp_prk t rs) (tp_T t - (i + 1)) i (cm t u rs i).1 (cm t u rs i).2.1 (cm t u rs i).2.2.1 0)
    refine ct_2526 (by omega) ok P2 X2.t32 (by omega) v1 v2 v3 (by omega) (fun h3 F3 M3 k26 => ?_)
    have X3 := X2.fr F3
    refine ⟨X3.t24, x + 32, X3.q3, x + 1, X3.q0, X3.t32, k26 _ (fun h4 F4 M4 => ?_)⟩
    have X4 := X2.fr F4
    have i19' : zI h4 (x + 24) 19 = jI (cm t u rs i).2.2.2 := by rw [F4.I (by omega), y2.I (by omega)]; exact i19
    refine ⟨X4.t24, nm_r (e' := zuI h4 (x + 24) 19 (jI (cm t u rs (i + 1)).2.2.2)) (by rw [i19', show (5 : Int32) = jI 5 from rfl, jI_mul, jI_add]; rfl) (nm_r (e' := jI ((i + 1 : Nat) : Int)) (by rw [show (1 : Int32) = jI 1 from rfl, jI_add]; rfl) (ih (i + 1) _ (by omega) ?_))⟩
    have FL : Fr (tp_S22 x bt) h1 (zuI h4 (x + 24) 19 (jI (cm t u rs (i + 1)).2.2.2)) := Fr.uI ((F2.wd (fun a j q => by unfold tp_S12 at q; unfold tp_S22; omega)).tr (F4.wd (fun a j q => by unfold tp_S22; omega))) (by unfold tp_S22; omega)
    have A' : BAl (zuI h4 (x + 24) 19 (jI (cm t u rs (i + 1)).2.2.2)) bt (x + 1) ac gq t u (tp_prk t rs) := A.frR (FL.R (Z := fun _ _ => False)) (fun _ _ _ _ q => q) (fun a j q => by unfold tp_S22; omega)
    refine ⟨A', fun hi => ?_, tp_V_next ok u V, ⟨?_, ?_, ?_⟩, zI_here _ _ _ _, F.tr FL⟩
    · have := (A'.2.2.1 i (cm t u rs i).1 (cm t u rs i).2.1 (cm t u rs i).2.2.1 (by omega) V ?_).2 hi _ hB.1 hB.2.1
      · exact this
      · exact (BSd.fr FL (by unfold tp_S22; omega) (by unfold tp_S22; omega) (by unfold tp_S22; omega)).mpr D
    · rw [zI_offa (by omega)]; exact M4.2.2.2.1
    · rw [zI_offa (by omega)]; exact M4.2.2.2.2.1
    · rw [zI_offa (by omega)]; exact M4.2.2.2.2.2.1
set_option maxHeartbeats 4000000 in
theorem ct_22 {d : Nat} (hd : 42 ≤ d) (ok : tp_Ok t) (ou : tp_Ou u) (hrs : ∀ d, rs d < 3) (X : XSh h x) (P : PgR h (x + 1) t u) (hr : ∀ k, k < tp_T t → zI h (x + 18 + 1) k = jI (rs k : Int)) (hg : g + 5 < 1000000) (F : Fg h x zs zt g t u rs) (kQ : ∀ h', Fg h' x zs zt (g + 2) t u rs → ¬ zI h' (x + 24) 10 = 0 → FvA x h h' → Q none h') : Ct E d 22 [.ref (x + 24)] h Q := by
  obtain ⟨d, rfl⟩ : ∃ n, d = n + 1 := ⟨d - 1, by omega⟩
  have hT := ok.T
  have F' := F
  refine ok_22 ⟨X.t24, fun c10 => ?_, fun c10 => kQ h (F'.mono (by omega)) c10 ⟨Ag.rf, X⟩⟩
  obtain ⟨rb, rt, rp, gb, gt, g1, g2, R, K⟩ := F
  have z70 := R.2.2.2.2.2.1
  refine ct_17 (by omega) X.t24 R (fun h2 bt sp gt' hgt R2 y2 X2 i2 z2 => ?_)
  have XX2 : XSh h2 x := X.ax (y2.wk (fun a ha => ⟨by omega, by omega⟩)) ⟨X2.1, X2.2.2.2⟩
  have P2 : PgR h2 (x + 1) t u := P.ag (y2.wk (fun a ha => by unfold Rg at ha; omega))
  obtain ⟨⟨r4, r5, r6⟩, B, T, S, ⟨a1, a2, a3⟩, z0, z1, zz2⟩ := id R2
  obtain ⟨b1, b2, b3⟩ := T bt rfl
  refine ⟨rfl, XX2.t24, bt, r5, x + 1, XX2.q0, x + 18, XX2.q1, b3.1.1, ct_2 (rs := rs) ok (by omega) (by omega) (by omega) P2 b3 XX2.s18 (by omega) hrs (fun k hk => by rw [y2.I ⟨by omega, by omega⟩]; exact hr k hk) (fun h8 F8 A8 => ?_)⟩
  have y8 : Ag (fun a => a < bt ∨ bt + 26 < a) h2 h8 := F8.ag (fun a i ha => by unfold tp_S1; omega) (fun a i ha => by unfold tp_Z1; omega)
  have hl : (fun a => a < bt ∨ bt + 26 < a) (x + 24) := Or.inl (by omega)
  have XX8 : XSh h8 x := XX2.ag (y8.wk (fun a ha => by unfold Rg at ha; omega))
  have P8 : PgR h8 (x + 1) t u := P2.ag (y8.wk (fun a ha => by unfold Rg at ha; omega))
  refine ⟨rfl, XX8.t24, bt, by rw [y8.R hl]; exact r5, A8.1.1, ct_9 (dd := 0) (c := 0) (m := 0) (k := 0) ok ou (tp_prk_ok ok hrs) (by omega) hT.1 (by omega) (by omega) P8 A8 (by omega) (by omega) (by omega) (fun h12 ac g' F12 A12 V12 D12 l1 l2 _ => ?_)⟩
  have y12 : Ag (fun a => a < bt ∨ bt + 26 < a) h8 h12 := F12.ag (fun a i ha => by unfold tp_S9; omega)
  have XX12 := XX8.fr F12
  have P12 : PgR h12 (x + 1) t u := P8.ag (y12.wk (fun a ha => by unfold Rg at ha; omega))
  refine ⟨rfl, XX12.t24, bt, by rw [F12.rr, y8.R hl]; exact r5, A12.1.1, ct_12 (dd := 0) (c := 0) (m := 0) (k := 0) (s := 0) ok ou (tp_prk_ok ok hrs) (by omega) hT.1 (by omega) P12 A12.1 A12.2.1 A12.2.2.1 V12 D12 (by omega) (fun h16 F16 w16 => ?_)⟩
  have y16 : Ag (fun a => a < bt ∨ bt + 26 < a) h12 h16 := F16.ag (fun a i ha => by unfold tp_S12; omega)
  have XX16 := XX12.fr F16
  have P16 : PgR h16 (x + 1) t u := P12.ag (y16.wk (fun a ha => by unfold Rg at ha; omega))
  have A16 : BAl h16 bt (x + 1) ac g' t u (tp_prk t rs) := A12.frR (F16.R (Z := fun _ _ => False)) (fun _ _ _ _ q => q) (fun a j q => by unfold tp_S12; omega)
  have D16 : BSd h16 bt 0 0 0 0 := (BSd.fr F16 (by unfold tp_S12; omega) (by unfold tp_S12; omega) (by unfold tp_S12; omega)).mpr D12
  have wb := tp_W_bd ok u (tp_prk_ok ok hrs) (tp_T t) 0 0 0 0 0 (by omega)
  have hbd := tp_bd_le (show tp_T t ≤ 20 by omega)
  refine ⟨_, rfl, XX16.t24, bt, by rw [F16.rr, F12.rr, y8.R hl]; exact r5, A16.1.1, x + 1, XX16.q0, P16.1.1.1, nm_r (e' := zuI h16 (x + 24) 18 (jI (tp_W t u (tp_prk t rs) (tp_T t) 0 0 0 0 0 / 4 ^ tp_T t))) (by rw [w16, P16.2.2.2.2.2, Nat.sub_zero, jL_shr (by omega) (by omega) (by omega), jL_toI]) (nm_e ⟨x + 32, XX16.q3, XX16.t32, ct_24 (by omega) XX16.t32 ⟨rfl, ?_⟩⟩)⟩
  have F27 : Fr (fun a i => (a = x + 24 ∧ 18 ≤ i) ∨ a = x + 32) h16 (zuI (zuI (zuI (zuI (zuI h16 (x + 24) 18 (jI (tp_W t u (tp_prk t rs) (tp_T t) 0 0 0 0 0 / 4 ^ tp_T t))) (x + 24) 19 0) (x + 32) 3 0) (x + 32) 4 0) (x + 32) 5 0) := Fr.uI (Fr.uI (Fr.uI (Fr.uI (Fr.uI Fr.rf (by omega)) (by omega)) (by omega)) (by omega)) (by omega)
  have i18 : zI (zuI (zuI (zuI (zuI (zuI h16 (x + 24) 18 (jI (tp_W t u (tp_prk t rs) (tp_T t) 0 0 0 0 0 / 4 ^ tp_T t))) (x + 24) 19 0) (x + 32) 3 0) (x + 32) 4 0) (x + 32) 5 0) (x + 24) 18 = jI (tp_W t u (tp_prk t rs) (tp_T t) 0 0 0 0 0 / 4 ^ tp_T t) := by rw [zI_offa (by omega), zI_offa (by omega), zI_offa (by omega), zI_offi (by omega), zI_here]
  have i19 : zI (zuI (zuI (zuI (zuI (zuI h16 (x + 24) 18 (jI (tp_W t u (tp_prk t rs) (tp_T t) 0 0 0 0 0 / 4 ^ tp_T t))) (x + 24) 19 0) (x + 32) 3 0) (x + 32) 4 0) (x + 32) 5 0) (x + 24) 19 = 0 := by rw [zI_offa (by omega), zI_offa (by omega), zI_offa (by omega), zI_here]
  have j3 : zI (zuI (zuI (zuI (zuI (zuI h16 (x + 24) 18 (jI (tp_W t u (tp_prk t rs) (tp_T t) 0 0 0 0 0 / 4 ^ tp_T t))) (x + 24) 19 0) (x + 32) 3 0) (x + 32) 4 0) (x + 32) 5 0) (x + 32) 3 = 0 := by rw [zI_offi (by omega), zI_offi (by omega), zI_here]
  have j4 : zI (zuI (zuI (zuI (zuI (zuI h16 (x + 24) 18 (jI (tp_W t u (tp_prk t rs) (tp_T t) 0 0 0 0 0 / 4 ^ tp_T t))) (x + 24) 19 0) (x + 32) 3 0) (x + 32) 4 0) (x + 32) 5 0) (x + 32) 4 = 0 := by rw [zI_offi (by omega), zI_here]
  have j5 : zI (zuI (zuI (zuI (zuI (zuI h16 (x + 24) 18 (jI (tp_W t u (tp_prk t rs) (tp_T t) 0 0 0 0 0 / 4 ^ tp_T t))) (x + 24) 19 0) (x + 32) 3 0) (x + 32) 4 0) (x + 32) 5 0) (x + 32) 5 = 0 := by rw [zI_here]
  generalize zuI (zuI (zuI (zuI (zuI h16 (x + 24) 18 (jI (tp_W t u (tp_prk t rs) (tp_T t) 0 0 0 0 0 / 4 ^ tp_T t))) (x + 24) 19 0) (x + 32) 3 0) (x + 32) 4 0) (x + 32) 5 0 = h27 at F27 i18 i19 j3 j4 j5 ⊢
  have XX27 := XX16.fr F27
  have y27 : Ag (fun a => a ≠ x + 24 ∧ a ≠ x + 32) h16 h27 := F27.ag (fun a i ha => by omega)
  have P27 : PgR h27 (x + 1) t u := P16.ag (y27.wk (fun a ha => by unfold Rg at ha; exact ⟨by omega, by omega⟩))
  have yB : ∀ b, x + 70 ≤ b → Ag (Rg b (b + 26)) h16 h27 := fun b q => y27.wk (fun a ha => by unfold Rg at ha; exact ⟨by omega, by omega⟩)
  have r27 : ∀ i, zR h27 (x + 24) i = zR h2 (x + 24) i := fun i => by rw [F27.rr, F16.rr, F12.rr, y8.R hl]
  refine ⟨tp_T t + 1, l22 (h0 := h27) (bt := bt) (ac := ac) (gq := g') (by omega) ok ou hrs XX27 P27 b1 (by rw [r27]; exact r5) (fun h30 i L30 hi => ?_) (tp_T t) 0 h27 (by omega) ⟨A16.ag (yB bt b1), fun _ => (BSd.ag (yB bt b1)).mpr D16, V12, ⟨j3, j4, j5⟩, i19, Fr.rf⟩⟩
  obtain ⟨A30, -, -, -, k19, F30⟩ := L30
  have XX30 := XX27.fr F30
  refine ⟨XX30.t24, nm_e ?_⟩
  have F31 : Fr (fun a i => a = x + 24 ∧ i = 10) h30 (zuI h30 (x + 24) 10 1) := Fr.uI Fr.rf ⟨rfl, rfl⟩
  have f10 : zI (zuI h30 (x + 24) 10 1) (x + 24) 10 = 1 := zI_here _ _ _ _
  generalize zuI h30 (x + 24) 10 1 = h31 at F31 f10 ⊢
  have y31 : Ag (fun a => a ≠ x + 24) h30 h31 := F31.ag (fun a i ha => fun e => ha e.1)
  have y30 : Ag (fun a => a ≠ x + 24 ∧ a ≠ x + 32 ∧ (a < bt ∨ bt + 26 < a)) h27 h30 := F30.ag (fun a i ha => by unfold tp_S22; omega)
  have ye : Ag (fun a => a ≠ x + 24 ∧ a ≠ x + 32 ∧ (a < bt ∨ bt + 26 < a)) h2 h31 := ((y8.wk (fun a ha => ha.2.2)).tr (y12.wk (fun a ha => ha.2.2))).tr (((y16.wk (fun a ha => ha.2.2)).tr (y27.wk (fun a ha => ⟨ha.1, ha.2.1⟩))).tr (y30.tr (y31.wk (fun a ha => ha.1))))
  have ie : ∀ i, i ≠ 10 → i < 18 → zI h31 (x + 24) i = zI h (x + 24) i := fun i q1 q2 => by
    rw [F31.I (by omega), F30.I (by unfold tp_S22; omega), F27.I (by omega), y16.I hl, y12.I hl, y8.I hl]
    by_cases c7 : i = 7
    · subst c7; exact i2
    · exact X2.2.1 i c7
  have le : zL h31 (x + 24) 17 = zL h (x + 24) 17 := by rw [F31.L (by omega), F30.L (by unfold tp_S22; omega), F27.L (by omega), y16.L hl, y12.L hl, y8.L hl, X2.2.2.1]
  have re : ∀ i, zR h31 (x + 24) i = zR h2 (x + 24) i := fun i => by rw [F31.rr, F30.rr, r27]
  have zE : zsz h31 = zsz h2 := by rw [F31.sz, F30.sz, F27.sz, F16.sz, F12.sz]; unfold zsz; rw [F8.1]
  have tE : ztot h31 = ztot h2 := by unfold ztot; rw [F31.1, F30.1, F27.1, F16.1, F12.1, F8.1]
  have A31 : BAl h31 bt (x + 1) ac g' t u (tp_prk t rs) := A30.ag (y31.wk (fun a ha => by unfold Rg at ha; omega))
  have yh : Ag (fun a => a < x + 24 ∨ (x + 33 ≤ a ∧ a < x + 70)) h h31 := (y2.wk (fun a ha => ⟨by omega, by omega⟩)).tr (ye.wk (fun a ha => ⟨by omega, by omega, by omega⟩))
  refine kQ h31 ⟨rb, bt + 1, sp + 1, gb, g', by omega, by omega, ⟨⟨by rw [re]; exact r4, by rw [re]; exact r5, by rw [re]; exact r6⟩, fun b' e => ?_, fun b' e => ?_, fun b' e => ?_, ⟨a1, a2, a3⟩, by rw [zE]; exact z0, by rw [zE]; exact z1, by rw [tE]; exact zz2⟩, ?_⟩ (by rw [f10]; decide) ⟨yh.wk (fun a ha => by omega), XX30.fr F31⟩
  · obtain ⟨q1, q2, q3⟩ := B b' e
    have c1 := a1 b' bt e rfl
    exact ⟨q1, by rw [zE]; exact q2, q3.ag (ye.wk (fun a ha => by unfold Rg at ha; exact ⟨by omega, by omega, by omega⟩))⟩
  · have eb : b' = bt := by omega
    subst eb
    exact ⟨b1, by rw [zE]; exact b2, A31.md⟩
  · obtain ⟨q1, q2, q3⟩ := S b' e
    have c1 := a3 bt b' rfl e
    exact ⟨q1, by rw [zE]; exact q2, q3.ag (ye.wk (fun a ha => by unfold Rg at ha; exact ⟨by omega, by omega, by omega⟩))⟩
  obtain ⟨f7, f8, f9, -, fl⟩ := K
  refine ⟨fun q => ?_, fun q => ?_, fun q => ?_, fun _ => ⟨?_, fun c => ?_⟩, fun w hw q => ?_⟩
  · rw [ie 7 (by omega) (by omega)] at q
    obtain ⟨b, ac', e1, e2⟩ := f7 q
    have c0 := R.2.1 b e1
    have c1 := a1 b bt e1 rfl
    exact ⟨b, ac', e1, (e2.ag (y2.wk (fun a ha => by unfold Rg at ha; exact ⟨by omega, by omega⟩))).ag (ye.wk (fun a ha => by unfold Rg at ha; exact ⟨by omega, by omega, by omega⟩))⟩
  · rw [ie 8 (by omega) (by omega)] at q
    obtain ⟨e1, e2, e3, e4⟩ := f8 q
    exact ⟨by omega, by omega, by rw [yh.L (by omega)]; exact e3, fun j hj => by rw [yh.L (by omega)]; exact e4 j hj⟩
  · rw [ie 9 (by omega) (by omega)] at q
    obtain ⟨e1, e2⟩ := f9 q
    refine ⟨by rw [ie 14 (by omega) (by omega)]; exact e1, fun c => ?_⟩
    obtain ⟨e3, e4, e5⟩ := e2 c
    exact ⟨by rw [ie 15 (by omega) (by omega)]; exact e3, by rw [ie 16 (by omega) (by omega)]; exact e4, by rw [le]; exact e5⟩
  · rw [F31.I (by omega), F30.I (by unfold tp_S22; omega)]
    exact i18
  · rw [F31.I (by omega), k19, hi c]
  · rw [yh.I (by omega)] at q
    obtain ⟨e1, e2⟩ := fl w hw q
    exact ⟨by rw [yh.L (by omega)]; exact e1, by rw [yh.L (by omega)]; exact e2⟩
end FIM
