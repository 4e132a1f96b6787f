/-! FIGURES: reckonWhole, a trial, reckonWithout -/
section FIW
variable {E : Nat → Nat} {h : ZH} {x zs zt rb rt rp gb gt g bt sp : Nat} {t u rs : Nat → Nat} {Q : Option Value → ZH → Prop}
/-- what reckonWhole may change -/
def FwA (x : Nat) (h h' : ZH) : Prop := Ag (fun a => a < x + 70 ∧ a ≠ x + 24 ∧ a ≠ x + 34) h h' ∧ ztag h' (x + 24) = ztag h (x + 24) ∧ (∀ i, i ≠ 7 → i ≠ 8 → zI h' (x + 24) i = zI h (x + 24) i) ∧ (∀ i, zL h' (x + 24) i = zL h (x + 24) i) ∧ (∀ i, i ≠ 4 → i ≠ 5 → i ≠ 6 → zR h' (x + 24) i = zR h (x + 24) i) ∧ ztag h' (x + 34) = ztag h (x + 34) ∧ zlen h' (x + 34) = zlen h (x + 34) ∧ ∀ i, zR h' (x + 34) i = zR h (x + 34) i
theorem FwA.rf : FwA x h h := ⟨Ag.rf, rfl, fun _ _ _ => rfl, fun _ => rfl, fun _ _ _ _ => rfl, rfl, rfl, fun _ => rfl⟩
theorem XSh.aw {h1 : ZH} (X : XSh h x) (W : FwA x h h1) : XSh h1 x := by
  obtain ⟨y', f1, -, -, f2, w1, w2, w3⟩ := W
  obtain ⟨⟨x0, r0, r1, r2, r3, r4, r5, r6, a7⟩, sh, P1, T1, ⟨d0, d1, d2⟩, P2, R1, W1, m1, ⟨f0, f1', f2', f3, f4, f5, f6, f7⟩, P3, m2⟩ := X
  have g : ∀ i, i ≤ 44 → i ≠ 24 → i ≠ 34 → (fun a => a < x + 70 ∧ a ≠ x + 24 ∧ a ≠ x + 34) (x + i) := fun i hi hn hm => ⟨by omega, by omega, by omega⟩
  have g0 : (fun a => a < x + 70 ∧ a ≠ x + 24 ∧ a ≠ x + 34) x := ⟨by omega, by omega, by omega⟩
  have sb : ∀ lo hi, hi ≤ x + 44 → (hi < x + 24 ∨ (x + 24 < lo ∧ hi < x + 34) ∨ x + 34 < lo) → Ag (Rg lo hi) h h1 := fun lo hi q1 q3 => y'.wk (fun a ha => by unfold Rg at ha; exact ⟨by omega, by omega, by omega⟩)
  have fa : ∀ s r tg n, s ≠ 4 → s ≠ 5 → s ≠ 6 → (fun a => a < x + 70 ∧ a ≠ x + 24 ∧ a ≠ x + 34) r → zAr h (x + 24) s r tg n → zAr h1 (x + 24) s r tg n := fun s r tg n q1 q2 q3 hr a => by
    unfold zAr at a ⊢
    rw [f2 s q1 q2 q3, y'.T hr, y'.N hr]
    exact a
  refine ⟨⟨by rw [y'.T g0]; exact x0, by rw [y'.R g0]; exact r0, by rw [y'.R g0]; exact r1, by rw [y'.R g0]; exact r2, by rw [y'.R g0]; exact r3, by rw [y'.R g0]; exact r4, by rw [y'.R g0]; exact r5, by rw [y'.R g0]; exact r6, a7.ag y' g0 (g 36 (by omega) (by omega) (by omega))⟩, fun k hk => ?_, P1.ag (sb _ _ (by omega) (by omega)), T1.ag (sb _ _ (by omega) (by omega)), ⟨by rw [y'.T (g 10 (by omega) (by omega) (by omega))]; exact d0, by rw [y'.R (g 10 (by omega) (by omega) (by omega))]; exact d1, by rw [y'.R (g 10 (by omega) (by omega) (by omega))]; exact d2⟩, P2.ag (sb _ _ (by omega) (by omega)), R1.ag (sb _ _ (by omega) (by omega)), W1.ag (sb _ _ (by omega) (by omega)), by rw [y'.T (g 23 (by omega) (by omega) (by omega))]; exact m1, ⟨by rw [f1]; exact f0, by rw [f2 0 (by omega) (by omega) (by omega)]; exact f1', by rw [f2 1 (by omega) (by omega) (by omega)]; exact f2', by rw [f2 2 (by omega) (by omega) (by omega)]; exact f3, by rw [f2 3 (by omega) (by omega) (by omega)]; exact f4, fa _ _ _ _ (by omega) (by omega) (by omega) (g 33 (by omega) (by omega) (by omega)) f5, ?_, fa _ _ _ _ (by omega) (by omega) (by omega) (g 35 (by omega) (by omega) (by omega)) f7⟩, P3.ag (sb _ _ (by omega) (by omega)), by rw [y'.T (g 32 (by omega) (by omega) (by omega))]; exact m2⟩
  · exact ⟨by rw [y'.R (g 36 (by omega) (by omega) (by omega))]; exact (sh k hk).1, (sh k hk).2.ag (sb _ _ (by omega) (by omega))⟩
  · unfold zAr at f6 ⊢
    rw [f2 12 (by omega) (by omega) (by omega), w1, w2]
    exact f6
/-- what is kept, over the making of the trial room -/
theorem Fg17 {gt' : Nat} {h2 : ZH} (hb : gb ≤ g) (ht : gt' ≤ g) (R : Rm h x zs zt rb rt rp gb gt) (K : FgK h x rb rt rp gb t u rs) (R2 : Rm h2 x zs zt rb (bt + 1) (sp + 1) gb gt') (y2 : Ag (fun a => a ≠ x + 24 ∧ a < zsz h) h h2) (X2 : FxI x h h2) (i2 : zI h2 (x + 24) 7 = zI h (x + 24) 7) : Fg h2 x zs zt g t u rs ∧ FwA x h h2 := by
  have z70 := R.2.2.2.2.2.1
  have iA : ∀ i, zI h2 (x + 24) i = zI h (x + 24) i := fun i => by
    by_cases e : i = 7
    · subst e
      exact i2
    · exact X2.2.1 i e
  have yA : Ag (fun a => a < x + 70 ∧ a ≠ x + 24) h h2 := y2.wk (fun a ha => by omega)
  have y34 : (fun a => a < x + 70 ∧ a ≠ x + 24) (x + 34) := ⟨by omega, by omega⟩
  refine ⟨⟨rb, bt + 1, sp + 1, gb, gt', hb, ht, R2, fun q => ?_, fun q => ?_, fun q => ?_, fun q => ?_, fun w hw q => ?_⟩, yA.wk (fun a ha => by omega), X2.1, fun i _ _ => iA i, X2.2.2.1, X2.2.2.2, yA.T y34, yA.N y34, fun i => yA.R y34 i⟩
  · rw [iA] at q
    obtain ⟨b, ac, e1, e2⟩ := K.1 q
    have := R.2.1 b e1
    exact ⟨b, ac, e1, e2.ag (y2.wk (fun a ha => by unfold Rg at ha; omega))⟩
  · rw [iA] at q
    obtain ⟨-, -, e3, e4⟩ := K.2.1 q
    exact ⟨by omega, by omega, by rw [yA.L y34]; exact e3, fun j hj => by rw [yA.L y34]; exact e4 j hj⟩
  · rw [iA] at q
    obtain ⟨e1, e2⟩ := K.2.2.1 q
    refine ⟨by rw [iA]; exact e1, fun c => ?_⟩
    obtain ⟨e3, e4, e5⟩ := e2 c
    exact ⟨by rw [iA]; exact e3, by rw [iA]; exact e4, by rw [X2.2.2.1]; exact e5⟩
  · rw [iA] at q
    obtain ⟨e1, e2⟩ := K.2.2.2.1 q
    exact ⟨by rw [iA]; exact e1, fun c => by rw [iA]; exact e2 c⟩
  · rw [yA.I ⟨by omega, by omega⟩] at q
    obtain ⟨e1, e2⟩ := K.2.2.2.2 w hw q
    exact ⟨by rw [yA.L ⟨by omega, by omega⟩]; exact e1, by rw [yA.L ⟨by omega, by omega⟩]; exact e2⟩
theorem ct_18 {d : Nat} (hd : 44 ≤ d) (ok : tp_Ok t) (ou : tp_Ou u) (X : XSh h x) (P : PgR h (x + 1) t u) (hg : g + 3 < 1000000) (F : Fg h x zs zt g t u rs) (kQ : ∀ h', Fg h' x zs zt (g + 2) t u rs → ¬ zI h' (x + 24) 8 = 0 → FwA x h h' → Q none h') : Ct E d 18 [.ref (x + 24)] h Q := by
  obtain ⟨d, rfl⟩ : ∃ n, d = n + 1 := ⟨d - 1, by omega⟩
  have hf := X.2.2.2.2.2.2.2.2.2.1.1
  refine ok_18 ⟨hf, ?_⟩
  obtain ⟨rb, rt, rp, gb, gt, g1, g2, R, K⟩ := F
  refine ct_17 (by omega) hf R (fun h2 bt sp gt' hgt R2 y2 X2 i2 z2 => ?_)
  have XX2 : XSh h2 x := X.ax (y2.wk (fun a ha => ⟨by omega, by have := R.2.2.2.2.2.1; omega⟩)) ⟨X2.1, X2.2.2.2⟩
  have P2 : PgR h2 (x + 1) t u := P.ag (y2.wk (fun a ha => by have := R.2.2.2.2.2.1; unfold Rg at ha; omega))
  have H2 := Fg17 (g := g) (by omega) (by omega) R K R2 y2 X2 i2
  refine ⟨rfl, by rw [X2.1]; exact hf, fun c8 => ⟨sp, R2.1.2.2, ?_⟩, fun c8 => kQ h2 (H2.1.mono (by omega)) c8 H2.2⟩
  clear H2
  refine ct_16 (dd := 0) (c := 0) (m := 0) (k := 0) (by omega) ok ou XX2 P2 (by omega) ok.T.1 (by omega) (by omega) (by omega) R2 (fun q => ?_) (fun h5 b ac gb' hgb R5 A5 V5 D5 y5 X5 f5 => ?_)
  · rw [i2] at q
    obtain ⟨b, ac, e1, e2⟩ := K.1 q
    have := R.2.1 b e1
    exact ⟨b, ac, e1, e2.ag (y2.wk (fun a ha => by unfold Rg at ha; omega))⟩
  have R5' := R5
  obtain ⟨⟨r4, r5, r6⟩, B, T, S, ⟨a1, a2, a3⟩, z0, z1, zz2⟩ := R5
  obtain ⟨b1, b2, b3⟩ := B b rfl
  obtain ⟨s1, s2, s3⟩ := S sp rfl
  have asb := a2 b sp rfl rfl
  have XX5 : XSh h5 x := XX2.ax (y5.wk (fun a ha => ⟨by omega, by omega⟩)) ⟨X5.1, X5.2.2.2⟩
  have P5 : PgR h5 (x + 1) t u := P2.ag (y5.wk (fun a ha => by unfold Rg at ha; omega))
  have hf5 := XX5.2.2.2.2.2.2.2.2.2.1
  refine ⟨b, rfl, ?_, ct_73 (by omega) ok ou (by omega) (by omega) (by omega) (by omega) P5 A5 s3 (fun h8 F8 A8 S8 v7 vj => ?_)⟩
  · obtain ⟨_, _, _, _, ⟨q, _⟩, _⟩ := s3
    exact q
  have y8 : Ag (fun a => (a < b ∨ b + 26 < a) ∧ (a < sp ∨ sp + 5 < a)) h5 h8 := F8.ag (fun a i ha => by unfold tp_S73 tp_S9; omega) (fun a i ha => by unfold tp_Z73; omega)
  have hl : (fun a => (a < b ∨ b + 26 < a) ∧ (a < sp ∨ sp + 5 < a)) (x + 24) := ⟨by omega, by omega⟩
  have hl34 : (fun a => (a < b ∨ b + 26 < a) ∧ (a < sp ∨ sp + 5 < a)) (x + 34) := ⟨by omega, by omega⟩
  have w12 : zAr h8 (x + 24) 12 (x + 34) 14 5 := hf5.2.2.2.2.2.2.1.ag y8 hl hl34
  have t8 : ztag h8 sp = 7 := by
    obtain ⟨_, _, _, _, ⟨q, _⟩, _⟩ := S8
    exact q
  refine ⟨rfl, by rw [y8.T hl]; exact hf5.1, x + 34, w12.1, sp, by rw [y8.R hl]; exact r6, t8, w12.tg, w12.inc (by decide), ?_⟩
  have ne : sp ≠ x + 34 := by omega
  refine nm_e ⟨w12.inc (by decide), nm_r (e' := zuL (zuL h8 (x + 34) 0 (zL h8 sp 7)) (x + 34) 1 (zL h8 sp 8)) (by rw [zL_offa ne]) ⟨w12.inc (by decide), nm_r (e' := zuL (zuL (zuL h8 (x + 34) 0 (zL h8 sp 7)) (x + 34) 1 (zL h8 sp 8)) (x + 34) 2 (zL h8 sp 9)) (by rw [zL_offa ne, zL_offa ne]) ⟨w12.inc (by decide), nm_r (e' := zuL (zuL (zuL (zuL h8 (x + 34) 0 (zL h8 sp 7)) (x + 34) 1 (zL h8 sp 8)) (x + 34) 2 (zL h8 sp 9)) (x + 34) 3 (zL h8 sp 10)) (by rw [zL_offa ne, zL_offa ne, zL_offa ne]) ⟨w12.inc (by decide), nm_r (e' := zuL (zuL (zuL (zuL (zuL h8 (x + 34) 0 (zL h8 sp 7)) (x + 34) 1 (zL h8 sp 8)) (x + 34) 2 (zL h8 sp 9)) (x + 34) 3 (zL h8 sp 10)) (x + 34) 4 (zL h8 sp 11)) (by rw [zL_offa ne, zL_offa ne, zL_offa ne, zL_offa ne]) (nm_e ?_)⟩⟩⟩⟩
  have FL : Fr (fun a i => a = x + 34 ∨ (a = x + 24 ∧ i = 8)) h8 (zuI (zuL (zuL (zuL (zuL (zuL h8 (x + 34) 0 (zL h8 sp 7)) (x + 34) 1 (zL h8 sp 8)) (x + 34) 2 (zL h8 sp 9)) (x + 34) 3 (zL h8 sp 10)) (x + 34) 4 (zL h8 sp 11)) (x + 24) 8 1) := Fr.uI (Fr.uL (Fr.uL (Fr.uL (Fr.uL (Fr.uL Fr.rf (by omega)) (by omega)) (by omega)) (by omega)) (by omega)) (by omega)
  have L8 : zI (zuI (zuL (zuL (zuL (zuL (zuL h8 (x + 34) 0 (zL h8 sp 7)) (x + 34) 1 (zL h8 sp 8)) (x + 34) 2 (zL h8 sp 9)) (x + 34) 3 (zL h8 sp 10)) (x + 34) 4 (zL h8 sp 11)) (x + 24) 8 1) (x + 24) 8 = 1 := zI_here _ _ _ _
  have LL : ∀ i, zL (zuI (zuL (zuL (zuL (zuL (zuL h8 (x + 34) 0 (zL h8 sp 7)) (x + 34) 1 (zL h8 sp 8)) (x + 34) 2 (zL h8 sp 9)) (x + 34) 3 (zL h8 sp 10)) (x + 34) 4 (zL h8 sp 11)) (x + 24) 8 1) (x + 24) i = zL h8 (x + 24) i := fun i => by rw [zL_uI, zL_offa (by omega), zL_offa (by omega), zL_offa (by omega), zL_offa (by omega), zL_offa (by omega)]
  have LW : FgW (zuI (zuL (zuL (zuL (zuL (zuL h8 (x + 34) 0 (zL h8 sp 7)) (x + 34) 1 (zL h8 sp 8)) (x + 34) 2 (zL h8 sp 9)) (x + 34) 3 (zL h8 sp 10)) (x + 34) 4 (zL h8 sp 11)) (x + 24) 8 1) x t u := by
    have w0 := vj 0 (by omega)
    have w1 := vj 1 (by omega)
    have w2 := vj 2 (by omega)
    have w3 := vj 3 (by omega)
    refine ⟨?_, fun j hj => ?_⟩
    · rw [zL_uI, zL_offi (by omega), zL_offi (by omega), zL_offi (by omega), zL_offi (by omega), zL_here]
      exact v7
    · have : j = 0 ∨ j = 1 ∨ j = 2 ∨ j = 3 := by omega
      rw [zL_uI]
      rcases this with e | e | e | e <;> subst e
      · rw [zL_offi (by omega), zL_offi (by omega), zL_offi (by omega), zL_here]; exact w0
      · rw [zL_offi (by omega), zL_offi (by omega), zL_here]; exact w1
      · rw [zL_offi (by omega), zL_here]; exact w2
      · rw [zL_here]; exact w3
  generalize zuI (zuL (zuL (zuL (zuL (zuL h8 (x + 34) 0 (zL h8 sp 7)) (x + 34) 1 (zL h8 sp 8)) (x + 34) 2 (zL h8 sp 9)) (x + 34) 3 (zL h8 sp 10)) (x + 34) 4 (zL h8 sp 11)) (x + 24) 8 1 = h9 at FL L8 LW LL ⊢
  have zE8 : zsz h8 = zsz h5 := by unfold zsz; rw [F8.1]
  have tE8 : ztot h8 = ztot h5 := by unfold ztot; rw [F8.1]
  have yb : Ag (fun a => x + 70 ≤ a) h8 h9 := FL.ag (fun a i ha => by omega)
  -- from the first to the last
  have yA : Ag (fun a => a < x + 70 ∧ a ≠ x + 24 ∧ a ≠ x + 34) h h9 := ((y2.wk (fun a ha => by have := R.2.2.2.2.2.1; omega)).tr (y5.wk (fun a ha => ⟨ha.2.1, by omega⟩))).tr ((y8.wk (fun a ha => ⟨by omega, by omega⟩)).tr (FL.ag (fun a i ha => by omega)))
  have iA : ∀ i, i ≠ 7 → i ≠ 8 → zI h9 (x + 24) i = zI h (x + 24) i := fun i q7 q8 => by rw [FL.I (by omega), y8.I hl, X5.2.1 i q7, X2.2.1 i q7]
  have lA : ∀ i, zL h9 (x + 24) i = zL h (x + 24) i := fun i => by rw [LL, y8.L hl, X5.2.2.1, X2.2.2.1]
  have z70 := R.2.2.2.2.2.1
  have y34 : ∀ hA hB, Ag (fun a => a = x + 34) hA hB → ztag hB (x + 34) = ztag hA (x + 34) ∧ zlen hB (x + 34) = zlen hA (x + 34) ∧ ∀ i, zR hB (x + 34) i = zR hA (x + 34) i := fun hA hB q => ⟨q.T rfl, q.N rfl, fun i => q.R rfl i⟩
  have e34a := y34 _ _ (y2.wk (fun a (ha : a = x + 34) => ⟨by omega, by omega⟩))
  have e34b := y34 _ _ (y5.wk (fun a (ha : a = x + 34) => ⟨by omega, by omega⟩))
  have e34c := y34 _ _ (y8.wk (fun a (ha : a = x + 34) => ⟨by omega, by omega⟩))
  refine kQ h9 ⟨b + 1, bt + 1, sp + 1, gb', gt', by omega, by omega, ?_, fun _ => ⟨b, ac, rfl, A8.ag (yb.wk (fun a ha => by unfold Rg at ha; omega))⟩, fun _ => ⟨by omega, by omega, LW⟩, fun q => ?_, fun q => ?_, fun w hw q => ?_⟩ (by rw [L8]; decide) ⟨yA, by rw [FL.tg, y8.T hl, X5.1, X2.1], iA, lA, fun i q4 q5 q6 => by rw [FL.rr, y8.R hl, X5.2.2.2 i q4 q5 q6, X2.2.2.2 i q4 q5 q6], by rw [FL.tg, e34c.1, e34b.1, e34a.1], by rw [FL.ln, e34c.2.1, e34b.2.1, e34a.2.1], fun i => by rw [FL.rr, e34c.2.2, e34b.2.2, e34a.2.2]⟩
  · refine Rm.ag (h := h8) ⟨⟨by rw [y8.R hl]; exact r4, by rw [y8.R hl]; exact r5, by rw [y8.R hl]; exact r6⟩, fun b' e => ?_, fun b' e => ?_, fun b' e => ?_, ⟨a1, a2, a3⟩, by rw [zE8]; exact z0, by rw [zE8]; exact z1, by rw [tE8]; exact zz2⟩ yb (fun i _ _ => FL.rr _ _) FL.sz (by unfold ztot; rw [FL.1])
    · have eb : b' = b := by omega
      subst eb
      exact ⟨b1, by rw [zE8]; exact b2, A8.md⟩
    · obtain ⟨q1, q2, q3⟩ := T b' e
      have c1 := a1 b b' rfl e
      have c2 := a3 b' sp e rfl
      exact ⟨q1, by rw [zE8]; exact q2, q3.ag (y8.wk (fun a ha => by unfold Rg at ha; exact ⟨by omega, by omega⟩))⟩
    · have eb : b' = sp := by omega
      subst eb
      exact ⟨s1, by rw [zE8]; exact s2, S8⟩
  · rw [iA 9 (by omega) (by omega)] at q
    obtain ⟨e1, e2⟩ := K.2.2.1 q
    refine ⟨by rw [iA 14 (by omega) (by omega)]; exact e1, fun c => ?_⟩
    obtain ⟨e3, e4, e5⟩ := e2 c
    exact ⟨by rw [iA 15 (by omega) (by omega)]; exact e3, by rw [iA 16 (by omega) (by omega)]; exact e4, by rw [lA]; exact e5⟩
  · rw [iA 10 (by omega) (by omega)] at q
    obtain ⟨e1, e2⟩ := K.2.2.2.1 q
    exact ⟨by rw [iA 18 (by omega) (by omega)]; exact e1, fun c => by rw [iA 19 (by omega) (by omega)]; exact e2 c⟩
  · rw [yA.I ⟨by omega, by omega, by omega⟩] at q
    obtain ⟨e1, e2⟩ := K.2.2.2.2 w hw q
    exact ⟨by rw [yA.L ⟨by omega, by omega, by omega⟩]; exact e1, by rw [yA.L ⟨by omega, by omega, by omega⟩]; exact e2⟩
end FIW
