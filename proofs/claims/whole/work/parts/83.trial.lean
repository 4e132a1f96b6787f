/-! FIGURES: a trial, reckonWithout -/
section FIT
variable {E : Nat → Nat} {h : ZH} {x zs zt rb rt rp gb gt g bt sp : Nat} {t u rs : Nat → Nat} {Q : Option Value → ZH → Prop}
theorem XSh.t24 (X : XSh h x) : ztag h (x + 24) = 1 := X.2.2.2.2.2.2.2.2.2.1.1
theorem XSh.q0 (X : XSh h x) : zR h (x + 24) 0 = x + 1 + 1 := X.2.2.2.2.2.2.2.2.2.1.2.1
theorem XSh.q1 (X : XSh h x) : zR h (x + 24) 1 = x + 18 + 1 := X.2.2.2.2.2.2.2.2.2.1.2.2.1
theorem XSh.q2 (X : XSh h x) : zR h (x + 24) 2 = x + 25 + 1 := X.2.2.2.2.2.2.2.2.2.1.2.2.2.1
theorem XSh.q3 (X : XSh h x) : zR h (x + 24) 3 = x + 32 + 1 := X.2.2.2.2.2.2.2.2.2.1.2.2.2.2.1
theorem XSh.a11 (X : XSh h x) : zAr h (x + 24) 11 (x + 33) 15 8 := X.2.2.2.2.2.2.2.2.2.1.2.2.2.2.2.1
theorem XSh.a12 (X : XSh h x) : zAr h (x + 24) 12 (x + 34) 14 5 := X.2.2.2.2.2.2.2.2.2.1.2.2.2.2.2.2.1
theorem XSh.a13 (X : XSh h x) : zAr h (x + 24) 13 (x + 35) 14 16 := X.2.2.2.2.2.2.2.2.2.1.2.2.2.2.2.2.2
theorem XSh.s25 (X : XSh h x) : PSh h (x + 25) := X.2.2.2.2.2.2.2.2.2.2.1
theorem XSh.t32 (X : XSh h x) : ztag h (x + 32) = 2 := X.2.2.2.2.2.2.2.2.2.2.2
theorem XSh.s18 (X : XSh h x) : RSh h (x + 18) := X.2.2.2.2.2.2.1
theorem XSh.s1 (X : XSh h x) : PSh h (x + 1) := X.2.2.1
/-- what any of Figures may change -/
def FvA (x : Nat) (h h' : ZH) : Prop := Ag (fun a => a < x + 24 ∨ (x + 36 ≤ a ∧ a < x + 70)) h h' ∧ XSh h' x
theorem FwA.v {h1 : ZH} (X : XSh h x) (W : FwA x h h1) : FvA x h h1 := ⟨W.1.wk (fun a ha => ⟨by omega, by omega, by omega⟩), X.aw W⟩
theorem tr_73 {d : Nat} {t' : Nat → Nat} {R : ZH → Prop} (hd : 42 ≤ d) (ok' : tp_Ok t') (ou : tp_Ou u) (X : XSh h x) (P : PgR h (x + 25) t' u) (hg : gt + 2 < 1000000) (Rr : Rm h x zs zt rb (bt + 1) (sp + 1) gb gt) (kQ : ∀ h', Rm h' x zs zt rb (bt + 1) (sp + 1) gb (gt + 1) → Ag (fun a => (a < bt ∨ bt + 26 < a) ∧ (a < sp ∨ sp + 5 < a)) h h' → zsz h' = zsz h → ztag h' sp = 7 → zL h' sp 7 = jL (tp_wh t' u 0) → (∀ j, j < 4 → zL h' sp (8 + j) = jL (tp_F t' u j (tp_T t') 0 0 0 0 (t' 15))) → R h') : ∃ r15 : Nat, zR h (x + 24) 5 = r15 + 1 ∧ ∃ r16 : Nat, zR h (x + 24) 2 = r16 + 1 ∧ ztag h r15 = 0 ∧ Ct E d 1 [.ref r15, .ref r16] h (fun v h18 => v = none ∧ ztag h18 (x + 24) = 1 ∧ ∃ r20 : Nat, zR h18 (x + 24) 6 = r20 + 1 ∧ ∃ r21 : Nat, zR h18 (x + 24) 5 = r21 + 1 ∧ ztag h18 r20 = 7 ∧ Ct E d 73 [.ref r20, .ref r21] h18 (fun v h23 => v = none ∧ ztag h23 (x + 24) = 1 ∧ R h23)) := by
  obtain ⟨⟨r4, r5, r6⟩, B, T, S, ⟨a1, a2, a3⟩, z0, z1, z2⟩ := Rr
  obtain ⟨b1, b2, b3⟩ := T bt rfl
  obtain ⟨s1, s2, s3⟩ := S sp rfl
  have ats := a3 bt sp rfl rfl
  refine ⟨bt, r5, x + 25, X.q2, b3.1.1, ct_1 ok' (by omega) (by omega) (by omega) P b3 (fun h1 F1 A1 => ?_)⟩
  have y1 : Ag (fun a => a < bt ∨ bt + 26 < a) h h1 := F1.ag (fun a i ha => by unfold tp_S1; omega) (fun a i ha => by unfold tp_Z1; omega)
  have hl : (fun a => a < bt ∨ bt + 26 < a) (x + 24) := Or.inl (by omega)
  have s31 : SpM h1 sp := s3.ag (y1.wk (fun a ha => by unfold Rg at ha; omega))
  have P1 : PgR h1 (x + 25) t' u := P.ag (y1.wk (fun a ha => by unfold Rg at ha; omega))
  refine ⟨rfl, by rw [y1.T hl]; exact X.t24, sp, by rw [y1.R hl]; exact r6, bt, by rw [y1.R hl]; exact r5, ?_, ct_73 (by omega) ok' ou (by omega) (by omega) (by omega) (by omega) P1 A1 s31 (fun h8 F8 A8 S8 v7 vj => ?_)⟩
  · obtain ⟨_, _, _, _, ⟨q, _⟩, _⟩ := s31
    exact q
  have y8 : Ag (fun a => (a < bt ∨ bt + 26 < a) ∧ (a < sp ∨ sp + 5 < a)) h1 h8 := F8.ag (fun a i ha => by unfold tp_S73 tp_S9; omega) (fun a i ha => by unfold tp_Z73; omega)
  have y : Ag (fun a => (a < bt ∨ bt + 26 < a) ∧ (a < sp ∨ sp + 5 < a)) h h8 := (y1.wk (fun a ha => ha.1)).tr y8
  have hl2 : (fun a => (a < bt ∨ bt + 26 < a) ∧ (a < sp ∨ sp + 5 < a)) (x + 24) := ⟨by omega, by omega⟩
  have zE : zsz h8 = zsz h := by unfold zsz; rw [F8.1, F1.1]
  have tE : ztot h8 = ztot h := by unfold ztot; rw [F8.1, F1.1]
  have t8 : ztag h8 sp = 7 := by
    obtain ⟨_, _, _, _, ⟨q, _⟩, _⟩ := S8
    exact q
  refine ⟨rfl, by rw [y.T hl2]; exact X.t24, kQ h8 ⟨⟨by rw [y.R hl2]; exact r4, by rw [y.R hl2]; exact r5, by rw [y.R hl2]; exact r6⟩, fun b' e => ?_, fun b' e => ?_, fun b' e => ?_, ⟨a1, a2, a3⟩, by rw [zE]; exact z0, by rw [zE]; exact z1, by rw [tE]; exact z2⟩ y zE t8 v7 vj⟩
  · obtain ⟨q1, q2, q3⟩ := B b' e
    have c1 := a1 b' bt e rfl
    have c2 := a2 b' sp e rfl
    exact ⟨q1, by rw [zE]; exact q2, q3.ag (y.wk (fun a ha => by unfold Rg at ha; exact ⟨by omega, by omega⟩))⟩
  · have eb : b' = bt := by omega
    subst eb
    exact ⟨b1, by rw [zE]; exact b2, A8.md⟩
  · have eb : b' = sp := by omega
    subst eb
    exact ⟨s1, by rw [zE]; exact s2, S8⟩
set_option maxHeartbeats 4000000 in
theorem ct_19 {d w : Nat} (hd : 45 ≤ d) (hw : w < 8) (ok : tp_Ok t) (ou : tp_Ou u) (Sc : Stc E h) (hE : E 0 ≤ x) (X : XSh h x) (P : PgR h (x + 1) t u) (hg : g + 5 < 1000000) (F : Fg h x zs zt g t u rs) (kQ : ∀ h', Fg h' x zs zt (g + 3) t u rs → FvA x h h' → zL h' (x + 35) (2 * w) = jL (tp_wh (tp_lo8 t w) u 0 - tp_wh t u 0) → zL h' (x + 35) (2 * w + 1) = jL (tp_wh (tp_lo8 t w) u 1 - tp_wh t u 1) → Q none h') : Ct E d 19 [.ref (x + 24), .int (jI (w : Int))] h Q := by
  obtain ⟨d, rfl⟩ : ∃ n, d = n + 1 := ⟨d - 1, by omega⟩
  have F' := F
  have X' := X
  refine ok_19 ⟨X.t24, x + 33, X.a11.1, Or.inr X.a11.tg, X.a11.inn (by omega) (by omega), ?_⟩
  rw [jI_cln (by omega)]
  refine ⟨fun c8 => ?_, fun c8 => ?_⟩
  · refine ct_18 (by omega) ok ou X P (by omega) F (fun h4 F4 c4 W4 => ?_)
    have X4 := X'.aw W4
    obtain ⟨rb, rt, rp, gb, gt, g1, g2, R, K⟩ := F4
    obtain ⟨n1, n2, W⟩ := K.2.1 c4
    obtain ⟨bt, rfl⟩ : ∃ n, rt = n + 1 := ⟨rt - 1, by omega⟩
    obtain ⟨sp, rfl⟩ : ∃ n, rp = n + 1 := ⟨rp - 1, by omega⟩
    have P4 : PgR h4 (x + 1) t u := P.ag (W4.1.wk (fun a ha => by unfold Rg at ha; omega))
    have Sc4 : Stc E h4 := Sc.ag (W4.1.wk (fun a ha => by omega))
    refine ⟨rfl, X4.t24, x + 25, X4.q2, x + 1, X4.q0, X4.s25.1, ct_32 (by omega) X4.s25 P4.1 (by omega) (fun h9 F9 P9 => ⟨rfl, by rw [F9.tg]; exact X4.t24, x + 25, by rw [F9.rr]; exact X4.q2, P9.1.1, ct_51 (by omega) ok ou (Sc4.fr F9 (fun a i ha => by omega)) (by omega) P9 hw (fun h13 P13 F13 => ?_)⟩)⟩
    have FT : Fr (fun a _ => x + 25 ≤ a ∧ a ≤ x + 31) h4 h13 := (F9.wd (fun a i e => by omega)).tr (F13.wd (fun a i e => by unfold tp_S34 at e; omega))
    have X13 := X4.fr FT
    have ybt : Ag (fun a => a < x + 25 ∨ x + 31 < a) h4 h13 := FT.ag (fun a i ha => by omega)
    have R13 : Rm h13 x zs zt rb (bt + 1) (sp + 1) gb gt := R.ag (ybt.wk (fun a ha => by omega)) (fun i _ _ => FT.rr _ _) FT.sz (by unfold ztot; rw [FT.1])
    refine ⟨rfl, X13.t24, tr_73 (by omega) (tp_lo8_ok ok hw) ou X13 P13 (by omega) R13 (fun h23 R23 y23 z23 t23 v7 vj => ?_)⟩
    have hbt := (R13.2.2.1 bt rfl).1
    have hsp := (R13.2.2.2.1 sp rfl).1
    have y : Ag (fun a => a < x + 25 ∨ (x + 31 < a ∧ a < x + 70)) h4 h23 := (ybt.wk (fun a ha => by omega)).tr (y23.wk (fun a ha => ⟨by omega, by omega⟩))
    have X23 : XSh h23 x := X13.ax (y23.wk (fun a ha => ⟨by omega, by omega⟩)) ⟨y23.T ⟨by omega, by omega⟩, fun i _ _ _ => y23.R ⟨by omega, by omega⟩ i⟩
    have e2 : (2 * jI (w : Int) : Int32) = jI ((2 * w : Nat) : Int) := by rw [show (2 : Int32) = jI 2 from rfl, jI_mul]; congr 1
    have e3 : (jI ((2 * w : Nat) : Int) + 1 : Int32) = jI ((2 * w + 1 : Nat) : Int) := by rw [show (1 : Int32) = jI 1 from rfl, jI_add]; rfl
    have w0 : zL h23 (x + 34) 0 = jL (tp_wh t u 0) := by rw [y.L (by omega)]; exact W.1
    have w1 : zL h23 (x + 34) 1 = jL (tp_wh t u 1) := by rw [y.L (by omega)]; exact W.2 0 (by omega)
    have v8 : zL h23 sp 8 = jL (tp_wh (tp_lo8 t w) u 1) := vj 0 (by omega)
    refine ⟨x + 35, X23.a13.1, sp, R23.1.2.2, t23, x + 34, X23.a12.1, X23.a12.tg, X23.a12.inc (by decide), X23.a13.tg, by rw [e2]; exact X23.a13.inn (by omega) (by omega), nm_r (e' := zuL h23 (x + 35) (2 * w) (jL (tp_wh (tp_lo8 t w) u 0 - tp_wh t u 0))) (by rw [e2, jI_cln (by omega), v7, w0, jL_sub]) ⟨X23.a12.inc (by decide), by rw [e2, e3]; exact X23.a13.inn (by omega) (by omega), nm_r (e' := zuL (zuL h23 (x + 35) (2 * w) (jL (tp_wh (tp_lo8 t w) u 0 - tp_wh t u 0))) (x + 35) (2 * w + 1) (jL (tp_wh (tp_lo8 t w) u 1 - tp_wh t u 1))) (by rw [e2, e3, jI_cln (by omega), zL_offa (by omega), zL_offa (by omega), v8, w1, jL_sub]) ⟨x + 33, X23.a11.1, Or.inr X23.a11.tg, X23.a11.inn (by omega) (by omega), nm_r (e' := zuI (zuL (zuL h23 (x + 35) (2 * w) (jL (tp_wh (tp_lo8 t w) u 0 - tp_wh t u 0))) (x + 35) (2 * w + 1) (jL (tp_wh (tp_lo8 t w) u 1 - tp_wh t u 1))) (x + 33) w 1) (by rw [ztag_uL, ztag_uL, X23.a11.tg]; rfl) ?_⟩⟩⟩
    have FL : Fr (fun a i => a = x + 35 ∨ (a = x + 33 ∧ i = w)) h23 (zuI (zuL (zuL h23 (x + 35) (2 * w) (jL (tp_wh (tp_lo8 t w) u 0 - tp_wh t u 0))) (x + 35) (2 * w + 1) (jL (tp_wh (tp_lo8 t w) u 1 - tp_wh t u 1))) (x + 33) w 1) := Fr.uI (Fr.uL (Fr.uL Fr.rf (by omega)) (by omega)) (by omega)
    have q0 : zL (zuI (zuL (zuL h23 (x + 35) (2 * w) (jL (tp_wh (tp_lo8 t w) u 0 - tp_wh t u 0))) (x + 35) (2 * w + 1) (jL (tp_wh (tp_lo8 t w) u 1 - tp_wh t u 1))) (x + 33) w 1) (x + 35) (2 * w) = jL (tp_wh (tp_lo8 t w) u 0 - tp_wh t u 0) := by rw [zL_uI, zL_offi (by omega), zL_here]
    have q1 : zL (zuI (zuL (zuL h23 (x + 35) (2 * w) (jL (tp_wh (tp_lo8 t w) u 0 - tp_wh t u 0))) (x + 35) (2 * w + 1) (jL (tp_wh (tp_lo8 t w) u 1 - tp_wh t u 1))) (x + 33) w 1) (x + 35) (2 * w + 1) = jL (tp_wh (tp_lo8 t w) u 1 - tp_wh t u 1) := by rw [zL_uI, zL_here]
    have qo : ∀ i, i ≠ 2 * w → i ≠ 2 * w + 1 → zL (zuI (zuL (zuL h23 (x + 35) (2 * w) (jL (tp_wh (tp_lo8 t w) u 0 - tp_wh t u 0))) (x + 35) (2 * w + 1) (jL (tp_wh (tp_lo8 t w) u 1 - tp_wh t u 1))) (x + 33) w 1) (x + 35) i = zL h23 (x + 35) i := fun i c1 c2 => by rw [zL_uI, zL_offi c2, zL_offi c1]
    generalize zuI (zuL (zuL h23 (x + 35) (2 * w) (jL (tp_wh (tp_lo8 t w) u 0 - tp_wh t u 0))) (x + 35) (2 * w + 1) (jL (tp_wh (tp_lo8 t w) u 1 - tp_wh t u 1))) (x + 33) w 1 = hz at FL q0 q1 qo ⊢
    have yz : Ag (fun a => a ≠ x + 33 ∧ a ≠ x + 35) h23 hz := FL.ag (fun a i ha => by omega)
    have yl : Ag (fun a => a < x + 25 ∨ a = x + 34) h4 hz := (y.wk (fun a ha => by omega)).tr (yz.wk (fun a ha => ⟨by omega, by omega⟩))
    have iA : ∀ i, zI hz (x + 24) i = zI h4 (x + 24) i := fun i => yl.I (Or.inl (by omega)) i
    refine kQ hz ⟨rb, bt + 1, sp + 1, gb, gt + 1, by omega, by omega, R23.ag (yz.wk (fun a ha => ⟨by omega, by omega⟩)) (fun i _ _ => FL.rr _ _) FL.sz (by unfold ztot; rw [FL.1]), fun q => ?_, fun q => ⟨by omega, by omega, ?_, fun j hj => ?_⟩, fun q => ?_, fun q => ?_, fun w' hw' q => ?_⟩ ⟨?_, X23.fr FL⟩ q0 q1
    · rw [iA] at q
      obtain ⟨b, ac, e1, e2⟩ := K.1 q
      have c0 := (R.2.1 b e1).1
      have c1 := R.2.2.2.2.1.1 b bt e1 rfl
      have c2 := R.2.2.2.2.1.2.1 b sp e1 rfl
      exact ⟨b, ac, e1, (e2.ag (ybt.wk (fun a ha => by unfold Rg at ha; omega))).ag ((y23.wk (fun a (ha : Rg b (b + 26) a) => by unfold Rg at ha; exact ⟨by omega, by omega⟩)).tr (yz.wk (fun a ha => by unfold Rg at ha; exact ⟨by omega, by omega⟩)))⟩
    · rw [yl.L (Or.inr rfl)]; exact W.1
    · rw [yl.L (Or.inr rfl)]; exact W.2 j hj
    · rw [iA] at q
      obtain ⟨e1, e2⟩ := K.2.2.1 q
      refine ⟨by rw [iA]; exact e1, fun c => ?_⟩
      obtain ⟨e3, e4, e5⟩ := e2 c
      exact ⟨by rw [iA]; exact e3, by rw [iA]; exact e4, by rw [yl.L (Or.inl (by omega))]; exact e5⟩
    · rw [iA] at q
      obtain ⟨e1, e2⟩ := K.2.2.2.1 q
      exact ⟨by rw [iA]; exact e1, fun c => by rw [iA]; exact e2 c⟩
    · by_cases cw : w' = w
      · subst cw
        exact ⟨q0, q1⟩
      · rw [FL.I (by omega), y.I (by omega)] at q
        obtain ⟨e1, e2⟩ := K.2.2.2.2 w' hw' q
        rw [qo _ (by omega) (by omega), qo _ (by omega) (by omega), y.L (by omega), y.L (by omega)]
        exact ⟨e1, e2⟩
    · exact (W4.1.wk (fun a ha => ⟨by omega, by omega, by omega⟩)).tr ((y.wk (fun a ha => by omega)).tr (yz.wk (fun a ha => ⟨by omega, by omega⟩)))
  · obtain ⟨_, _, _, _, _, _, _, _, K⟩ := F
    obtain ⟨e1, e2⟩ := K.2.2.2.2 w hw c8
    exact kQ h (F'.mono (by omega)) ⟨Ag.rf, X'⟩ e1 e2
end FIT
