/-! FIGURES: the three large objects that are made when first asked for -/
theorem Ag.uR {A : Nat → Prop} {h h1 : ZH} {a i r : Nat} (x : Ag A h h1) (ha : ¬ A a) : Ag A h (zuR h1 a i r) := fun b hb => by
  obtain ⟨q1, q2, q3, q4, q5⟩ := x b hb
  refine ⟨q1, q2, q3, q4, ?_⟩
  rw [← q5]
  funext j
  have : ¬ (b = a ∧ j = i) := fun e => ha (e.1 ▸ hb)
  simp [zR_uR, this]
theorem Ag.uI {A : Nat → Prop} {h h1 : ZH} {a i : Nat} {v : Int32} (x : Ag A h h1) (ha : ¬ A a) : Ag A h (zuI h1 a i v) := fun b hb => by
  obtain ⟨q1, q2, q3, q4, q5⟩ := x b hb
  refine ⟨q1, q2, ?_, q4, q5⟩
  rw [← q3]
  funext j
  have : ¬ (b = a ∧ j = i) := fun e => ha (e.1 ▸ hb)
  simp [zI_uI, this]
theorem Ag.uL {A : Nat → Prop} {h h1 : ZH} {a i : Nat} {v : Int64} (x : Ag A h h1) (ha : ¬ A a) : Ag A h (zuL h1 a i v) := fun b hb => by
  obtain ⟨q1, q2, q3, q4, q5⟩ := x b hb
  refine ⟨q1, q2, q3, ?_, q5⟩
  rw [← q4]
  funext j
  have : ¬ (b = a ∧ j = i) := fun e => ha (e.1 ▸ hb)
  simp [zL_uL, this]
section FIG
variable {E : Nat → Nat} {h : ZH} {x zs zt rb rt rp gb gt : Nat} {t u : Nat → Nat} {Q : Option Value → ZH → Prop}
def RmB (h : ZH) (x r g : Nat) : Prop := ∀ b, r = b + 1 → x + 70 ≤ b ∧ b + 27 ≤ zsz h ∧ BMd h b g
def RmS (h : ZH) (x r : Nat) : Prop := ∀ b, r = b + 1 → x + 70 ≤ b ∧ b + 6 ≤ zsz h ∧ SpM h b
/-- they lie apart; zs cells and zt slots are enough for them -/
def Rm (h : ZH) (x zs zt rb rt rp gb gt : Nat) : Prop := (zR h (x + 24) 4 = rb ∧ zR h (x + 24) 5 = rt ∧ zR h (x + 24) 6 = rp) ∧ RmB h x rb gb ∧ RmB h x rt gt ∧ RmS h x rp ∧ ((∀ b c, rb = b + 1 → rt = c + 1 → b + 26 < c ∨ c + 26 < b) ∧ (∀ b c, rb = b + 1 → rp = c + 1 → b + 26 < c ∨ c + 5 < b) ∧ (∀ b c, rt = b + 1 → rp = c + 1 → b + 26 < c ∨ c + 5 < b)) ∧ x + 70 ≤ zsz h ∧ zsz h + (if rb = 0 then 27 else 0) + (if rt = 0 then 27 else 0) + (if rp = 0 then 6 else 0) ≤ zs ∧ ztot h + (if rb = 0 then 60000 else 0) + (if rt = 0 then 60000 else 0) + (if rp = 0 then 6000 else 0) ≤ zt
/-- the fields of Figures, but for the three references and the flag -/
def FxI (x : Nat) (h h' : ZH) : Prop := ztag h' (x + 24) = ztag h (x + 24) ∧ (∀ i, i ≠ 7 → zI h' (x + 24) i = zI h (x + 24) i) ∧ (∀ i, zL h' (x + 24) i = zL h (x + 24) i) ∧ ∀ i, i ≠ 4 → i ≠ 5 → i ≠ 6 → zR h' (x + 24) i = zR h (x + 24) i
theorem FxI.rf : FxI x h h := ⟨rfl, fun _ _ => rfl, fun _ => rfl, fun _ _ _ _ => rfl⟩
theorem FxI.tr {h1 h2 : ZH} (a : FxI x h h1) (b : FxI x h1 h2) : FxI x h h2 := ⟨b.1.trans a.1, fun i hi => (b.2.1 i hi).trans (a.2.1 i hi), fun i => (b.2.2.1 i).trans (a.2.2.1 i), fun i q1 q2 q3 => (b.2.2.2 i q1 q2 q3).trans (a.2.2.2 i q1 q2 q3)⟩
theorem FxI.ag {h1 : ZH} (a : Ag (fun a => a = x + 24) h h1) : FxI x h h1 := ⟨a.T rfl, fun i _ => a.I rfl i, fun i => a.L rfl i, fun i _ _ _ => a.R rfl i⟩
theorem XSh.ax {h1 : ZH} (X : XSh h x) (y' : Ag (fun a => x ≤ a ∧ a ≤ x + 44 ∧ a ≠ x + 24) h h1) (f : ztag h1 (x + 24) = ztag h (x + 24) ∧ ∀ i, i ≠ 4 → i ≠ 5 → i ≠ 6 → zR h1 (x + 24) i = zR h (x + 24) i) : XSh h1 x := by
  obtain ⟨⟨x0, r0, r1, r2, r3, r4, r5, r6, a7⟩, sh, P1, T1, ⟨d0, d1, d2⟩, P2, R1, W1, m1, ⟨f0, f1, f2, f3, f4, f5, f6, f7⟩, P3, m2⟩ := X
  have g : ∀ i, i ≤ 44 → i ≠ 24 → (fun a => x ≤ a ∧ a ≤ x + 44 ∧ a ≠ x + 24) (x + i) := fun i hi hn => ⟨by omega, by omega, by omega⟩
  have g0 : (fun a => x ≤ a ∧ a ≤ x + 44 ∧ a ≠ x + 24) x := ⟨by omega, by omega, by omega⟩
  have sb : ∀ lo hi, x ≤ lo → hi ≤ x + 44 → (hi < x + 24 ∨ x + 24 < lo) → Ag (Rg lo hi) h h1 := fun lo hi q1 q2 q3 => y'.wk (fun a ha => by unfold Rg at ha; exact ⟨by omega, by omega, by omega⟩)
  have fa : ∀ s r tg n, s ≠ 4 → s ≠ 5 → s ≠ 6 → (fun a => x ≤ a ∧ a ≤ x + 44 ∧ a ≠ x + 24) r → zAr h (x + 24) s r tg n → zAr h1 (x + 24) s r tg n := fun s r tg n q1 q2 q3 hr a => by
    unfold zAr at a ⊢
    rw [f.2 s q1 q2 q3, y'.T hr, y'.N hr]
    exact a
  refine ⟨⟨by rw [y'.T g0]; exact x0, by rw [y'.R g0]; exact r0, by rw [y'.R g0]; exact r1, by rw [y'.R g0]; exact r2, by rw [y'.R g0]; exact r3, by rw [y'.R g0]; exact r4, by rw [y'.R g0]; exact r5, by rw [y'.R g0]; exact r6, a7.ag y' g0 (g 36 (by omega) (by omega))⟩, fun k hk => ?_, P1.ag (sb _ _ (by omega) (by omega) (by omega)), T1.ag (sb _ _ (by omega) (by omega) (by omega)), ⟨by rw [y'.T (g 10 (by omega) (by omega))]; exact d0, by rw [y'.R (g 10 (by omega) (by omega))]; exact d1, by rw [y'.R (g 10 (by omega) (by omega))]; exact d2⟩, P2.ag (sb _ _ (by omega) (by omega) (by omega)), R1.ag (sb _ _ (by omega) (by omega) (by omega)), W1.ag (sb _ _ (by omega) (by omega) (by omega)), by rw [y'.T (g 23 (by omega) (by omega))]; exact m1, ⟨by rw [f.1]; exact f0, by rw [f.2 0 (by omega) (by omega) (by omega)]; exact f1, by rw [f.2 1 (by omega) (by omega) (by omega)]; exact f2, by rw [f.2 2 (by omega) (by omega) (by omega)]; exact f3, by rw [f.2 3 (by omega) (by omega) (by omega)]; exact f4, fa _ _ _ _ (by omega) (by omega) (by omega) (g 33 (by omega) (by omega)) f5, fa _ _ _ _ (by omega) (by omega) (by omega) (g 34 (by omega) (by omega)) f6, fa _ _ _ _ (by omega) (by omega) (by omega) (g 35 (by omega) (by omega)) f7⟩, P3.ag (sb _ _ (by omega) (by omega) (by omega)), by rw [y'.T (g 32 (by omega) (by omega))]; exact m2⟩
  refine ⟨by rw [y'.R (g 36 (by omega) (by omega))]; exact (sh k hk).1, (sh k hk).2.ag (sb _ _ (by omega) (by omega) (by omega))⟩
/-- the room is the same where their cells and the three references are, and nothing is made -/
theorem Rm.ag {h1 : ZH} (R : Rm h x zs zt rb rt rp gb gt) (y : Ag (fun a => x + 70 ≤ a) h h1) (r : ∀ i, 4 ≤ i → i ≤ 6 → zR h1 (x + 24) i = zR h (x + 24) i) (z : zsz h1 = zsz h) (w : ztot h1 = ztot h) : Rm h1 x zs zt rb rt rp gb gt := by
  obtain ⟨⟨r4, r5, r6⟩, B, T, S, A, z0, z1, z2⟩ := R
  refine ⟨⟨by rw [r 4 (by omega) (by omega)]; exact r4, by rw [r 5 (by omega) (by omega)]; exact r5, by rw [r 6 (by omega) (by omega)]; exact r6⟩, fun b e => ?_, fun b e => ?_, fun b e => ?_, A, by rw [z]; exact z0, by rw [z]; exact z1, by rw [w]; exact z2⟩
  · obtain ⟨q1, q2, q3⟩ := B b e
    exact ⟨q1, by rw [z]; exact q2, q3.ag (y.wk (fun a ha => by unfold Rg at ha; omega))⟩
  · obtain ⟨q1, q2, q3⟩ := T b e
    exact ⟨q1, by rw [z]; exact q2, q3.ag (y.wk (fun a ha => by unfold Rg at ha; omega))⟩
  · obtain ⟨q1, q2, q3⟩ := S b e
    exact ⟨q1, by rw [z]; exact q2, q3.ag (y.wk (fun a ha => by unfold Rg at ha; omega))⟩
/-- a Best is made and kept in slot s -/
theorem mk_B {d s : Nat} {Q1 : ZH → Prop} (hd : 6 ≤ d) (hf : ztag h (x + 24) = 1) (hx : x + 70 ≤ zsz h) (kQ : ∀ h8, zsz h8 = zsz h + 27 → ztot h8 = ztot h + 55793 → Ag (fun a => a ≠ x + 24 ∧ (a < zsz h ∨ zsz h + 27 ≤ a)) h h8 → ztag h8 (x + 24) = 1 → (∀ i, zI h8 (x + 24) i = zI h (x + 24) i) → (∀ i, zL h8 (x + 24) i = zL h (x + 24) i) → (∀ i, i ≠ s → zR h8 (x + 24) i = zR h (x + 24) i) → zR h8 (x + 24) s = zsz h + 1 → BMd h8 (zsz h) 0 → Q1 h8) : ∀ h3 : ZH, h3 = (znew h 0 (zN 0)) → ∀ r4 : Nat, r4 = (zsz h) → ztag h3 r4 = 0 ∧ Ct E d 0 [.ref r4] h3 (fun v h6 => v = none ∧ ztag h6 (x + 24) = 1 ∧ ∀ h8 : ZH, h8 = (zuR h6 (x + 24) s (r4 + 1)) → Q1 h8) := by
  rintro h3 rfl r4 rfl
  obtain ⟨w1, w2, w3, w4, w5⟩ := znew_at h 0 (zN 0)
  obtain ⟨v1, v2, v3⟩ := Gr.new h 0 (zN 0)
  refine ⟨w1, ct_0 hd v1 w1 w3 (fun h6 z6 t6 A6 M6 => ?_)⟩
  have A : Ag (fun a => a < zsz h ∨ zsz h + 27 ≤ a) h h6 := (v3.wk (fun a ha => by omega)).tr A6
  have hl : (fun a => a < zsz h ∨ zsz h + 27 ≤ a) (x + 24) := Or.inl (by omega)
  refine ⟨rfl, by rw [A.T hl]; exact hf, ?_⟩
  rintro h8 rfl
  refine kQ _ z6 ?_ ((A.wk (fun a ha => ha.2)).uR (fun q => q.1 rfl)) (by rw [ztag_uR, A.T hl]; exact hf) (fun i => by rw [zI_uR, A.I hl]) (fun i => by rw [show zL (zuR h6 (x + 24) s (zsz h + 1)) = zL h6 from rfl, A.L hl]) (fun i hi => ?_) ?_ (M6.ag ((Ag.rf (A := Rg (zsz h) (zsz h + 26))).uR (fun q => by unfold Rg at q; omega)))
  · show ztot h6 = _
    have e12 : ∀ q : Nat, (q = 0 ∨ q = 7) → zN q = 12 := fun q hq => by rcases hq with e | e <;> subst e <;> rfl
    have e0 := e12 0 (by omega)
    omega
  · have : ¬ (x + 24 = x + 24 ∧ i = s) := fun e => hi e.2
    rw [zR_uR, if_neg this, A.R hl]
  · rw [zR_uR, if_pos ⟨rfl, rfl⟩]
theorem mk_S {d s : Nat} {Q1 : ZH → Prop} (hd : 6 ≤ d) (hf : ztag h (x + 24) = 1) (hx : x + 70 ≤ zsz h) (kQ : ∀ h8, zsz h8 = zsz h + 6 → ztot h8 = ztot h + 5313 → Ag (fun a => a ≠ x + 24 ∧ (a < zsz h ∨ zsz h + 6 ≤ a)) h h8 → ztag h8 (x + 24) = 1 → (∀ i, zI h8 (x + 24) i = zI h (x + 24) i) → (∀ i, zL h8 (x + 24) i = zL h (x + 24) i) → (∀ i, i ≠ s → zR h8 (x + 24) i = zR h (x + 24) i) → zR h8 (x + 24) s = zsz h + 1 → SpM h8 (zsz h) → Q1 h8) : ∀ h3 : ZH, h3 = (znew h 7 (zN 7)) → ∀ r4 : Nat, r4 = (zsz h) → ztag h3 r4 = 7 ∧ Ct E d 72 [.ref r4] h3 (fun v h6 => v = none ∧ ztag h6 (x + 24) = 1 ∧ ∀ h8 : ZH, h8 = (zuR h6 (x + 24) s (r4 + 1)) → Q1 h8) := by
  rintro h3 rfl r4 rfl
  obtain ⟨w1, w2, w3, w4, w5⟩ := znew_at h 7 (zN 7)
  obtain ⟨v1, v2, v3⟩ := Gr.new h 7 (zN 7)
  refine ⟨w1, ct_72 hd v1 w1 w3 (fun h6 z6 t6 A6 M6 => ?_)⟩
  have A : Ag (fun a => a < zsz h ∨ zsz h + 6 ≤ a) h h6 := (v3.wk (fun a ha => by omega)).tr A6
  have hl : (fun a => a < zsz h ∨ zsz h + 6 ≤ a) (x + 24) := Or.inl (by omega)
  refine ⟨rfl, by rw [A.T hl]; exact hf, ?_⟩
  rintro h8 rfl
  refine kQ _ z6 ?_ ((A.wk (fun a ha => ha.2)).uR (fun q => q.1 rfl)) (by rw [ztag_uR, A.T hl]; exact hf) (fun i => by rw [zI_uR, A.I hl]) (fun i => by rw [show zL (zuR h6 (x + 24) s (zsz h + 1)) = zL h6 from rfl, A.L hl]) (fun i hi => ?_) ?_ (M6.ag ((Ag.rf (A := Rg (zsz h) (zsz h + 5))).uR (fun q => by unfold Rg at q; omega)))
  · show ztot h6 = _
    have e12 : ∀ q : Nat, (q = 0 ∨ q = 7) → zN q = 12 := fun q hq => by rcases hq with e | e <;> subst e <;> rfl
    have e0 := e12 7 (by omega)
    omega
  · have : ¬ (x + 24 = x + 24 ∧ i = s) := fun e => hi e.2
    rw [zR_uR, if_neg this, A.R hl]
  · rw [zR_uR, if_pos ⟨rfl, rfl⟩]
/-- room for trials -/
theorem ct_17 {d : Nat} (hd : 7 ≤ d) (hf : ztag h (x + 24) = 1) (R : Rm h x zs zt rb rt rp gb gt) (kQ : ∀ h' bt sp gt', gt' ≤ gt → Rm h' x zs zt rb (bt + 1) (sp + 1) gb gt' → Ag (fun a => a ≠ x + 24 ∧ a < zsz h) h h' → FxI x h h' → zI h' (x + 24) 7 = zI h (x + 24) 7 → zsz h ≤ zsz h' → Q none h') : Ct E d 17 [.ref (x + 24)] h Q := by
  obtain ⟨d, rfl⟩ : ∃ n, d = n + 1 := ⟨d - 1, by omega⟩
  -- behind the first
  have main : ∀ h1 bt gt', gt' ≤ gt → Rm h1 x zs zt rb (bt + 1) rp gb gt' → Ag (fun a => a ≠ x + 24 ∧ a < zsz h) h h1 → FxI x h h1 → zI h1 (x + 24) 7 = zI h (x + 24) 7 → zsz h ≤ zsz h1 → wb_17_8 E d Q (x + 24) h1 := by
    intro h1 bt gt' hgt R1 A1 X1 i7 hz
    have hf1 : ztag h1 (x + 24) = 1 := by rw [X1.1]; exact hf
    have R1' := R1
    obtain ⟨⟨r4, r5, r6⟩, B, T, S, ⟨a1, a2, a3⟩, z0, z1, z2⟩ := R1
    refine ⟨hf1, fun e0 => ?_, fun r10 e10 => kQ h1 bt r10 gt' hgt ?_ A1 X1 i7 hz⟩
    · rw [r6] at e0
      refine mk_S (s := 6) (by omega) hf1 z0 (fun h8 y1 y2 y3 y4 y5 y6 y7 y8 y9 => kQ h8 bt (zsz h1) gt' hgt ?_ (A1.tr (y3.wk (fun a ha => ⟨ha.1, Or.inl (by omega)⟩))) (X1.tr ⟨by rw [y4, hf1], fun i _ => y5 i, y6, fun i _ _ q => y7 i q⟩) (by rw [y5]; exact i7) (by omega))
      rw [if_pos e0] at z1 z2
      refine ⟨⟨by rw [y7 4 (by omega)]; exact r4, by rw [y7 5 (by omega)]; exact r5, y8⟩, fun b e => ?_, fun b e => ?_, fun b e => ?_, ⟨a1, fun b c q1 q2 => ?_, fun b c q1 q2 => ?_⟩, by omega, ?_, ?_⟩
      · obtain ⟨q1, q2, q3⟩ := B b e
        exact ⟨q1, by omega, q3.ag (y3.wk (fun a ha => by unfold Rg at ha; omega))⟩
      · obtain ⟨q1, q2, q3⟩ := T b e
        exact ⟨q1, by omega, q3.ag (y3.wk (fun a ha => by unfold Rg at ha; omega))⟩
      · have eb : b = zsz h1 := by omega
        subst eb
        exact ⟨z0, by omega, y9⟩
      · have := (B b q1).2.1; omega
      · have := (T b q1).2.1; omega
      · rw [if_neg (show ¬ zsz h1 + 1 = 0 by omega), y1]; omega
      · rw [if_neg (show ¬ zsz h1 + 1 = 0 by omega), y2]; omega
    · rw [← e10, r6]
      exact R1'
  have R' := R
  obtain ⟨⟨r4, r5, r6⟩, B, T, S, ⟨a1, a2, a3⟩, z0, z1, z2⟩ := R
  refine ok_17 ⟨hf, fun e0 => ?_, fun r10 e10 => main h r10 gt (Nat.le_refl _) ?_ Ag.rf FxI.rf rfl (Nat.le_refl _)⟩
  · rw [r5] at e0
    refine mk_B (s := 5) (by omega) hf z0 (fun h8 y1 y2 y3 y4 y5 y6 y7 y8 y9 => main h8 (zsz h) 0 (by omega) ?_ (y3.wk (fun a ha => ⟨ha.1, Or.inl ha.2⟩)) ⟨by rw [y4, hf], fun i _ => y5 i, y6, fun i _ q _ => y7 i q⟩ (y5 7) (by omega))
    rw [if_pos e0] at z1 z2
    refine ⟨⟨by rw [y7 4 (by omega)]; exact r4, y8, by rw [y7 6 (by omega)]; exact r6⟩, fun b e => ?_, fun b e => ?_, fun b e => ?_, ⟨fun b c q1 q2 => ?_, a2, fun b c q1 q2 => ?_⟩, by omega, ?_, ?_⟩
    · obtain ⟨q1, q2, q3⟩ := B b e
      exact ⟨q1, by omega, q3.ag (y3.wk (fun a ha => by unfold Rg at ha; omega))⟩
    · have eb : b = zsz h := by omega
      subst eb
      exact ⟨z0, by omega, y9⟩
    · obtain ⟨q1, q2, q3⟩ := S b e
      exact ⟨q1, by omega, q3.ag (y3.wk (fun a ha => by unfold Rg at ha; omega))⟩
    · have := (B b q1).2.1; omega
    · have := (S c q2).2.1; omega
    · rw [if_neg (show ¬ zsz h + 1 = 0 by omega), y1]; omega
    · rw [if_neg (show ¬ zsz h + 1 = 0 by omega), y2]; omega
  · rw [← e10, r5]
    exact R'
/-- the page's best, settled from a place on -/
theorem ct_16 {d dd c m k : Nat} (hd : 41 ≤ d) (ok : tp_Ok t) (ou : tp_Ou u) (X : XSh h x) (P : PgR h (x + 1) t u) (hg : gb + 2 < 1000000) (hdd : dd < tp_T t) (hc : c ≤ 20) (hm : m ≤ 12) (hk : k ≤ 8) (R : Rm h x zs zt rb rt rp gb gt) (O : ¬ zI h (x + 24) 7 = 0 → ∃ b ac, rb = b + 1 ∧ BAl h b (x + 1) ac gb t u (tp_pr t)) (kQ : ∀ h' b ac gb', gb' ≤ gb + 2 → Rm h' x zs zt (b + 1) rt rp gb' gt → BAl h' b (x + 1) ac gb' t u (tp_pr t) → tp_V ac c m k → BSd h' b dd c m k → Ag (fun a => a ≠ x + 24 ∧ (a < b ∨ b + 26 < a)) h h' → FxI x h h' → ¬ zI h' (x + 24) 7 = 0 → Q (some (.ref b)) h') : Ct E d 16 [.ref (x + 24), .int (jI (dd : Int)), .int (jI (c : Int)), .int (jI (m : Int)), .int (jI (k : Int))] h Q := by
  obtain ⟨d, rfl⟩ : ∃ n, d = n + 1 := ⟨d - 1, by omega⟩
  have hpr := tp_pr_ok ok
  have hf : ztag h (x + 24) = 1 := X.2.2.2.2.2.2.2.2.2.1.1
  have hr0 : zR h (x + 24) 0 = x + 1 + 1 := X.2.2.2.2.2.2.2.2.2.1.2.1
  -- settled
  have last : ∀ h1 b ac gb1, gb1 ≤ gb + 1 → Rm h1 x zs zt (b + 1) rt rp gb1 gt → BAl h1 b (x + 1) ac gb1 t u (tp_pr t) → Ag (fun a => a ≠ x + 24 ∧ (a < b ∨ b + 26 < a)) h h1 → FxI x h h1 → ¬ zI h1 (x + 24) 7 = 0 → wb_16_19 E d Q (x + 24) (jI (dd : Int)) (jI (c : Int)) (jI (m : Int)) (jI (k : Int)) h1 := by
    intro h1 b ac gb1 hgb R1 A1 y1 X1 f1
    have R1' := R1
    obtain ⟨⟨r4, r5, r6⟩, B, T, S, ⟨a1, a2, a3⟩, z0, z1, z2⟩ := R1
    obtain ⟨b1, b2, b3⟩ := B b rfl
    have P1 : PgR h1 (x + 1) t u := P.ag (y1.wk (fun a ha => by unfold Rg at ha; omega))
    refine ⟨by rw [X1.1]; exact hf, b, r4, A1.1.1, ct_9 ok ou hpr (by omega) hdd (by omega) (by omega) P1 A1 hc hm hk (fun h' ac' g' F' A' V' D' l1 l2 _ => ⟨rfl, by rw [F'.tg, X1.1]; exact hf, b, by rw [F'.rr]; exact r4, ?_⟩)⟩
    have yb : Ag (fun a => a < b ∨ b + 26 < a) h1 h' := F'.ag (fun a i ha => by unfold tp_S9; omega)
    refine kQ h' b ac' g' (by omega) ?_ A' V' D' (y1.tr (yb.wk (fun a ha => ha.2))) (X1.tr (FxI.ag (yb.wk (fun a ha => Or.inl (by omega))))) (by rw [yb.I (Or.inl (by omega))]; exact f1)
    refine ⟨⟨by rw [F'.rr]; exact r4, by rw [F'.rr]; exact r5, by rw [F'.rr]; exact r6⟩, fun b' e => ?_, fun b' e => ?_, fun b' e => ?_, ⟨a1, a2, a3⟩, by rw [F'.sz]; exact z0, by rw [F'.sz]; exact z1, ?_⟩
    · have eb : b' = b := by omega
      subst eb
      exact ⟨b1, by rw [F'.sz]; exact b2, A'.md⟩
    · obtain ⟨q1, q2, q3⟩ := T b' e
      exact ⟨q1, by rw [F'.sz]; exact q2, q3.ag (yb.wk (fun a ha => by have := a1 b b' rfl e; unfold Rg at ha; omega))⟩
    · obtain ⟨q1, q2, q3⟩ := S b' e
      exact ⟨q1, by rw [F'.sz]; exact q2, q3.ag (yb.wk (fun a ha => by have := a2 b b' rfl e; unfold Rg at ha; omega))⟩
    · unfold ztot at z2 ⊢
      rw [F'.1]
      exact z2
  -- made
  have open1 : ∀ h1 b gb1, gb1 ≤ gb → Rm h1 x zs zt (b + 1) rt rp gb1 gt → (¬ zI h1 (x + 24) 7 = 0 → ∃ ac, BAl h1 b (x + 1) ac gb1 t u (tp_pr t)) → Ag (fun a => a ≠ x + 24 ∧ (a < b ∨ b + 26 < a)) h h1 → FxI x h h1 → wb_16_8 E d Q (x + 24) (jI (dd : Int)) (jI (c : Int)) (jI (m : Int)) (jI (k : Int)) h1 := by
    intro h1 b gb1 hgb R1 O1 y1 X1
    have hf1 : ztag h1 (x + 24) = 1 := by rw [X1.1]; exact hf
    refine ⟨hf1, fun q => ?_, fun q => ?_⟩
    · obtain ⟨ac, A1⟩ := O1 q
      exact last h1 b ac gb1 (by omega) R1 A1 y1 X1 q
    · obtain ⟨⟨r4, r5, r6⟩, B, T, S, ⟨a1, a2, a3⟩, z0, z1, z2⟩ := R1
      obtain ⟨b1, b2, b3⟩ := B b rfl
      have P1 : PgR h1 (x + 1) t u := P.ag (y1.wk (fun a ha => by unfold Rg at ha; omega))
      refine ⟨b, r4, x + 1, by rw [X1.2.2.2 0 (by omega) (by omega) (by omega)]; exact hr0, b3.1.1, ct_1 ok (by omega) (by omega) (by omega) P1 b3 (fun h2 F2 A2 => ⟨rfl, by rw [F2.tg]; exact hf1, ?_⟩)⟩
      rintro h3 rfl
      have yb : Ag (fun a => a < b ∨ b + 26 < a) h1 h2 := F2.ag (fun a i ha => by unfold tp_S1; omega) (fun a i ha => by unfold tp_Z1; omega)
      have yf : Ag (fun a => a ≠ x + 24) h2 (zuI h2 (x + 24) 7 1) := Ag.uI Ag.rf (fun q => q rfl)
      have X2 : FxI x h1 (zuI h2 (x + 24) 7 1) := ⟨by rw [ztag_uI, F2.tg], fun i hi => by rw [zI_offi hi, yb.I (Or.inl (by omega))], fun i => by rw [zL_uI, yb.L (Or.inl (by omega))], fun i _ _ _ => by rw [zR_uI, yb.R (Or.inl (by omega))]⟩
      have rr : ∀ i, zR (zuI h2 (x + 24) 7 1) (x + 24) i = zR h1 (x + 24) i := fun i => by rw [zR_uI, yb.R (Or.inl (by omega))]
      refine last _ b 0 (gb1 + 1) (by omega) ⟨⟨by rw [rr]; exact r4, by rw [rr]; exact r5, by rw [rr]; exact r6⟩, fun b' e => ?_, fun b' e => ?_, fun b' e => ?_, ⟨a1, a2, a3⟩, ?_, ?_, ?_⟩ (A2.ag (yf.wk (fun a ha => by unfold Rg at ha; omega))) (y1.tr ((yb.wk (fun a ha => ha.2)).tr (yf.wk (fun a ha => ha.1)))) (X1.tr X2) (by rw [zI_here]; decide)
      · have eb : b' = b := by omega
        subst eb
        refine ⟨b1, ?_, (A2.ag (yf.wk (fun a ha => by unfold Rg at ha; omega))).md⟩
        show b' + 27 ≤ zsz h2
        unfold zsz at b2 ⊢
        rw [F2.1]; exact b2
      · obtain ⟨q1, q2, q3⟩ := T b' e
        refine ⟨q1, ?_, (q3.ag (yb.wk (fun a ha => by have := a1 b b' rfl e; unfold Rg at ha; omega))).ag (yf.wk (fun a ha => by unfold Rg at ha; omega))⟩
        show b' + 27 ≤ zsz h2
        unfold zsz at q2 ⊢
        rw [F2.1]; exact q2
      · obtain ⟨q1, q2, q3⟩ := S b' e
        refine ⟨q1, ?_, (q3.ag (yb.wk (fun a ha => by have := a2 b b' rfl e; unfold Rg at ha; omega))).ag (yf.wk (fun a ha => by unfold Rg at ha; omega))⟩
        show b' + 6 ≤ zsz h2
        unfold zsz at q2 ⊢
        rw [F2.1]; exact q2
      · show x + 70 ≤ zsz h2
        unfold zsz at z0 ⊢
        rw [F2.1]; exact z0
      · show zsz h2 + _ + _ + _ ≤ zs
        unfold zsz at z1 ⊢
        rw [F2.1]; exact z1
      · show ztot h2 + _ + _ + _ ≤ zt
        unfold ztot at z2 ⊢
        rw [F2.1]; exact z2
  have R' := R
  obtain ⟨⟨r4, r5, r6⟩, B, T, S, ⟨a1, a2, a3⟩, z0, z1, z2⟩ := R
  refine ok_16 ⟨hf, fun e0 => ?_, fun r10 e10 => ?_⟩
  · rw [r4] at e0
    refine mk_B (s := 4) (by omega) hf z0 (fun h8 y1 y2 y3 y4 y5 y6 y7 y8 y9 => open1 h8 (zsz h) 0 (by omega) ?_ (fun q => ?_) (y3.wk (fun a ha => ⟨ha.1, by omega⟩)) ⟨by rw [y4, hf], fun i _ => y5 i, y6, fun i q _ _ => y7 i q⟩)
    · rw [if_pos e0] at z1 z2
      refine ⟨⟨y8, by rw [y7 5 (by omega)]; exact r5, by rw [y7 6 (by omega)]; exact r6⟩, fun b e => ?_, fun b e => ?_, fun b e => ?_, ⟨fun b c q1 q2 => ?_, fun b c q1 q2 => ?_, a3⟩, by omega, ?_, ?_⟩
      · have eb : b = zsz h := by omega
        subst eb
        exact ⟨z0, by omega, y9⟩
      · obtain ⟨q1, q2, q3⟩ := T b e
        exact ⟨q1, by omega, q3.ag (y3.wk (fun a ha => by unfold Rg at ha; omega))⟩
      · obtain ⟨q1, q2, q3⟩ := S b e
        exact ⟨q1, by omega, q3.ag (y3.wk (fun a ha => by unfold Rg at ha; omega))⟩
      · have := (T c q2).2.1; omega
      · have := (S c q2).2.1; omega
      · rw [if_neg (show ¬ zsz h + 1 = 0 by omega), y1]; omega
      · rw [if_neg (show ¬ zsz h + 1 = 0 by omega), y2]; omega
    · rw [y5] at q
      obtain ⟨b, ac, e1, e2⟩ := O q
      omega
  · have e1 : rb = r10 + 1 := by rw [← e10, r4]
    rw [e1] at R'
    refine open1 h r10 gb (Nat.le_refl _) R' (fun q => ?_) Ag.rf FxI.rf
    obtain ⟨b, ac, q1, q2⟩ := O q
    have eb : b = r10 := by omega
    subst eb
    exact ⟨ac, q2⟩
end FIG
