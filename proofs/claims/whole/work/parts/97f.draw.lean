/-! THE CALLS: draw -/
section OPN
variable {E : Nat → Nat} {h : ZH} {x m zs zt g tn N d : Nat} {t u rs rx : Nat → Nat} {ft to : Int32} {tb : Nat → Int32} {la sz : Nat → Int} {ce : Nat → Nat → Int32} {Q : Option Value → ZH → Prop}
def dr_n (sd : Int32) : Int32 := sd * 1103515245 + 12345
def dr_r (sd : Int32) : Int32 := ((dr_n sd >>> ((16 : Int32) &&& 31)) &&& 32767) - ((dr_n sd >>> ((16 : Int32) &&& 31)) &&& 32767) / 4 * 4
def dr_v (sd : Int32) : Nat := (dr_r sd).toNatClampNeg
theorem dr_rv (sd : Int32) : dr_r sd = jI (dr_v sd : Int) ∧ dr_v sd < 4 := by
  obtain ⟨v, hv, e⟩ := j32767 (dr_n sd >>> ((16 : Int32) &&& 31))
  have e2 : dr_r sd = jI ((v % 4 : Nat) : Int) := by
    unfold dr_r
    rw [e, show (4 : Int32) = jI ((4 : Nat) : Int) from rfl, jI_rem (by omega) (by omega) (by omega)]
  have e3 : dr_v sd = v % 4 := by unfold dr_v; rw [e2, jI_cln (by omega)]
  exact ⟨by rw [e3]; exact e2, by omega⟩
theorem dr_c (sd : Int32) : (((((sd * 1103515245) + 12345).toUInt32 >>> ((16 : Int32).toUInt32 &&& Int32.toUInt32 31)).toInt32) &&& 32767) - (((((sd * 1103515245) + 12345).toUInt32 >>> ((16 : Int32).toUInt32 &&& Int32.toUInt32 31)).toInt32) &&& 32767) / 4 * 4 = dr_r sd := by
  rw [jsh_eq]
  rfl
/-- the seed and the state before day i -/
def dr (t : Nat → Nat) (sd : Int32) : Nat → Int32 × Nat
  | 0 => (sd, t 15)
  | i + 1 => if t 12 = 1 ∨ 0 < i then (dr_n (dr t sd i).1, tp_bh t (dr t sd i).2 (dr_v (dr t sd i).1)) else dr t sd i
def dr_s (t : Nat → Nat) (sd : Int32) (i : Nat) : Nat := (dr t sd (i + 1)).2
def dr_x (t u : Nat → Nat) (sd : Int32) (i : Nat) : Nat := kn_f t u (dr_s t sd) i (kn_w t u (dr_s t sd) i).1 (kn_w t u (dr_s t sd) i).2.1 (kn_w t u (dr_s t sd) i).2.2.1
theorem tp_bh_lt (s v : Nat) : tp_bh t s v < 3 := by
  unfold tp_bh
  split
  · omega
  · split <;> omega
theorem dr_lt (ok : tp_Ok t) (sd : Int32) : ∀ i, (dr t sd i).2 < 3
  | 0 => by
    have h15 : t 15 ≤ 2 := ok.2.2.2.2.2.2.2.2.2.2.2.2.2.2.1
    show t 15 < 3
    omega
  | i + 1 => by
    rw [dr]
    split
    · exact tp_bh_lt _ _
    · exact dr_lt ok sd i
theorem dr_B (ok : tp_Ok t) (u : Nat → Nat) (sd : Int32) : RwB (dr_s t sd) (dr_x t u sd) := fun k => ⟨dr_lt ok sd (k + 1), Nat.le_trans (tp_B_le ok u _ _ _ _ _ _ _).2.2 (by omega)⟩
theorem dr_kn (ok : tp_Ok t) (sd : Int32) (i : Nat) : kn t (dr_s t sd) i = if t 12 = 1 then (dr t sd i).2 else dr_s t sd i := by
  have h12 : t 12 ≤ 1 := ok.2.2.2.2.2.2.2.2.2.2.2.1
  unfold kn
  by_cases c : t 12 = 1
  · rw [if_neg (by omega), if_pos c]
    by_cases ci : i = 0
    · rw [if_pos ci, ci]; rfl
    · rw [if_neg ci]
      unfold dr_s
      rw [show i - 1 + 1 = i by omega]
  · rw [if_pos (by omega), if_neg c]
theorem rw_s_id (f : Nat → Nat) (n : Nat) : rw_s f n (f n) = f := by
  funext k
  unfold rw_s
  split
  · next e => rw [e]
  · rfl
theorem ct_66 {r n : Nat} {s v : Nat} (hd : 1 ≤ d) (R : RwC h r n rs rx) (hn : n < 20) (q : ∀ h', Fr (fun a _ => r ≤ a ∧ a ≤ r + 2) h h' → RwC h' r (n + 1) (rw_s rs n s) (rw_s rx n v) → Q none h') : Ct E d 66 [.ref r, .int (jI (s : Int)), .int (jI (v : Int))] h Q := by
  obtain ⟨d, rfl⟩ : ∃ n, d = n + 1 := ⟨d - 1, by omega⟩
  have A0 := R.1.2.1
  have A1 := R.1.2.2
  refine ok_66 ⟨R.1.1, ?_⟩
  rw [R.2.1]
  refine ⟨fun c20 => ?_, fun _ => ⟨r + 1, A0.1, A0.tg, A0.inn (by omega) (by omega), nm_r (e' := zuI h (r + 1) n (jI (s : Int))) (by rw [jI_cln (by omega)]) ⟨r + 2, A1.1, A1.tg, ?_, nm_r (e' := zuI (zuI h (r + 1) n (jI (s : Int))) (r + 2) n (jI (v : Int))) ?_ (nm_r (e' := zuI (zuI (zuI h (r + 1) n (jI (s : Int))) (r + 2) n (jI (v : Int))) r 2 (jI ((n + 1 : Nat) : Int))) ?_ ?_)⟩⟩⟩
  · exfalso
    rw [show (20 : Int32) = jI ((20 : Nat) : Int) from rfl, jI_len (by omega) (by omega)] at c20
    omega
  · rw [zI_offa (by omega), R.2.1]; exact A1.inn (by omega) (by omega)
  · rw [zI_offa (by omega), R.2.1, jI_cln (by omega)]
  · rw [zI_offa (by omega), zI_offa (by omega), R.2.1, show (1 : Int32) = jI 1 from rfl, jI_add]; rfl
  have F6 : Fr (fun a _ => r ≤ a ∧ a ≤ r + 2) h (zuI (zuI (zuI h (r + 1) n (jI (s : Int))) (r + 2) n (jI (v : Int))) r 2 (jI ((n + 1 : Nat) : Int))) := Fr.uI (Fr.uI (Fr.uI Fr.rf (by omega)) (by omega)) (by omega)
  refine q _ F6 ⟨R.1.fr F6, zI_here _ _ _ _, fun k hk => ?_⟩
  unfold rw_s
  by_cases ck : k = n
  · subst ck
    rw [if_pos rfl, if_pos rfl]
    exact ⟨by rw [zI_offa (by omega), zI_offa (by omega), zI_here], by rw [zI_offa (by omega), zI_here]⟩
  · rw [if_neg ck, if_neg ck]
    have rk := R.2.2 k (by omega)
    exact ⟨by rw [zI_offa (by omega), zI_offa (by omega), zI_offi ck]; exact rk.1, by rw [zI_offa (by omega), zI_offi ck, zI_offa (by omega)]; exact rk.2⟩
theorem Fg.kp {b : Nat} {h1 : ZH} (F : Fg h x zs zt g t u rs) (e4 : zR h (x + 24) 4 = b + 1) (y : Fr (tp_Sk b) h h1) : Fg h1 x zs zt g t u rs := by
  obtain ⟨rb, rt, rp, gb, gt, g1, g2, R, K⟩ := F
  have erb : rb = b + 1 := by rw [← R.1.1, e4]
  subst erb
  obtain ⟨⟨r4, r5, r6⟩, B, T, S, ⟨a1, a2, a3⟩, z0, z1, z2⟩ := R
  obtain ⟨b1, b2, b3⟩ := B b rfl
  have ya : Ag (fun a => a < b ∨ b + 26 < a) h h1 := y.ag (fun a i ha => by unfold tp_Sk; omega)
  have M1 : BMd h1 b gb := ⟨b3.1.fr y, by rw [y.I (by unfold tp_Sk; omega)]; exact b3.2.1, by rw [y.I (by unfold tp_Sk; omega)]; exact b3.2.2.1, fun i hi => by rw [y.I (by unfold tp_Sk; omega)]; exact b3.2.2.2 i hi⟩
  refine ⟨b + 1, rt, rp, gb, gt, g1, g2, ⟨⟨by rw [y.rr]; exact r4, by rw [y.rr]; exact r5, by rw [y.rr]; exact r6⟩, fun b' e => ?_, fun b' e => ?_, fun b' e => ?_, ⟨a1, a2, a3⟩, by rw [y.sz]; exact z0, by rw [y.sz]; exact z1, by unfold ztot at z2 ⊢; rw [y.1]; exact z2⟩, ?_⟩
  · have eb : b' = b := by omega
    subst eb
    exact ⟨b1, by rw [y.sz]; exact b2, M1⟩
  · obtain ⟨q1, q2, q3⟩ := T b' e
    have c1 := a1 b b' rfl e
    exact ⟨q1, by rw [y.sz]; exact q2, q3.ag (ya.wk (fun a ha => by unfold Rg at ha; omega))⟩
  · obtain ⟨q1, q2, q3⟩ := S b' e
    have c1 := a2 b b' rfl e
    exact ⟨q1, by rw [y.sz]; exact q2, q3.ag (ya.wk (fun a ha => by unfold Rg at ha; omega))⟩
  obtain ⟨f7, f8, f9, f10, fl⟩ := K
  have fI : ∀ i, zI h1 (x + 24) i = zI h (x + 24) i := fun i => ya.I (Or.inl (by omega)) i
  refine ⟨?_, ?_, ?_, ?_, fun w hw q => ?_⟩
  · rw [fI]
    intro q
    obtain ⟨b', ac, e1, e2⟩ := f7 q
    have eb : b' = b := by omega
    subst eb
    exact ⟨b', ac, rfl, e2.frR (y.R (Z := fun _ _ => False)) (fun _ _ _ _ q => q) (fun a j q => by unfold tp_Sk; omega)⟩
  · rw [fI]
    intro q
    obtain ⟨e1, e2, e3, e4⟩ := f8 q
    exact ⟨e1, e2, by rw [ya.L (by omega)]; exact e3, fun j hj => by rw [ya.L (by omega)]; exact e4 j hj⟩
  · rw [fI]
    intro q
    obtain ⟨e1, e2⟩ := f9 q
    refine ⟨by rw [fI]; exact e1, fun c => ?_⟩
    obtain ⟨e3, e4, e5⟩ := e2 c
    exact ⟨by rw [fI]; exact e3, by rw [fI]; exact e4, by rw [ya.L (by omega)]; exact e5⟩
  · rw [fI]
    intro q
    obtain ⟨e1, e2⟩ := f10 q
    exact ⟨by rw [fI]; exact e1, fun c => by rw [fI]; exact e2 c⟩
  · rw [ya.I (by omega)] at q
    obtain ⟨e1, e2⟩ := fl w hw q
    exact ⟨by rw [ya.L (by omega)]; exact e1, by rw [ya.L (by omega)]; exact e2⟩
theorem JC.rw2 {h1 : ZH} {N' : Nat} {rs' rx' : Nat → Nat} (J : JC E h x zs zt g t u ft tn tb N rs rx la sz ce to) (y : Ag (fun a => a < x + 18 ∨ (x + 36 ≤ a ∧ a < x + 70)) h h1) (X : XSh h1 x) (R : RwC h1 (x + 18) N' rs' rx') (F : Fg h1 x zs zt g t u rs') : JC E h1 x zs zt g t u ft tn tb N' rs' rx' la sz ce to := by
  obtain ⟨_, ⟨Sc, hE⟩, P, f, ⟨T1, T2⟩, _, C, o, _⟩ := J
  refine ⟨X, ⟨Sc.ag (y.wk (fun a ha => by omega)), hE⟩, P.ag (y.wk (fun a ha => by unfold Rg at ha; omega)), by rw [y.I (by omega)]; exact f, ⟨by rw [y.I (by omega)]; exact T1, fun i hi => by rw [y.I (by omega)]; exact T2 i hi⟩, R, fun k hk => ?_, by rw [y.I (by omega)]; exact o, F⟩
  obtain ⟨c1, c2, c3⟩ := C k hk
  exact ⟨by rw [y.I (by omega)]; exact c1, by rw [y.I (by omega)]; exact c2, fun i hi => by rw [y.I (by omega)]; exact c3 i hi⟩
def DrL (h0 : ZH) (x zs zt g : Nat) (t u rs : Nat → Nat) (sd : Int32) (b ac gb i : Nat) (h1 : ZH) : Prop := Ag (fun a => a < x + 18 ∨ (x + 36 ≤ a ∧ a < x + 70)) h0 h1 ∧ XSh h1 x ∧ Fg h1 x zs zt g t u rs ∧ BAl h1 b (x + 1) ac gb t u (tp_pr t) ∧ zR h1 (x + 24) 4 = b + 1 ∧ RwC h1 (x + 18) i (dr_s t sd) (dr_x t u sd) ∧ (∃ fw : Int, -4 ≤ fw ∧ fw ≤ 20 ∧ WkS h1 (x + 21) i fw (kn_w t u (dr_s t sd) i)) ∧ (i < tp_T t → tp_V ac (kn_w t u (dr_s t sd) i).1 (kn_w t u (dr_s t sd) i).2.1 (kn_w t u (dr_s t sd) i).2.2.1 ∧ BSd h1 b i (kn_w t u (dr_s t sd) i).1 (kn_w t u (dr_s t sd) i).2.1 (kn_w t u (dr_s t sd) i).2.2.1)
set_option maxHeartbeats 8000000 in
theorem l114 {h0 : ZH} {b ac gb : Nat} {sd : Int32} (hd : 12 ≤ d) (ok : tp_Ok t) (ou : tp_Ou u) (P0 : PgR h0 (x + 1) t u) (hb : x + 70 ≤ b) (q : ∀ h', DrL h0 x zs zt g t u rs sd b ac gb (tp_T t) h' → wb_114_99 E d Q x h') : ∀ (r i : Nat) h1, i + r = tp_T t → DrL h0 x zs zt g t u rs sd b ac gb i h1 → wl_114_36 E d Q (r + 1) x b (if t 12 = 1 then 1 else 0) (dr t sd i).1 (jI ((dr t sd i).2 : Int)) (jI (i : Int)) h1
  | 0, i, h1, e, L1 => by
    have hT := ok.T
    obtain ⟨y, X, F, A, e4, R, W, V⟩ := id L1
    have P : PgR h1 (x + 1) t u := P0.ag (y.wk (fun a ha => by unfold Rg at ha; omega))
    have ei : i = tp_T t := by omega
    subst ei
    rw [wl_114_36]
    refine ⟨X.t0, x + 1, X.r0, P.1.1.1, fun _ => q h1 L1, fun c => absurd ?_ c⟩
    rw [P.2.2.2.2.2]
    exact (jI_len (by omega) (by omega)).mpr (Nat.le_refl _)
  | r + 1, i, h1, e, L1 => by
    have hT := ok.T
    have h12 : t 12 ≤ 1 := ok.2.2.2.2.2.2.2.2.2.2.2.1
    obtain ⟨y, X, F, A, e4, R, ⟨fw, fw1, fw2, W⟩, V⟩ := L1
    obtain ⟨V, D⟩ := V (by omega)
    have P : PgR h1 (x + 1) t u := P0.ag (y.wk (fun a ha => by unfold Rg at ha; omega))
    have dl := dr_lt ok sd i
    have dv := dr_rv (dr t sd i).1
    have f50 : fz_50 E h1 (x + 1) (jI ((dr t sd i).2 : Int)) (dr_r (dr t sd i).1) = jI (tp_bh t (dr t sd i).2 (dr_v (dr t sd i).1) : Int) := by rw [dv.1]; exact fz50 ok P.1 dl dv.2
    have kl := kn_lt (rx := dr_x t u sd) ok (dr_B ok u sd) i
    -- the state of this day, the seed behind it
    have cond : ∀ {α : Type} (p q' : α), (if ¬ (if t 12 = 1 then (1 : Int32) else 0) = 0 then p else if jI (i : Int) ≤ 0 then q' else p) = if t 12 = 1 ∨ 0 < i then p else q' := fun p q' => by
      have li : jI (i : Int) ≤ 0 ↔ i ≤ 0 := by rw [show (0 : Int32) = jI ((0 : Nat) : Int) from rfl, jI_len (by omega) (by omega)]
      by_cases c : t 12 = 1
      · rw [if_pos c, if_pos (show ¬ (1 : Int32) = 0 by decide), if_pos (Or.inl c)]
      · rw [if_neg c, if_neg (fun q => q rfl)]
        by_cases ci : 0 < i
        · rw [if_neg (by rw [li]; omega), if_pos (Or.inr ci)]
        · rw [if_pos (by rw [li]; omega), if_neg (by omega)]
    have e1 : (if ¬ (if t 12 = 1 then (1 : Int32) else 0) = 0 then fz_50 E h1 (x + 1) (jI ((dr t sd i).2 : Int)) (dr_r (dr t sd i).1) else if jI (i : Int) ≤ 0 then jI ((dr t sd i).2 : Int) else fz_50 E h1 (x + 1) (jI ((dr t sd i).2 : Int)) (dr_r (dr t sd i).1)) = jI (dr_s t sd i : Int) := by
      rw [cond, f50]
      unfold dr_s
      rw [dr]
      split <;> rfl
    have e2 : (if ¬ (if t 12 = 1 then (1 : Int32) else 0) = 0 then (dr t sd i).1 * 1103515245 + 12345 else if jI (i : Int) ≤ 0 then (dr t sd i).1 else (dr t sd i).1 * 1103515245 + 12345) = (dr t sd (i + 1)).1 := by
      rw [cond, dr]
      split <;> rfl
    rw [wl_114_36]
    refine ⟨X.t0, x + 1, X.r0, P.1.1.1, fun c => ?_, fun _ => ?_⟩
    · exfalso
      rw [P.2.2.2.2.2, jI_len (by omega) (by omega)] at c
      omega
    rw [dr_c, e1, e2]
    refine ⟨⟨fun _ => ⟨by omega, sz50 P.1 dl, trivial⟩, fun _ => ⟨⟨fun _ => trivial, fun _ => ⟨by omega, sz50 P.1 dl, trivial⟩⟩, trivial⟩⟩, nm_r (e' := jI (kn t (dr_s t sd) i : Int)) ?_ ⟨x + 21, X.r4, X.w21.1, A.1.1, ?_⟩⟩
    · rw [dr_kn ok]
      by_cases c : t 12 = 1
      · rw [if_pos c, if_neg (show ¬ (1 : Int32) = 0 by decide), if_pos c]
      · rw [if_neg c, if_pos (show (0 : Int32) = 0 from rfl), if_neg c]
    have W' := W
    obtain ⟨w1, w2, w3, w4, w5, w6, w7, w8⟩ := W'
    rw [w3, w4, w5]
    refine ct_12 ok ou (tp_pr_ok ok) (by omega) (show i < tp_T t by omega) (by omega) P A.1 A.2.1 A.2.2.1 V D kl (fun h2 F2 _ => ?_)
    have F2' : Fr (tp_Sk b) h1 h2 := F2.wd (fun a j q => by unfold tp_S12 at q; unfold tp_Sk; omega)
    have y2 : Ag (fun a => a < b) h1 h2 := F2'.ag (fun a j ha => by unfold tp_Sk; omega)
    have X2 := X.fr F2'
    have G2 := F.kp e4 F2'
    have A2 : BAl h2 b (x + 1) ac gb t u (tp_pr t) := A.frR (F2'.R (Z := fun _ _ => False)) (fun _ _ _ _ q => q) (fun a j q => by unfold tp_Sk; omega)
    have D2 : BSd h2 b i (kn_w t u (dr_s t sd) i).1 (kn_w t u (dr_s t sd) i).2.1 (kn_w t u (dr_s t sd) i).2.2.1 := (BSd.fr F2' (by unfold tp_Sk; omega) (by unfold tp_Sk; omega) (by unfold tp_Sk; omega)).mpr D
    have hB := tp_B_le ok u (tp_pr t) (tp_T t - (i + 1)) i (kn_w t u (dr_s t sd) i).1 (kn_w t u (dr_s t sd) i).2.1 (kn_w t u (dr_s t sd) i).2.2.1 (kn t (dr_s t sd) i)
    have R2 : RwC h2 (x + 18) i (dr_s t sd) (dr_x t u sd) := R.ag (y2.wk (fun a ha => by unfold Rg at ha; omega))
    refine ⟨_, rfl, X2.t0, x + 18, X2.r3, X2.s18.1, ct_66 (s := dr_s t sd i) (v := dr_x t u sd i) (by omega) R2 (by omega) (fun h3 F3 R3 => ?_)⟩
    rw [rw_s_id, rw_s_id] at R3
    have y3 : Ag (fun a => a < x + 18 ∨ x + 20 < a) h2 h3 := F3.ag (fun a j ha => by omega)
    have X3 := X2.fr F3
    have P3 : PgR h3 (x + 1) t u := (P.ag (y2.wk (fun a ha => by unfold Rg at ha; omega))).ag (y3.wk (fun a ha => by unfold Rg at ha; omega))
    have W3 : WkS h3 (x + 21) i fw (kn_w t u (dr_s t sd) i) := by
      have fI : ∀ j, zI h3 (x + 21) j = zI h1 (x + 21) j := fun j => by rw [y3.I (by omega), y2.I (by omega)]
      unfold WkS
      rw [fI, fI, fI, fI, fI, fI, fI, fI]
      exact W
    refine ⟨rfl, X3.t0, x + 21, X3.r4, x + 1, X3.r0, X3.w21.1, ct_87 (by omega) ok ou P3 X3.w21 (show i < tp_T t by omega) (dr_lt ok sd (i + 1)) (Nat.le_trans hB.2.2 (by omega)) (wk_bd t u _ _ i) ⟨fw1, fw2⟩ W3 (fun h4 F4 W4 _ _ => ⟨rfl, ?_⟩)⟩
    have y4 : Ag (fun a => a ≠ x + 21 ∧ a ≠ x + 22) h3 h4 := F4.ag (fun a j ha => by omega)
    have A4 : BAl h4 b (x + 1) ac gb t u (tp_pr t) := (A2.ag (y3.wk (fun a ha => by unfold Rg at ha; omega))).ag (y4.wk (fun a ha => by unfold Rg at ha; exact ⟨by omega, by omega⟩))
    have D4 := (BSd.ag (y4.wk (fun a ha => by unfold Rg at ha; exact ⟨by omega, by omega⟩))).mpr ((BSd.ag (y3.wk (fun a ha => by unfold Rg at ha; omega))).mpr D2)
    have G4 : Fg h4 x zs zt g t u rs := (G2.ag (y3.wk (fun a ha => by omega)) F3.sz (by unfold ztot; rw [F3.1])).ag (y4.wk (fun a ha => ⟨by omega, by omega⟩)) F4.sz (by unfold ztot; rw [F4.1])
    refine nm_r (e' := jI ((i + 1 : Nat) : Int)) (by rw [show (1 : Int32) = jI 1 from rfl, jI_add]; rfl) ?_
    refine l114 hd ok ou P0 hb q r (i + 1) h4 (by omega) ⟨y.tr ((y2.wk (fun a ha => by omega)).tr ((y3.wk (fun a ha => by omega)).tr (y4.wk (fun a ha => ⟨by omega, by omega⟩)))), X3.fr F4, G4, A4, by rw [F4.rr, F3.rr, F2.rr]; exact e4, R3.ag (y4.wk (fun a ha => by unfold Rg at ha; exact ⟨by omega, by omega⟩)), ⟨_, ?_, ?_, W4⟩, fun hi => ?_⟩
    · split <;> omega
    · split <;> omega
    · have eW : kn_w t u (dr_s t sd) (i + 1) = wk_st t u i (dr_s t sd i) (kn_f t u (dr_s t sd) i (kn_w t u (dr_s t sd) i).1 (kn_w t u (dr_s t sd) i).2.1 (kn_w t u (dr_s t sd) i).2.2.1) (kn_w t u (dr_s t sd) i) := rfl
      rw [eW]
      unfold wk_st
      rw [if_pos hi, if_pos hi, if_pos hi]
      exact ⟨tp_V_next ok u V, (A4.2.2.1 i _ _ _ (by omega) V D4).2 hi _ hB.1 hB.2.1⟩
def an_draw (t u : Nat → Nat) (sd : Int32) : Int := (kn_w t u (dr_s t sd) (tp_T t)).2.2.2.2.1
theorem op_114 {sd : Int32} (hd : 60 ≤ d) (ok : tp_Ok t) (ou : tp_Ou u) (J : JC E h x zs zt g t u ft tn tb N rs rx la sz ce to) (hg : g + 50 < 1000000) (q : ∀ h', JC E h' x zs zt (g + 2) t u ft tn tb (tp_T t) (dr_s t sd) (dr_x t u sd) la sz ce to → CFr x h h' → Q (some (.int (jI (an_draw t u sd)))) h') : Ct E d 114 [.ref x, .int sd] h Q := by
  obtain ⟨d, rfl⟩ : ∃ n, d = n + 1 := ⟨d - 1, by omega⟩
  have hT := ok.T
  have h12 : t 12 ≤ 1 := ok.2.2.2.2.2.2.2.2.2.2.2.1
  refine ok_114 ⟨J.X.t0, x + 24, J.X.r6, J.X.t24, op_16 (dd := 0) (c := 0) (n := 0) (k := 0) (by omega) ok ou J (by omega) hT.1 (by omega) (by omega) (by omega) (fun h4 b ac gb hb A V D J4 C4 _ e4 => ?_)⟩
  have AT := J4.P.1.1.2.1
  refine ⟨b, rfl, J4.X.t0, x + 1, J4.X.r0, J4.P.1.1.1, x + 1 + 1, AT.1, AT.ti, AT.inc (by decide), nm_r (e' := if t 12 = 1 then 1 else 0) ?_ ⟨AT.inc (by decide), nm_r (e' := jI (t 15 : Int)) (J4.P.1.2.1 15 (by omega)) ⟨x + 18, J4.X.r3, J4.X.s18.1, nm_e ?_⟩⟩⟩
  · rw [J4.P.1.2.1 12 (by omega)]
    by_cases c1 : t 12 = 1
    · rw [if_pos c1, if_neg (by rw [c1]; decide)]
    · have : t 12 = 0 := by omega
      rw [if_neg c1, if_pos (by rw [this]; decide)]
  have F5 : Fr (fun a _ => a = x + 18) h4 (zuI h4 (x + 18) 2 0) := Fr.uI Fr.rf rfl
  have R5 : RwC (zuI h4 (x + 18) 2 0) (x + 18) 0 (dr_s t sd) (dr_x t u sd) := ⟨J4.R.1.fr F5, zI_here _ _ _ _, fun k hk => by omega⟩
  generalize zuI h4 (x + 18) 2 0 = h5 at F5 R5 ⊢
  have X5 := J4.X.fr F5
  refine ⟨x + 21, X5.r4, X5.w21.1, ct_86 (by omega) X5.w21 (fun h6 F6 W6 => ⟨rfl, tp_T t + 1, ?_⟩)⟩
  have yy : Ag (fun a => a ≠ x + 18 ∧ a ≠ x + 21) h4 h6 := (F5.ag (fun a j ha => by omega)).tr (F6.ag (fun a j ha => by omega))
  have z6 : zsz h6 = zsz h4 := by rw [F6.sz, F5.sz]
  have t6 : ztot h6 = ztot h4 := by unfold ztot; rw [F6.1, F5.1]
  refine l114 (h0 := h4) (x := x) (zs := zs) (zt := zt) (g := g + 2) (rs := rs) (ac := ac) (gb := gb) (sd := sd) (by omega) ok ou J4.P hb (fun h9 L9 => ?_) (tp_T t) 0 h6 (by omega) ⟨yy.wk (fun a ha => ⟨by omega, by omega⟩), X5.fr F6, J4.F.ag (yy.wk (fun a ha => ⟨by omega, by omega⟩)) z6 t6, A.ag (yy.wk (fun a ha => by unfold Rg at ha; exact ⟨by omega, by omega⟩)), by rw [F6.rr, F5.rr]; exact e4, R5.ag (F6.ag (fun a j ha => by unfold Rg at ha; omega)), ⟨-4, by omega, by omega, W6⟩, fun _ => ⟨V, (BSd.ag (yy.wk (fun a ha => by unfold Rg at ha; exact ⟨by omega, by omega⟩))).mpr D⟩⟩
  obtain ⟨y9, X9, F9, A9, _, R9, ⟨fw, _, _, W9⟩, _⟩ := L9
  refine ⟨X9.t0, x + 24, X9.r6, X9.t24, ct_15 (by omega) X9.t24 (fun h10 F10 z10 => ?_)⟩
  have X10 := X9.fr F10
  have y10 : Ag (fun a => a ≠ x + 24) h9 h10 := F10.ag (fun a j ha => by omega)
  refine ⟨rfl, X10.t0, x + 21, X10.r4, X10.w21.1, ?_⟩
  rw [y10.I (by omega), W9.2.2.2.2.2.2.1]
  refine q h10 (J4.rw2 (y9.tr (y10.wk (fun a ha => by omega))) X10 (R9.ag (y10.wk (fun a ha => by unfold Rg at ha; omega))) (F9.row F10 (fun a i ha => by omega) z10)) (C4.tr ?_)
  exact (y9.wk (fun a ha => by omega)).tr (y10.wk (fun a ha => by omega))
end OPN
