/-! THE CALLS: knew -/
section OPK
variable {E : Nat → Nat} {h : ZH} {x m zs zt g tn N d : Nat} {t u rs rx : Nat → Nat} {ft to : Int32} {tb : Nat → Int32} {la sz : Nat → Int} {ce : Nat → Nat → Int32} {Q : Option Value → ZH → Prop}
def tp_Sk (b : Nat) : Nat → Nat → Prop := fun a i => (b + 7 ≤ a ∧ a ≤ b + 26) ∨ (a = b ∧ i = 11)
theorem JC.kp {b : Nat} {h1 : ZH} (J : JC E h x zs zt g t u ft tn tb N rs rx la sz ce to) (e4 : zR h (x + 24) 4 = b + 1) (y : Fr (tp_Sk b) h h1) : JC E h1 x zs zt g t u ft tn tb N rs rx la sz ce to ∧ CFr x h h1 := by
  obtain ⟨rb, rt, rp, gb, gt, g1, g2, R, K⟩ := J.F
  have erb : rb = b + 1 := by rw [← R.1.1, e4]
  subst erb
  obtain ⟨⟨r4, r5, r6⟩, B, T, S, ⟨a1, a2, a3⟩, z0, z1, z2⟩ := R
  obtain ⟨b1, b2, b3⟩ := B b rfl
  have ya : Ag (fun a => a < b ∨ b + 26 < a) h h1 := y.ag (fun a i ha => by unfold tp_Sk; omega)
  have M1 : BMd h1 b gb := ⟨b3.1.fr y, by rw [y.I (by unfold tp_Sk; omega)]; exact b3.2.1, by rw [y.I (by unfold tp_Sk; omega)]; exact b3.2.2.1, fun i hi => by rw [y.I (by unfold tp_Sk; omega)]; exact b3.2.2.2 i hi⟩
  have R1 : Rm h1 x zs zt (b + 1) rt rp gb gt := by
    refine ⟨⟨by rw [y.rr]; exact r4, by rw [y.rr]; exact r5, by rw [y.rr]; exact r6⟩, fun b' e => ?_, fun b' e => ?_, fun b' e => ?_, ⟨a1, a2, a3⟩, by rw [y.sz]; exact z0, by rw [y.sz]; exact z1, by unfold ztot at z2 ⊢; rw [y.1]; exact z2⟩
    · have eb : b' = b := by omega
      subst eb
      exact ⟨b1, by rw [y.sz]; exact b2, M1⟩
    · obtain ⟨q1, q2, q3⟩ := T b' e
      have c1 := a1 b b' rfl e
      exact ⟨q1, by rw [y.sz]; exact q2, q3.ag (ya.wk (fun a ha => by unfold Rg at ha; omega))⟩
    · obtain ⟨q1, q2, q3⟩ := S b' e
      have c1 := a2 b b' rfl e
      exact ⟨q1, by rw [y.sz]; exact q2, q3.ag (ya.wk (fun a ha => by unfold Rg at ha; omega))⟩
  have V : FvA x h h1 := ⟨ya.wk (fun a ha => by omega), J.X.fr y⟩
  refine ⟨J.fv V ⟨b + 1, rt, rp, gb, gt, g1, g2, R1, ?_⟩, V.cf⟩
  obtain ⟨f7, f8, f9, f10, fl⟩ := K
  have fI : ∀ i, zI h1 (x + 24) i = zI h (x + 24) i := fun i => ya.I (Or.inl (by omega)) i
  refine ⟨?_, ?_, ?_, ?_, fun w hw q => ?_⟩
  · rw [fI]
    intro q
    obtain ⟨b', ac, e1, e2⟩ := f7 q
    have eb : b' = b := by omega
    subst eb
    exact ⟨b', ac, rfl, e2.frR (y.R (Z := fun _ _ => False)) (fun _ _ _ _ q => q) (fun a j q => by unfold tp_Sk; omega)⟩
  · rw [fI]
    intro q
    obtain ⟨e1, e2, e3, e4⟩ := f8 q
    exact ⟨e1, e2, by rw [ya.L (by omega)]; exact e3, fun j hj => by rw [ya.L (by omega)]; exact e4 j hj⟩
  · rw [fI]
    intro q
    obtain ⟨e1, e2⟩ := f9 q
    refine ⟨by rw [fI]; exact e1, fun c => ?_⟩
    obtain ⟨e3, e4, e5⟩ := e2 c
    exact ⟨by rw [fI]; exact e3, by rw [fI]; exact e4, by rw [ya.L (by omega)]; exact e5⟩
  · rw [fI]
    intro q
    obtain ⟨e1, e2⟩ := f10 q
    exact ⟨by rw [fI]; exact e1, fun c => by rw [fI]; exact e2 c⟩
  · rw [ya.I (by omega)] at q
    obtain ⟨e1, e2⟩ := fl w hw q
    exact ⟨by rw [ya.L (by omega)]; exact e1, by rw [ya.L (by omega)]; exact e2⟩
def kn (t rs : Nat → Nat) (d : Nat) : Nat := if t 12 = 0 then rs d else if d = 0 then t 15 else rs (d - 1)
def kn_f (t u rs : Nat → Nat) : Nat → Nat → Nat → Nat → Nat := fun d c m k => tp_B t u (tp_pr t) (tp_T t - (d + 1)) d c m k (kn t rs d)
def kn_w (t u rs : Nat → Nat) (d : Nat) : WkT := wk t u (kn_f t u rs) rs d
theorem kn_lt (ok : tp_Ok t) (hR : RwB rs rx) (d : Nat) : kn t rs d < 3 := by
  have h15 : t 15 ≤ 2 := ok.2.2.2.2.2.2.2.2.2.2.2.2.2.2.1
  have a := (hR d).1
  have b := (hR (d - 1)).1
  unfold kn
  split
  · exact a
  · split
    · omega
    · exact b
def KnL (E : Nat → Nat) (h0 : ZH) (x zs zt g : Nat) (t u : Nat → Nat) (ft : Int32) (tn : Nat) (tb : Nat → Int32) (N : Nat) (rs rx : Nat → Nat) (la sz : Nat → Int) (ce : Nat → Nat → Int32) (to : Int32) (b ac gb i : Nat) (h1 : ZH) : Prop := JC E h1 x zs zt g t u ft tn tb N rs rx la sz ce to ∧ CFr x h0 h1 ∧ BAl h1 b (x + 1) ac gb t u (tp_pr t) ∧ zR h1 (x + 24) 4 = b + 1 ∧ (∃ fw : Int, -4 ≤ fw ∧ fw ≤ 20 ∧ WkS h1 (x + 21) i fw (kn_w t u rs i)) ∧ (i < tp_T t → tp_V ac (kn_w t u rs i).1 (kn_w t u rs i).2.1 (kn_w t u rs i).2.2.1 ∧ BSd h1 b i (kn_w t u rs i).1 (kn_w t u rs i).2.1 (kn_w t u rs i).2.2.1)
set_option maxHeartbeats 4000000 in
theorem l132 {h0 : ZH} {b ac gb : Nat} (hd : 12 ≤ d) (ok : tp_Ok t) (ou : tp_Ou u) (hR : RwB rs rx) (hN : N ≤ tp_T t) (hb : x + 70 ≤ b) (q : ∀ h', KnL E h0 x zs zt g t u ft tn tb N rs rx la sz ce to b ac gb N h' → Q none h') : ∀ r i h1, i + r = N → KnL E h0 x zs zt g t u ft tn tb N rs rx la sz ce to b ac gb i h1 → wl_132_30 E d Q (r + 1) x b (if t 12 = 1 then 1 else 0) (jI ((if i = 0 then t 15 else rs (i - 1) : Nat) : Int)) (jI (i : Int)) h1
  | 0, i, h1, e, L1 => by
    have hT := ok.T
    obtain ⟨J, C, A, e4, W, V⟩ := id L1
    have ei : i = N := by omega
    subst ei
    rw [wl_132_30]
    refine ⟨J.X.t0, x + 18, J.X.r3, J.X.s18.1, fun _ => q h1 L1, fun c => absurd ?_ c⟩
    rw [J.R.2.1]
    exact (jI_len (by omega) (by omega)).mpr (Nat.le_refl _)
  | r + 1, i, h1, e, L1 => by
    have hT := ok.T
    have h12 : t 12 ≤ 1 := ok.2.2.2.2.2.2.2.2.2.2.2.1
    obtain ⟨J, C, A, e4, ⟨fw, fw1, fw2, W⟩, V⟩ := L1
    obtain ⟨V, D⟩ := V (by omega)
    have R := J.R
    have rz := (R.2.2 i (by omega)).1
    have rsi := (hR i).1
    have kl := kn_lt ok hR i
    have A0 := R.1.2.1
    rw [wl_132_30]
    refine ⟨J.X.t0, x + 18, J.X.r3, J.X.s18.1, fun c => ?_, fun _ => ⟨x + 18 + 1, A0.1, A0.ti, A0.inn (by omega) (by omega), nm_r (e' := jI (rs i : Int)) (by rw [jI_cln (by omega)]; exact rz) (nm_r (e' := jI (kn t rs i : Int)) ?_ ⟨x + 21, J.X.r4, x + 1, J.X.r0, J.X.w21.1, A.1.1, ?_⟩)⟩⟩
    · exfalso
      rw [R.2.1, jI_len (by omega) (by omega)] at c
      omega
    · unfold kn
      by_cases c1 : t 12 = 1
      · rw [if_pos c1, if_neg (show ¬ (1 : Int32) = 0 by decide), if_neg (show ¬ t 12 = 0 by omega)]
      · rw [if_neg c1, if_pos (show (0 : Int32) = 0 from rfl), if_pos (show t 12 = 0 by omega)]
    have W' := W
    obtain ⟨w1, w2, w3, w4, w5, w6, w7, w8⟩ := W'
    rw [w3, w4, w5]
    refine ct_12 ok ou (tp_pr_ok ok) (by omega) (show i < tp_T t by omega) (by omega) J.P A.1 A.2.1 A.2.2.1 V D kl (fun h2 F2 _ => ?_)
    have F2' : Fr (tp_Sk b) h1 h2 := F2.wd (fun a j q => by unfold tp_S12 at q; unfold tp_Sk; omega)
    obtain ⟨J2, C2⟩ := J.kp e4 F2'
    have A2 : BAl h2 b (x + 1) ac gb t u (tp_pr t) := A.frR (F2'.R (Z := fun _ _ => False)) (fun _ _ _ _ q => q) (fun a j q => by unfold tp_Sk; omega)
    have D2 : BSd h2 b i (kn_w t u rs i).1 (kn_w t u rs i).2.1 (kn_w t u rs i).2.2.1 := (BSd.fr F2' (by unfold tp_Sk; omega) (by unfold tp_Sk; omega) (by unfold tp_Sk; omega)).mpr D
    have hB := tp_B_le ok u (tp_pr t) (tp_T t - (i + 1)) i (kn_w t u rs i).1 (kn_w t u rs i).2.1 (kn_w t u rs i).2.2.1 (kn t rs i)
    have W2 : WkS h2 (x + 21) i fw (kn_w t u rs i) := by
      have fI : ∀ j, zI h2 (x + 21) j = zI h1 (x + 21) j := fun j => F2'.I (by unfold tp_Sk; omega)
      unfold WkS
      rw [fI, fI, fI, fI, fI, fI, fI, fI]
      exact W
    refine ⟨_, rfl, J2.X.w21.1, ct_87 (by omega) ok ou J2.P J2.X.w21 (show i < tp_T t by omega) rsi (by omega) (wk_bd t u _ rs i) ⟨fw1, fw2⟩ W2 (fun h3 F3 W3 _ _ => ⟨rfl, ?_⟩)⟩
    have y3 : Ag (fun a => a ≠ x + 21 ∧ a ≠ x + 22) h2 h3 := F3.ag (fun a j ha => by omega)
    have J3 := J2.mv F3 (fun a j e => by omega)
    have A3 : BAl h3 b (x + 1) ac gb t u (tp_pr t) := A2.ag (y3.wk (fun a ha => by unfold Rg at ha; exact ⟨by omega, by omega⟩))
    have D3 := (BSd.ag (y3.wk (fun a ha => by unfold Rg at ha; exact ⟨by omega, by omega⟩))).mpr D2
    refine nm_r (e' := jI ((i + 1 : Nat) : Int)) (by rw [show (1 : Int32) = jI 1 from rfl, jI_add]; rfl) ?_
    have := l132 hd ok ou hR hN hb q r (i + 1) h3 (by omega) ⟨J3, (C.tr C2).tr (F3.cf (fun a j e => by omega)), A3, by rw [F3.rr, F2.rr]; exact e4, ⟨_, ?_, ?_, W3⟩, fun hi => ?_⟩
    · rw [if_neg (show ¬ i + 1 = 0 by omega), show i + 1 - 1 = i from rfl] at this
      exact this
    · split <;> omega
    · split <;> omega
    · have eW : kn_w t u rs (i + 1) = wk_st t u i (rs i) (kn_f t u rs i (kn_w t u rs i).1 (kn_w t u rs i).2.1 (kn_w t u rs i).2.2.1) (kn_w t u rs i) := rfl
      rw [eW]
      unfold wk_st
      rw [if_pos hi, if_pos hi, if_pos hi]
      exact ⟨tp_V_next ok u V, (A3.2.2.1 i _ _ _ (by omega) V D3).2 hi _ hB.1 hB.2.1⟩
def an_knew (t u rs rx : Nat → Nat) (N : Nat) (w : Int) : Int := if 0 ≤ w ∧ w ≤ 1 then (if w = 0 then (kn_w t u rs N).2.2.2.2.1 else (kn_w t u rs N).2.2.2.2.1 - (wk_r t u rs rx N).2.2.2.2.1) else -1000000
theorem op_112 {w : Int} (hd : 60 ≤ d) (ok : tp_Ok t) (ou : tp_Ou u) (hR : RwB rs rx) (hN : N ≤ tp_T t) (J : JC E h x zs zt g t u ft tn tb N rs rx la sz ce to) (hg : g + 50 < 1000000) (hw : jb w) (q : ∀ h', JC E h' x zs zt (g + 2) t u ft tn tb N rs rx la sz ce to → CFr x h h' → Q (some (.int (jI (an_knew t u rs rx N w)))) h') : Ct E d 112 [.ref x, .int (jI w)] h Q := by
  obtain ⟨d, rfl⟩ : ∃ n, d = n + 1 := ⟨d - 1, by omega⟩
  obtain ⟨d, rfl⟩ : ∃ n, d = n + 1 := ⟨d - 1, by omega⟩
  have hT := ok.T
  have h12 : t 12 ≤ 1 := ok.2.2.2.2.2.2.2.2.2.2.2.1
  refine ok_112 ⟨by omega, trivial, fun c => ?_, fun c => ?_⟩
  · rw [f123 hw, Classical.not_not] at c
    unfold an_knew at q
    rw [if_pos c] at q
    refine ⟨J.X.t0, ok_132 ⟨J.X.t0, x + 24, J.X.r6, J.X.t24, op_16 (dd := 0) (c := 0) (n := 0) (k := 0) (by omega) ok ou J (by omega) hT.1 (by omega) (by omega) (by omega) (fun h4 b ac gb hb A V D J4 C4 _ e4 => ?_)⟩⟩
    have AT := J4.P.1.1.2.1
    refine ⟨b, rfl, J4.X.t0, x + 1, J4.X.r0, J4.P.1.1.1, x + 1 + 1, AT.1, AT.ti, AT.inc (by decide), nm_r (e' := if t 12 = 1 then 1 else 0) ?_ ⟨AT.inc (by decide), nm_r (e' := jI (t 15 : Int)) (J4.P.1.2.1 15 (by omega)) ⟨x + 21, J4.X.r4, J4.X.w21.1, ct_86 (by omega) J4.X.w21 (fun h15 F15 W15 => ⟨rfl, N + 1, ?_⟩)⟩⟩⟩
    · rw [J4.P.1.2.1 12 (by omega)]
      by_cases c1 : t 12 = 1
      · rw [if_pos c1, if_neg (by rw [c1]; decide)]
      · have : t 12 = 0 := by omega
        rw [if_neg c1, if_pos (by rw [this]; decide)]
    have J15 := J4.mv F15 (fun a j e => by omega)
    have y15 : Ag (fun a => a ≠ x + 21) h4 h15 := F15.ag (fun a j ha => by omega)
    have := l132 (h0 := h) (x := x) (zs := zs) (zt := zt) (g := g + 2) (ft := ft) (tn := tn) (tb := tb) (rx := rx) (la := la) (sz := sz) (ce := ce) (to := to) (Q := fun v h2 => v = none ∧ ztag h2 x = 10 ∧ ∃ r4 : Nat, zR h2 x 4 = r4 + 1 ∧ ztag h2 r4 = 9 ∧ ∀ x6 : Int32, x6 = (zI h2 r4 7) → ((¬ jI w = 0 → (∃ r7 : Nat, zR h2 x 3 = r7 + 1 ∧ ztag h2 r7 = 5 ∧ Ct E (d + 1) 131 [.ref x, .int (zI h2 r7 2)] h2 (fun v h9 => v = none ∧ ztag h9 x = 10 ∧ ∃ r11 : Nat, zR h9 x 4 = r11 + 1 ∧ ztag h9 r11 = 9 ∧ Q (some (.int (x6 - (zI h9 r11 7)))) h9))) ∧ (¬ (¬ jI w = 0) → (Q (some (.int x6)) h2)))) (E := E) (d := d) (ac := ac) (gb := gb) (by omega) ok ou hR hN hb (fun h2 L2 => ?_) N 0 h15 (by omega) ⟨J15, C4.tr (F15.cf (fun a j e => by omega)), A.ag (y15.wk (fun a ha => by unfold Rg at ha; omega)), by rw [F15.rr]; exact e4, ⟨-4, by omega, by omega, W15⟩, fun _ => ⟨V, (BSd.ag (y15.wk (fun a ha => by unfold Rg at ha; omega))).mpr D⟩⟩
    · exact this
    · obtain ⟨J2, C2, A2, _, ⟨fw, _, _, W2⟩, _⟩ := L2
      have w7 := W2.2.2.2.2.2.2.1
      have e0 : jI w = 0 ↔ w = 0 := by rw [show (0 : Int32) = jI 0 from rfl, jI_eq hw.1 hw.2 (by omega) (by omega)]
      refine ⟨rfl, J2.X.t0, x + 21, J2.X.r4, J2.X.w21.1, nm_r (e' := jI (kn_w t u rs N).2.2.2.2.1) w7 ⟨fun cw => ⟨x + 18, J2.X.r3, J2.X.s18.1, ?_⟩, fun cw => ?_⟩⟩
      · rw [e0] at cw
        rw [if_neg cw] at q
        rw [J2.R.2.1]
        refine ct_131 (by omega) ok ou hR J2.X J2.P J2.R (Nat.le_refl _) hN (fun h9 F9 W9 _ => ?_)
        have J9 := J2.mv F9 (fun a i e => by omega)
        have q := q h9 J9 (C2.tr (F9.cf (fun a i e => by omega)))
        refine ⟨rfl, J9.X.t0, x + 21, J9.X.r4, J9.X.w21.1, ?_⟩
        rw [W9.2.2.2.2.2.2.1, jI_sub]
        exact q
      · rw [e0, Classical.not_not] at cw
        rw [if_pos cw] at q
        exact q h2 J2 C2
  · rw [f123 hw] at c
    have := q h (J.mono (by omega)) CFr.rf
    unfold an_knew at this
    rw [if_neg (by omega)] at this
    exact this
/-! the Model's -/
theorem s207 {i : Nat} (hN : N ≤ tp_T t) (ok : tp_Ok t) (P : MPg h m t u) (R : RwM h m N rs rx) (hi : i < N) : sz_207 E h m (jI (i : Int)) ∧ fz_207 E h m (jI (i : Int)) = jI (kn t rs i : Int) := by
  have hT := ok.T
  have S := P.1
  have h12 : t 12 ≤ 1 := ok.2.2.2.2.2.2.2.2.2.2.2.1
  have e0 : jI (i : Int) = 0 ↔ i = 0 := by rw [show (0 : Int32) = jI ((0 : Nat) : Int) from rfl, jI_eqn (by omega) (by omega)]
  have e12 : jI (t 12 : Int) = 0 ↔ t 12 = 0 := by rw [show (0 : Int32) = jI ((0 : Nat) : Int) from rfl, jI_eqn (by omega) (by omega)]
  have ei : i ≠ 0 → (jI (i : Int) - 1 : Int32) = jI ((i - 1 : Nat) : Int) := fun q => by rw [show (1 : Int32) = jI 1 from rfl, jI_sub]; congr 1; omega
  refine ⟨⟨S.1, m + 8, S.a15.1, S.a15.ti, S.a15.inc (by decide), ⟨fun _ => ⟨⟨fun c => ?_, fun _ => ⟨S.a15.inc (by decide), trivial⟩⟩, trivial⟩, fun _ => ?_⟩, trivial⟩, ?_⟩
  · rw [e0] at c
    rw [S.a37.sub, ei c]
    exact ⟨S.a37.ne, S.a37.ti, S.a37.inn (by omega) (by omega), trivial⟩
  · rw [S.a37.sub]
    exact ⟨S.a37.ne, S.a37.ti, S.a37.inn (by omega) (by omega), trivial⟩
  · show (if ¬ (zI h (zR h m 15 - 1) 12 : Int32) = 0 then if ¬ jI (i : Int) = 0 then zI h (zR h m 37 - 1) (jI (i : Int) - 1 : Int32).toNatClampNeg else zI h (zR h m 15 - 1) 15 else zI h (zR h m 37 - 1) (jI (i : Int)).toNatClampNeg) = _
    rw [S.a15.sub, S.a37.sub, P.2.1 12 (by omega), P.2.1 15 (by omega)]
    unfold kn
    by_cases c12 : t 12 = 0
    · rw [if_neg (fun q => q (e12.mpr c12)), if_pos c12, jI_cln (by omega)]
      exact (R.2 i hi).1
    · rw [if_pos (fun q => c12 (e12.mp q)), if_neg c12]
      by_cases ci : i = 0
      · rw [if_neg (fun q => q (e0.mpr ci)), if_pos ci]
      · rw [if_pos (fun q => ci (e0.mp q)), if_neg ci, ei ci, jI_cln (by omega)]
        exact (R.2 (i - 1) (by omega)).1
theorem s208 {i : Nat} {z : WkT} (hN : N ≤ tp_T t) (ok : tp_Ok t) (hR : RwB rs rx) (P : MPg h m t u) (L : MLd h m t u 0) (R : RwM h m N rs rx) (hi : i < N) (hz : wk_B z) (K : MkS h m z) : sz_208 E h m (jI (i : Int)) ∧ fz_208 E h m (jI (i : Int)) = jI (kn_f t u rs i z.1 z.2.1 z.2.2.1 : Int) := by
  have hT := ok.T
  have S := P.1
  obtain ⟨s7, f7⟩ := s207 (E := E) hN ok P R hi
  obtain ⟨z1, z2, z3⟩ := hz
  have kl := kn_lt ok hR i
  have lt := tp_at_lt (dd := i) (by omega) z1 z2 z3 kl
  have hL := (L i z.1 z.2.1 z.2.2.1 (kn t rs i) (by omega) (by omega) z1 z2 z3 kl).2
  have e : fz_175 E h (jI (i : Int)) (fz_164 E h (zI h m 41) 20) (zI h m 42) (zI h m 43) (fz_207 E h m (jI (i : Int))) = jI (tp_at i z.1 z.2.1 z.2.2.1 (kn t rs i) : Int) := by
    rw [f7, K.1, K.2.1, K.2.2.1, show (20 : Int32) = jI ((20 : Nat) : Int) from rfl, fz164 (by omega) (by omega), Nat.min_eq_left z1, fz175]
  refine ⟨⟨S.1, m + 12, S.a28.1, trivial, s7, trivial, S.a28.ti, ?_, trivial⟩, ?_⟩
  · rw [e]; exact S.a28.inn lt (by omega)
  · show zI h (zR h m 28 - 1) (fz_175 E h (jI (i : Int)) (fz_164 E h (zI h m 41) 20) (zI h m 42) (zI h m 43) (fz_207 E h m (jI (i : Int))) : Int32).toNatClampNeg = _
    rw [e, S.a28.sub, jI_cln (by omega), hL]
    rfl
theorem l209 {h0 : ZH} {w z0 : Int32} (hd : 9 ≤ d) (ok : tp_Ok t) (ou : tp_Ou u) (hR : RwB rs rx) (hN : N ≤ tp_T t) (P0 : MPg h0 m t u) (L0 : MLd h0 m t u 0) (R0 : RwM h0 m N rs rx) (q : ∀ h', Fr (tp_Sb m) h0 h' → MkS h' m (kn_w t u rs N) → wb_209_35 E d Q m w z0 h') : ∀ r i h1, i + r = N → Fr (tp_Sb m) h0 h1 → MkS h1 m (kn_w t u rs i) → wl_209_19 E d Q (r + 1) m w z0 (jI (i : Int)) h1
  | 0, i, h1, e, F1, K1 => by
    have hT := ok.T
    have ei : i = N := by omega
    subst ei
    have P1 : MPg h1 m t u := P0.fr F1 (fun i => by unfold tp_Sb; omega) (fun i => by unfold tp_Sb; omega)
    rw [wl_209_19]
    refine ⟨P1.1.1, fun _ => q h1 F1 K1, fun c => absurd ?_ c⟩
    rw [F1.I (by unfold tp_Sb; omega), R0.1]
    exact (jI_len (by omega) (by omega)).mpr (Nat.le_refl _)
  | r + 1, i, h1, e, F1, K1 => by
    have hT := ok.T
    have P1 : MPg h1 m t u := P0.fr F1 (fun i => by unfold tp_Sb; omega) (fun i => by unfold tp_Sb; omega)
    have L1 : MLd h1 m t u 0 := L0.fr F1 (fun i => by unfold tp_Sb; omega) (fun i => by unfold tp_Sb; omega)
    have R1 : RwM h1 m N rs rx := ⟨by rw [F1.I (by unfold tp_Sb; omega)]; exact R0.1, fun k hk => by rw [F1.I (by unfold tp_Sb; omega), F1.I (by unfold tp_Sb; omega)]; exact R0.2 k hk⟩
    obtain ⟨s8, f8⟩ := s208 (E := E) hN ok hR P1 L1 R1 (show i < N by omega) (wk_bd t u _ rs i) K1
    have hB := tp_B_le ok u (tp_pr t) (tp_T t - (i + 1)) i (kn_w t u rs i).1 (kn_w t u rs i).2.1 (kn_w t u rs i).2.2.1 (kn t rs i)
    rw [wl_209_19]
    refine ⟨P1.1.1, fun c => ?_, fun _ => ⟨m + 17, P1.1.a37.1, P1.1.a37.ti, P1.1.a37.inn (by omega) (by omega), by omega, s8, ?_⟩⟩
    · exfalso
      rw [R1.1, jI_len (by omega) (by omega)] at c
      omega
    · rw [f8, jI_cln (by omega), (R1.2 i (by omega)).1]
      exact ct_202 (by omega) ok ou P1 (by omega) (hR i).1 (Nat.le_trans hB.2.2 (by omega)) (wk_bd t u _ rs i) K1 (fun h2 F2 K2 _ _ => ⟨rfl, nm_r (e' := jI ((i + 1 : Nat) : Int)) (by rw [show (1 : Int32) = jI 1 from rfl, jI_add]; rfl) (l209 hd ok ou hR hN P0 L0 R0 q r (i + 1) h2 (by omega) (F1.tr F2) K2)⟩)
theorem op_209 {w : Int} (hd : 20 ≤ d) (ok : tp_Ok t) (ou : tp_Ou u) (hR : RwB rs rx) (hN : N ≤ tp_T t) (J : JM h m t u ft tn tb N rs rx la sz ce to) (hw : jb w) (q : ∀ h', JM h' m t u ft tn tb N rs rx la sz ce to → MFr m h h' → Q (some (.int (jI (an_knew t u rs rx N w)))) h') : Ct E d 209 [.ref m, .int (jI w)] h Q := by
  obtain ⟨d, rfl⟩ : ∃ n, d = n + 1 := ⟨d - 1, by omega⟩
  have g1 : fz_135 E h (jI w).toInt64 0 1 = 0 ↔ ¬ (0 ≤ w ∧ w ≤ 1) := f135 (a := 0) (b := 1) hw.1 hw.2 (by omega) (by omega) (by omega) (by omega)
  refine ok_209 ⟨by omega, trivial, fun c => ?_, fun c => ?_⟩
  · rw [g1, Classical.not_not] at c
    unfold an_knew at q
    rw [if_pos c] at q
    refine ⟨J.P.1.1, ct_182 (by omega) ok ou J.P J.L (fun h2 F2 L2 n2 => ?_)⟩
    have J2 := J.ld F2 (fun a i e => by unfold tp_Sl tp_Sw at e; omega) L2
    refine ⟨rfl, J2.P.1.1, ct_203 (by omega) ok ou hR J2.P J2.R hN (fun h4 F4 K4 _ => ?_)⟩
    have J4 := J2.fr F4 (fun a i e => by unfold tp_Sr tp_Sb at e; omega)
    have L4 : MLd h4 m t u 0 := L2.fr F4 (fun i => by unfold tp_Sr tp_Sb; omega) (fun i => by unfold tp_Sr tp_Sb; omega)
    refine ⟨rfl, J4.P.1.1, nm_r (e' := jI (wk_r t u rs rx N).2.2.2.2.1) K4.2.2.2.2.1 (ct_201 (by omega) J4.P.1 (fun h7 F7 K7 => ⟨rfl, N + 1, ?_⟩))⟩
    have J7 := J4.fr F7 (fun a i e => by unfold tp_Sm at e; omega)
    have L7 : MLd h7 m t u 0 := L4.fr F7 (fun i => by unfold tp_Sm; omega) (fun i => by unfold tp_Sm; omega)
    refine l209 (by omega) ok ou hR hN J7.P L7 J7.R (fun h9 F9 K9 => ?_) N 0 h7 (by omega) Fr.rf K7
    have J9 := J7.fr F9 (fun a i e => by unfold tp_Sb at e; omega)
    have q := q h9 J9 (((F2.mf (fun a i e => by unfold tp_Sl tp_Sw at e; omega)).tr (F4.mf (fun a i e => by unfold tp_Sr tp_Sb at e; omega))).tr ((F7.mf (fun a i e => by unfold tp_Sm at e; omega)).tr (F9.mf (fun a i e => by unfold tp_Sb at e; omega))))
    have e0 : jI w = 0 ↔ w = 0 := by rw [show (0 : Int32) = jI 0 from rfl, jI_eq hw.1 hw.2 (by omega) (by omega)]
    refine ⟨⟨fun _ => ⟨J9.P.1.1, trivial⟩, fun _ => ⟨J9.P.1.1, trivial⟩⟩, ?_⟩
    rw [K9.2.2.2.2.1, jI_sub]
    by_cases c0 : w = 0
    · rw [if_pos c0] at q
      rw [if_neg (fun q => q (e0.mpr c0))]
      exact q
    · rw [if_neg c0] at q
      rw [if_pos (fun q => c0 (e0.mp q))]
      exact q
  · rw [g1] at c
    have := q h J MFr.rf
    unfold an_knew at this
    rw [if_neg (by omega)] at this
    exact this
end OPK
