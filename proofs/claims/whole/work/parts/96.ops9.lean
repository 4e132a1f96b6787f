/-! THE CALLS: offers -/
section OPI
variable {E : Nat → Nat} {h : ZH} {x m zs zt g tn N d : Nat} {t u rs rx : Nat → Nat} {ft to : Int32} {tb : Nat → Int32} {la sz : Nat → Int} {ce : Nat → Nat → Int32} {Q : Option Value → ZH → Prop}
theorem of_go_P (ok : tp_Ok t) (u : Nat → Nat) : ∀ k, (of_go t u k).2.1 ≤ 100 ∧ (of_go t u k).2.2.1 ≤ 60
  | 0 => ⟨Nat.zero_le _, Nat.zero_le _⟩
  | k + 1 => by
    have ih := of_go_P ok u k
    rw [of_go]
    split
    · next c =>
      unfold of_st
      split
      · split
        · exact ⟨by show t 5 + 20 * (k / 3) - 20 ≤ 100; omega, by show t 6 + k % 3 - 1 ≤ 60; omega⟩
        · exact ih
      · exact ih
    · exact ih
theorem of_go_up (t u : Nat → Nat) (k : Nat) : (of_go t u k).1 ≤ (of_go t u (k + 1)).1 := by
  show (of_go t u k).1 ≤ (if of_ok t k then of_st t u (t 5 + 20 * (k / 3) - 20) (t 6 + k % 3 - 1) (of_go t u k) else of_go t u k).1
  split
  · unfold of_st
    split
    · exact Nat.le_succ _
    · exact Nat.le_refl _
  · exact Nat.le_refl _
theorem of_go_1 (ok : tp_Ok t) (u : Nat → Nat) : (of_go t u 9).1 ≠ 0 := by
  have h5 : t 5 ≤ 100 := ok.2.2.2.2.1
  have h6 := ok.2.2.2.2.2.1
  have e5 : (of_go t u 5).1 = (of_go t u 4).1 + 1 := by
    rw [of_go, if_pos (by unfold of_ok; omega)]
    have e : of_t t (t 5 + 20 * (4 / 3) - 20) (t 6 + 4 % 3 - 1) = t := by
      rw [show t 5 + 20 * (4 / 3) - 20 = t 5 by omega, show t 6 + 4 % 3 - 1 = t 6 by omega]
      exact of_t_id t
    unfold of_st
    rw [e, if_pos (Int.le_refl _)]
  have a : (of_go t u 5).1 ≤ (of_go t u 6).1 := of_go_up t u 5
  have b : (of_go t u 6).1 ≤ (of_go t u 7).1 := of_go_up t u 6
  have c : (of_go t u 7).1 ≤ (of_go t u 8).1 := of_go_up t u 7
  have d : (of_go t u 8).1 ≤ (of_go t u 9).1 := of_go_up t u 8
  omega
def an_offers (t u : Nat → Nat) (w : Int) : Int64 := if 0 ≤ w ∧ w ≤ 4 then (if w = 0 then jL ((of_go t u 9).1 : Int) else if w = 1 then jL ((of_go t u 9).2.1 : Int) else if w = 2 then jL ((of_go t u 9).2.2.1 : Int) else an_fr (w - 3) (tp_T t) ((of_go t u 9).2.2.2 - tp_wh t u 1)) else -9000000000000000001
theorem op_107 {w : Int} (hd : 50 ≤ d) (ok : tp_Ok t) (ou : tp_Ou u) (J : JC E h x zs zt g t u ft tn tb N rs rx la sz ce to) (hg : g + 50 < 1000000) (hw : jb w) (q : ∀ h', JC E h' x zs zt (g + 12) t u ft tn tb N rs rx la sz ce to → CFr x h h' → Q (some (.long (an_offers t u w))) h') : Ct E d 107 [.ref x, .int (jI w)] h Q := by
  obtain ⟨d, rfl⟩ : ∃ n, d = n + 1 := ⟨d - 1, by omega⟩
  have hT := ok.T
  have l0 := jlt hw 0 (by omega)
  have l1 : jI w ≤ jI 4 ↔ w ≤ 4 := jI_le hw.1 hw.2 (by omega) (by omega)
  have no : ¬ (0 ≤ w ∧ w ≤ 4) → Q (some (.long (-9000000000000000001))) h := fun c => by
    have := q h (J.mono (by omega)) CFr.rf
    unfold an_offers at this
    rw [if_neg c] at this
    exact this
  refine ok_107 ⟨fun c => no ?_, fun c => ⟨fun c1 => ?_, fun c1 => no ?_⟩⟩
  · have := l0.mp c; omega
  · have c : ¬ w < 0 := fun r => c (l0.mpr r)
    have c1 := l1.mp c1
    unfold an_offers at q
    rw [if_pos (by omega)] at q
    refine ⟨J.X.t0, x + 24, J.X.r6, J.X.t24, ct_20 (by omega) ok ou J.X J.P (by omega) J.F (fun h4 F4 c9 V4 => ⟨rfl, ?_⟩)⟩
    have J4 := J.fv V4 F4
    have q := q h4 J4 V4.cf
    have O : FgO h4 x t u (of_go t u 9) := by
      obtain ⟨_, _, _, _, _, _, _, _, K⟩ := F4
      exact K.2.2.1 c9
    obtain ⟨o15, o16, o17⟩ := O.2 (of_go_1 ok u)
    have B := of_go_B ok u 9
    have PB := of_go_P ok u 9
    have bw := tp_wh_bd ok u 1
    rw [jI_toInt hw.1 hw.2]
    refine ⟨fun cw => ⟨J4.X.t0, x + 24, J4.X.r6, J4.X.t24, x + 1, J4.X.r0, J4.P.1.1.1, ?_⟩, fun cw => ⟨J4.X.t0, x + 24, J4.X.r6, J4.X.t24, ?_⟩, fun cw => ⟨J4.X.t0, x + 24, J4.X.r6, J4.X.t24, ?_⟩, fun cw => ⟨J4.X.t0, x + 24, J4.X.r6, J4.X.t24, ?_⟩⟩
    · rw [if_neg (by omega), if_neg (by omega), if_neg (by omega)] at q
      rw [o17, J4.P.2.2.2.2.2, show (3 : Int32) = jI 3 from rfl, jI_sub]
      obtain ⟨B1, B2, B3⟩ := B
      exact ct_128' (by omega) (by omega) (by omega) (by omega) (by omega) ⟨_, rfl, q⟩
    · rw [if_pos cw] at q
      have B1 := B.1
      rw [O.1, jI_toL (by omega) (by omega)]
      exact q
    · rw [if_neg (by omega), if_pos cw] at q
      rw [o15, jI_toL (by omega) (by omega)]
      exact q
    · rw [if_neg (by omega), if_neg (by omega), if_pos cw] at q
      rw [o16, jI_toL (by omega) (by omega)]
      exact q
  · have c1 : ¬ w ≤ 4 := fun r => c1 (l1.mpr r)
    omega
theorem of_t2 {p0 b0 p b : Nat} : (fun k => if k = 6 then b else (fun k => if k = 5 then p else of_t t p0 b0 k) k) = of_t t p b := by
  funext k
  unfold of_t
  by_cases c6 : k = 6
  · subst c6; simp
  · by_cases c5 : k = 5
    · subst c5; simp
    · simp [c5, c6]
theorem l198 {w : Int} {h0 : ZH} (hd : 18 ≤ d) (ok : tp_Ok t) (ou : tp_Ou u) (hw : jb w) (q : ∀ h' t', JM h' m t' u ft tn tb N rs rx la sz ce to → MKp h' m t → MFr m h0 h' → wb_198_129 E d Q m (jI w) (jL (tp_wh t u 1)) (jL ((of_go t u 9).1 : Int)) (jI ((of_go t u 9).2.1 : Int)) (jI ((of_go t u 9).2.2.1 : Int)) (jL (of_go t u 9).2.2.2) h') : ∀ r k h1, k + r = 9 → (∃ p b, JM h1 m (of_t t p b) u ft tn tb N rs rx la sz ce to) → MKp h1 m t → MFr m h0 h1 → wl_198_29 E d Q (r + 1) m (jI w) (jL (tp_wh t u 0)) (jL (tp_wh t u 1)) (jL ((of_go t u k).1 : Int)) (jI ((of_go t u k).2.1 : Int)) (jI ((of_go t u k).2.2.1 : Int)) (jL (of_go t u k).2.2.2) (jI (k : Int)) h1
  | 0, k, h1, e, ⟨p, b, J1⟩, K1, C1 => by
    have ek : k = 9 := by omega
    subst ek
    rw [wl_198_29]
    exact ⟨fun _ => q h1 _ J1 K1 C1, fun c => absurd (by decide) c⟩
  | r + 1, k, h1, e, ⟨p0, b0, J1⟩, K1, C1 => by
    have h5 : t 5 ≤ 100 := ok.2.2.2.2.1
    have h6 := ok.2.2.2.2.2.1
    have nxt : ∀ h'' (s : OfT), s = of_go t u (k + 1) → (∃ p b, JM h'' m (of_t t p b) u ft tn tb N rs rx la sz ce to) → MKp h'' m t → MFr m h0 h'' → wb_198_127 E d Q (wl_198_29 E d Q (r + 1)) m (jI w) (jL (tp_wh t u 0)) (jL (tp_wh t u 1)) (jL (s.1 : Int)) (jI (s.2.1 : Int)) (jI (s.2.2.1 : Int)) (jL s.2.2.2) (jI (k : Int)) h'' := by
      rintro h'' s rfl J2 K2 C2
      exact nm_r (e' := jI ((k + 1 : Nat) : Int)) (by rw [show (1 : Int32) = jI 1 from rfl, jI_add]; rfl) (l198 hd ok ou hw q r (k + 1) h'' (by omega) J2 K2 C2)
    have e17 : (zI h1 (m + 16) 5 + 20 * (jI (k : Int) / 3 - 1) : Int32) = jI ((t 5 : Int) + 20 * ((k / 3 : Nat) : Int) - 20) := by
      rw [K1.1 5 (by omega), show (3 : Int32) = jI ((3 : Nat) : Int) from rfl, jI_div (by omega) (by omega) (by omega), show (1 : Int32) = jI 1 from rfl, show (20 : Int32) = jI 20 from rfl, jI_sub, jI_mul, jI_add]
      congr 1
      omega
    have e18 : (zI h1 (m + 16) 6 + (jI (k : Int) - jI (k : Int) / 3 * 3) - 1 : Int32) = jI ((t 6 : Int) + ((k % 3 : Nat) : Int) - 1) := by
      have := jI_rem (a := k) (b := 3) (by omega) (by omega) (by omega)
      rw [show (3 : Int32) = jI ((3 : Nat) : Int) from rfl, this, K1.1 6 (by omega), show (1 : Int32) = jI 1 from rfl, jI_add, jI_sub]
    have g1 : fz_135 E h1 (jI ((t 5 : Int) + 20 * ((k / 3 : Nat) : Int) - 20)).toInt64 0 100 = 0 ↔ ¬ (0 ≤ (t 5 : Int) + 20 * ((k / 3 : Nat) : Int) - 20 ∧ (t 5 : Int) + 20 * ((k / 3 : Nat) : Int) - 20 ≤ 100) := f135 (a := 0) (b := 100) (by omega) (by omega) (by omega) (by omega) (by omega) (by omega)
    have g2 : fz_135 E h1 (jI ((t 6 : Int) + ((k % 3 : Nat) : Int) - 1)).toInt64 1 60 = 0 ↔ ¬ (1 ≤ (t 6 : Int) + ((k % 3 : Nat) : Int) - 1 ∧ (t 6 : Int) + ((k % 3 : Nat) : Int) - 1 ≤ 60) := f135 (a := 1) (b := 60) (by omega) (by omega) (by omega) (by omega) (by omega) (by omega)
    have skip : ¬ of_ok t k → wb_198_127 E d Q (wl_198_29 E d Q (r + 1)) m (jI w) (jL (tp_wh t u 0)) (jL (tp_wh t u 1)) (jL ((of_go t u k).1 : Int)) (jI ((of_go t u k).2.1 : Int)) (jI ((of_go t u k).2.2.1 : Int)) (jL (of_go t u k).2.2.2) (jI (k : Int)) h1 := fun c => nxt h1 _ (by rw [of_go, if_neg c]) ⟨p0, b0, J1⟩ K1 C1
    have S1 := J1.P.1
    rw [wl_198_29]
    refine ⟨fun c => ?_, fun _ => ⟨S1.1, m + 16, S1.a35.1, S1.a35.ti, S1.a35.inc (by decide), nm_r (e' := jI ((t 5 : Int) + 20 * ((k / 3 : Nat) : Int) - 20)) e17 ⟨S1.a35.inc (by decide), nm_r (e' := jI ((t 6 : Int) + ((k % 3 : Nat) : Int) - 1)) e18 ⟨by omega, trivial, fun c1 => skip ?_, fun c1 => ⟨by omega, trivial, fun c2 => skip ?_, fun c2 => ⟨m + 8, S1.a15.1, S1.a15.tg, S1.a15.inc (by decide), nm_e ⟨S1.a15.inc (by decide), nm_e (nm_e ?_)⟩⟩⟩⟩⟩⟩⟩
    · exfalso
      rw [show (9 : Int32) = jI ((9 : Nat) : Int) from rfl, jI_len (by omega) (by omega)] at c
      omega
    · rw [g1] at c1
      unfold of_ok; omega
    · rw [g2] at c2
      unfold of_ok; omega
    rw [g1, Classical.not_not] at c1
    rw [g2, Classical.not_not] at c2
    have cok : of_ok t k := by unfold of_ok; omega
    rw [show (t 5 : Int) + 20 * ((k / 3 : Nat) : Int) - 20 = ((t 5 + 20 * (k / 3) - 20 : Nat) : Int) by omega, show (t 6 : Int) + ((k % 3 : Nat) : Int) - 1 = ((t 6 + k % 3 - 1 : Nat) : Int) by omega]
    have eG : of_go t u (k + 1) = of_st t u (t 5 + 20 * (k / 3) - 20) (t 6 + k % 3 - 1) (of_go t u k) := by rw [of_go, if_pos cok]
    have hp : t 5 + 20 * (k / 3) - 20 ≤ 100 := by omega
    have hb : 1 ≤ t 6 + k % 3 - 1 ∧ t 6 + k % 3 - 1 ≤ 60 := by omega
    generalize t 5 + 20 * (k / 3) - 20 = p at eG hp ⊢
    generalize t 6 + k % 3 - 1 = b at eG hb ⊢
    have ok' := of_t_ok (t := t) (p := p) (b := b) ok hp hb.1 hb.2
    have P24 : MPg (zuI (zuI (zuI h1 (m + 8) 5 (jI (p : Int))) (m + 8) 6 (jI (b : Int))) m 29 0) m (of_t t p b) u := by
      have := mp_set (k0 := 6) (v := b) (mp_set (k0 := 5) (v := p) J1.P (by omega)) (by omega)
      rw [of_t2] at this
      exact mp_29 this
    have F24 : Fr (fun a i => a = m + 8 ∨ (a = m ∧ i = 29)) h1 (zuI (zuI (zuI h1 (m + 8) 5 (jI (p : Int))) (m + 8) 6 (jI (b : Int))) m 29 0) := Fr.uI (Fr.uI (Fr.uI Fr.rf (Or.inl rfl)) (Or.inl rfl)) (Or.inr ⟨rfl, rfl⟩)
    have z29 : zI (zuI (zuI (zuI h1 (m + 8) 5 (jI (p : Int))) (m + 8) 6 (jI (b : Int))) m 29 0) m 29 = 0 := zI_here _ _ _ _
    generalize zuI (zuI (zuI h1 (m + 8) 5 (jI (p : Int))) (m + 8) 6 (jI (b : Int))) m 29 0 = h24 at P24 F24 z29 ⊢
    have J24 := J1.pg F24 (fun a i e => by omega) P24 z29
    have K24 := K1.fr F24 (fun i e => by omega)
    refine ct_190 (w := 0) (by omega) (by omega) ok' ou J24.P J24.L (fun h25 F25 L25 n25 X25 => ?_)
    have J25 := J24.ld F25 (fun a i e => by unfold tp_Se tp_Sw at e; omega) L25
    have K25 := K24.fr F25 (fun i e => by unfold tp_Se tp_Sw at e; omega)
    have C25 : MFr m h0 h25 := C1.tr ((F24.mf (fun a i e => by omega)).tr (F25.mf (fun a i e => by unfold tp_Se tp_Sw at e; omega)))
    have A34 := J25.P.1.a34
    have x0 : zL h25 (m + 15) 0 = jL (tp_wh (of_t t p b) u 1) := X25 0 (by omega)
    have bw0 := tp_wh_bd ok u 0
    have bv0 := tp_wh_bd ok' u 0
    have bv1 := tp_wh_bd ok' u 1
    obtain ⟨B1, B2, B3⟩ := of_go_B ok u k
    have lt : jL (tp_wh (of_t t p b) u 0) < jL (tp_wh t u 0) ↔ tp_wh (of_t t p b) u 0 < tp_wh t u 0 := jL_lt (by omega) (by omega) (by omega) (by omega)
    have sf : ztag h25 m = 11 ∧ ¬ zR h25 m 34 = 0 ∧ ztag h25 (zR h25 m 34 - 1) = 14 ∧ zin 0 (zlen h25 (zR h25 m 34 - 1)) = true ∧ True := by
      rw [A34.sub]
      exact ⟨J25.P.1.1, A34.ne, A34.tg, A34.inc (by decide), trivial⟩
    have e1 : (jL ((of_go t u k).1 : Int) + 1 : Int64) = jL (((of_go t u k).1 + 1 : Nat) : Int) := by rw [show (1 : Int64) = jL 1 from rfl, jL_add]; rfl
    have is1 : (jL (((of_go t u k).1 + 1 : Nat) : Int) : Int64) = 1 ↔ (of_go t u k).1 = 0 := by
      rw [show (1 : Int64) = jL 1 from rfl, jL_eq (by omega) (by omega) (by omega) (by omega)]
      omega
    have le : jL (tp_wh (of_t t p b) u 1) ≤ jL (of_go t u k).2.2.2 ↔ tp_wh (of_t t p b) u 1 ≤ (of_go t u k).2.2.2 := jL_le (by omega) (by omega) (by omega) (by omega)
    refine ⟨_, rfl, ⟨fun _ => trivial, fun _ => ⟨⟨fun _ => trivial, fun _ => sf⟩, ⟨fun _ => trivial, fun _ => sf⟩, trivial⟩⟩, ?_⟩
    rw [A34.sub, x0, e1]
    unfold of_st at eG
    by_cases cv : tp_wh (of_t t p b) u 0 < tp_wh t u 0
    · have cl := lt.mpr cv
      rw [if_neg (by omega)] at eG
      rw [if_pos cl, if_pos cl, if_pos cl, if_pos cl]
      exact nxt h25 (of_go t u k) eG.symm ⟨p, b, J25⟩ K25 C25
    · have cl : ¬ jL (tp_wh (of_t t p b) u 0) < jL (tp_wh t u 0) := fun q => cv (lt.mp q)
      rw [if_pos (by omega)] at eG
      rw [if_neg cl, if_neg cl, if_neg cl, if_neg cl]
      have cX : ((if (jL (((of_go t u k).1 + 1 : Nat) : Int) : Int64) = 1 then 1 else if jL (tp_wh (of_t t p b) u 1) ≤ jL (of_go t u k).2.2.2 then 0 else 1 : Int32) = 0) ↔ ¬ ((of_go t u k).1 = 0 ∨ (of_go t u k).2.2.2 < tp_wh (of_t t p b) u 1) := by
        by_cases c0 : (of_go t u k).1 = 0
        · rw [if_pos (is1.mpr c0), j10]
          exact ⟨fun q => q.elim, fun q => q (Or.inl c0)⟩
        · rw [if_neg (fun q => c0 (is1.mp q)), j0c, le, j10, or_false]
          omega
      by_cases cq : (of_go t u k).1 = 0 ∨ (of_go t u k).2.2.2 < tp_wh (of_t t p b) u 1
      · have cn : ¬ ((if (jL (((of_go t u k).1 + 1 : Nat) : Int) : Int64) = 1 then 1 else if jL (tp_wh (of_t t p b) u 1) ≤ jL (of_go t u k).2.2.2 then 0 else 1 : Int32) = 0) := fun q => cX.mp q cq
        rw [if_pos cq] at eG
        rw [if_neg cn, if_neg cn, if_neg cn]
        exact nxt h25 ((of_go t u k).1 + 1, p, b, tp_wh (of_t t p b) u 1) eG.symm ⟨p, b, J25⟩ K25 C25
      · have cn := cX.mpr cq
        rw [if_neg cq] at eG
        rw [if_pos cn, if_pos cn, if_pos cn]
        exact nxt h25 ((of_go t u k).1 + 1, (of_go t u k).2) eG.symm ⟨p, b, J25⟩ K25 C25
theorem op_198 {w : Int} (hd : 20 ≤ d) (ok : tp_Ok t) (ou : tp_Ou u) (J : JM h m t u ft tn tb N rs rx la sz ce to) (hw : jb w) (q : ∀ h', JM h' m t u ft tn tb N rs rx la sz ce to → MFr m h h' → Q (some (.long (an_offers t u w))) h') : Ct E d 198 [.ref m, .int (jI w)] h Q := by
  obtain ⟨d, rfl⟩ : ∃ n, d = n + 1 := ⟨d - 1, by omega⟩
  have hT := ok.T
  have g1 : fz_135 E h (jI w).toInt64 0 4 = 0 ↔ ¬ (0 ≤ w ∧ w ≤ 4) := f135 (a := 0) (b := 4) hw.1 hw.2 (by omega) (by omega) (by omega) (by omega)
  refine ok_198 ⟨by omega, trivial, fun c => ?_, fun c => ?_⟩
  · rw [g1, Classical.not_not] at c
    unfold an_offers at q
    rw [if_pos c] at q
    refine ⟨J.P.1.1, ct_190 (w := 0) (by omega) (by omega) ok ou J.P J.L (fun h2 F2 L2 n2 X2 => ?_)⟩
    have J2 := J.ld F2 (fun a i e => by unfold tp_Se tp_Sw at e; omega) L2
    have A34 := J2.P.1.a34
    refine ⟨_, rfl, J2.P.1.1, m + 15, A34.1, A34.tg, A34.inc (by decide), nm_r (e' := jL (tp_wh t u 1)) (X2 0 (by omega)) (ct_193 (by omega) J2.P (fun h8 F8 K8 => ⟨rfl, 10, ?_⟩))⟩
    have J8 := J2.fr F8 (fun a i e => by omega)
    refine l198 (h0 := h) (t := t) (u := u) (ft := ft) (tn := tn) (tb := tb) (N := N) (rs := rs) (rx := rx) (la := la) (sz := sz) (ce := ce) (to := to) (by omega) ok ou hw (fun h9 t' J9 K9 C9 => ?_) 9 0 h8 (by omega) ⟨t 5, t 6, by rw [of_t_id]; exact J8⟩ K8 ((F2.mf (fun a i e => by unfold tp_Se tp_Sw at e; omega)).tr (F8.mf (fun a i e => by omega)))
    refine ⟨J9.P.1.1, ct_194 (by omega) J9.P K9 (fun h10 F10 P10 n10 => ⟨rfl, ?_⟩)⟩
    have J10 := J9.pg F10 (fun a i e => by omega) P10 n10
    have q := q h10 J10 (C9.tr (F10.mf (fun a i e => by omega)))
    obtain ⟨B1, B2, B3⟩ := of_go_B ok u 9
    have PB := of_go_P ok u 9
    have bw := tp_wh_bd ok u 1
    have e0 : jI w = 0 ↔ w = 0 := by rw [show (0 : Int32) = jI 0 from rfl, jI_eq hw.1 hw.2 (by omega) (by omega)]
    have e1 : jI w = 1 ↔ w = 1 := by rw [show (1 : Int32) = jI 1 from rfl, jI_eq hw.1 hw.2 (by omega) (by omega)]
    have e2 : jI w = 2 ↔ w = 2 := by rw [show (2 : Int32) = jI 2 from rfl, jI_eq hw.1 hw.2 (by omega) (by omega)]
    refine ⟨fun d0 => ⟨fun d1 => ⟨fun d2 => ?_, fun d2 => ?_⟩, fun d1 => ?_⟩, fun d0 => ?_⟩
    · rw [e0] at d0
      rw [e1] at d1
      rw [e2] at d2
      rw [if_neg d0, if_neg d1, if_neg d2] at q
      refine ⟨J10.P.1.1, by omega, sz152 J10.P, by omega, trivial, ?_⟩
      rw [f176T ok J10.P, jL_sub, show (3 : Int32) = jI 3 from rfl, jI_sub]
      exact ct_184' (by omega) (by omega) (by omega) (by omega) (by omega) ⟨_, rfl, q⟩
    · rw [e0] at d0
      rw [e1] at d1
      rw [e2, Classical.not_not] at d2
      rw [if_neg d0, if_neg d1, if_pos d2] at q
      rw [jI_toL (by omega) (by omega)]
      exact q
    · rw [e0] at d0
      rw [e1, Classical.not_not] at d1
      rw [if_neg d0, if_pos d1] at q
      rw [jI_toL (by omega) (by omega)]
      exact q
    · rw [e0, Classical.not_not] at d0
      rw [if_pos d0] at q
      exact q
  · rw [g1] at c
    have := q h J MFr.rf
    unfold an_offers at this
    rw [if_neg (by omega)] at this
    exact this
end OPI
