/-! THE CALLS: came, the second -/
section OPM
variable {E : Nat → Nat} {h : ZH} {x m zs zt g tn N d : Nat} {t u rs rx : Nat → Nat} {ft to : Int32} {tb : Nat → Int32} {la sz : Nat → Int} {ce : Nat → Nat → Int32} {Q : Option Value → ZH → Prop}
theorem cm_bd (ok : tp_Ok t) (u rs : Nat → Nat) : ∀ d, (cm t u rs d).1 ≤ 20 ∧ (cm t u rs d).2.1 ≤ 12 ∧ (cm t u rs d).2.2.1 ≤ 8
  | 0 => ⟨Nat.zero_le _, Nat.zero_le _, Nat.zero_le _⟩
  | d + 1 => by
    have ih := cm_bd ok u rs d
    have V : tp_V (cm t u rs d).2.2.1 (cm t u rs d).1 (cm t u rs d).2.1 (cm t u rs d).2.2.1 := ⟨ih.1, ih.2.1, ih.2.2, Or.inr (Or.inr rfl)⟩
    obtain ⟨v1, v2, v3, -⟩ := tp_V_next (d := d) (x := tp_B t u (tp_prk t rs) (tp_T t - (d + 1)) d (cm t u rs d).1 (cm t u rs d).2.1 (cm t u rs d).2.2.1 0) ok u V
    exact ⟨v1, v2, v3⟩
theorem l212x {h0 : ZH} {dd c n k a2 a3 : Nat} {a2' : Int32} {L37 : Nat → Int32 → Int32 → Int32 → ZH → Prop} (hd : 10 ≤ d) (ok : tp_Ok t) (ou : tp_Ou u) (hR : RwB rs rx) (P0 : MPg h0 m t u) (R0 : RwM h0 m N rs rx) (hN : N = tp_T t) (hdd : dd < tp_T t) (hc : c ≤ 20) (hn : n ≤ 12) (hk : k ≤ 8) (T0 : ∀ d', d' ≤ tp_T t → CmT h0 m t u rs d') (q : ∀ h', Fr (tp_Sw m) h0 h' → zI h' m 30 = jI (tp_at (dd + 1) (tp_c2 t u dd c n k (tp_ma (tp_CX t u rs (tp_T t - (dd + 1)) dd c n k) (tp_lo t u dd) (tp_hi t u dd - tp_lo t u dd))) (tp_m2 t u dd c n k (tp_ma (tp_CX t u rs (tp_T t - (dd + 1)) dd c n k) (tp_lo t u dd) (tp_hi t u dd - tp_lo t u dd))) (tp_k2 t u dd c n k (tp_ma (tp_CX t u rs (tp_T t - (dd + 1)) dd c n k) (tp_lo t u dd) (tp_hi t u dd - tp_lo t u dd))) 0 : Int) → wb_212_74 E d Q L37 m a2' (jI (dd : Int)) (jI (tp_ma (tp_CX t u rs (tp_T t - (dd + 1)) dd c n k) (tp_lo t u dd) (tp_hi t u dd - tp_lo t u dd) : Int)) h') : ∀ (r y : Nat) h1, y + r = tp_ma (tp_CX t u rs (tp_T t - (dd + 1)) dd c n k) (tp_lo t u dd) (tp_hi t u dd - tp_lo t u dd) → Fr (tp_Sw m) h0 h1 → wl_212_47 E d Q L37 (r + 1) m a2' (jI (cm_at dd c n k : Int)) (jI (dd : Int)) (jI ((117 * c + 9 * n + k : Nat) : Int)) (jI (y : Int)) h1 := by
  have hT := ok.T
  have hl := tp_lohi (u := u) ok dd
  have hrs : ∀ d, rs d < 3 := fun d => (hR d).1
  have hin := tp_ma_in (f := tp_CX t u rs (tp_T t - (dd + 1)) dd c n k) (lo := tp_lo t u dd) (tp_hi t u dd - tp_lo t u dd)
  have d1 : (jI ((117 * c + 9 * n + k : Nat) : Int) / 117 : Int32) = jI (c : Int) := by
    rw [show (117 : Int32) = jI ((117 : Nat) : Int) from rfl, jI_div (by omega) (by omega) (by omega)]; congr 2; omega
  have d2 : (jI ((117 * c + 9 * n + k : Nat) : Int) / 9 - jI ((117 * c + 9 * n + k : Nat) : Int) / 9 / 13 * 13 : Int32) = jI (n : Int) := by
    rw [show (9 : Int32) = jI ((9 : Nat) : Int) from rfl, jI_div (by omega) (by omega) (by omega), show (13 : Int32) = jI ((13 : Nat) : Int) from rfl, jI_rem (by omega) (by omega) (by omega)]; congr 2; omega
  have d3 : (jI ((117 * c + 9 * n + k : Nat) : Int) - jI ((117 * c + 9 * n + k : Nat) : Int) / 9 * 9 : Int32) = jI (k : Int) := by
    rw [show (9 : Int32) = jI ((9 : Nat) : Int) from rfl, jI_rem (by omega) (by omega) (by omega)]; congr 2; omega
  have mvb : -3000000 ≤ tp_mv (tp_CX t u rs (tp_T t - (dd + 1)) dd c n k) (tp_lo t u dd) (tp_hi t u dd - tp_lo t u dd) ∧ tp_mv (tp_CX t u rs (tp_T t - (dd + 1)) dd c n k) (tp_lo t u dd) (tp_hi t u dd - tp_lo t u dd) ≤ 3000000 := tp_mv_bd _ (fun i hi => tp_CX_bd ok u hrs (by omega) dd c n k (by omega))
  have lt : cm_at dd c n k < 51597 := by unfold cm_at; omega
  intro r
  induction r with
  | zero =>
    intro y h1 e F1
    have P1 : MPg h1 m t u := P0.fr F1 (fun i => by unfold tp_Sw; omega) (fun i => by unfold tp_Sw; omega)
    have R1 : RwM h1 m N rs rx := ⟨by rw [F1.I (by unfold tp_Sw; omega)]; exact R0.1, fun k hk => by rw [F1.I (by unfold tp_Sw; omega), F1.I (by unfold tp_Sw; omega)]; exact R0.2 k hk⟩
    have T1 : ∀ d', d' ≤ tp_T t → CmT h1 m t u rs d' := fun d' hd' c n k a1 a2 a3 => by rw [F1.I (by unfold tp_Sw; omega)]; exact T0 d' hd' c n k a1 a2 a3
    have ey : y = tp_ma (tp_CX t u rs (tp_T t - (dd + 1)) dd c n k) (tp_lo t u dd) (tp_hi t u dd - tp_lo t u dd) := by omega
    rw [wl_212_47]
    refine ⟨P1.1.1, by omega, sz163 P1 (by omega), ?_⟩
    rw [fz163 ok ou P1 (by omega) (by omega), j01]
    refine ⟨fun c' => absurd (by omega) c', fun _ => ⟨P1.1.1, ?_⟩⟩
    rw [d1, d2, d3]
    refine ct_210 (by omega) ok ou hR P1 R1 hN hdd hc hn hk (by omega) (T1 (dd + 1) (by omega)) (fun h2 F2 i30 => ⟨_, rfl, ?_⟩)
    have P2 : MPg h2 m t u := P1.fr F2 (fun i => by unfold tp_Sw; omega) (fun i => by unfold tp_Sw; omega)
    have tt : zI h2 (m + 21) (cm_at dd c n k) = jI (tp_mv (tp_CX t u rs (tp_T t - (dd + 1)) dd c n k) (tp_lo t u dd) (tp_hi t u dd - tp_lo t u dd)) := by
      rw [F2.I (by unfold tp_Sw; omega), T1 dd (by omega) c n k hc hn hk, show tp_T t - dd = tp_T t - (dd + 1) + 1 by omega, tp_Cm_s]
    refine ⟨P2.1.1, m + 21, P2.1.a47.1, P2.1.a47.ti, P2.1.a47.inn lt (by omega), ?_⟩
    rw [jI_cln (by omega), tt, tp_mv_ma, ← ey]
    refine ⟨fun _ => ?_, fun c' => absurd rfl c'⟩
    rw [← ey] at q
    exact q h2 (F1.tr F2) i30
  | succ r ih =>
    intro y h1 e F1
    have P1 : MPg h1 m t u := P0.fr F1 (fun i => by unfold tp_Sw; omega) (fun i => by unfold tp_Sw; omega)
    have R1 : RwM h1 m N rs rx := ⟨by rw [F1.I (by unfold tp_Sw; omega)]; exact R0.1, fun k hk => by rw [F1.I (by unfold tp_Sw; omega), F1.I (by unfold tp_Sw; omega)]; exact R0.2 k hk⟩
    have T1 : ∀ d', d' ≤ tp_T t → CmT h1 m t u rs d' := fun d' hd' c n k a1 a2 a3 => by rw [F1.I (by unfold tp_Sw; omega)]; exact T0 d' hd' c n k a1 a2 a3
    rw [wl_212_47]
    refine ⟨P1.1.1, by omega, sz163 P1 (by omega), ?_⟩
    rw [fz163 ok ou P1 (by omega) (by omega), j01]
    refine ⟨fun _ => nm_r (e' := jI ((y + 1 : Nat) : Int)) (by rw [show (1 : Int32) = jI 1 from rfl, jI_add]; rfl) (ih (y + 1) h1 (by omega) F1), fun c' => ⟨P1.1.1, ?_⟩⟩
    rw [Classical.not_not] at c'
    rw [d1, d2, d3]
    refine ct_210 (by omega) ok ou hR P1 R1 hN hdd hc hn hk (by omega) (T1 (dd + 1) (by omega)) (fun h2 F2 i30 => ⟨_, rfl, ?_⟩)
    have P2 : MPg h2 m t u := P1.fr F2 (fun i => by unfold tp_Sw; omega) (fun i => by unfold tp_Sw; omega)
    have tt : zI h2 (m + 21) (cm_at dd c n k) = jI (tp_mv (tp_CX t u rs (tp_T t - (dd + 1)) dd c n k) (tp_lo t u dd) (tp_hi t u dd - tp_lo t u dd)) := by
      rw [F2.I (by unfold tp_Sw; omega), T1 dd (by omega) c n k hc hn hk, show tp_T t - dd = tp_T t - (dd + 1) + 1 by omega, tp_Cm_s]
    have bx := tp_CX_bd ok u hrs (n := tp_T t - (dd + 1)) (by omega) dd c n k (x := y) (by omega)
    have fs := tp_ma_first (f := tp_CX t u rs (tp_T t - (dd + 1)) dd c n k) (lo := tp_lo t u dd) (tp_hi t u dd - tp_lo t u dd) (y - tp_lo t u dd) (by omega)
    rw [show tp_lo t u dd + (y - tp_lo t u dd) = y by omega] at fs
    refine ⟨P2.1.1, m + 21, P2.1.a47.1, P2.1.a47.ti, P2.1.a47.inn lt (by omega), ?_⟩
    rw [jI_cln (by omega), tt, jI_eq (by omega) (by omega) (by omega) (by omega)]
    exact ⟨fun c' => by omega, fun _ => nm_r (e' := jI ((y + 1 : Nat) : Int)) (by rw [show (1 : Int32) = jI 1 from rfl, jI_add]; rfl) (ih (y + 1) h2 (by omega) (F1.tr F2))⟩
theorem l212 {h0 : ZH} (hd : 10 ≤ d) (ok : tp_Ok t) (ou : tp_Ou u) (hR : RwB rs rx) (P0 : MPg h0 m t u) (R0 : RwM h0 m N rs rx) (hN : N = tp_T t) (T0 : ∀ d', d' ≤ tp_T t → CmT h0 m t u rs d') (q : ∀ h', Fr (tp_Sw m) h0 h' → Q (some (.int (jI (cm t u rs (tp_T t)).2.2.2))) h') : ∀ (r i : Nat) h1, i + r = tp_T t → Fr (tp_Sw m) h0 h1 → wl_212_37 E d Q (r + 1) m (jI (cm t u rs i).2.2.2) (jI (cm_at i (cm t u rs i).1 (cm t u rs i).2.1 (cm t u rs i).2.2.1 : Int)) (jI (i : Int)) h1
  | 0, i, h1, e, F1 => by
    have hT := ok.T
    have P1 : MPg h1 m t u := P0.fr F1 (fun i => by unfold tp_Sw; omega) (fun i => by unfold tp_Sw; omega)
    have ei : i = tp_T t := by omega
    subst ei
    rw [wl_212_37]
    refine ⟨P1.1.1, by omega, sz152 P1, fun _ => q h1 F1, fun c => absurd ?_ c⟩
    rw [fz152 P1, jI_len (by omega) (by omega)]
    omega
  | r + 1, i, h1, e, F1 => by
    have hT := ok.T
    have P1 : MPg h1 m t u := P0.fr F1 (fun i => by unfold tp_Sw; omega) (fun i => by unfold tp_Sw; omega)
    have R1 : RwM h1 m N rs rx := ⟨by rw [F1.I (by unfold tp_Sw; omega)]; exact R0.1, fun k hk => by rw [F1.I (by unfold tp_Sw; omega), F1.I (by unfold tp_Sw; omega)]; exact R0.2 k hk⟩
    have T1 : ∀ d', d' ≤ tp_T t → CmT h1 m t u rs d' := fun d' hd' c n k a1 a2 a3 => by rw [F1.I (by unfold tp_Sw; omega)]; exact T0 d' hd' c n k a1 a2 a3
    obtain ⟨c1, c2, c3⟩ := cm_bd ok u rs i
    have hl := tp_lohi (u := u) ok i
    have hin := tp_ma_in (f := tp_CX t u rs (tp_T t - (i + 1)) i (cm t u rs i).1 (cm t u rs i).2.1 (cm t u rs i).2.2.1) (lo := tp_lo t u i) (tp_hi t u i - tp_lo t u i)
    rw [wl_212_37]
    refine ⟨P1.1.1, by omega, sz152 P1, fun c => ?_, fun _ => nm_r (e' := jI ((117 * (cm t u rs i).1 + 9 * (cm t u rs i).2.1 + (cm t u rs i).2.2.1 : Nat) : Int)) ?_ ⟨tp_ma (tp_CX t u rs (tp_T t - (i + 1)) i (cm t u rs i).1 (cm t u rs i).2.1 (cm t u rs i).2.2.1) (tp_lo t u i) (tp_hi t u i - tp_lo t u i) + 1, l212x (a2 := 0) (a3 := 0) hd ok ou hR P1 R1 hN (show i < tp_T t by omega) c1 c2 c3 T1 (fun h2 F2 i30 => ?_) _ 0 h1 (by omega) Fr.rf⟩⟩
    · exfalso
      rw [fz152 P1, jI_len (by omega) (by omega)] at c
      omega
    · rw [show (2457 : Int32) = jI ((2457 : Nat) : Int) from rfl, jI_rem (by unfold cm_at; omega) (by omega) (by omega)]
      congr 2
      unfold cm_at
      omega
    · have P2 : MPg h2 m t u := P1.fr F2 (fun i => by unfold tp_Sw; omega) (fun i => by unfold tp_Sw; omega)
      rw [← tp_CB ok u rs] at i30 ⊢
      have ih := l212 hd ok ou hR P0 R0 hN T0 q r (i + 1) h2 (by omega) (F1.tr F2)
      obtain ⟨b1, b2, b3⟩ := cm_bd ok u rs (i + 1)
      have lt := tp_at_lt (dd := i + 1) (s := 0) (by omega) b1 b2 b3 (by omega)
      refine nm_r (e' := jI (cm t u rs (i + 1)).2.2.2) (by rw [show (5 : Int32) = jI 5 from rfl, jI_mul, jI_add]; rfl) ⟨P2.1.1, nm_r (e' := jI (cm_at (i + 1) (cm t u rs (i + 1)).1 (cm t u rs (i + 1)).2.1 (cm t u rs (i + 1)).2.2.1 : Int)) ?_ (nm_r (e' := jI ((i + 1 : Nat) : Int)) (by rw [show (1 : Int32) = jI 1 from rfl, jI_add]; rfl) ih)⟩
      have e30 : zI h2 m 30 = jI (tp_at (i + 1) (cm t u rs (i + 1)).1 (cm t u rs (i + 1)).2.1 (cm t u rs (i + 1)).2.2.1 0 : Int) := i30
      rw [e30, show (3 : Int32) = jI ((3 : Nat) : Int) from rfl, jI_div (by omega) (by omega) (by omega), cm_at3]
def an_came (t u rs : Nat → Nat) (N : Nat) (w : Int) : Int := if 0 ≤ w ∧ w ≤ 1 then (if N = tp_T t ∧ (w = 0 ∨ tp_T t ≤ 13) then (if w = 0 then tp_Cm t u rs (tp_T t) 0 0 0 0 else (cm t u rs (tp_T t)).2.2.2) else -1000002) else -1000000
theorem op_212 {w : Int} (hd : 20 ≤ d) (ok : tp_Ok t) (ou : tp_Ou u) (hR : RwB rs rx) (hN : N ≤ tp_T t) (J : JM h m t u ft tn tb N rs rx la sz ce to) (hw : jb w) (q : ∀ h', JM h' m t u ft tn tb N rs rx la sz ce to → MFr m h h' → Q (some (.int (jI (an_came t u rs N w)))) h') : Ct E d 212 [.ref m, .int (jI w)] h Q := by
  obtain ⟨d, rfl⟩ : ∃ n, d = n + 1 := ⟨d - 1, by omega⟩
  have hT := ok.T
  have g1 : fz_135 E h (jI w).toInt64 0 1 = 0 ↔ ¬ (0 ≤ w ∧ w ≤ 1) := f135 (a := 0) (b := 1) hw.1 hw.2 (by omega) (by omega) (by omega) (by omega)
  have e0 : jI w = 0 ↔ w = 0 := by rw [show (0 : Int32) = jI 0 from rfl, jI_eq hw.1 hw.2 (by omega) (by omega)]
  have e1 : jI w = 1 ↔ w = 1 := by rw [show (1 : Int32) = jI 1 from rfl, jI_eq hw.1 hw.2 (by omega) (by omega)]
  refine ok_212 ⟨by omega, trivial, fun c => ?_, fun c => ?_⟩
  · rw [g1, Classical.not_not] at c
    unfold an_came at q
    rw [if_pos c] at q
    have main : N = tp_T t → (w = 0 ∨ tp_T t ≤ 13) → Ct E d 211 [.ref m] h (fun v h2 => v = none ∧ ((¬ jI w = 0 → (∃ mm : Nat, wl_212_37 E d Q mm m 0 0 0 h2)) ∧ (¬ (¬ jI w = 0) → (ztag h2 m = 11 ∧ ∃ r19 : Nat, zR h2 m 47 = r19 + 1 ∧ (ztag h2 r19 = 13 ∨ ztag h2 r19 = 19) ∧ zin 0 (zlen h2 r19) = true ∧ Q (some (.int (zI h2 r19 0))) h2)))) := fun eN c13 => by
      rw [if_pos ⟨eN, c13⟩] at q
      refine ct_211 (by omega) ok ou hR J.P J.R eN (fun h2 F2 T2 => ?_)
      have J2 := J.fr F2 (fun a i e => by unfold tp_Sq tp_Sw at e; omega)
      have C2 : MFr m h h2 := F2.mf (fun a i e => by unfold tp_Sq tp_Sw at e; omega)
      refine ⟨rfl, fun cw => ⟨tp_T t + 1, ?_⟩, fun cw => ⟨J2.P.1.1, m + 21, J2.P.1.a47.1, J2.P.1.a47.ti, J2.P.1.a47.inc (by decide), ?_⟩⟩
      · rw [e0] at cw
        rw [if_neg cw] at q
        exact l212 (by omega) ok ou hR J2.P J2.R eN T2 (fun h3 F3 => q h3 (J2.fr F3 (fun a i e => by unfold tp_Sw at e; omega)) (C2.tr (F3.mf (fun a i e => by unfold tp_Sw at e; omega)))) (tp_T t) 0 h2 (by omega) Fr.rf
      · rw [e0, Classical.not_not] at cw
        rw [if_pos cw] at q
        have := T2 0 (by omega) 0 0 0 (by omega) (by omega) (by omega)
        rw [show cm_at 0 0 0 0 = 0 from rfl, Nat.sub_zero] at this
        rw [this]
        exact q h2 J2 C2
    refine ⟨J.P.1.1, by omega, sz152 J.P, ?_⟩
    rw [J.R.1, fz152 J.P, jI_ltn (by omega) (by omega)]
    refine ⟨fun cN => ?_, fun cN => ⟨fun c1 => main (by omega) ?_, fun c1 => ?_⟩⟩
    · rw [if_neg (by omega)] at q
      exact q h J MFr.rf
    · rw [e1] at c1; omega
    · rw [show (13 : Int32) = jI ((13 : Nat) : Int) from rfl, jI_len (by omega) (by omega)]
      rw [e1, Classical.not_not] at c1
      refine ⟨fun c13 => main (by omega) (by omega), fun c13 => ?_⟩
      rw [if_neg (by omega)] at q
      exact q h J MFr.rf
  · rw [g1] at c
    have := q h J MFr.rf
    unfold an_came at this
    rw [if_neg (by omega)] at this
    exact this
theorem op_113 {w : Int} (hd : 60 ≤ d) (ok : tp_Ok t) (ou : tp_Ou u) (hR : RwB rs rx) (hN : N ≤ tp_T t) (J : JC E h x zs zt g t u ft tn tb N rs rx la sz ce to) (hg : g + 50 < 1000000) (hw : jb w) (q : ∀ h', JC E h' x zs zt (g + 2) t u ft tn tb N rs rx la sz ce to → CFr x h h' → Q (some (.int (jI (an_came t u rs N w)))) h') : Ct E d 113 [.ref x, .int (jI w)] h Q := by
  obtain ⟨d, rfl⟩ : ∃ n, d = n + 1 := ⟨d - 1, by omega⟩
  have hT := ok.T
  have e0 : jI w = 0 ↔ w = 0 := by rw [show (0 : Int32) = jI 0 from rfl, jI_eq hw.1 hw.2 (by omega) (by omega)]
  have e1 : jI w = 1 ↔ w = 1 := by rw [show (1 : Int32) = jI 1 from rfl, jI_eq hw.1 hw.2 (by omega) (by omega)]
  refine ok_113 ⟨by omega, trivial, fun c => ?_, fun c => ?_⟩
  · rw [f123 hw, Classical.not_not] at c
    unfold an_came at q
    rw [if_pos c] at q
    have main : N = tp_T t → (w = 0 ∨ tp_T t ≤ 13) → ∃ r7 : Nat, zR h x 6 = r7 + 1 ∧ ztag h r7 = 1 ∧ Ct E d 22 [.ref r7] h (fun v h9 => v = none ∧ (((¬ jI w = 0 → (ztag h9 x = 10 ∧ ¬ zR h9 x 6 = 0 ∧ ztag h9 (zR h9 x 6 - 1) = 1 ∧ True)) ∧ (¬ (¬ jI w = 0) → (ztag h9 x = 10 ∧ ¬ zR h9 x 6 = 0 ∧ ztag h9 (zR h9 x 6 - 1) = 1 ∧ True))) ∧ Q (some (.int (if ¬ jI w = 0 then zI h9 (zR h9 x 6 - 1) 19 else zI h9 (zR h9 x 6 - 1) 18))) h9)) := fun eN c13 => by
      rw [if_pos ⟨eN, c13⟩] at q
      refine ⟨x + 24, J.X.r6, J.X.t24, ct_22 (by omega) ok ou (fun d => (hR d).1) J.X J.P (fun k hk => (J.R.2.2 k (by omega)).1) (by omega) J.F (fun h9 F9 c10 V9 => ⟨rfl, ?_⟩)⟩
      have J9 := J.fv V9 F9
      have q := q h9 J9 V9.cf
      have M : FgM h9 x t u rs := by
        obtain ⟨_, _, _, _, _, _, _, _, K⟩ := F9
        exact K.2.2.2.1 c10
      have e6 : zR h9 x 6 - 1 = x + 24 := by rw [J9.X.r6]; rfl
      have n6 : ¬ zR h9 x 6 = 0 := by rw [J9.X.r6]; omega
      rw [e6]
      refine ⟨⟨fun _ => ⟨J9.X.t0, n6, J9.X.t24, trivial⟩, fun _ => ⟨J9.X.t0, n6, J9.X.t24, trivial⟩⟩, ?_⟩
      by_cases cw : w = 0
      · rw [if_pos cw] at q
        rw [if_neg (fun q => q (e0.mpr cw)), M.1, (tp_CW ok u rs (tp_T t)).1 0 0 0 0 0 (by omega), Int.mul_ediv_cancel_left _ (by have : (0 : Int) < 4 ^ tp_T t := Int.pow_pos (by omega); omega)]
        exact q
      · rw [if_neg cw] at q
        rw [if_pos (fun q => cw (e0.mp q)), M.2 (by omega)]
        exact q
    refine ⟨J.X.t0, x + 18, J.X.r3, J.X.s18.1, x + 1, J.X.r0, J.P.1.1.1, fun x6 ex6 => ?_⟩
    have g6 : x6 = 0 ↔ ¬ N = tp_T t := by
      rw [ex6, J.R.2.1, J.P.2.2.2.2.2]
      by_cases cN : N = tp_T t
      · rw [if_neg (by rw [cN]; exact fun q => q rfl), j10]
        exact ⟨fun q => q.elim, fun q => q cN⟩
      · rw [if_pos (by rw [jI_eqn (by omega) (by omega)]; exact cN)]
        exact ⟨fun _ => cN, fun _ => rfl⟩
    refine ⟨fun c6 => ?_, fun c6 => ⟨fun c1 => main ?_ ?_, fun c1 => ?_⟩⟩
    · rw [g6] at c6
      rw [if_neg (by omega)] at q
      exact q h (J.mono (by omega)) CFr.rf
    · rw [g6] at c6; omega
    · rw [e1] at c1; omega
    · rw [g6, Classical.not_not] at c6
      rw [e1, Classical.not_not] at c1
      rw [J.P.2.2.2.2.2, show (13 : Int32) = jI ((13 : Nat) : Int) from rfl, jI_len (by omega) (by omega)]
      refine ⟨fun c13 => main c6 (by omega), fun c13 => ?_⟩
      rw [if_neg (by omega)] at q
      exact q h (J.mono (by omega)) CFr.rf
  · rw [f123 hw] at c
    have := q h (J.mono (by omega)) CFr.rf
    unfold an_came at this
    rw [if_neg (by omega)] at this
    exact this
end OPM
