/-! THE CALLS: best, worth, worthOf, whole, units -/
section OPE
variable {E : Nat → Nat} {h : ZH} {x m zs zt g tn N d : Nat} {t u rs rx : Nat → Nat} {ft to : Int32} {tb : Nat → Int32} {la sz : Nat → Int} {ce : Nat → Nat → Int32} {Q : Option Value → ZH → Prop}
theorem Fg16 {rb rt rp gb gt b ac gb' : Nat} {h1 : ZH} (F : FgK h x rb rt rp gb t u rs) (hb : x + 70 ≤ b) (hg1 : gb' ≤ g) (hg2 : gt ≤ g) (R1 : Rm h1 x zs zt (b + 1) rt rp gb' gt) (A1 : BAl h1 b (x + 1) ac gb' t u (tp_pr t)) (y : Ag (fun a => a ≠ x + 24 ∧ (a < b ∨ b + 26 < a)) h h1) (X1 : FxI x h h1) : Fg h1 x zs zt g t u rs := by
  obtain ⟨f7, f8, f9, f10, fl⟩ := F
  refine ⟨b + 1, rt, rp, gb', gt, hg1, hg2, R1, fun _ => ⟨b, ac, rfl, A1⟩, fun q => ?_, fun q => ?_, fun q => ?_, fun w hw q => ?_⟩
  · rw [X1.2.1 8 (by omega)] at q
    obtain ⟨e1, e2, e3, e4⟩ := f8 q
    exact ⟨e1, e2, by rw [y.L ⟨by omega, by omega⟩]; exact e3, fun j hj => by rw [y.L ⟨by omega, by omega⟩]; exact e4 j hj⟩
  · rw [X1.2.1 9 (by omega)] at q
    obtain ⟨e1, e2⟩ := f9 q
    refine ⟨by rw [X1.2.1 14 (by omega)]; exact e1, fun c => ?_⟩
    obtain ⟨e3, e4, e5⟩ := e2 c
    exact ⟨by rw [X1.2.1 15 (by omega)]; exact e3, by rw [X1.2.1 16 (by omega)]; exact e4, by rw [X1.2.2.1]; exact e5⟩
  · rw [X1.2.1 10 (by omega)] at q
    obtain ⟨e1, e2⟩ := f10 q
    exact ⟨by rw [X1.2.1 18 (by omega)]; exact e1, fun c => by rw [X1.2.1 19 (by omega)]; exact e2 c⟩
  · rw [y.I ⟨by omega, by omega⟩] at q
    obtain ⟨e1, e2⟩ := fl w hw q
    exact ⟨by rw [y.L ⟨by omega, by omega⟩]; exact e1, by rw [y.L ⟨by omega, by omega⟩]; exact e2⟩
theorem op_16 {dd c n k : Nat} (hd : 41 ≤ d) (ok : tp_Ok t) (ou : tp_Ou u) (J : JC E h x zs zt g t u ft tn tb N rs rx la sz ce to) (hg : g + 3 < 1000000) (hdd : dd < tp_T t) (hc : c ≤ 20) (hn : n ≤ 12) (hk : k ≤ 8) (kQ : ∀ h' b ac gb, x + 70 ≤ b → BAl h' b (x + 1) ac gb t u (tp_pr t) → tp_V ac c n k → BSd h' b dd c n k → JC E h' x zs zt (g + 2) t u ft tn tb N rs rx la sz ce to → CFr x h h' → (∀ h2, Fr (tp_S12 b dd) h' h2 → JC E h2 x zs zt (g + 2) t u ft tn tb N rs rx la sz ce to ∧ CFr x h' h2) → zR h' (x + 24) 4 = b + 1 → Q (some (.ref b)) h') : Ct E d 16 [.ref (x + 24), .int (jI (dd : Int)), .int (jI (c : Int)), .int (jI (n : Int)), .int (jI (k : Int))] h Q := by
  have hT := ok.T
  obtain ⟨rb, rt, rp, gb, gt, g1, g2, R, K⟩ := J.F
  refine ct_16 hd ok ou J.X J.P (by omega) hdd hc hn hk R K.1 (fun h' b ac gb' hgb R' A' V' D' y' X' f' => ?_)
  have hb := (R'.2.1 b rfl).1
  have mk : ∀ h2, Rm h2 x zs zt (b + 1) rt rp gb' gt → BAl h2 b (x + 1) ac gb' t u (tp_pr t) → Ag (fun a => a ≠ x + 24 ∧ (a < b ∨ b + 26 < a)) h h2 → FxI x h h2 → JC E h2 x zs zt (g + 2) t u ft tn tb N rs rx la sz ce to := fun h2 R2 A2 y2 X2 => by
    have V : FvA x h h2 := ⟨y2.wk (fun a ha => ⟨by omega, by omega⟩), J.X.ax (y2.wk (fun a ha => ⟨by omega, by omega⟩)) ⟨X2.1, X2.2.2.2⟩⟩
    exact J.fv V (Fg16 K hb (by omega) (by omega) R2 A2 y2 X2)
  refine kQ h' b ac gb' hb A' V' D' (mk h' R' A' y' X') (y'.wk (fun a ha => ⟨by omega, by omega⟩)) (fun h2 F2 => ⟨?_, F2.ag (fun a i ha => by unfold tp_S12; omega)⟩) R'.1.1
  have yb : Ag (fun a => a < b ∨ b + 26 < a) h' h2 := F2.ag (fun a i ha => by unfold tp_S12; omega)
  have A2 : BAl h2 b (x + 1) ac gb' t u (tp_pr t) := A'.frR (F2.R (Z := fun _ _ => False)) (fun _ _ _ _ q => q) (fun a j q => by unfold tp_S12; omega)
  refine mk h2 ?_ A2 (y'.tr (yb.wk (fun a ha => ha.2))) (X'.tr (FxI.ag (yb.wk (fun a ha => Or.inl (by omega)))))
  obtain ⟨⟨r4, r5, r6⟩, B, T, S, ⟨a1, a2, a3⟩, z0, z1, z2⟩ := R'
  refine ⟨⟨by rw [F2.rr]; exact r4, by rw [F2.rr]; exact r5, by rw [F2.rr]; exact r6⟩, fun b' e => ?_, fun b' e => ?_, fun b' e => ?_, ⟨a1, a2, a3⟩, by rw [F2.sz]; exact z0, by rw [F2.sz]; exact z1, by unfold ztot at z2 ⊢; rw [F2.1]; exact z2⟩
  · have eb : b' = b := by omega
    subst eb
    exact ⟨hb, by rw [F2.sz]; exact (B b' rfl).2.1, A2.md⟩
  · obtain ⟨q1, q2, q3⟩ := T b' e
    have c1 := a1 b b' rfl e
    exact ⟨q1, by rw [F2.sz]; exact q2, q3.ag (yb.wk (fun a ha => by unfold Rg at ha; omega))⟩
  · obtain ⟨q1, q2, q3⟩ := S b' e
    have c1 := a2 b b' rfl e
    exact ⟨q1, by rw [F2.sz]; exact q2, q3.ag (yb.wk (fun a ha => by unfold Rg at ha; omega))⟩
def an_best (t u : Nat → Nat) (z c n k s : Int) : Int := if tp_pl t z c n k s then (tp_B t u (tp_pr t) (tp_T t - (z.toNat + 1)) z.toNat c.toNat n.toNat k.toNat s.toNat : Int) else -1
theorem op_100 {z c n k s : Int} (hd : 50 ≤ d) (ok : tp_Ok t) (ou : tp_Ou u) (J : JC E h x zs zt g t u ft tn tb N rs rx la sz ce to) (hg : g + 3 < 1000000) (hz : jb z) (hc : jb c) (hn : jb n) (hk : jb k) (hs : jb s) (q : ∀ h', JC E h' x zs zt (g + 2) t u ft tn tb N rs rx la sz ce to → CFr x h h' → Q (some (.int (jI (an_best t u z c n k s)))) h') : Ct E d 100 [.ref x, .int (jI z), .int (jI c), .int (jI n), .int (jI k), .int (jI s)] h Q := by
  obtain ⟨d, rfl⟩ : ∃ n, d = n + 1 := ⟨d - 1, by omega⟩
  have f := f127 (E := E) ok J.X J.P hz hc hn hk hs
  unfold an_best at q
  refine ok_100 ⟨J.X.t0, by omega, s127 (a1 := 0) J.X J.P, fun c2 => ?_, fun c2 => ?_⟩
  · rw [f, Classical.not_not] at c2
    rw [if_pos c2] at q
    obtain ⟨z, c, n, k, s, rfl, rfl, rfl, rfl, rfl, b1, b2, b3, b4, b5⟩ := pl_nat c2
    simp only [Int.toNat_natCast] at q
    refine ⟨x + 24, J.X.r6, J.X.t24, op_16 (by omega) ok ou J hg b1 b2 b3 b4 (fun h' b ac gb hb A V D J' C' kp _ => ⟨b, rfl, A.1.1, ct_12 ok ou (tp_pr_ok ok) (by omega) b1 (by omega) J'.P A.1 A.2.1 A.2.2.1 V D b5 (fun h7 F7 w7 => ⟨_, rfl, q h7 (kp h7 F7).1 (C'.tr (kp h7 F7).2)⟩)⟩)⟩
  · rw [f] at c2
    rw [if_neg (fun q => c2 (fun r => r q))] at q
    exact q h (J.mono (by omega)) CFr.rf
theorem op_183 {z c n k s : Int} (hd : 20 ≤ d) (ok : tp_Ok t) (ou : tp_Ou u) (J : JM h m t u ft tn tb N rs rx la sz ce to) (hz : jb z) (hc : jb c) (hn : jb n) (hk : jb k) (hs : jb s) (q : ∀ h', JM h' m t u ft tn tb N rs rx la sz ce to → MFr m h h' → Q (some (.int (jI (an_best t u z c n k s)))) h') : Ct E d 183 [.ref m, .int (jI z), .int (jI c), .int (jI n), .int (jI k), .int (jI s)] h Q := by
  obtain ⟨d, rfl⟩ : ∃ n, d = n + 1 := ⟨d - 1, by omega⟩
  have f := f169 (E := E) ok J.P hz hc hn hk hs
  have hT := ok.T
  unfold an_best at q
  refine ok_183 ⟨J.P.1.1, by omega, s169 J.P, fun c2 => ?_, fun c2 => ?_⟩
  · rw [f, Classical.not_not] at c2
    rw [if_pos c2] at q
    obtain ⟨z, c, n, k, s, rfl, rfl, rfl, rfl, rfl, b1, b2, b3, b4, b5⟩ := pl_nat c2
    simp only [Int.toNat_natCast] at q
    refine ct_182 (by omega) ok ou J.P J.L (fun h2 F2 L2 n2 => ?_)
    have J2 := J.ld F2 (fun a i e => by unfold tp_Sl tp_Sw at e; omega) L2
    have lt := tp_at_lt (dd := z) (by omega) b2 b3 b4 b5
    have := L2 z c n k s (by omega) b1 b2 b3 b4 b5
    refine ⟨rfl, J2.P.1.1, m + 12, J2.P.1.a28.1, by omega, trivial, J2.P.1.a28.ti, ?_, ?_⟩
    · rw [fz175]; exact J2.P.1.a28.inn lt (by omega)
    · rw [fz175, jI_cln (by omega), this.2]
      exact q h2 J2 (F2.mf (fun a i e => by unfold tp_Sl tp_Sw at e; omega))
  · rw [f] at c2
    rw [if_neg (fun q => c2 (fun r => r q))] at q
    exact q h J MFr.rf
/-! fractions -/
def an_fr (w : Int) (dy : Nat) (v : Int) : Int64 := if w = 0 then jL (tp_nu (2 * dy) v) else jL (2 ^ tp_de (2 * dy) v)
theorem f123 {w : Int} (hw : jb w) : fz_123 E h (jI w) = 0 ↔ ¬ (0 ≤ w ∧ w ≤ 1) := by
  have e0 : jI w = 0 ↔ w = 0 := by rw [show (0 : Int32) = jI 0 from rfl, jI_eq hw.1 hw.2 (by omega) (by omega)]
  have e1 : jI w = 1 ↔ w = 1 := by rw [show (1 : Int32) = jI 1 from rfl, jI_eq hw.1 hw.2 (by omega) (by omega)]
  unfold fz_123
  by_cases c0 : w = 0
  · rw [if_pos (e0.mpr c0), j10]
    constructor
    · intro q; exact q.elim
    · intro q; omega
  · rw [if_neg (fun q => c0 (e0.mp q)), j0c, e1, j10, or_false]
    omega
theorem ct_128' {w : Int} {dy : Nat} {v : Int} (hd : 1 ≤ d) (hw : 0 ≤ w ∧ w ≤ 1) (hdy : dy ≤ 20) (h1 : -5629499534213120000 ≤ v) (h2 : v ≤ 5629499534213120000) (q : Q (some (.long (an_fr w dy v))) h) : Ct E d 128 [.long (jL v), .int (jI (dy : Int)), .int (jI w)] h Q := by
  obtain ⟨w, rfl⟩ := Int.eq_ofNat_of_zero_le hw.1
  refine ct_128 hd (by omega) hdy (by omega) (by omega) ?_
  unfold an_fr at q
  by_cases c : w = 0
  · subst c; exact q
  · rw [if_neg (by omega)] at q
    rw [if_neg c]
    exact q
theorem ct_184' {w : Int} {n : Nat} {v : Int} (hd : 1 ≤ d) (hw : 0 ≤ w ∧ w ≤ 1) (hn : n ≤ 40) (h1 : -5629499534213120000 ≤ v) (h2 : v ≤ 5629499534213120000) (q : Q (some (.long (if w = 0 then jL (tp_nu n v) else jL (2 ^ tp_de n v)))) h) : Ct E d 184 [.long (jL v), .long (jL (2 ^ n)), .int (jI w)] h Q := by
  obtain ⟨w, rfl⟩ := Int.eq_ofNat_of_zero_le hw.1
  refine ct_184 hd (by omega) hn (by omega) (by omega) ?_
  by_cases c : w = 0
  · subst c; exact q
  · rw [if_neg (by omega)] at q
    rw [if_neg c]
    exact q
theorem an_fr_m (ok : tp_Ok t) {w : Int} {dy : Nat} (hdy : 1 ≤ dy) (v : Int) : an_fr w dy (tp_f t * v) = if w = 0 then jL (tp_nu (2 * (dy - 1 + t 12)) v) else jL (2 ^ tp_de (2 * (dy - 1 + t 12)) v) := by
  have h12 : t 12 ≤ 1 := ok.2.2.2.2.2.2.2.2.2.2.2.1
  unfold an_fr tp_f
  by_cases c : t 12 = 0
  · rw [if_pos c, c, show 2 * dy = 2 * (dy - 1 + 0) + 2 by omega, (tp_nu_4 _ _).1, (tp_nu_4 _ _).2]
  · have c1 : t 12 = 1 := by omega
    rw [if_neg c, c1, Int.one_mul, show dy - 1 + 1 = dy by omega]
theorem s180 {y : Int32} (P : MPg h m t u) : sz_180 E h m y := ⟨P.1.1, sz152 P, m + 8, P.1.a15.1, P.1.a15.ti, P.1.a15.inc (by decide), trivial, trivial⟩
theorem jp42 (n : Nat) : (4 : Int) ^ n = 2 ^ (2 * n) := by
  rw [Int.pow_mul]
  rfl
theorem f180 {dd : Nat} (ok : tp_Ok t) (P : MPg h m t u) (hd : dd < tp_T t) : fz_180 E h m (jI (dd : Int)) = jL (2 ^ (2 * (tp_T t - dd - 1 + t 12))) := by
  have hT := ok.T
  have h12 : t 12 ≤ 1 := ok.2.2.2.2.2.2.2.2.2.2.2.1
  show fz_176 E h ((((fz_152 E h m) - 1) - jI (dd : Int)) + (zI h (zR h m 15 - 1) 12)) = _
  rw [fz152 P, P.1.a15.sub, P.2.1 12 (by omega), show (1 : Int32) = jI 1 from rfl, jI_sub, jI_sub, jI_add, show (tp_T t : Int) - 1 - (dd : Int) + (t 12 : Int) = ((tp_T t - dd - 1 + t 12 : Nat) : Int) by omega, fz176 (by omega), jp42]
def an_worth (t u : Nat → Nat) (z c n k s w : Int) : Int64 := if tp_pl t z c n k s ∧ (0 ≤ w ∧ w ≤ 1) then an_fr w (tp_T t - z.toNat) (tp_W t u (tp_pr t) (tp_T t - z.toNat) z.toNat c.toNat n.toNat k.toNat s.toNat) else -9000000000000000001
theorem W_bd (ok : tp_Ok t) (u : Nat → Nat) {n d c m k s : Nat} (hn : n ≤ 20) (hs : s < 3) : -2814749767106560000 ≤ tp_W t u (tp_pr t) n d c m k s ∧ tp_W t u (tp_pr t) n d c m k s ≤ 2814749767106560000 := by
  have := tp_W_bd ok u (tp_pr_ok ok) n d c m k s hs
  have hb := tp_bd_le hn
  omega
theorem f_cases (t : Nat → Nat) : tp_f t = 4 ∨ tp_f t = 1 := by unfold tp_f; split <;> simp
theorem op_101 {z c n k s w : Int} (hd : 50 ≤ d) (ok : tp_Ok t) (ou : tp_Ou u) (J : JC E h x zs zt g t u ft tn tb N rs rx la sz ce to) (hg : g + 3 < 1000000) (hz : jb z) (hc : jb c) (hn : jb n) (hk : jb k) (hs : jb s) (hw : jb w) (q : ∀ h', JC E h' x zs zt (g + 2) t u ft tn tb N rs rx la sz ce to → CFr x h h' → Q (some (.long (an_worth t u z c n k s w))) h') : Ct E d 101 [.ref x, .int (jI z), .int (jI c), .int (jI n), .int (jI k), .int (jI s), .int (jI w)] h Q := by
  obtain ⟨d, rfl⟩ : ∃ n, d = n + 1 := ⟨d - 1, by omega⟩
  have f := f127 (E := E) ok J.X J.P hz hc hn hk hs
  have hT := ok.T
  unfold an_worth at q
  refine ok_101 ⟨J.X.t0, by omega, s127 (a1 := 0) J.X J.P, fun c2 => ?_, fun c2 => ⟨by omega, trivial, fun c3 => ?_, fun c3 => ?_⟩⟩
  · rw [f] at c2
    rw [if_neg (fun q => c2 q.1)] at q
    exact q h (J.mono (by omega)) CFr.rf
  · rw [f, Classical.not_not] at c2
    rw [f123 hw, Classical.not_not] at c3
    rw [if_pos ⟨c2, c3⟩] at q
    obtain ⟨z, c, n, k, s, rfl, rfl, rfl, rfl, rfl, b1, b2, b3, b4, b5⟩ := pl_nat c2
    simp only [Int.toNat_natCast] at q
    refine ⟨x + 24, J.X.r6, J.X.t24, op_16 (by omega) ok ou J hg b1 b2 b3 b4 (fun h' b ac gb hb A V D J' C' kp _ => ⟨b, rfl, A.1.1, ct_12 ok ou (tp_pr_ok ok) (by omega) b1 (by omega) J'.P A.1 A.2.1 A.2.2.1 V D b5 (fun h7 F7 w7 => ?_)⟩)⟩
    obtain ⟨J7, C7⟩ := kp h7 F7
    refine ⟨_, rfl, by rw [F7.tg]; exact A.1.1, J7.X.t0, x + 1, J7.X.r0, J7.P.1.1.1, ?_⟩
    have bd := W_bd ok u (n := tp_T t - z) (d := z) (c := c) (m := n) (k := k) (s := s) (by omega) b5
    rw [w7, J7.P.2.2.2.2.2, jI_sub, show (tp_T t : Int) - (z : Int) = ((tp_T t - z : Nat) : Int) by omega]
    exact ct_128' (by omega) c3 (by omega) (by omega) (by omega) ⟨_, rfl, q h7 J7 (C'.tr C7)⟩
  · rw [f123 hw] at c3
    rw [if_neg (fun q => c3 (fun r => r q.2))] at q
    exact q h (J.mono (by omega)) CFr.rf
theorem op_185 {z c n k s w : Int} (hd : 20 ≤ d) (ok : tp_Ok t) (ou : tp_Ou u) (J : JM h m t u ft tn tb N rs rx la sz ce to) (hz : jb z) (hc : jb c) (hn : jb n) (hk : jb k) (hs : jb s) (hw : jb w) (q : ∀ h', JM h' m t u ft tn tb N rs rx la sz ce to → MFr m h h' → Q (some (.long (an_worth t u z c n k s w))) h') : Ct E d 185 [.ref m, .int (jI z), .int (jI c), .int (jI n), .int (jI k), .int (jI s), .int (jI w)] h Q := by
  obtain ⟨d, rfl⟩ : ∃ n, d = n + 1 := ⟨d - 1, by omega⟩
  have f := f169 (E := E) ok J.P hz hc hn hk hs
  have hT := ok.T
  have h12 : t 12 ≤ 1 := ok.2.2.2.2.2.2.2.2.2.2.2.1
  have g2 : fz_135 E h (jI w).toInt64 0 1 = 0 ↔ ¬ (0 ≤ w ∧ w ≤ 1) := f135 (a := 0) (b := 1) hw.1 hw.2 (by omega) (by omega) (by omega) (by omega)
  unfold an_worth at q
  refine ok_185 ⟨J.P.1.1, by omega, s169 J.P, fun c2 => ?_, fun c2 => ⟨by omega, trivial, fun c3 => ?_, fun c3 => ?_⟩⟩
  · rw [f] at c2
    rw [if_neg (fun q => c2 q.1)] at q
    exact q h J MFr.rf
  · rw [f, Classical.not_not] at c2
    rw [g2, Classical.not_not] at c3
    rw [if_pos ⟨c2, c3⟩] at q
    obtain ⟨z, c, n, k, s, rfl, rfl, rfl, rfl, rfl, b1, b2, b3, b4, b5⟩ := pl_nat c2
    simp only [Int.toNat_natCast] at q
    refine ct_182 (by omega) ok ou J.P J.L (fun h2 F2 L2 n2 => ?_)
    have J2 := J.ld F2 (fun a i e => by unfold tp_Sl tp_Sw at e; omega) L2
    have lt := tp_at_lt (dd := z) (by omega) b2 b3 b4 b5
    have hL := L2 z c n k s (by omega) b1 b2 b3 b4 b5
    have bd := W_bd ok u (n := tp_T t - z) (d := z) (c := c) (m := n) (k := k) (s := s) (by omega) b5
    have eW := (tp_WX ok u (tp_T t - z)).1 z c n k s b5
    have q := q h2 J2 (F2.mf (fun a i e => by unfold tp_Sl tp_Sw at e; omega))
    rw [eW, an_fr_m ok (by omega)] at q
    rw [eW] at bd
    refine ⟨rfl, J2.P.1.1, m + 11, J2.P.1.a27.1, by omega, trivial, J2.P.1.a27.tg, ?_, by omega, s180 J2.P, ?_⟩
    · rw [fz175]; exact J2.P.1.a27.inn lt (by omega)
    · rw [fz175, jI_cln (by omega), hL.1, f180 ok J2.P b1]
      refine ct_184' (by omega) c3 (by omega) ?_ ?_ ⟨_, rfl, q⟩
      all_goals
        rcases f_cases t with e | e <;> rw [e] at bd <;> omega
  · rw [g2] at c3
    rw [if_neg (fun q => c3 (fun r => r q.2))] at q
    exact q h J MFr.rf
end OPE
