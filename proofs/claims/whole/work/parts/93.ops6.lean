/-! THE CALLS: worthOf, whole, units, without -/
section OPF
variable {E : Nat → Nat} {h : ZH} {x m zs zt g tn N d : Nat} {t u rs rx : Nat → Nat} {ft to : Int32} {tb : Nat → Int32} {la sz : Nat → Int} {ce : Nat → Nat → Int32} {Q : Option Value → ZH → Prop}
def an_wof (t u : Nat → Nat) (z c n k s y w : Int) : Int64 := if tp_pl t z c n k s ∧ (0 ≤ y ∧ y ≤ 4) ∧ (0 ≤ w ∧ w ≤ 1) then (if tp_lo t u z.toNat ≤ y.toNat ∧ y.toNat ≤ tp_hi t u z.toNat then an_fr w (tp_T t - z.toNat) (tp_X t u (tp_pr t) (tp_T t - (z.toNat + 1)) z.toNat c.toNat n.toNat k.toNat s.toNat y.toNat) else -9000000000000000002) else -9000000000000000001
theorem op_102 {z c n k s y w : Int} (hd : 50 ≤ d) (ok : tp_Ok t) (ou : tp_Ou u) (J : JC E h x zs zt g t u ft tn tb N rs rx la sz ce to) (hg : g + 3 < 1000000) (hz : jb z) (hc : jb c) (hn : jb n) (hk : jb k) (hs : jb s) (hy : jb y) (hw : jb w) (q : ∀ h', JC E h' x zs zt (g + 2) t u ft tn tb N rs rx la sz ce to → CFr x h h' → Q (some (.long (an_wof t u z c n k s y w))) h') : Ct E d 102 [.ref x, .int (jI z), .int (jI c), .int (jI n), .int (jI k), .int (jI s), .int (jI y), .int (jI w)] h Q := by
  obtain ⟨d, rfl⟩ : ∃ n, d = n + 1 := ⟨d - 1, by omega⟩
  have P := J.P
  have hT := ok.T
  have f := f127 (E := E) ok J.X P hz hc hn hk hs
  refine ok_102 ⟨⟨fun _ => trivial, fun _ => ⟨⟨fun _ => trivial, fun _ => ⟨by omega, trivial, trivial⟩⟩, trivial⟩⟩, fun x1 ex1 => ?_⟩
  have g1 : x1 = 0 ↔ ¬ ((0 ≤ y ∧ y ≤ 4) ∧ (0 ≤ w ∧ w ≤ 1)) := by
    rw [ex1]
    show (if jI y < jI 0 then (0 : Int32) else if jI 4 < jI y then 0 else if (fz_123 E h (jI w) : Int32) = 0 then 0 else 1) = 0 ↔ _
    simp only [j0c, j10, or_false, jlt hy 0 (by omega), f123 hw, jI_lt (show (-2147483648 : Int) ≤ 4 by omega) (by omega) hy.1 hy.2]
    omega
  unfold an_wof at q
  refine ⟨fun c1 => ?_, fun c1 => ⟨J.X.t0, by omega, s127 (a1 := 0) J.X P, fun c2 => ?_, fun c2 => ?_⟩⟩
  · rw [g1] at c1
    rw [if_neg (fun q => c1 q.2)] at q
    exact q h (J.mono (by omega)) CFr.rf
  · rw [g1, Classical.not_not] at c1
    rw [f, Classical.not_not] at c2
    rw [if_pos ⟨c2, c1⟩] at q
    obtain ⟨z, c, n, k, s, rfl, rfl, rfl, rfl, rfl, b1, b2, b3, b4, b5⟩ := pl_nat c2
    obtain ⟨y, rfl⟩ := Int.eq_ofNat_of_zero_le c1.1.1
    simp only [Int.toNat_natCast] at q
    refine ⟨x + 1, J.X.r0, P.1.1.1, by omega, sz46 P.1 (by omega), ?_⟩
    rw [fz46 ok ou P.1 (by omega) (by omega), j01]
    refine ⟨fun c3 => ?_, fun c3 => ?_⟩
    · rw [Classical.not_not] at c3
      rw [if_pos c3] at q
      refine ⟨x + 24, J.X.r6, J.X.t24, op_16 (by omega) ok ou J hg b1 b2 b3 b4 (fun h7 b ac gb hb A V D J7 C7 _ _ => ⟨b, rfl, J7.X.t0, x + 23, J7.X.r5, x + 1, J7.X.r0, J7.X.t23, ct_2526 (by omega) ok J7.P J7.X.t23 b1 b2 b3 b4 (by omega) (fun h13 F13 M13 k26 => ?_)⟩)⟩
      have J13 := J7.mv F13 (fun a i e => by omega)
      refine ⟨J13.X.t0, x + 23, J13.X.r5, x + 1, J13.X.r0, J13.X.t23, k26 _ (fun h18 F18 M18 => ?_)⟩
      have J18 := J7.mv F18 (fun a i e => by omega)
      have A18 : BAl h18 b (x + 1) ac gb t u (tp_pr t) := A.ag (F18.ag (fun a i ha => by unfold Rg at ha; omega))
      have D18 : BSd h18 b z c n k := (BSd.ag (F18.ag (fun a i ha => by unfold Rg at ha; omega))).mpr D
      obtain ⟨s11, e11⟩ := fsz11 (E := E) ok (tp_pr_ok ok) J18.P A18.1 A18.2.1 J18.X.t23 M18 b1 b5 (by omega) b3 b4 (fun h2 => (A18.2.2.1 _ _ _ _ h2 (tp_V_next ok u V) ((A18.2.2.1 _ _ _ _ (by omega) V D18).2 h2 _ c3.1 c3.2)).1 s b5)
      have bd := tp_X_bd ok u (tp_pr_ok ok) (n := tp_T t - (z + 1)) (by omega) z c n k (s := s) (x := y) b5 (by omega)
      refine ⟨J18.X.t0, x + 23, J18.X.r5, A18.1.1, by omega, s11, x + 1, J18.X.r0, J18.P.1.1.1, ?_⟩
      rw [e11, J18.P.2.2.2.2.2, jI_sub, show (tp_T t : Int) - (z : Int) = ((tp_T t - z : Nat) : Int) by omega]
      exact ct_128' (by omega) c1.2 (by omega) (by omega) (by omega) ⟨_, rfl, q h18 J18 (C7.tr (F18.cf (fun a i e => by omega)))⟩
    · rw [Classical.not_not] at c3
      rw [if_neg c3] at q
      exact q h (J.mono (by omega)) CFr.rf
  · rw [f] at c2
    rw [if_neg (fun q => c2 (fun r => r q.1))] at q
    exact q h (J.mono (by omega)) CFr.rf
theorem op_186 {z c n k s y w : Int} (hd : 20 ≤ d) (ok : tp_Ok t) (ou : tp_Ou u) (J : JM h m t u ft tn tb N rs rx la sz ce to) (hz : jb z) (hc : jb c) (hn : jb n) (hk : jb k) (hs : jb s) (hy : jb y) (hw : jb w) (q : ∀ h', JM h' m t u ft tn tb N rs rx la sz ce to → MFr m h h' → Q (some (.long (an_wof t u z c n k s y w))) h') : Ct E d 186 [.ref m, .int (jI z), .int (jI c), .int (jI n), .int (jI k), .int (jI s), .int (jI y), .int (jI w)] h Q := by
  obtain ⟨d, rfl⟩ : ∃ n, d = n + 1 := ⟨d - 1, by omega⟩
  have P := J.P
  have hT := ok.T
  have h12 : t 12 ≤ 1 := ok.2.2.2.2.2.2.2.2.2.2.2.1
  have f := f169 (E := E) ok P hz hc hn hk hs
  have g1 : fz_135 E h (jI y).toInt64 0 4 = 0 ↔ ¬ (0 ≤ y ∧ y ≤ 4) := f135 (a := 0) (b := 4) hy.1 hy.2 (by omega) (by omega) (by omega) (by omega)
  have g2 : fz_135 E h (jI w).toInt64 0 1 = 0 ↔ ¬ (0 ≤ w ∧ w ≤ 1) := f135 (a := 0) (b := 1) hw.1 hw.2 (by omega) (by omega) (by omega) (by omega)
  unfold an_wof at q
  refine ok_186 ⟨P.1.1, by omega, s169 P, fun c1 => ?_, fun c1 => ⟨by omega, trivial, fun c2 => ?_, fun c2 => ⟨by omega, trivial, fun c3 => ?_, fun c3 => ?_⟩⟩⟩
  · rw [f] at c1
    rw [if_neg (fun q => c1 q.1)] at q
    exact q h J MFr.rf
  · rw [g1] at c2
    rw [if_neg (fun q => c2 q.2.1)] at q
    exact q h J MFr.rf
  · rw [f, Classical.not_not] at c1
    rw [g1, Classical.not_not] at c2
    rw [g2, Classical.not_not] at c3
    rw [if_pos ⟨c1, c2, c3⟩] at q
    obtain ⟨z, c, n, k, s, rfl, rfl, rfl, rfl, rfl, b1, b2, b3, b4, b5⟩ := pl_nat c1
    obtain ⟨y, rfl⟩ := Int.eq_ofNat_of_zero_le c2.1
    simp only [Int.toNat_natCast] at q
    refine ⟨by omega, sz163 P (by omega), ?_⟩
    rw [fz163 ok ou P (by omega) (by omega), j01]
    refine ⟨fun c4 => ?_, fun c4 => ?_⟩
    · rw [Classical.not_not] at c4
      rw [if_pos c4] at q
      refine ct_182 (by omega) ok ou J.P J.L (fun h2 F2 L2 n2 => ?_)
      have J2 := J.ld F2 (fun a i e => by unfold tp_Sl tp_Sw at e; omega) L2
      refine ⟨rfl, J2.P.1.1, ct_179 (n := tp_T t - (z + 1)) (by omega) ok ou J2.P (by omega) b2 b3 b4 b5 (by omega) (fun hl => ?_) (fun h4 F4 => ?_)⟩
      · intro c' mm' k' s' e1 e2 e3 e4
        exact (L2 (z + 1) c' mm' k' s' (by omega) hl e1 e2 e3 e4).1
      have J4 := J2.fr F4 (fun a i e => by unfold tp_Sw at e; omega)
      have eX := (tp_WX ok u (tp_T t - (z + 1))).2 z c n k s y b5
      have bd := tp_Xm_bd ok u (n := tp_T t - (z + 1)) (by omega) z c n k (s := s) (x := y) b5 (by omega)
      have q := q h4 J4 ((F2.mf (fun a i e => by unfold tp_Sl tp_Sw at e; omega)).tr (F4.mf (fun a i e => by unfold tp_Sw at e; omega)))
      rw [eX, an_fr_m ok (by omega)] at q
      refine ⟨_, rfl, J4.P.1.1, by omega, s180 J4.P, ?_⟩
      rw [f180 ok J4.P b1]
      exact ct_184' (by omega) c3 (by omega) (by omega) (by omega) ⟨_, rfl, q⟩
    · rw [Classical.not_not] at c4
      rw [if_neg c4] at q
      exact q h J MFr.rf
  · rw [g2] at c3
    rw [if_neg (fun q => c3 (fun r => r q.2.2))] at q
    exact q h J MFr.rf
def an_whole (t u : Nat → Nat) (y w : Int) : Int64 := if (0 ≤ y ∧ y ≤ 1) ∧ (0 ≤ w ∧ w ≤ 1) then an_fr w (tp_T t) (tp_wh t u y.toNat) else -9000000000000000001
theorem FgW.at {y : Nat} (W : FgW h x t u) (hy : y ≤ 1) : zL h (x + 34) y = jL (tp_wh t u y) := by
  have : y = 0 ∨ y = 1 := by omega
  rcases this with e | e <;> subst e
  · exact W.1
  · exact W.2 0 (by omega)
theorem op_18 (hd : 45 ≤ d) (ok : tp_Ok t) (ou : tp_Ou u) (J : JC E h x zs zt g t u ft tn tb N rs rx la sz ce to) (hg : g + 3 < 1000000) (kQ : ∀ h', JC E h' x zs zt (g + 2) t u ft tn tb N rs rx la sz ce to → FgW h' x t u → CFr x h h' → Q none h') : Ct E d 18 [.ref (x + 24)] h Q := by
  refine ct_18 (by omega) ok ou J.X J.P (by omega) J.F (fun h4 F4 c8 W4 => ?_)
  have V4 := W4.v J.X
  refine kQ h4 (J.fv V4 F4) ?_ V4.cf
  obtain ⟨_, _, _, _, _, _, _, _, K⟩ := F4
  exact (K.2.1 c8).2.2
theorem op_103 {y w : Int} (hd : 50 ≤ d) (ok : tp_Ok t) (ou : tp_Ou u) (J : JC E h x zs zt g t u ft tn tb N rs rx la sz ce to) (hg : g + 3 < 1000000) (hy : jb y) (hw : jb w) (q : ∀ h', JC E h' x zs zt (g + 2) t u ft tn tb N rs rx la sz ce to → CFr x h h' → Q (some (.long (an_whole t u y w))) h') : Ct E d 103 [.ref x, .int (jI y), .int (jI w)] h Q := by
  obtain ⟨d, rfl⟩ : ∃ n, d = n + 1 := ⟨d - 1, by omega⟩
  have hT := ok.T
  have l0 := jlt hy 0 (by omega)
  have l1 : jI 1 < jI y ↔ 1 < y := jI_lt (by omega) (by omega) hy.1 hy.2
  unfold an_whole at q
  refine ok_103 ⟨fun c => ?_, fun c => ⟨fun c1 => ?_, fun c1 => ⟨by omega, trivial, fun c2 => ?_, fun c2 => ?_⟩⟩⟩
  · have c := l0.mp c
    rw [if_neg (by omega)] at q
    exact q h (J.mono (by omega)) CFr.rf
  · have c1 := l1.mp c1
    rw [if_neg (by omega)] at q
    exact q h (J.mono (by omega)) CFr.rf
  · have c : ¬ y < 0 := fun r => c (l0.mpr r)
    have c1 : ¬ 1 < y := fun r => c1 (l1.mpr r)
    rw [f123 hw, Classical.not_not] at c2
    rw [if_pos ⟨by omega, c2⟩] at q
    obtain ⟨y, rfl⟩ := Int.eq_ofNat_of_zero_le (show 0 ≤ y by omega)
    simp only [Int.toNat_natCast] at q
    refine ⟨J.X.t0, x + 24, J.X.r6, J.X.t24, op_18 (by omega) ok ou J hg (fun h4 J4 W4 C4 => ⟨rfl, J4.X.t0, x + 24, J4.X.r6, J4.X.t24, x + 34, J4.X.a12.1, J4.X.a12.tg, J4.X.a12.inn (by omega) (by omega), x + 1, J4.X.r0, J4.P.1.1.1, ?_⟩)⟩
    have bd := tp_wh_bd ok u y
    rw [jI_cln (by omega), W4.at (by omega), J4.P.2.2.2.2.2]
    exact ct_128' (by omega) c2 (by omega) (by omega) (by omega) ⟨_, rfl, q h4 J4 C4⟩
  · rw [f123 hw] at c2
    rw [if_neg (fun q => c2 (fun r => r q.2))] at q
    exact q h (J.mono (by omega)) CFr.rf
theorem f176T (ok : tp_Ok t) (P : MPg h m t u) : fz_176 E h (fz_152 E h m) = jL (2 ^ (2 * tp_T t)) := by
  have hT := ok.T
  rw [fz152 P, fz176 (by omega), jp42]
theorem op_191 {y w : Int} (hd : 20 ≤ d) (ok : tp_Ok t) (ou : tp_Ou u) (J : JM h m t u ft tn tb N rs rx la sz ce to) (hy : jb y) (hw : jb w) (q : ∀ h', JM h' m t u ft tn tb N rs rx la sz ce to → MFr m h h' → Q (some (.long (an_whole t u y w))) h') : Ct E d 191 [.ref m, .int (jI y), .int (jI w)] h Q := by
  obtain ⟨d, rfl⟩ : ∃ n, d = n + 1 := ⟨d - 1, by omega⟩
  have hT := ok.T
  have g1 : fz_135 E h (jI y).toInt64 0 1 = 0 ↔ ¬ (0 ≤ y ∧ y ≤ 1) := f135 (a := 0) (b := 1) hy.1 hy.2 (by omega) (by omega) (by omega) (by omega)
  have g2 : fz_135 E h (jI w).toInt64 0 1 = 0 ↔ ¬ (0 ≤ w ∧ w ≤ 1) := f135 (a := 0) (b := 1) hw.1 hw.2 (by omega) (by omega) (by omega) (by omega)
  unfold an_whole at q
  refine ok_191 ⟨by omega, trivial, fun c1 => ?_, fun c1 => ⟨by omega, trivial, fun c2 => ?_, fun c2 => ?_⟩⟩
  · rw [g1] at c1
    rw [if_neg (fun q => c1 q.1)] at q
    exact q h J MFr.rf
  · rw [g2] at c2
    rw [if_neg (fun q => c2 q.2)] at q
    exact q h J MFr.rf
  · rw [g1, Classical.not_not] at c1
    rw [g2, Classical.not_not] at c2
    rw [if_pos ⟨c1, c2⟩] at q
    obtain ⟨y, rfl⟩ := Int.eq_ofNat_of_zero_le c1.1
    simp only [Int.toNat_natCast] at q
    refine ⟨J.P.1.1, ct_190 (by omega) (by omega) ok ou J.P J.L (fun h2 F2 L2 n2 X2 => ?_)⟩
    have J2 := J.ld F2 (fun a i e => by unfold tp_Se tp_Sw at e; omega) L2
    have bd := tp_wh_bd ok u y
    refine ⟨_, rfl, J2.P.1.1, by omega, sz152 J2.P, by omega, trivial, ?_⟩
    rw [f176T ok J2.P]
    exact ct_184' (by omega) c2 (by omega) (by omega) (by omega) ⟨_, rfl, q h2 J2 (F2.mf (fun a i e => by unfold tp_Se tp_Sw at e; omega))⟩
def an_units (t u : Nat → Nat) (y : Int) : Int64 := if 0 ≤ y ∧ y ≤ 5 then an_fr (y % 2) (tp_T t) (tp_F t u (1 + y.toNat / 2) (tp_T t) 0 0 0 0 (t 15)) else -1
theorem op_104 {y : Int} (hd : 50 ≤ d) (ok : tp_Ok t) (ou : tp_Ou u) (J : JC E h x zs zt g t u ft tn tb N rs rx la sz ce to) (hg : g + 3 < 1000000) (hy : jb y) (q : ∀ h', JC E h' x zs zt (g + 2) t u ft tn tb N rs rx la sz ce to → CFr x h h' → Q (some (.long (an_units t u y))) h') : Ct E d 104 [.ref x, .int (jI y)] h Q := by
  obtain ⟨d, rfl⟩ : ∃ n, d = n + 1 := ⟨d - 1, by omega⟩
  have hT := ok.T
  have l0 := jlt hy 0 (by omega)
  have l1 : jI y ≤ jI 5 ↔ y ≤ 5 := jI_le hy.1 hy.2 (by omega) (by omega)
  unfold an_units at q
  refine ok_104 ⟨fun c => ?_, fun c => ⟨fun c1 => ?_, fun c1 => ?_⟩⟩
  · have c := l0.mp c
    rw [if_neg (by omega)] at q
    exact q h (J.mono (by omega)) CFr.rf
  · have c : ¬ y < 0 := fun r => c (l0.mpr r)
    have c1 := l1.mp c1
    rw [if_pos (by omega)] at q
    obtain ⟨y, rfl⟩ := Int.eq_ofNat_of_zero_le (show 0 ≤ y by omega)
    simp only [Int.toNat_natCast] at q
    have e1 : (2 + jI (y : Int) / 2 : Int32) = jI ((2 + y / 2 : Nat) : Int) := by
      rw [show (2 : Int32) = jI ((2 : Nat) : Int) from rfl, jI_div (by omega) (by omega) (by omega), jI_add]; rfl
    have e2 : (jI (y : Int) - jI (y : Int) / 2 * 2 : Int32) = jI ((y : Int) % 2) := by
      have := jI_rem (a := y) (b := 2) (by omega) (by omega) (by omega)
      exact this.trans (by congr 1)
    refine ⟨J.X.t0, x + 24, J.X.r6, J.X.t24, op_18 (by omega) ok ou J hg (fun h4 J4 W4 C4 => ⟨rfl, J4.X.t0, x + 24, J4.X.r6, J4.X.t24, x + 34, J4.X.a12.1, J4.X.a12.tg, by rw [e1]; exact J4.X.a12.inn (by omega) (by omega), x + 1, J4.X.r0, J4.P.1.1.1, ?_⟩)⟩
    have bd := tp_Fv_bd ok u (1 + y / 2)
    rw [e1, e2, jI_cln (by omega), show 2 + y / 2 = 1 + (1 + y / 2) by omega, W4.2 (1 + y / 2) (by omega), J4.P.2.2.2.2.2]
    exact ct_128' (by omega) (by omega) (by omega) (by omega) (by omega) ⟨_, rfl, q h4 J4 C4⟩
  · have c1 : ¬ y ≤ 5 := fun r => c1 (l1.mpr r)
    rw [if_neg (by omega)] at q
    exact q h (J.mono (by omega)) CFr.rf
theorem op_192 {y : Int} (hd : 20 ≤ d) (ok : tp_Ok t) (ou : tp_Ou u) (J : JM h m t u ft tn tb N rs rx la sz ce to) (hy : jb y) (q : ∀ h', JM h' m t u ft tn tb N rs rx la sz ce to → MFr m h h' → Q (some (.long (an_units t u y))) h') : Ct E d 192 [.ref m, .int (jI y)] h Q := by
  obtain ⟨d, rfl⟩ : ∃ n, d = n + 1 := ⟨d - 1, by omega⟩
  have hT := ok.T
  have g1 : fz_135 E h (jI y).toInt64 0 5 = 0 ↔ ¬ (0 ≤ y ∧ y ≤ 5) := f135 (a := 0) (b := 5) hy.1 hy.2 (by omega) (by omega) (by omega) (by omega)
  unfold an_units at q
  refine ok_192 ⟨by omega, trivial, fun c1 => ?_, fun c1 => ?_⟩
  · rw [g1, Classical.not_not] at c1
    rw [if_pos c1] at q
    obtain ⟨y, rfl⟩ := Int.eq_ofNat_of_zero_le c1.1
    simp only [Int.toNat_natCast] at q
    have e1 : (1 + jI (y : Int) / 2 : Int32) = jI ((1 + y / 2 : Nat) : Int) := by
      rw [show (2 : Int32) = jI ((2 : Nat) : Int) from rfl, jI_div (by omega) (by omega) (by omega), show (1 : Int32) = jI 1 from rfl, jI_add]; rfl
    have e2 : (jI (y : Int) - jI (y : Int) / 2 * 2 : Int32) = jI ((y : Int) % 2) := by
      have := jI_rem (a := y) (b := 2) (by omega) (by omega) (by omega)
      exact this.trans (by congr 1)
    refine ⟨J.P.1.1, ct_189 (by omega) ok ou J.P J.L (fun h2 F2 L2 n2 X2 => ?_)⟩
    have J2 := J.ld F2 (fun a i e => by unfold tp_Se tp_Sw at e; omega) L2
    have bd := tp_Fv_bd ok u (1 + y / 2)
    refine ⟨rfl, J2.P.1.1, m + 15, J2.P.1.a34.1, J2.P.1.a34.tg, by rw [e1]; exact J2.P.1.a34.inn (by omega) (by omega), by omega, sz152 J2.P, by omega, trivial, ?_⟩
    rw [f176T ok J2.P, e1, e2, jI_cln (by omega), X2 (1 + y / 2) (by omega)]
    exact ct_184' (by omega) (by omega) (by omega) (by omega) (by omega) ⟨_, rfl, q h2 J2 (F2.mf (fun a i e => by unfold tp_Se tp_Sw at e; omega))⟩
  · rw [g1] at c1
    rw [if_neg (fun q => c1 (fun r => r q))] at q
    exact q h J MFr.rf
end OPF
