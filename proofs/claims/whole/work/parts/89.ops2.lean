/-! THE CALLS: shut, year, whose -/
section OPB
variable {E : Nat → Nat} {h : ZH} {x m zs zt g tn N d : Nat} {t u rs rx : Nat → Nat} {ft to : Int32} {tb : Nat → Int32} {la sz : Nat → Int} {ce : Nat → Nat → Int32} {Q : Option Value → ZH → Prop}
theorem JC.pg {h1 : ZH} {t' u' : Nat → Nat} {g' : Nat} (J : JC E h x zs zt g t u ft tn tb N rs rx la sz ce to) (y : Ag (fun a => a < x + 1 ∨ (x + 8 ≤ a ∧ a ≤ x + 23) ∨ (x + 36 ≤ a ∧ a < x + 70)) h h1) (X : XSh h1 x) (P : PgR h1 (x + 1) t' u') (F : Fg h1 x zs zt g' t' u' rs) : JC E h1 x zs zt g' t' u' ft tn tb N rs rx la sz ce to := by
  obtain ⟨_, ⟨Sc, hE⟩, _, f, ⟨T1, T2⟩, R, C, o, _⟩ := J
  refine ⟨X, ⟨Sc.ag (y.wk (fun a ha => by omega)), hE⟩, P, by rw [y.I (by omega)]; exact f, ⟨by rw [y.I (by omega)]; exact T1, fun i hi => by rw [y.I (by omega)]; exact T2 i hi⟩, R.ag (y.wk (fun a ha => by unfold Rg at ha; omega)), fun k hk => ?_, by rw [y.I (by omega)]; exact o, F⟩
  obtain ⟨c1, c2, c3⟩ := C k hk
  exact ⟨by rw [y.I (by omega)]; exact c1, by rw [y.I (by omega)]; exact c2, fun i hi => by rw [y.I (by omega)]; exact c3 i hi⟩
def sh_w (w : Int) : Nat := if w = -4 then 3 else w.toNat
def sh_u (u : Nat → Nat) (dd : Nat) (w : Int) : Nat → Nat := fun k => if k = dd then sh_w w else u k
theorem sh_w_J {w : Int} (hw : w = -4 ∨ (0 ≤ w ∧ w < 3)) : tp_uJ (sh_w w) = w ∧ sh_w w ≤ 3 := by
  unfold sh_w tp_uJ
  split <;> split <;> omega
theorem sh_u_O {dd : Nat} {w : Int} (ou : tp_Ou u) (hw : w = -4 ∨ (0 ≤ w ∧ w < 3)) : tp_Ou (sh_u u dd w) := fun k => by
  unfold sh_u
  split
  · exact (sh_w_J hw).2
  · exact ou k
theorem sh_u_id {dd : Nat} {w : Int} (ou : tp_Ou u) (hw : w = -4 ∨ (0 ≤ w ∧ w < 3)) (e : tp_uJ (u dd) = w) : sh_u u dd w = u := by
  funext k
  unfold sh_u
  split
  · next ek =>
    subst ek
    have := ou k
    unfold tp_uJ at e
    unfold sh_w
    split at e <;> split <;> omega
  · rfl
theorem op_95 {z w : Int} (hd : 8 ≤ d) (ok : tp_Ok t) (ou : tp_Ou u) (J : JC E h x zs zt g t u ft tn tb N rs rx la sz ce to) (h1 : -2147483648 ≤ z) (h2 : z < 2147483648) (h3 : -2147483648 ≤ w) (h4 : w < 2147483648) (q1 : ¬ ((0 ≤ z ∧ z < tp_T t) ∧ (w = -4 ∨ (0 ≤ w ∧ w < 3))) → Q (some (.int (-1))) h) (q2 : 0 ≤ z → z < tp_T t → (w = -4 ∨ (0 ≤ w ∧ w < 3)) → ∀ h', JC E h' x zs zt g t (sh_u u z.toNat w) ft tn tb N rs rx la sz ce to → CFr x h h' → Q (some (.int (jI (tp_uJ (u z.toNat))))) h') : Ct E d 95 [.ref x, .int (jI z), .int (jI w)] h Q := by
  obtain ⟨d, rfl⟩ : ∃ n, d = n + 1 := ⟨d - 1, by omega⟩
  have P := J.P
  have hT := ok.T
  have main : 0 ≤ z → z < tp_T t → (w = -4 ∨ (0 ≤ w ∧ w < 3)) → ∃ r4 : Nat, zR h (x + 1) 1 = r4 + 1 ∧ (ztag h r4 = 13 ∨ ztag h r4 = 19) ∧ zin (jI z) (zlen h r4) = true ∧ ∀ x6 : Int32, x6 = (zI h r4 (jI z).toNatClampNeg) → ((x6 = jI w → (wb_95_34 E d Q x6 h)) ∧ (¬ (x6 = jI w) → (ztag h r4 = 13 ∧ zin (jI z) (zlen h r4) = true ∧ ∀ h8 : ZH, h8 = (zuI h r4 (jI z).toNatClampNeg (jI w)) → Ct E d 34 [.ref (x + 1)] h8 (fun v h9 => v = none ∧ ztag h9 x = 10 ∧ ∃ r11 : Nat, zR h9 x 6 = r11 + 1 ∧ ztag h9 r11 = 1 ∧ Ct E d 14 [.ref r11] h9 (fun v h13 => v = none ∧ wb_95_34 E d Q x6 h13))))) := by
    intro a b c
    obtain ⟨dd, rfl⟩ := Int.eq_ofNat_of_zero_le a
    have hdd : dd < 20 := by omega
    have A := P.1.1.2.2.1
    refine ⟨x + 1 + 2, A.1, A.ti, A.inn (by omega) (by omega), nm_r (e' := jI (tp_uJ (u dd))) (by rw [jI_cln (by omega)]; exact P.1.2.2 dd hdd) ⟨fun e => ?_, fun e => ⟨A.tg, A.inn (by omega) (by omega), ?_⟩⟩⟩
    · have ub := tp_uJ_b ou dd
      rw [jI_eq (by omega) (by omega) (by omega) (by omega)] at e
      have := q2 (by omega) b c h
      rw [show (((dd : Nat) : Int)).toNat = dd from rfl, sh_u_id ou c e] at this
      exact this J CFr.rf
    · refine nm_r (e' := zuI h (x + 1 + 2) dd (jI w)) (by rw [jI_cln (by omega)]) ?_
      have P8 : PgC (zuI h (x + 1 + 2) dd (jI w)) (x + 1) t (sh_u u dd w) := by
        refine ⟨P.1.1, fun k hk => ?_, fun k hk => ?_⟩
        · rw [zI_offa (by omega)]; exact P.1.2.1 k hk
        · by_cases ck : k = dd
          · subst ck
            rw [zI_here]
            unfold sh_u
            rw [if_pos rfl, (sh_w_J c).1]
          · rw [zI_offi ck, P.1.2.2 k hk]
            unfold sh_u
            rw [if_neg ck]
      have F8 : Fr (fun a _ => x + 1 ≤ a ∧ a ≤ x + 7) h (zuI h (x + 1 + 2) dd (jI w)) := Fr.uI Fr.rf (by omega)
      generalize zuI h (x + 1 + 2) dd (jI w) = h8 at P8 F8 ⊢
      refine ct_34 (by omega) ok (sh_u_O ou c) P8 (fun h9 P9 F9 => ?_)
      have FF : Fr (fun a _ => x + 1 ≤ a ∧ a ≤ x + 7) h h9 := F8.tr (F9.wd (fun a i q => by unfold tp_S34 at q; omega))
      have X9 := J.X.fr FF
      have y9 : Ag (fun a => a < x + 1 ∨ x + 7 < a) h h9 := FF.ag (fun a i ha => by omega)
      have G9 : Fg h9 x zs zt g t u rs := J.F.ag (y9.wk (fun a ha => by omega)) FF.sz (by unfold ztot; rw [FF.1])
      refine ⟨rfl, X9.t0, x + 24, X9.r6, X9.t24, ct_14 (t' := t) (u' := sh_u u dd w) (rs' := rs) (by omega) X9 G9 (fun h13 F13 G13 => ⟨rfl, ?_⟩)⟩
      have y13 : Ag (fun a => a < x + 24 ∨ (x + 36 ≤ a ∧ a < x + 70)) h9 h13 := F13.ag (fun a i ha => by omega)
      refine q2 (by omega) b c h13 (J.pg ((y9.wk (fun a ha => by omega)).tr (y13.wk (fun a ha => by omega))) (X9.fr F13) (P9.ag (y13.wk (fun a ha => by unfold Rg at ha; omega))) G13) ?_
      exact (y9.wk (fun a ha => by omega)).tr (y13.wk (fun a ha => by omega))
  have f35 := fz35 (E := E) (h := h) (p := x + 1) (t := t) (z := z) ok P.2.2.2.2.2 h1 h2
  refine ok_95 ⟨J.X.t0, x + 1, J.X.r0, P.1.1.1, by omega, sz35 P.1, fun c => ?_, fun c => ⟨fun cw => ?_, fun cw => ⟨by omega, trivial, fun c2 => ?_, fun c2 => ?_⟩⟩⟩
  · rw [f35, j01] at c
    exact q1 (fun q => c q.1)
  · rw [f35, j01, Classical.not_not] at c
    rw [show (-4 : Int32) = jI (-4) from rfl, jI_eq h3 h4 (by omega) (by omega)] at cw
    exact main c.1 c.2 (Or.inl cw)
  · rw [f35, j01, Classical.not_not] at c
    have f120 : fz_120 E h (jI w) = if 0 ≤ w ∧ w < 3 then 1 else 0 := jif3 (a := 0) (b := 3) h3 h4 (by omega) (by omega) (by omega) (by omega)
    rw [f120, j01, Classical.not_not] at c2
    exact main c.1 c.2 (Or.inr c2)
  · have f120 : fz_120 E h (jI w) = if 0 ≤ w ∧ w < 3 then 1 else 0 := jif3 (a := 0) (b := 3) h3 h4 (by omega) (by omega) (by omega) (by omega)
    rw [f120, j01] at c2
    rw [show (-4 : Int32) = jI (-4) from rfl, jI_eq h3 h4 (by omega) (by omega)] at cw
    exact q1 (fun q => by omega)
theorem op_154 {z w : Int} (hd : 8 ≤ d) (ok : tp_Ok t) (ou : tp_Ou u) (J : JM h m t u ft tn tb N rs rx la sz ce to) (h1 : -2147483648 ≤ z) (h2 : z < 2147483648) (h3 : -2147483648 ≤ w) (h4 : w < 2147483648) (q1 : ¬ ((0 ≤ z ∧ z < tp_T t) ∧ (w = -4 ∨ (0 ≤ w ∧ w < 3))) → Q (some (.int (-1))) h) (q2 : 0 ≤ z → z < tp_T t → (w = -4 ∨ (0 ≤ w ∧ w < 3)) → ∀ h', JM h' m t (sh_u u z.toNat w) ft tn tb N rs rx la sz ce to → MFr m h h' → Q (some (.int (jI (tp_uJ (u z.toNat))))) h') : Ct E d 154 [.ref m, .int (jI z), .int (jI w)] h Q := by
  obtain ⟨d, rfl⟩ : ∃ n, d = n + 1 := ⟨d - 1, by omega⟩
  have P := J.P
  have hT := ok.T
  have main : 0 ≤ z → z < tp_T t → (w = -4 ∨ (0 ≤ w ∧ w < 3)) → ∃ r2 : Nat, zR h m 20 = r2 + 1 ∧ (ztag h r2 = 13 ∨ ztag h r2 = 19) ∧ zin (jI z) (zlen h r2) = true ∧ ∀ x4 : Int32, x4 = (zI h r2 (jI z).toNatClampNeg) → ztag h r2 = 13 ∧ zin (jI z) (zlen h r2) = true ∧ ∀ h6 : ZH, h6 = (zuI h r2 (jI z).toNatClampNeg (jI w)) → ∀ h7 : ZH, h7 = (zuI h6 m 29 0) → Q (some (.int x4)) h7 := by
    intro a b c
    obtain ⟨dd, rfl⟩ := Int.eq_ofNat_of_zero_le a
    have hdd : dd < 20 := by omega
    have A := P.1.a20
    refine ⟨m + 10, A.1, A.ti, A.inn (by omega) (by omega), nm_r (e' := jI (tp_uJ (u dd))) (by rw [jI_cln (by omega)]; exact P.2.2.2.2 dd hdd) ⟨A.tg, A.inn (by omega) (by omega), nm_r (e' := zuI h (m + 10) dd (jI w)) (by rw [jI_cln (by omega)]) (nm_e (q2 (by omega) b c _ ?_ ?_))⟩⟩
    · have F : Fr (fun a i => a = m + 10 ∨ (a = m ∧ i = 29)) h (zuI (zuI h (m + 10) dd (jI w)) m 29 0) := Fr.uI (Fr.uI Fr.rf (by omega)) (by omega)
      have z29 : zI (zuI (zuI h (m + 10) dd (jI w)) m 29 0) m 29 = 0 := zI_here _ _ _ _
      have z10 : ∀ k, k < 20 → zI (zuI (zuI h (m + 10) dd (jI w)) m 29 0) (m + 10) k = jI (tp_uJ (sh_u u dd w k)) := fun k hk => by
        rw [zI_offa (by omega)]
        by_cases ck : k = dd
        · subst ck
          rw [zI_here]
          unfold sh_u
          rw [if_pos rfl, (sh_w_J c).1]
        · rw [zI_offi ck, P.2.2.2.2 k hk]
          unfold sh_u
          rw [if_neg ck]
      generalize zuI (zuI h (m + 10) dd (jI w)) m 29 0 = h7 at F z29 z10 ⊢
      obtain ⟨⟨S, p1, p2, p3, p4⟩, f, ⟨T1, T2⟩, ⟨R1, R2⟩, C, o, L, K⟩ := J
      refine ⟨⟨S.fr F, fun k hk => by rw [F.I (by omega)]; exact p1 k hk, fun k hk => by rw [F.I (by omega)]; exact p2 k hk, fun k hk => by rw [F.I (by omega)]; exact p3 k hk, z10⟩, by rw [F.I (by omega)]; exact f, ⟨by rw [F.I (by omega)]; exact T1, fun i hi => by rw [F.I (by omega)]; exact T2 i hi⟩, ⟨by rw [F.I (by omega)]; exact R1, fun k hk => by rw [F.I (by omega), F.I (by omega)]; exact R2 k hk⟩, fun k hk => ?_, by rw [F.I (by omega)]; exact o, fun q => absurd z29 q, fun j j1 j2 i hi => by rw [F.I (by omega)]; exact K j j1 j2 i hi⟩
      obtain ⟨c1, c2, c3⟩ := C k hk
      exact ⟨by rw [F.I (by omega)]; exact c1, by rw [F.I (by omega)]; exact c2, fun i hi => by rw [F.I (by omega)]; exact c3 i hi⟩
    · exact Fr.uI (Fr.uI Fr.rf (by omega)) (by omega)
  have f153 := fz153 (E := E) (z := z) ok P h1 h2
  have g2 : fz_135 E h (jI w).toInt64 0 2 = 0 ↔ ¬ (0 ≤ w ∧ w ≤ 2) := f135 (a := 0) (b := 2) h3 h4 (by omega) (by omega) (by omega) (by omega)
  refine ok_154 ⟨P.1.1, by omega, sz153 P, fun c => ?_, fun c => ⟨by omega, trivial, fun c2 => ?_, fun c2 => ⟨fun cw => ?_, fun cw => ?_⟩⟩⟩
  · rw [f153, j01] at c
    exact q1 (fun q => c q.1)
  · rw [f153, j01, Classical.not_not] at c
    rw [g2, Classical.not_not] at c2
    exact main c.1 c.2 (Or.inr (by omega))
  · rw [f153, j01, Classical.not_not] at c
    rw [show (-4 : Int32) = jI (-4) from rfl, jI_eq h3 h4 (by omega) (by omega)] at cw
    exact main c.1 c.2 (Or.inl cw)
  · rw [g2] at c2
    rw [show (-4 : Int32) = jI (-4) from rfl, jI_eq h3 h4 (by omega) (by omega)] at cw
    exact q1 (fun q => by omega)
def an_year (t u : Nat → Nat) (z w : Int) : Int := if (0 ≤ z ∧ z < t 0) ∧ (0 ≤ w ∧ w ≤ 2) then (if w = 0 then (tp_qt t u z.toNat : Int) else if w = 1 then (tp_tp t u z.toNat : Int) else (tp_frN t u z.toNat : Int)) else -1
theorem PgR.Y {p : Nat} (P : PgR h p t u) : PgY h p t u := ⟨P.1, P.2.2.2.1, P.2.2.2.2.1, P.2.2.2.2.2⟩
theorem op_96 {z w : Int} (hd : 8 ≤ d) (ok : tp_Ok t) (ou : tp_Ou u) (J : JC E h x zs zt g t u ft tn tb N rs rx la sz ce to) (h1 : -2147483648 ≤ z) (h2 : z < 2147483648) (h3 : -2147483648 ≤ w) (h4 : w < 2147483648) (q : Q (some (.int (jI (an_year t u z w)))) h) : Ct E d 96 [.ref x, .int (jI z), .int (jI w)] h Q := by
  obtain ⟨d, rfl⟩ : ∃ n, d = n + 1 := ⟨d - 1, by omega⟩
  have P := J.P
  have f36 := fz36 (E := E) (z := z) ok P.1 h1 h2
  unfold an_year at q
  refine ok_96 ⟨J.X.t0, x + 1, J.X.r0, P.1.1.1, by omega, sz36 P.1, fun c => ?_, fun c => ⟨fun c1 => ?_, fun c1 => ⟨fun c2 => ⟨fun c3 => ?_, fun c3 => ?_⟩, fun c2 => ?_⟩⟩⟩
  · rw [f36, j01] at c
    rw [if_neg (fun q => c q.1)] at q
    exact q
  · rw [show (0 : Int32) = jI 0 from rfl, jI_lt h3 h4 (by omega) (by omega)] at c1
    rw [if_neg (by omega)] at q
    exact q
  · rw [f36, j01, Classical.not_not] at c
    rw [show (0 : Int32) = jI 0 from rfl, jI_lt h3 h4 (by omega) (by omega)] at c1
    rw [show (2 : Int32) = jI 2 from rfl, jI_le h3 h4 (by omega) (by omega)] at c2
    rw [show (2 : Int32) = jI 2 from rfl, jI_eq h3 h4 (by omega) (by omega)] at c3
    rw [if_pos ⟨c, by omega⟩] at q
    obtain ⟨y, rfl⟩ := Int.eq_ofNat_of_zero_le c.1
    have ok0 := ok.1
    have A2 := P.1.1.2.2.2.1
    have A3 := P.1.1.2.2.2.2.1
    have e2 : zR h (x + 1) 2 - 1 = x + 1 + 3 := A2.sub
    have e3 : zR h (x + 1) 3 - 1 = x + 1 + 4 := A3.sub
    have g0 : jI w = 0 ↔ w = 0 := by rw [show (0 : Int32) = jI 0 from rfl, jI_eq h3 h4 (by omega) (by omega)]
    refine ⟨⟨fun _ => ?_, fun _ => ?_⟩, ?_⟩
    · rw [e3]; exact ⟨A3.ne, A3.ti, A3.inn (by omega) (by omega), trivial⟩
    · rw [e2]; exact ⟨A2.ne, A2.ti, A2.inn (by omega) (by omega), trivial⟩
    · rw [e2, e3, jI_cln (by omega), P.2.1 y (by omega), P.2.2.1 y (by omega)]
      by_cases cw : w = 0
      · rw [if_pos cw] at q
        rw [if_neg (fun q => q (g0.mpr cw))]
        exact q
      · rw [if_neg cw, if_pos (by omega)] at q
        rw [if_pos (fun q => cw (g0.mp q))]
        exact q
  · rw [f36, j01, Classical.not_not] at c
    rw [show (2 : Int32) = jI 2 from rfl, jI_eq h3 h4 (by omega) (by omega), Classical.not_not] at c3
    rw [if_pos ⟨c, by omega⟩, if_neg (by omega), if_neg (by omega)] at q
    obtain ⟨y, rfl⟩ := Int.eq_ofNat_of_zero_le c.1
    exact ct_41 (by omega) ok ou P.Y (by omega) ⟨_, rfl, q⟩
  · rw [show (2 : Int32) = jI 2 from rfl, jI_le h3 h4 (by omega) (by omega)] at c2
    rw [if_neg (by omega)] at q
    exact q
theorem op_161 {z w : Int} (hd : 8 ≤ d) (ok : tp_Ok t) (ou : tp_Ou u) (J : JM h m t u ft tn tb N rs rx la sz ce to) (h1 : -2147483648 ≤ z) (h2 : z < 2147483648) (h3 : -2147483648 ≤ w) (h4 : w < 2147483648) (q : Q (some (.int (jI (an_year t u z w)))) h) : Ct E d 161 [.ref m, .int (jI z), .int (jI w)] h Q := by
  obtain ⟨d, rfl⟩ : ∃ n, d = n + 1 := ⟨d - 1, by omega⟩
  have P := J.P
  have f160 := fz160 (E := E) (z := z) ok P h1 h2
  have g2 : fz_135 E h (jI w).toInt64 0 2 = 0 ↔ ¬ (0 ≤ w ∧ w ≤ 2) := f135 (a := 0) (b := 2) h3 h4 (by omega) (by omega) (by omega) (by omega)
  unfold an_year at q
  refine ok_161 ⟨P.1.1, by omega, sz160 P, fun c => ?_, fun c => ⟨by omega, trivial, fun c2 => ?_, fun c2 => ?_⟩⟩
  · rw [f160, j01] at c
    rw [if_neg (fun q => c q.1)] at q
    exact q
  · rw [f160, j01, Classical.not_not] at c
    rw [g2, Classical.not_not] at c2
    rw [if_pos ⟨c, c2⟩] at q
    obtain ⟨y, rfl⟩ := Int.eq_ofNat_of_zero_le c.1
    refine ⟨fun d0 => ⟨fun d1 => ?_, fun d1 => ?_⟩, fun d0 => ?_⟩
    · rw [show (0 : Int32) = jI 0 from rfl, jI_eq h3 h4 (by omega) (by omega)] at d0
      rw [show (1 : Int32) = jI 1 from rfl, jI_eq h3 h4 (by omega) (by omega)] at d1
      rw [if_neg d0, if_neg d1] at q
      exact ct_155 (by omega) ok ou P (by omega) ⟨_, rfl, q⟩
    · rw [show (0 : Int32) = jI 0 from rfl, jI_eq h3 h4 (by omega) (by omega)] at d0
      rw [show (1 : Int32) = jI 1 from rfl, jI_eq h3 h4 (by omega) (by omega), Classical.not_not] at d1
      rw [if_neg d0, if_pos d1] at q
      exact ct_159 (by omega) ok ou P (by omega) ⟨_, rfl, q⟩
    · rw [show (0 : Int32) = jI 0 from rfl, jI_eq h3 h4 (by omega) (by omega), Classical.not_not] at d0
      rw [if_pos d0] at q
      exact ct_158 (by omega) ok ou P (by omega) ⟨_, rfl, q⟩
  · rw [g2] at c2
    rw [if_neg (by omega)] at q
    exact q
end OPB
