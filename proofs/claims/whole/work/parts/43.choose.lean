/-! THE CLASS'S BEST: choose, prepare -/
section BCH
variable {E : Nat → Nat} {b p ac : Nat} {t u : Nat → Nat} {pr : Nat → Nat → Nat}
def tp_aj (f : Nat → Int) (lo j : Nat) : Nat := match j with
  | 0 => lo
  | i + 1 => tp_ma f lo i
def tp_S12 (b dd : Nat) : Nat → Nat → Prop := fun a i => a = b + 7 + dd ∨ (a = b ∧ i = 11)
set_option maxHeartbeats 4000000 in
theorem l12 {d : Nat} {h0 : ZH} {n dd c m k s : Nat} {Q : Option Value → ZH → Prop} (ok : tp_Ok t) (hpr : tp_Pr pr) (hpb : p + 6 < b) (hn : dd + 1 + n = tp_T t) (hd : 8 ≤ d) (P0 : PgR h0 p t u) (B0 : BSh h0 b) (R0 : BPr h0 b p t pr) (O0 : BOk h0 b t u pr ac) (V : tp_V ac c m k) (D0 : BSd h0 b dd c m k) (hs : s < 3) (kQ : ∀ h', Fr (tp_S12 b dd) h0 h' → zL h' b 11 = jL (tp_W t u pr (n + 1) dd c m k s) → Q (some (.int (jI (tp_B t u pr n dd c m k s : Int)))) h') : ∀ r j h1, j + r = tp_hi t u dd - tp_lo t u dd + 1 → Fr (tp_S12 b dd) h0 h1 → (1 ≤ j → zL h1 b 11 = jL (tp_wj (tp_X t u pr n dd c m k s) (tp_lo t u dd) j)) → wl_12_19 E d Q (r + 1) b (jI (dd : Int)) (jI (c : Int)) (jI (m : Int)) (jI (k : Int)) (jI (s : Int)) (b + 7 + dd) (jI (tp_lo t u dd : Int)) (jI (tp_hi t u dd : Int)) (jI (tp_aj (tp_X t u pr n dd c m k s) (tp_lo t u dd) j : Int)) (jI ((tp_lo t u dd + j : Nat) : Int)) h1
  | 0, j, h1, e, F1, W1 => by
    have hl := tp_lohi (u := u) ok dd
    rw [wl_12_19]
    refine ⟨fun _ => ?_, fun q => ?_⟩
    · have ej : j = (tp_hi t u dd - tp_lo t u dd) + 1 := by omega
      subst ej
      exact kQ h1 F1 (W1 (by omega))
    · exfalso
      apply q
      rw [jI_ltn (by omega) (by omega)]
      omega
  | r + 1, j, h1, e, F1, W1 => by
    have IH := l12 (Q := Q) ok hpr hpb hn hd P0 B0 R0 O0 V D0 hs kQ r (j + 1)
    have hT := ok.T
    have hl := tp_lohi (u := u) ok dd
    have hx4 : tp_lo t u dd + j ≤ 4 := by omega
    have P1 : PgR h1 p t u := P0.fr F1 (fun a i ha hb => by unfold tp_S12; omega)
    have B1 := B0.fr F1
    have hmv : ztag h1 (b + 7 + dd) = 2 := (B1.2.2.2.2.2.2.2 dd (by omega)).2
    have R6 : zR h1 b 6 = p + 1 := by rw [F1.rr]; exact R0.1
    have VN := tp_V_next ok u (d := dd) (x := tp_lo t u dd + j) V
    have hTn : tp_T t - (dd + 1) = n := by omega
    have hTd : tp_T t - dd = n + 1 := by omega
    rw [wl_12_19]
    refine ⟨fun q => ?_, fun _ => ⟨B1.1, p, R6, hmv, ct_2526 (by omega) ok P1 hmv (by omega) V.1 V.2.1 V.2.2.1 (by omega) (fun h12 F12 T12 K => ⟨by rw [F12.tg]; exact B1.1, p, by rw [F12.rr]; exact R6, by rw [F12.tg]; exact hmv, K _ (fun h16 F16 M16 => ?_)⟩)⟩⟩
    · exfalso
      rw [jI_ltn (by omega) (by omega)] at q
      omega
    · have FA : Fr (tp_S12 b dd) h0 h16 := F1.tr (F16.wd (fun a i ha => Or.inl ha))
      have P16 : PgR h16 p t u := P0.fr FA (fun a i ha hb => by unfold tp_S12; omega)
      have B16 := B0.fr FA
      have R16 : BPr h16 b p t pr := R0.fr FA (fun a i ha hb => by unfold tp_S12; omega)
      have O16 : BOk h16 b t u pr ac := O0.fr FA (fun i => by unfold tp_S12; omega) (fun i => by unfold tp_S12; omega) (by unfold tp_S12; omega) (by unfold tp_S12; omega)
      have D16 : BSd h16 b dd c m k := (BSd.fr FA (by unfold tp_S12; omega) (by unfold tp_S12; omega) (by unfold tp_S12; omega)).mpr D0
      have hmv16 : ztag h16 (b + 7 + dd) = 2 := (B16.2.2.2.2.2.2.2 dd (by omega)).2
      obtain ⟨z1, z2⟩ := fsz11 (E := E) ok hpr P16 B16 R16 hmv16 M16 (by omega) hs hx4 V.2.1 V.2.2.1 (fun h2 => (O16 _ _ _ _ h2 VN ((O16 _ _ _ _ (by omega) V D16).2 h2 _ (by omega) (by omega))).1 s hs)
      rw [hTn] at z2
      have bx := tp_X_bd (pr := pr) ok u hpr (n := n) (by omega) dd c m k (s := s) hs hx4
      have bw := tp_wj_bd (u := u) (ok := ok) (hpr := hpr) (n := n) (d := dd) (c := c) (m := m) (k := k) (s := s) (j := j) (by omega) hs (by omega)
      have e11 : zL h16 b 11 = zL h1 b 11 := F16.L (by omega)
      have xn : (jI ((tp_lo t u dd + j : Nat) : Int) + 1 : Int32) = jI ((tp_lo t u dd + (j + 1) : Nat) : Int) := by
        rw [show (1 : Int32) = jI 1 from rfl, jI_add]; rfl
      have FU : Fr (tp_S12 b dd) h0 (zuL h16 b 11 (jL (tp_X t u pr n dd c m k s (tp_lo t u dd + j)))) := FA.uL (Or.inr ⟨rfl, rfl⟩)
      refine ⟨B16.1, by omega, z1, nm_r z2 ⟨fun q => nm_e (nm_r xn ?_), fun q => ⟨fun q2 => nm_r xn ?_, fun q2 => nm_e (nm_r xn ?_)⟩⟩⟩
      · rw [jI_eqn (by omega) (by omega)] at q
        have ej : j = 0 := by omega
        subst ej
        exact IH _ (by omega) FU (fun _ => by rw [zL_here]; rfl)
      · rw [jI_eqn (by omega) (by omega)] at q
        obtain ⟨i, rfl⟩ : ∃ i, j = i + 1 := ⟨j - 1, by omega⟩
        rw [e11, W1 (by omega), jL_le (by omega) (by omega) (by omega) (by omega)] at q2
        have q3 : ¬ tp_mv (tp_X t u pr n dd c m k s) (tp_lo t u dd) i < tp_X t u pr n dd c m k s (tp_lo t u dd + (i + 1)) := by
          have : tp_X t u pr n dd c m k s (tp_lo t u dd + (i + 1)) ≤ tp_mv (tp_X t u pr n dd c m k s) (tp_lo t u dd) i := q2
          omega
        have ea : tp_aj (tp_X t u pr n dd c m k s) (tp_lo t u dd) (i + 1 + 1) = tp_aj (tp_X t u pr n dd c m k s) (tp_lo t u dd) (i + 1) := by
          show (if tp_mv (tp_X t u pr n dd c m k s) (tp_lo t u dd) i < tp_X t u pr n dd c m k s (tp_lo t u dd + (i + 1)) then _ else tp_ma (tp_X t u pr n dd c m k s) (tp_lo t u dd) i) = tp_ma (tp_X t u pr n dd c m k s) (tp_lo t u dd) i
          rw [if_neg q3]
        have ew : tp_wj (tp_X t u pr n dd c m k s) (tp_lo t u dd) (i + 1 + 1) = tp_wj (tp_X t u pr n dd c m k s) (tp_lo t u dd) (i + 1) := by
          show (if tp_mv (tp_X t u pr n dd c m k s) (tp_lo t u dd) i < tp_X t u pr n dd c m k s (tp_lo t u dd + (i + 1)) then _ else tp_mv (tp_X t u pr n dd c m k s) (tp_lo t u dd) i) = tp_mv (tp_X t u pr n dd c m k s) (tp_lo t u dd) i
          rw [if_neg q3]
        have := IH h16 (by omega) FA (fun _ => by rw [e11, W1 (by omega), ew])
        rw [ea] at this
        exact this
      · rw [jI_eqn (by omega) (by omega)] at q
        obtain ⟨i, rfl⟩ : ∃ i, j = i + 1 := ⟨j - 1, by omega⟩
        rw [e11, W1 (by omega), jL_le (by omega) (by omega) (by omega) (by omega)] at q2
        have q3 : tp_mv (tp_X t u pr n dd c m k s) (tp_lo t u dd) i < tp_X t u pr n dd c m k s (tp_lo t u dd + (i + 1)) := by
          have : ¬ tp_X t u pr n dd c m k s (tp_lo t u dd + (i + 1)) ≤ tp_mv (tp_X t u pr n dd c m k s) (tp_lo t u dd) i := q2
          omega
        have ea : tp_aj (tp_X t u pr n dd c m k s) (tp_lo t u dd) (i + 1 + 1) = tp_lo t u dd + (i + 1) := by
          show (if tp_mv (tp_X t u pr n dd c m k s) (tp_lo t u dd) i < tp_X t u pr n dd c m k s (tp_lo t u dd + (i + 1)) then tp_lo t u dd + (i + 1) else _) = _
          rw [if_pos q3]
        have ew : tp_wj (tp_X t u pr n dd c m k s) (tp_lo t u dd) (i + 1 + 1) = tp_X t u pr n dd c m k s (tp_lo t u dd + (i + 1)) := by
          show (if tp_mv (tp_X t u pr n dd c m k s) (tp_lo t u dd) i < tp_X t u pr n dd c m k s (tp_lo t u dd + (i + 1)) then tp_X t u pr n dd c m k s (tp_lo t u dd + (i + 1)) else _) = _
          rw [if_pos q3]
        have := IH _ (by omega) FU (fun _ => by rw [zL_here, ew])
        rw [ea] at this
        exact this
theorem ct_12 {d : Nat} {h : ZH} {dd c m k s : Nat} {Q : Option Value → ZH → Prop} (ok : tp_Ok t) (ou : tp_Ou u) (hpr : tp_Pr pr) (hpb : p + 6 < b) (hdd : dd < tp_T t) (hd : 9 ≤ d) (P : PgR h p t u) (B : BSh h b) (R : BPr h b p t pr) (O : BOk h b t u pr ac) (V : tp_V ac c m k) (D : BSd h b dd c m k) (hs : s < 3) (kQ : ∀ h', Fr (tp_S12 b dd) h h' → zL h' b 11 = jL (tp_W t u pr (tp_T t - dd) dd c m k s) → Q (some (.int (jI (tp_B t u pr (tp_T t - (dd + 1)) dd c m k s : Int)))) h') : Ct E d 12 [.ref b, .int (jI (dd : Int)), .int (jI (c : Int)), .int (jI (m : Int)), .int (jI (k : Int)), .int (jI (s : Int))] h Q := by
  obtain ⟨d, rfl⟩ : ∃ n, d = n + 1 := ⟨d - 1, by omega⟩
  have hT := ok.T
  have hl := tp_lohi (u := u) ok dd
  have B' := B
  obtain ⟨b0, b1, b2, b3, b4, b5, b6, bm⟩ := B
  refine ok_12 ⟨b0, b + 3, b3.1, Or.inl b3.tg, b3.inn (by omega) (by omega), b + 7 + dd, by rw [jI_cln (by omega)]; exact (bm dd (by omega)).1, p, R.1, P.1.1.1, by omega, sz44 P.1 (by omega), nm_r (fz44 ou P.1 (by omega)) ⟨by omega, sz45 P.1 (by omega), nm_r (fz45 ou P.1 (by omega)) ⟨tp_hi t u dd - tp_lo t u dd + 1 + 1, ?_⟩⟩⟩
  have eT : tp_T t - dd = tp_T t - (dd + 1) + 1 := by omega
  rw [eT] at kQ
  exact l12 (n := tp_T t - (dd + 1)) ok hpr hpb (by omega) (by omega) P B' R O V D hs kQ (tp_hi t u dd - tp_lo t u dd + 1) 0 h (by omega) Fr.rf (fun q => by omega)
/-- the numbers of a Best: the credit that was asked for, the stamps -/
def BNm (h : ZH) (b ac g : Nat) : Prop := ac ≤ 8 ∧ zI h b 9 = jI (ac : Int) ∧ zI h b 10 = jI (g : Int) ∧ (∃ v : Nat, v ≤ g ∧ zI h b 7 = jI (v : Int)) ∧ (∃ v : Nat, v ≤ g ∧ zI h b 8 = jI (v : Int)) ∧ ∀ i, i < 13860 → ∃ v : Nat, v ≤ g ∧ zI h (b + 2) i = jI (v : Int)
end BCH
