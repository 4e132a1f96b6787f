/-! THE CLASS'S BEST: settle, on -/
section BSU
variable {E : Nat → Nat} {b p ac : Nat} {t u : Nat → Nat} {pr : Nat → Nat → Nat}
/-- what settling leaves -/
def BP10 (h h' : ZH) (b ac : Nat) (t u : Nat → Nat) (pr : Nat → Nat → Nat) (dd c m k : Nat) : Prop := Fr (tp_S10 b dd) h h' ∧ BOk h' b t u pr ac ∧ BMn h h' b ac t ∧ (dd < tp_T t → BSd h' b dd c m k)
def BC10 (E : Nat → Nat) (b p ac : Nat) (t u : Nat → Nat) (pr : Nat → Nat → Nat) (n : Nat) : Prop := ∀ (dd d : Nat) (h : ZH) (c m k : Nat), dd + n = tp_T t → 8 + n ≤ d → PgR h p t u → BSh h b → BPr h b p t pr → BOk h b t u pr ac → tp_V ac c m k → Ct E d 10 [.ref b, .int (jI (dd : Int)), .int (jI (c : Int)), .int (jI (m : Int)), .int (jI (k : Int))] h (fun v h' => v = none ∧ BP10 h h' b ac t u pr dd c m k)
def BLI (h0 : ZH) (b ac : Nat) (t u : Nat → Nat) (pr : Nat → Nat → Nat) (dd c m k j : Nat) (h1 : ZH) : Prop := Fr (tp_S10' b dd) h0 h1 ∧ BOk h1 b t u pr ac ∧ BMn h0 h1 b ac t ∧ ∀ i, i < j → dd + 1 < tp_T t → BSd h1 b (dd + 1) (tp_c2 t u dd c m k (tp_lo t u dd + i)) (tp_m2 t u dd c m k (tp_lo t u dd + i)) (tp_k2 t u dd c m k (tp_lo t u dd + i))
theorem BS10_wd {dd : Nat} : ∀ a i, tp_S10' b dd a i → tp_S10 b dd a i := fun a i h => by
  unfold tp_S10' at h
  unfold tp_S10
  omega
theorem BS10_nx {dd : Nat} : ∀ a i, tp_S10 b (dd + 1) a i → tp_S10' b dd a i := fun a i h => by
  unfold tp_S10 at h
  unfold tp_S10'
  omega
theorem BS10_mv {dd : Nat} (h : dd < 20) : ∀ a i : Nat, a = b + 7 + dd → tp_S10' b dd a i := fun a i h => by
  unfold tp_S10'
  omega
set_option maxHeartbeats 4000000 in
theorem l10 {d : Nat} {h0 : ZH} {n dd c m k : Nat} {st : Int32} {Q : Option Value → ZH → Prop} (ok : tp_Ok t) (ou : tp_Ou u) (hpr : tp_Pr pr) (hpb : p + 6 < b) (ih : BC10 E b p ac t u pr n) (hn : dd + 1 + n = tp_T t) (hd : 8 + n ≤ d) (P0 : PgR h0 p t u) (B0 : BSh h0 b) (R0 : BPr h0 b p t pr) (V : tp_V ac c m k) (hst : st = if m = 0 ∨ k = 0 then zI h0 b 7 else zI h0 b 8) (hns : ¬ BSd h0 b dd c m k) (kQ : ∀ h', BP10 h0 h' b ac t u pr dd c m k → Q none h') : ∀ r j h1, j + r = tp_hi t u dd - tp_lo t u dd + 1 → BLI h0 b ac t u pr dd c m k j h1 → wl_10_56 E d Q (r + 1) b (jI (dd : Int)) (jI (c : Int)) (jI (m : Int)) (jI (k : Int)) p st (jI ((dd * 693 + tp_ce c m k : Nat) : Int)) (b + 7 + dd) (jI (tp_lo t u dd : Int)) (jI (tp_hi t u dd : Int)) (jL (tp_wj (tp_X t u pr n dd c m k 0) (tp_lo t u dd) j)) (jL (tp_wj (tp_X t u pr n dd c m k 1) (tp_lo t u dd) j)) (jL (tp_wj (tp_X t u pr n dd c m k 2) (tp_lo t u dd) j)) (jI ((tp_lo t u dd + j : Nat) : Int)) h1
  | 0, j, h1, e, I => by
    have hT := ok.T
    have hl := tp_lohi (u := u) ok dd
    have hce := (tp_ce_lt V.1 V.2.1 V.2.2.1).1
    obtain ⟨F1, O1, N1, D1⟩ := I
    have P1 : PgR h1 p t u := P0.fr F1 (fun a i ha hb => by unfold tp_S10'; omega)
    have B1 := B0.fr F1
    rw [wl_10_56]
    refine ⟨fun _ => ⟨4, ?_⟩, fun q => ?_⟩
    · have ej : j = (tp_hi t u dd - tp_lo t u dd) + 1 := by omega
      subst ej
      have hTd : tp_T t - dd = n + 1 := by omega
      -- one state's worth
      have st1 : ∀ (f s : Nat) (h2 : ZH), s < 3 → Fr (fun a i => a = b + 1) h1 h2 → wl_10_137 E d Q f b p st (jI ((dd * 693 + tp_ce c m k : Nat) : Int)) (jL (tp_W t u pr (n + 1) dd c m k 0)) (jL (tp_W t u pr (n + 1) dd c m k 1)) (jL (tp_W t u pr (n + 1) dd c m k 2)) (jI ((s + 1 : Nat) : Int)) (zuL h2 (b + 1) (3 * (dd * 693 + tp_ce c m k) + s) (jL (tp_A t u pr (tp_T t - dd) dd c m k s))) → wl_10_137 E d Q (f + 1) b p st (jI ((dd * 693 + tp_ce c m k : Nat) : Int)) (jL (tp_W t u pr (n + 1) dd c m k 0)) (jL (tp_W t u pr (n + 1) dd c m k 1)) (jL (tp_W t u pr (n + 1) dd c m k 2)) (jI (s : Int)) h2 := by
        intro f s h2 hs F2 kk
        have P2 : PgR h2 p t u := P1.fr F2 (fun a i ha hb => by omega)
        have B2 := B1.fr F2
        obtain ⟨b0, b1, -⟩ := B2
        have c0 := tp_ch_le ok hs (show 0 < 3 by omega)
        have c1 := tp_ch_le ok hs (show 1 < 3 by omega)
        have c2 := tp_ch_le ok hs (show 2 < 3 by omega)
        have hat := jrow 693 (show dd < tp_T t by omega)
        rw [wl_10_137]
        refine ⟨fun q => ?_, fun _ => ⟨b0, b + 1, b1.1, P2.1.1.1, by omega, sz48 (v := 0) P2.1 hs (by omega), by omega, sz48 (v := 1) P2.1 hs (by omega), by omega, sz48 (v := 2) P2.1 hs (by omega), b1.tg, ?_, nm_r ?_ (nm_r (e' := jI ((s + 1 : Nat) : Int)) (by rw [show (1 : Int32) = jI 1 from rfl, jI_add]; rfl) kk)⟩⟩
        · exfalso
          rw [show (3 : Int32) = jI 3 from rfl, jI_le (by omega) (by omega) (by omega) (by omega)] at q
          omega
        · rw [show (3 : Int32) = jI 3 from rfl, jI_mul, jI_add]
          exact b1.inb (by omega) (by omega) (by omega)
        · have ei : (3 * jI ((dd * 693 + tp_ce c m k : Nat) : Int) + jI (s : Int) : Int32) = jI ((3 * (dd * 693 + tp_ce c m k) + s : Nat) : Int) := by
            rw [show (3 : Int32) = jI 3 from rfl, jI_mul, jI_add]
            congr 1
          have f0 : fz_48 E h2 p (jI (s : Int)) 0 = jI (tp_ch t s 0 : Int) := fz48 (v := 0) P2.1 hs (by omega)
          have f1 : fz_48 E h2 p (jI (s : Int)) 1 = jI (tp_ch t s 1 : Int) := fz48 (v := 1) P2.1 hs (by omega)
          have f2 : fz_48 E h2 p (jI (s : Int)) 2 = jI (tp_ch t s 2 : Int) := fz48 (v := 2) P2.1 hs (by omega)
          rw [ei, jI_cln (by omega), f0, f1, f2, jI_toL (by omega) (by omega), jI_toL (by omega) (by omega), jI_toL (by omega) (by omega), jL_mul, jL_mul, jL_mul, jL_add, jL_add, hTd]
          rfl
      have Fa : Fr (fun a (i : Nat) => a = b + 1) h1 (zuL h1 (b + 1) (3 * (dd * 693 + tp_ce c m k) + 0) (jL (tp_A t u pr (tp_T t - dd) dd c m k 0))) := Fr.uL Fr.rf rfl
      have Fb := Fr.uL (i := 3 * (dd * 693 + tp_ce c m k) + 1) (w := jL (tp_A t u pr (tp_T t - dd) dd c m k 1)) Fa (rfl : b + 1 = b + 1)
      have Fc := Fr.uL (i := 3 * (dd * 693 + tp_ce c m k) + 2) (w := jL (tp_A t u pr (tp_T t - dd) dd c m k 2)) Fb (rfl : b + 1 = b + 1)
      refine st1 3 0 h1 (by omega) Fr.rf (st1 2 1 _ (by omega) Fa (st1 1 2 _ (by omega) Fb ?_))
      have hat := jrow 693 (show dd < tp_T t by omega)
      obtain ⟨b0, b1, b2, -⟩ := B1.fr Fc
      rw [wl_10_137]
      refine ⟨fun _ => ⟨b0, b + 2, b2.1, b2.tg, b2.inn (by omega) (by omega), nm_r (by rw [jI_cln (by omega)]) (kQ _ ?_)⟩, fun q => absurd (by decide) q⟩
      have i7 : zI h1 b 7 = zI h0 b 7 := F1.I (by unfold tp_S10'; omega)
      have i8 : zI h1 b 8 = zI h0 b 8 := F1.I (by unfold tp_S10'; omega)
      have hns1 : ¬ BSd h1 b dd c m k := by
        rw [BSd.fr F1 (by unfold tp_S10'; omega) (by unfold tp_S10'; omega) (by unfold tp_S10'; omega)]
        exact hns
      obtain ⟨G1, G2, G3, G4⟩ := BFin (h1 := h1) (A := fun s => jL (tp_A t u pr (tp_T t - dd) dd c m k s)) (st := st) ok O1 (show dd < tp_T t by omega) V (by rw [i7, i8]; exact hst) hns1 (fun s _ => rfl) (fun h2 x hx1 hx2 => by
        have := D1 (x - tp_lo t u dd) (by omega) h2
        rw [show tp_lo t u dd + (x - tp_lo t u dd) = x by omega] at this
        exact this) _ rfl
      exact ⟨(F1.wd BS10_wd).tr G1, G2, N1.tr G3, fun _ => G4⟩
    · exfalso
      apply q
      rw [jI_ltn (by omega) (by omega)]
      omega
  | r + 1, j, h1, e, I => by
    have IH := l10 (st := st) (Q := Q) ok ou hpr hpb ih hn hd P0 B0 R0 V hst hns kQ r (j + 1)
    have hT := ok.T
    have hl := tp_lohi (u := u) ok dd
    have hx4 : tp_lo t u dd + j ≤ 4 := by omega
    obtain ⟨F1, O1, N1, D1⟩ := I
    have P1 : PgR h1 p t u := P0.fr F1 (fun a i ha hb => by unfold tp_S10'; omega)
    have B1 := B0.fr F1
    have R1 : BPr h1 b p t pr := R0.fr F1 (fun a i ha hb => by unfold tp_S10'; omega)
    have hmv : ztag h1 (b + 7 + dd) = 2 := (B1.2.2.2.2.2.2.2 dd (by omega)).2
    have VN := tp_V_next ok u (d := dd) (x := tp_lo t u dd + j) V
    have e2 : (jI (dd : Int) + 1 : Int32) = jI ((dd + 1 : Nat) : Int) := by
      rw [show (1 : Int32) = jI 1 from rfl, jI_add]; rfl
    rw [wl_10_56]
    refine ⟨fun q => ?_, fun _ => ⟨hmv, ct_2526 (by omega) ok P1 hmv (by omega) V.1 V.2.1 V.2.2.1 (by omega) (fun h25 F25 T25 K => ⟨by rw [F25.tg]; exact hmv, K _ (fun h27 F27 M27 => ⟨by rw [F27.tg]; exact hmv, ?_⟩)⟩)⟩⟩
    · exfalso
      rw [jI_ltn (by omega) (by omega)] at q
      omega
    · have M' := M27
      obtain ⟨M0, M1, M2, M3, M4, M5, M6, M7, M8⟩ := M27
      rw [M3, M4, M5, e2]
      have F27' : Fr (tp_S10' b dd) h1 h27 := F27.wd (BS10_mv (by omega))
      have P27 : PgR h27 p t u := P1.fr F27 (fun a i ha hb => by omega)
      have B27 := B1.fr F27
      have R27 : BPr h27 b p t pr := R1.fr F27 (fun a i ha hb => by omega)
      have O27 : BOk h27 b t u pr ac := O1.fr F27 (fun i => by omega) (fun i => by omega) (by omega) (by omega)
      refine Ct.mono (ih (dd + 1) d h27 _ _ _ hn hd P27 B27 R27 O27 VN) ?_
      rintro v h29 ⟨rfl, F29, O29, N29, D29⟩
      have F29' := F29.wd (BS10_nx (b := b) (dd := dd))
      have P29 : PgR h29 p t u := P27.fr F29 (fun a i ha hb => by unfold tp_S10; omega)
      have B29 := B27.fr F29
      have R29 : BPr h29 b p t pr := R27.fr F29 (fun a i ha hb => by unfold tp_S10; omega)
      have M29 := M'.fr F29 (fun i => by unfold tp_S10; omega)
      have hmv29 : ztag h29 (b + 7 + dd) = 2 := (B29.2.2.2.2.2.2.2 dd (by omega)).2
      have hTn : tp_T t - (dd + 1) = n := by omega
      have z : ∀ s : Nat, s < 3 → sz_11 E h29 b (b + 7 + dd) (jI (dd : Int)) (jI (s : Int)) ∧ fz_11 E h29 b (b + 7 + dd) (jI (dd : Int)) (jI (s : Int)) = jL (tp_X t u pr n dd c m k s (tp_lo t u dd + j)) := fun s hs => by
        have := fsz11 (E := E) ok hpr P29 B29 R29 hmv29 M29 (by omega) hs hx4 V.2.1 V.2.2.1 (fun h2 => (O29 _ _ _ _ h2 VN (D29 h2)).1 s hs)
        rw [hTn] at this
        exact this
      have bx := fun (s : Nat) (hs : s < 3) => tp_X_bd (pr := pr) ok u hpr (n := n) (by omega) dd c m k (s := s) hs hx4
      have bw := fun (s : Nat) (hs : s < 3) => tp_wj_bd (u := u) (ok := ok) (hpr := hpr) (n := n) (d := dd) (c := c) (m := m) (k := k) (s := s) (j := j) (by omega) hs (by omega)
      have bx0 := bx 0 (by omega)
      have bx1 := bx 1 (by omega)
      have bx2 := bx 2 (by omega)
      have bw0 := bw 0 (by omega)
      have bw1 := bw 1 (by omega)
      have bw2 := bw 2 (by omega)
      refine ⟨rfl, B29.1, by omega, (z 0 (by omega)).1, nm_r (z 0 (by omega)).2 ⟨by omega, (z 1 (by omega)).1, nm_r (z 1 (by omega)).2 ⟨by omega, (z 2 (by omega)).1, nm_r (z 2 (by omega)).2 ?_⟩⟩⟩
      refine nm_r (tp_wj_s rfl rfl (by omega) (by omega) (by omega) (by omega) (by omega)) (nm_r (tp_wj_s rfl rfl (by omega) (by omega) (by omega) (by omega) (by omega)) (nm_r (tp_wj_s rfl rfl (by omega) (by omega) (by omega) (by omega) (by omega)) (nm_r (e' := jI ((tp_lo t u dd + (j + 1) : Nat) : Int)) (by rw [show (1 : Int32) = jI 1 from rfl, jI_add]; rfl) ?_)))
      have FA : Fr (tp_S10' b dd) h1 h29 := F27'.tr F29'
      have N27 : BMn h1 h27 b ac t := ⟨fun d' c' m' k' _ _ q => (BSd.fr F27 (by omega) (by omega) (by omega)).mpr q, ⟨F27.I (by omega), F27.I (by omega)⟩, fun i => Or.inl (F27.I (by omega))⟩
      refine IH h29 (by omega) ⟨F1.tr FA, O29, N1.tr (N27.tr N29), fun i hi h2 => ?_⟩
      by_cases c1 : i = j
      · subst c1
        exact D29 h2
      · exact N29.1 _ _ _ _ h2 (tp_V_next ok u V) (N27.1 _ _ _ _ h2 (tp_V_next ok u V) (D1 i (by omega) h2))
set_option maxHeartbeats 2000000 in
theorem ct_10 (ok : tp_Ok t) (ou : tp_Ou u) (hpr : tp_Pr pr) (hpb : p + 6 < b) : ∀ n, BC10 E b p ac t u pr n
  | 0 => by
    intro dd d h c m k hn hd P B R O V
    obtain ⟨d, rfl⟩ : ∃ n, d = n + 1 := ⟨d - 1, by omega⟩
    have hT := ok.T
    refine ok_10 ⟨B.1, p, R.1, P.1.1.1, fun q => ?_, fun _ => ⟨rfl, Fr.rf, O, BMn.rf, fun q => by omega⟩⟩
    exfalso
    rw [P.2.2.2.2.2, jI_ltn (by omega) (by omega)] at q
    omega
  | n + 1 => by
    intro dd d h c m k hn hd P B R O V
    have ih := ct_10 ok ou hpr hpb n
    obtain ⟨d, rfl⟩ : ∃ n, d = n + 1 := ⟨d - 1, by omega⟩
    have hT := ok.T
    have hce := tp_ce_lt V.1 V.2.1 V.2.2.1
    have hat := jrow 693 (show dd < tp_T t by omega)
    have B' := B
    obtain ⟨b0, b1, b2, b3, b4, b5, b6, bm⟩ := B
    refine ok_10 ⟨b0, p, R.1, P.1.1.1, fun _ => ?_, fun q => ?_⟩
    · refine ⟨by omega, sz5 _ _ _, nm_r (fz5 V.1 V.2.1 V.2.2.1) (nm_r (e' := if m = 0 ∨ k = 0 then zI h b 7 else zI h b 8) ?_ (nm_r (e' := jI ((dd * 693 + tp_ce c m k : Nat) : Int)) (by rw [show (693 : Int32) = jI 693 from rfl, jI_mul, jI_add]; rfl) ⟨b + 2, b2.1, b2.ti, b2.inn (by omega) (by omega), ?_⟩))⟩
      · rw [show (441 : Int32) = jI ((441 : Nat) : Int) from rfl]
        simp (disch := omega) only [jI_len]
        by_cases q : m = 0 ∨ k = 0
        · rw [if_pos q, if_neg (by have := hce.2.mpr q; omega)]
        · rw [if_neg q, if_pos (by
            by_cases q2 : 441 ≤ tp_ce c m k
            · exact q2
            · exact absurd (hce.2.mp (by omega)) q)]
      · rw [jI_cln (by omega)]
        refine ⟨fun q => ?_, fun q => ⟨rfl, Fr.rf, O, BMn.rf, fun _ => Classical.not_not.mp q⟩⟩
        refine ⟨b + 3, b3.1, Or.inl b3.tg, b3.inn (by omega) (by omega), b + 7 + dd, by rw [jI_cln (by omega)]; exact (bm dd (by omega)).1, by omega, sz44 P.1 (by omega), nm_r (fz44 ou P.1 (by omega)) ⟨by omega, sz45 P.1 (by omega), nm_r (fz45 ou P.1 (by omega)) ⟨tp_hi t u dd - tp_lo t u dd + 1 + 1, ?_⟩⟩⟩
        exact l10 (st := if m = 0 ∨ k = 0 then zI h b 7 else zI h b 8) ok ou hpr hpb ih (by omega) (by omega) P B' R V rfl q (fun h' z => ⟨rfl, z⟩) (tp_hi t u dd - tp_lo t u dd + 1) 0 h (by omega) ⟨Fr.rf, O, BMn.rf, fun i hi => by omega⟩
    · exfalso
      apply q
      rw [P.2.2.2.2.2, jI_ltn (by omega) (by omega)]
      omega
end BSU
