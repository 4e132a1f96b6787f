/-! WALKS along a row of takings -/
/-- where a walk stands: COUNTED, MADE, CREDIT, paid, gained, SHORT -/
abbrev WkT : Type := Nat × Nat × Nat × Int × Int × Int
def wk_st (t u : Nat → Nat) (d s x : Nat) (w : WkT) : WkT :=
  (if d + 1 < tp_T t then tp_c2 t u d w.1 w.2.1 w.2.2.1 x else tp_c1 t u d w.1 w.2.1 w.2.2.1 x, if d + 1 < tp_T t then tp_m2 t u d w.1 w.2.1 w.2.2.1 x else tp_m1 t u d w.1 w.2.1 w.2.2.1 x, if d + 1 < tp_T t then tp_k2 t u d w.1 w.2.1 w.2.2.1 x else w.2.2.1, w.2.2.2.1 + ((tp_nC t u d w.1 w.2.1 w.2.2.1 x * tp_un t (t (20 + s)) 1 + tp_fl t u d w.1 w.2.1 w.2.2.1 x : Nat) : Int) + ((100 * t 6 * tp_sh t u d w.1 w.2.1 w.2.2.1 x : Nat) : Int), w.2.2.2.2.1 + (100 * (t (20 + s) : Int) * x - ((tp_nC t u d w.1 w.2.1 w.2.2.1 x * tp_un t (t (20 + s)) 1 + tp_fl t u d w.1 w.2.1 w.2.2.1 x : Nat) : Int)) - ((100 * t 6 * tp_sh t u d w.1 w.2.1 w.2.2.1 x : Nat) : Int), w.2.2.2.2.2 + (tp_sh t u d w.1 w.2.1 w.2.2.1 x : Int))
/-- f: what is taken, rs: the states -/
def wk (t u : Nat → Nat) (f : Nat → Nat → Nat → Nat → Nat) (rs : Nat → Nat) : Nat → WkT
  | 0 => (0, 0, 0, 0, 0, 0)
  | d + 1 => wk_st t u d (rs d) (f d (wk t u f rs d).1 (wk t u f rs d).2.1 (wk t u f rs d).2.2.1) (wk t u f rs d)
def wk_B (w : WkT) : Prop := w.1 ≤ 20 ∧ w.2.1 ≤ 12 ∧ w.2.2.1 ≤ 8
theorem wk_st_B {t u : Nat → Nat} {d s x : Nat} {w : WkT} (h : wk_B w) : wk_B (wk_st t u d s x w) := by
  obtain ⟨a, b, c⟩ := h
  refine ⟨?_, ?_, ?_⟩
  · show (if d + 1 < tp_T t then _ else _) ≤ 20
    split
    · exact tp_c2_le _ _ _ _ _ _ _
    · exact tp_c1_le _ _ _ _ _ _ _
  · show (if d + 1 < tp_T t then _ else _) ≤ 12
    split
    · exact tp_m2_le _ _ _ _ _ _ b
    · exact Nat.le_trans (tp_m1_le _ _ _ _ _ _ _) b
  · show (if d + 1 < tp_T t then _ else _) ≤ 8
    split
    · exact tp_k2_le _ _ _ _ _ _ c
    · exact c
theorem wk_bd (t u : Nat → Nat) (f : Nat → Nat → Nat → Nat → Nat) (rs : Nat → Nat) : ∀ d, wk_B (wk t u f rs d)
  | 0 => ⟨by show 0 ≤ 20; omega, by show 0 ≤ 12; omega, by show 0 ≤ 8; omega⟩
  | d + 1 => wk_st_B (wk_bd t u f rs d)
/-- the first day that may not be -/
def wk_fw (t u : Nat → Nat) (rx : Nat → Nat) : Nat → Int
  | 0 => -4
  | d + 1 => if wk_fw t u rx d = -4 ∧ ¬ (tp_lo t u d ≤ rx d ∧ rx d ≤ tp_hi t u d) then (d : Int) else wk_fw t u rx d
theorem wk_fw_b (t u : Nat → Nat) (rx : Nat → Nat) : ∀ d, -4 ≤ wk_fw t u rx d ∧ wk_fw t u rx d ≤ d
  | 0 => ⟨by show (-4 : Int) ≤ -4; omega, by show (-4 : Int) ≤ 0; omega⟩
  | d + 1 => by
    have := wk_fw_b t u rx d
    unfold wk_fw
    split <;> omega
section WLK
variable {E : Nat → Nat} {h : ZH} {p w m : Nat} {t u : Nat → Nat} {Q : Option Value → ZH → Prop}
def WSh (h : ZH) (w : Nat) : Prop := ztag h w = 9 ∧ zR h w 0 = w + 1 + 1 ∧ ztag h (w + 1) = 2
theorem WSh.fr {S : Nat → Nat → Prop} {h1 : ZH} (x : WSh h w) (y : Fr S h h1) : WSh h1 w := by
  unfold WSh at x ⊢
  rw [y.2.1, y.2.2.2.1]
  exact x
/-- the fields of a walk -/
def WkS (h : ZH) (w d : Nat) (fw : Int) (z : WkT) : Prop := zI h w 1 = jI (d : Int) ∧ zI h w 2 = jI fw ∧ zI h w 3 = jI (z.1 : Int) ∧ zI h w 4 = jI (z.2.1 : Int) ∧ zI h w 5 = jI (z.2.2.1 : Int) ∧ zI h w 6 = jI z.2.2.2.1 ∧ zI h w 7 = jI z.2.2.2.2.1 ∧ zI h w 8 = jI z.2.2.2.2.2
theorem ct_86 {d : Nat} (hd : 1 ≤ d) (W : WSh h w) (kQ : ∀ h', Fr (fun a _ => a = w) h h' → WkS h' w 0 (-4) (0, 0, 0, 0, 0, 0) → Q none h') : Ct E d 86 [.ref w] h Q := by
  obtain ⟨d, rfl⟩ : ∃ n, d = n + 1 := ⟨d - 1, by omega⟩
  refine ok_86 ⟨W.1, nm_e (nm_e (nm_e (nm_e (nm_e (nm_e (nm_e (nm_e (kQ _ ?_ ?_))))))))⟩
  · exact Fr.uI (Fr.uI (Fr.uI (Fr.uI (Fr.uI (Fr.uI (Fr.uI (Fr.uI Fr.rf rfl) rfl) rfl) rfl) rfl) rfl) rfl) rfl
  · refine ⟨?_, ?_, ?_, ?_, ?_, ?_, ?_, ?_⟩ <;> simp only [zI_uI, Nat.reduceEqDiff, and_false, and_true, if_false, if_true, true_and] <;> rfl
theorem ct_88 {d : Nat} (hd : 1 ≤ d) (W : WSh h w) (kQ : Q none (zuI (zuI (zuI h w 3 (zI h (w + 1) 3)) w 4 (zI h (w + 1) 4)) w 5 (zI h (w + 1) 5))) : Ct E d 88 [.ref w] h Q := by
  obtain ⟨d, rfl⟩ : ∃ n, d = n + 1 := ⟨d - 1, by omega⟩
  refine ok_88 ⟨W.1, w + 1, W.2.1, W.2.2, nm_e (nm_r (e' := zuI (zuI h w 3 (zI h (w + 1) 3)) w 4 (zI h (w + 1) 4)) (by rw [zI_offa (by omega)]) (nm_r (by rw [zI_offa (by omega), zI_offa (by omega)]) kQ))⟩
set_option maxHeartbeats 2000000 in
/-- a day goes by -/
theorem ct_87 {d dd s x : Nat} {fw : Int} {z : WkT} (hd : 9 ≤ d) (ok : tp_Ok t) (ou : tp_Ou u) (P : PgR h p t u) (W : WSh h w) (hdd : dd < tp_T t) (hs : s < 3) (hx : x ≤ 9) (hz : wk_B z) (hfw : -4 ≤ fw ∧ fw ≤ 20) (K : WkS h w dd fw z) (kQ : ∀ h', Fr (fun a _ => a = w ∨ a = w + 1) h h' → WkS h' w (dd + 1) (if fw = -4 ∧ ¬ (tp_lo t u dd ≤ x ∧ x ≤ tp_hi t u dd) then (dd : Int) else fw) (wk_st t u dd s x z) → zI h' w 9 = jI ((tp_nC t u dd z.1 z.2.1 z.2.2.1 x * tp_un t (t (20 + s)) 1 + tp_fl t u dd z.1 z.2.1 z.2.2.1 x : Nat) : Int) → zI h' w 10 = jI (tp_mU t u dd z.1 z.2.1 z.2.2.1 x : Int) → Q none h') : Ct E d 87 [.ref w, .ref p, .int (jI (s : Int)), .int (jI (x : Int))] h Q := by
  obtain ⟨d, rfl⟩ : ∃ n, d = n + 1 := ⟨d - 1, by omega⟩
  have hT := ok.T
  obtain ⟨hc, hm, hk⟩ := hz
  have off := P.1.1.off (a := w) (by rw [W.1]; omega)
  have off1 := P.1.1.off (a := w + 1) (by rw [W.2.2]; omega)
  obtain ⟨k1, k2, k3, k4, k5, k6, k7, k8⟩ := K
  have hday : fz_35 E h p (zI h w 1) = 1 := by
    rw [k1, fz35 ok P.2.2.2.2.2 (by omega) (by omega), if_pos (by omega)]
  -- behind the question whether it may be
  have main : ∀ h1, Fr (fun a i => a = w ∧ i = 2) h h1 → zI h1 w 2 = jI (if fw = -4 ∧ ¬ (tp_lo t u dd ≤ x ∧ x ≤ tp_hi t u dd) then (dd : Int) else fw) → wb_87_20 E d Q w p (jI (s : Int)) (jI (x : Int)) h1 := by
    intro h1 F1 i2
    have P1 : PgR h1 p t u := P.fr F1 (fun a i ha hb => by omega)
    have W1 := W.fr F1
    have f1 : ∀ i, i ≠ 2 → zI h1 w i = zI h w i := fun i hi => F1.I (fun e => hi e.2)
    refine ⟨W1.1, w + 1, W1.2.1, W1.2.2, ?_⟩
    rw [f1 1 (by omega), f1 3 (by omega), f1 4 (by omega), f1 5 (by omega), k1, k3, k4, k5]
    refine ct_2526 (by omega) ok P1 W1.2.2 hdd hc hm hk hx (fun h6 F6 T6 K6 => ?_)
    have W6 := W1.fr F6
    have P6 : PgR h6 p t u := P1.fr F6 (fun a i ha hb => by omega)
    have g6 : ∀ i, zI h6 w i = zI h1 w i := fun i => F6.I (by omega)
    obtain ⟨T0, T1, T2, T3, T4, T5, T6', T7, T8⟩ := T6
    -- what is paid
    have e27 : ∀ h', PgR h' p t u → zI h' (w + 1) 2 = jI (tp_nC t u dd z.1 z.2.1 z.2.2.1 x : Int) → zI h' (w + 1) 7 = jI (tp_fl t u dd z.1 z.2.1 z.2.2.1 x : Int) → fz_27 E h' (w + 1) p (jI (s : Int)) = jI ((tp_nC t u dd z.1 z.2.1 z.2.2.1 x * tp_un t (t (20 + s)) 1 + tp_fl t u dd z.1 z.2.1 z.2.2.1 x : Nat) : Int) := fun h' P' a2 a7 => by
      unfold fz_27
      rw [P'.1.1.2.1.sub]
      dsimp only
      rw [show (20 : Int32) = jI 20 from rfl, jI_add, show (20 + (s : Int)) = ((20 + s : Nat) : Int) by omega, jI_cln (by omega), P'.1.2.1 _ (by omega), show (1 : Int32) = jI ((1 : Nat) : Int) from rfl, fz47 ok P'.1, a2, a7, jI_mul, jI_add]
      rfl
    have s27 : ∀ h', PgR h' p t u → ztag h' (w + 1) = 2 → sz_27 E h' (w + 1) p (jI (s : Int)) := fun h' P' a => ⟨a, P'.1.1.1, p + 1, P'.1.1.2.1.1, P'.1.1.2.1.ti, by rw [show (20 : Int32) = jI 20 from rfl, jI_add]; exact P'.1.1.2.1.inb (by omega) (by omega) (by omega), sz47 P'.1, trivial⟩
    generalize hpd : (tp_nC t u dd z.1 z.2.1 z.2.2.1 x * tp_un t (t (20 + s)) 1 + tp_fl t u dd z.1 z.2.1 z.2.2.1 x : Nat) = pd at e27 kQ
    refine ⟨W6.1, w + 1, W6.2.1, W6.2.2, by omega, s27 h6 P6 W6.2.2, nm_r (e' := zuI h6 w 9 (jI (pd : Int))) (by rw [e27 h6 P6 T2 T7]) (nm_r (e' := zuI (zuI h6 w 9 (jI (pd : Int))) w 10 (jI (tp_mU t u dd z.1 z.2.1 z.2.2.1 x : Int))) (by rw [zI_offa (by omega), T1]) (nm_r (e' := zuI (zuI (zuI h6 w 9 (jI (pd : Int))) w 10 (jI (tp_mU t u dd z.1 z.2.1 z.2.2.1 x : Int))) w 6 (jI (z.2.2.2.1 + (pd : Int)))) ?_ ⟨by omega, ?_, nm_r (e' := zuI (zuI (zuI (zuI h6 w 9 (jI (pd : Int))) w 10 (jI (tp_mU t u dd z.1 z.2.1 z.2.2.1 x : Int))) w 6 (jI (z.2.2.2.1 + (pd : Int)))) w 7 (jI (z.2.2.2.2.1 + (100 * (t (20 + s) : Int) * x - (pd : Int))))) ?_ ?_⟩))⟩
    · rw [zI_offi (by omega), zI_offi (by omega), zI_offi (by omega), zI_here, g6, f1 6 (by omega), k6, jI_add]
    · have F' : Fr (fun a (_ : Nat) => a = w) h6 (zuI (zuI (zuI h6 w 9 (jI (pd : Int))) w 10 (jI (tp_mU t u dd z.1 z.2.1 z.2.2.1 x : Int))) w 6 (jI (z.2.2.2.1 + (pd : Int)))) := Fr.uI (Fr.uI (Fr.uI Fr.rf rfl) rfl) rfl
      have P' := P6.fr F' (fun a i ha hb => by omega)
      exact ⟨P'.1.1.1, p + 1, P'.1.1.2.1.1, P'.1.1.2.1.ti, by rw [show (20 : Int32) = jI 20 from rfl, jI_add]; exact P'.1.1.2.1.inb (by omega) (by omega) (by omega), W6.2.2, s27 _ P' W6.2.2, trivial⟩
    · have F' : Fr (fun a (_ : Nat) => a = w) h6 (zuI (zuI (zuI h6 w 9 (jI (pd : Int))) w 10 (jI (tp_mU t u dd z.1 z.2.1 z.2.2.1 x : Int))) w 6 (jI (z.2.2.2.1 + (pd : Int)))) := Fr.uI (Fr.uI (Fr.uI Fr.rf rfl) rfl) rfl
      have P' := P6.fr F' (fun a i ha hb => by omega)
      have i7 : zI (zuI (zuI (zuI h6 w 9 (jI (pd : Int))) w 10 (jI (tp_mU t u dd z.1 z.2.1 z.2.2.1 x : Int))) w 6 (jI (z.2.2.2.1 + (pd : Int)))) w 7 = jI z.2.2.2.2.1 := by rw [zI_offi (by omega), zI_offi (by omega), zI_offi (by omega), g6, f1 7 (by omega), k7]
      have e28 : fz_28 E (zuI (zuI (zuI h6 w 9 (jI (pd : Int))) w 10 (jI (tp_mU t u dd z.1 z.2.1 z.2.2.1 x : Int))) w 6 (jI (z.2.2.2.1 + (pd : Int)))) (w + 1) p (jI (s : Int)) = jI (100 * (t (20 + s) : Int) * x - (pd : Int)) := by
        unfold fz_28
        rw [P'.1.1.2.1.sub]
        dsimp only
        rw [e27 _ P' (by rw [F'.I (by omega)]; exact T2) (by rw [F'.I (by omega)]; exact T7), show (20 : Int32) = jI 20 from rfl, jI_add, show (20 + (s : Int)) = ((20 + s : Nat) : Int) by omega, jI_cln (by omega), P'.1.2.1 _ (by omega), F'.I (show ¬ w + 1 = w by omega), T0, show (100 : Int32) = jI 100 from rfl, jI_mul, jI_mul, jI_sub]
      rw [i7, e28, jI_add]
    have F7 : Fr (fun a (_ : Nat) => a = w) h6 (zuI (zuI (zuI (zuI h6 w 9 (jI (pd : Int))) w 10 (jI (tp_mU t u dd z.1 z.2.1 z.2.2.1 x : Int))) w 6 (jI (z.2.2.2.1 + (pd : Int)))) w 7 (jI (z.2.2.2.2.1 + (100 * (t (20 + s) : Int) * x - (pd : Int))))) := Fr.uI (Fr.uI (Fr.uI (Fr.uI Fr.rf rfl) rfl) rfl) rfl
    have v9 : zI (zuI (zuI (zuI (zuI h6 w 9 (jI (pd : Int))) w 10 (jI (tp_mU t u dd z.1 z.2.1 z.2.2.1 x : Int))) w 6 (jI (z.2.2.2.1 + (pd : Int)))) w 7 (jI (z.2.2.2.2.1 + (100 * (t (20 + s) : Int) * x - (pd : Int))))) w 9 = jI (pd : Int) := by rw [zI_offi (by omega), zI_offi (by omega), zI_offi (by omega), zI_here]
    have v10 : zI (zuI (zuI (zuI (zuI h6 w 9 (jI (pd : Int))) w 10 (jI (tp_mU t u dd z.1 z.2.1 z.2.2.1 x : Int))) w 6 (jI (z.2.2.2.1 + (pd : Int)))) w 7 (jI (z.2.2.2.2.1 + (100 * (t (20 + s) : Int) * x - (pd : Int))))) w 10 = jI (tp_mU t u dd z.1 z.2.1 z.2.2.1 x : Int) := by rw [zI_offi (by omega), zI_offi (by omega), zI_here]
    have v6 : zI (zuI (zuI (zuI (zuI h6 w 9 (jI (pd : Int))) w 10 (jI (tp_mU t u dd z.1 z.2.1 z.2.2.1 x : Int))) w 6 (jI (z.2.2.2.1 + (pd : Int)))) w 7 (jI (z.2.2.2.2.1 + (100 * (t (20 + s) : Int) * x - (pd : Int))))) w 6 = jI (z.2.2.2.1 + (pd : Int)) := by rw [zI_offi (by omega), zI_here]
    have v7 : zI (zuI (zuI (zuI (zuI h6 w 9 (jI (pd : Int))) w 10 (jI (tp_mU t u dd z.1 z.2.1 z.2.2.1 x : Int))) w 6 (jI (z.2.2.2.1 + (pd : Int)))) w 7 (jI (z.2.2.2.2.1 + (100 * (t (20 + s) : Int) * x - (pd : Int))))) w 7 = jI (z.2.2.2.2.1 + (100 * (t (20 + s) : Int) * x - (pd : Int))) := by rw [zI_here]
    have v1 : ∀ i, i = 1 ∨ i = 2 ∨ i = 8 → zI (zuI (zuI (zuI (zuI h6 w 9 (jI (pd : Int))) w 10 (jI (tp_mU t u dd z.1 z.2.1 z.2.2.1 x : Int))) w 6 (jI (z.2.2.2.1 + (pd : Int)))) w 7 (jI (z.2.2.2.2.1 + (100 * (t (20 + s) : Int) * x - (pd : Int))))) w i = zI h1 w i := fun i hi => by rw [zI_offi (by omega), zI_offi (by omega), zI_offi (by omega), zI_offi (by omega), g6]
    generalize zuI (zuI (zuI (zuI h6 w 9 (jI (pd : Int))) w 10 (jI (tp_mU t u dd z.1 z.2.1 z.2.2.1 x : Int))) w 6 (jI (z.2.2.2.1 + (pd : Int)))) w 7 (jI (z.2.2.2.2.1 + (100 * (t (20 + s) : Int) * x - (pd : Int)))) = h7 at F7 v9 v10 v6 v7 v1 ⊢
    have W7 := W6.fr F7
    have m7 : ∀ i, zI h7 (w + 1) i = zI h6 (w + 1) i := fun i => F7.I (by omega)
    refine ct_88 (by omega) W7 ⟨rfl, ?_⟩
    rw [m7, m7, m7, T3, T4, T5]
    have F8 : Fr (fun a i => a = w ∧ (i = 3 ∨ i = 4 ∨ i = 5)) h7 (zuI (zuI (zuI h7 w 3 (jI (tp_c1 t u dd z.1 z.2.1 z.2.2.1 x : Int))) w 4 (jI (tp_m1 t u dd z.1 z.2.1 z.2.2.1 x : Int))) w 5 (jI (z.2.2.1 : Int))) := Fr.uI (Fr.uI (Fr.uI Fr.rf (by omega)) (by omega)) (by omega)
    have p3 : zI (zuI (zuI (zuI h7 w 3 (jI (tp_c1 t u dd z.1 z.2.1 z.2.2.1 x : Int))) w 4 (jI (tp_m1 t u dd z.1 z.2.1 z.2.2.1 x : Int))) w 5 (jI (z.2.2.1 : Int))) w 3 = jI (tp_c1 t u dd z.1 z.2.1 z.2.2.1 x : Int) := by rw [zI_offi (by omega), zI_offi (by omega), zI_here]
    have p4 : zI (zuI (zuI (zuI h7 w 3 (jI (tp_c1 t u dd z.1 z.2.1 z.2.2.1 x : Int))) w 4 (jI (tp_m1 t u dd z.1 z.2.1 z.2.2.1 x : Int))) w 5 (jI (z.2.2.1 : Int))) w 4 = jI (tp_m1 t u dd z.1 z.2.1 z.2.2.1 x : Int) := by rw [zI_offi (by omega), zI_here]
    have p5 : zI (zuI (zuI (zuI h7 w 3 (jI (tp_c1 t u dd z.1 z.2.1 z.2.2.1 x : Int))) w 4 (jI (tp_m1 t u dd z.1 z.2.1 z.2.2.1 x : Int))) w 5 (jI (z.2.2.1 : Int))) w 5 = jI (z.2.2.1 : Int) := by rw [zI_here]
    generalize zuI (zuI (zuI h7 w 3 (jI (tp_c1 t u dd z.1 z.2.1 z.2.2.1 x : Int))) w 4 (jI (tp_m1 t u dd z.1 z.2.1 z.2.2.1 x : Int))) w 5 (jI (z.2.2.1 : Int)) = h8 at F8 p3 p4 p5 ⊢
    have W8 := W7.fr F8
    have P8 : PgR h8 p t u := (P6.fr F7 (fun a i ha hb => by omega)).fr F8 (fun a i ha hb => by omega)
    have m8 : ∀ i, zI h8 (w + 1) i = zI h6 (w + 1) i := fun i => by rw [F8.I (by omega), m7]
    refine ⟨W8.1, w + 1, W8.2.1, W8.2.2, ?_⟩
    have n8 : zI h8 w 1 = jI (dd : Int) := by rw [F8.I (by omega), v1 1 (by omega), f1 1 (by omega), k1]
    rw [n8]
    refine Ct.mono (ct_26 (m := 0) (by omega) ok P8 W8.2.2 hdd (tp_c1_le _ _ _ _ _ _ _) hk (by rw [m8]; exact T3) (by rw [m8]; exact T5)) ?_
    rintro v h9 ⟨rfl, F9, nl, yl⟩
    have W9 := W8.fr F9
    have P9 : PgR h9 p t u := P8.fr F9 (fun a i ha hb => by omega)
    have g9 : ∀ i, zI h9 w i = zI h8 w i := fun i => F9.I (by omega)
    have M9 : zI h9 (w + 1) 3 = jI (tp_c2 t u dd z.1 z.2.1 z.2.2.1 x : Int) ∧ zI h9 (w + 1) 4 = jI (tp_m2 t u dd z.1 z.2.1 z.2.2.1 x : Int) ∧ zI h9 (w + 1) 5 = jI (tp_k2 t u dd z.1 z.2.1 z.2.2.1 x : Int) ∧ zI h9 (w + 1) 6 = jI (tp_sh t u dd z.1 z.2.1 z.2.2.1 x : Int) ∧ zI h9 (w + 1) 8 = jI ((100 * t 6 * tp_sh t u dd z.1 z.2.1 z.2.2.1 x : Nat) : Int) := by
      unfold tp_c2 tp_m2 tp_k2 tp_sh
      by_cases cl : (dd + 1) % t 1 = 0
      · obtain ⟨c3, c4, c5, c6, c8⟩ := yl cl
        rw [if_pos cl, if_pos cl, if_pos cl, if_pos cl]
        exact ⟨c3, c4, c5, c6, c8⟩
      · rw [nl cl, m8, m8, m8, m8, m8, if_neg cl, if_neg cl, if_neg cl, if_neg cl]
        exact ⟨T3, T4, T5, T6', T8⟩
    obtain ⟨M3, M4, M5, M6, M8⟩ := M9
    have q6 : zI h9 w 6 = jI (z.2.2.2.1 + (pd : Int)) := by rw [g9, F8.I (by omega)]; exact v6
    have q7 : zI h9 w 7 = jI (z.2.2.2.2.1 + (100 * (t (20 + s) : Int) * x - (pd : Int))) := by rw [g9, F8.I (by omega)]; exact v7
    have q8 : zI h9 w 8 = jI z.2.2.2.2.2 := by rw [g9, F8.I (by omega), v1 8 (by omega), f1 8 (by omega)]; exact k8
    have q1 : zI h9 w 1 = jI (dd : Int) := by rw [g9]; exact n8
    have hps : ((100 * t 6 * tp_sh t u dd z.1 z.2.1 z.2.2.1 x : Nat) : Int) = ((100 * t 6 * tp_sh t u dd z.1 z.2.1 z.2.2.1 x : Nat) : Int) := rfl
    generalize hq : (100 * t 6 * tp_sh t u dd z.1 z.2.1 z.2.2.1 x : Nat) = ps at M8
    refine ⟨rfl, W9.1, w + 1, W9.2.1, W9.2.2, nm_r (e' := zuI h9 w 8 (jI (z.2.2.2.2.2 + (tp_sh t u dd z.1 z.2.1 z.2.2.1 x : Int)))) (by rw [q8, M6, jI_add]) (nm_r (e' := zuI (zuI h9 w 8 (jI (z.2.2.2.2.2 + (tp_sh t u dd z.1 z.2.1 z.2.2.1 x : Int)))) w 6 (jI (z.2.2.2.1 + (pd : Int) + (ps : Int)))) (by rw [zI_offi (by omega), q6, zI_offa (by omega), M8, jI_add]) (nm_r (e' := zuI (zuI (zuI h9 w 8 (jI (z.2.2.2.2.2 + (tp_sh t u dd z.1 z.2.1 z.2.2.1 x : Int)))) w 6 (jI (z.2.2.2.1 + (pd : Int) + (ps : Int)))) w 7 (jI (z.2.2.2.2.1 + (100 * (t (20 + s) : Int) * x - (pd : Int)) - (ps : Int)))) (by rw [zI_offi (by omega), zI_offi (by omega), q7, zI_offa (by omega), zI_offa (by omega), M8, jI_sub]) (nm_r (e' := zuI (zuI (zuI (zuI h9 w 8 (jI (z.2.2.2.2.2 + (tp_sh t u dd z.1 z.2.1 z.2.2.1 x : Int)))) w 6 (jI (z.2.2.2.1 + (pd : Int) + (ps : Int)))) w 7 (jI (z.2.2.2.2.1 + (100 * (t (20 + s) : Int) * x - (pd : Int)) - (ps : Int)))) w 1 (jI ((dd + 1 : Nat) : Int))) (by rw [zI_offi (by omega), zI_offi (by omega), zI_offi (by omega), q1, show (1 : Int32) = jI 1 from rfl, jI_add]; rfl) ?_)))⟩
    have FX : Fr (fun a i => a = w ∧ (i = 1 ∨ i = 6 ∨ i = 7 ∨ i = 8)) h9 (zuI (zuI (zuI (zuI h9 w 8 (jI (z.2.2.2.2.2 + (tp_sh t u dd z.1 z.2.1 z.2.2.1 x : Int)))) w 6 (jI (z.2.2.2.1 + (pd : Int) + (ps : Int)))) w 7 (jI (z.2.2.2.2.1 + (100 * (t (20 + s) : Int) * x - (pd : Int)) - (ps : Int)))) w 1 (jI ((dd + 1 : Nat) : Int))) := Fr.uI (Fr.uI (Fr.uI (Fr.uI Fr.rf (by omega)) (by omega)) (by omega)) (by omega)
    have x1 : zI (zuI (zuI (zuI (zuI h9 w 8 (jI (z.2.2.2.2.2 + (tp_sh t u dd z.1 z.2.1 z.2.2.1 x : Int)))) w 6 (jI (z.2.2.2.1 + (pd : Int) + (ps : Int)))) w 7 (jI (z.2.2.2.2.1 + (100 * (t (20 + s) : Int) * x - (pd : Int)) - (ps : Int)))) w 1 (jI ((dd + 1 : Nat) : Int))) w 1 = jI ((dd + 1 : Nat) : Int) := by rw [zI_here]
    have x6 : zI (zuI (zuI (zuI (zuI h9 w 8 (jI (z.2.2.2.2.2 + (tp_sh t u dd z.1 z.2.1 z.2.2.1 x : Int)))) w 6 (jI (z.2.2.2.1 + (pd : Int) + (ps : Int)))) w 7 (jI (z.2.2.2.2.1 + (100 * (t (20 + s) : Int) * x - (pd : Int)) - (ps : Int)))) w 1 (jI ((dd + 1 : Nat) : Int))) w 6 = jI (z.2.2.2.1 + (pd : Int) + (ps : Int)) := by rw [zI_offi (by omega), zI_offi (by omega), zI_here]
    have x7 : zI (zuI (zuI (zuI (zuI h9 w 8 (jI (z.2.2.2.2.2 + (tp_sh t u dd z.1 z.2.1 z.2.2.1 x : Int)))) w 6 (jI (z.2.2.2.1 + (pd : Int) + (ps : Int)))) w 7 (jI (z.2.2.2.2.1 + (100 * (t (20 + s) : Int) * x - (pd : Int)) - (ps : Int)))) w 1 (jI ((dd + 1 : Nat) : Int))) w 7 = jI (z.2.2.2.2.1 + (100 * (t (20 + s) : Int) * x - (pd : Int)) - (ps : Int)) := by rw [zI_offi (by omega), zI_here]
    have x8 : zI (zuI (zuI (zuI (zuI h9 w 8 (jI (z.2.2.2.2.2 + (tp_sh t u dd z.1 z.2.1 z.2.2.1 x : Int)))) w 6 (jI (z.2.2.2.1 + (pd : Int) + (ps : Int)))) w 7 (jI (z.2.2.2.2.1 + (100 * (t (20 + s) : Int) * x - (pd : Int)) - (ps : Int)))) w 1 (jI ((dd + 1 : Nat) : Int))) w 8 = jI (z.2.2.2.2.2 + (tp_sh t u dd z.1 z.2.1 z.2.2.1 x : Int)) := by rw [zI_offi (by omega), zI_offi (by omega), zI_offi (by omega), zI_here]
    generalize zuI (zuI (zuI (zuI h9 w 8 (jI (z.2.2.2.2.2 + (tp_sh t u dd z.1 z.2.1 z.2.2.1 x : Int)))) w 6 (jI (z.2.2.2.1 + (pd : Int) + (ps : Int)))) w 7 (jI (z.2.2.2.2.1 + (100 * (t (20 + s) : Int) * x - (pd : Int)) - (ps : Int)))) w 1 (jI ((dd + 1 : Nat) : Int)) = hX at FX x1 x6 x7 x8 ⊢
    have WX := W9.fr FX
    have PX : PgR hX p t u := P9.fr FX (fun a i ha hb => by omega)
    have o9 : zI hX w 9 = jI (pd : Int) := by rw [FX.I (by omega), g9, F8.I (by omega)]; exact v9
    have o10 : zI hX w 10 = jI (tp_mU t u dd z.1 z.2.1 z.2.2.1 x : Int) := by rw [FX.I (by omega), g9, F8.I (by omega)]; exact v10
    have o2 : zI hX w 2 = jI (if fw = -4 ∧ ¬ (tp_lo t u dd ≤ x ∧ x ≤ tp_hi t u dd) then (dd : Int) else fw) := by rw [FX.I (by omega), g9, F8.I (by omega), v1 2 (by omega)]; exact i2
    have o3 : zI hX w 3 = jI (tp_c1 t u dd z.1 z.2.1 z.2.2.1 x : Int) := by rw [FX.I (by omega), g9]; exact p3
    have o4 : zI hX w 4 = jI (tp_m1 t u dd z.1 z.2.1 z.2.2.1 x : Int) := by rw [FX.I (by omega), g9]; exact p4
    have o5 : zI hX w 5 = jI (z.2.2.1 : Int) := by rw [FX.I (by omega), g9]; exact p5
    have FA : Fr (fun a (_ : Nat) => a = w ∨ a = w + 1) h hX := ((((F1.wd (fun a i e => Or.inl e.1)).tr (F6.wd (fun a i e => Or.inr e))).tr (F7.wd (fun a i e => Or.inl e))).tr ((F8.wd (fun a i e => Or.inl e.1)).tr (F9.wd (fun a i e => Or.inr e.1)))).tr (FX.wd (fun a i e => Or.inl e.1))
    refine ⟨PX.1.1.1, by omega, by rw [x1]; exact sz35 PX.1, ?_⟩
    rw [x1, fz35 ok PX.2.2.2.2.2 (by omega) (by omega)]
    by_cases cT : dd + 1 < tp_T t
    · rw [if_pos (by omega)]
      refine ⟨fun q => absurd q (by decide), fun _ => ct_88 (by omega) WX ⟨rfl, ?_⟩⟩
      rw [FX.I (show ¬ (w + 1 = w ∧ _) by omega), FX.I (show ¬ (w + 1 = w ∧ _) by omega), FX.I (show ¬ (w + 1 = w ∧ _) by omega), M3, M4, M5]
      refine kQ _ (((FA.uI (Or.inl rfl)).uI (Or.inl rfl)).uI (Or.inl rfl)) ⟨?_, ?_, ?_, ?_, ?_, ?_, ?_, ?_⟩ ?_ ?_
      · rw [zI_offi (by omega), zI_offi (by omega), zI_offi (by omega)]; exact x1
      · rw [zI_offi (by omega), zI_offi (by omega), zI_offi (by omega)]; exact o2
      · rw [zI_offi (by omega), zI_offi (by omega), zI_here]; show _ = jI ((if dd + 1 < tp_T t then _ else _ : Nat) : Int); rw [if_pos cT]
      · rw [zI_offi (by omega), zI_here]; show _ = jI ((if dd + 1 < tp_T t then _ else _ : Nat) : Int); rw [if_pos cT]
      · rw [zI_here]; show _ = jI ((if dd + 1 < tp_T t then _ else _ : Nat) : Int); rw [if_pos cT]
      · rw [zI_offi (by omega), zI_offi (by omega), zI_offi (by omega), x6]; unfold wk_st; rw [hpd, hq]
      · rw [zI_offi (by omega), zI_offi (by omega), zI_offi (by omega), x7]; unfold wk_st; rw [hpd, hq]
      · rw [zI_offi (by omega), zI_offi (by omega), zI_offi (by omega), x8]; rfl
      · rw [zI_offi (by omega), zI_offi (by omega), zI_offi (by omega)]; exact o9
      · rw [zI_offi (by omega), zI_offi (by omega), zI_offi (by omega)]; exact o10
    · rw [if_neg (by omega)]
      refine ⟨fun _ => kQ hX FA ⟨x1, o2, ?_, ?_, ?_, ?_, ?_, ?_⟩ o9 o10, fun q => absurd rfl q⟩
      · rw [o3]; show _ = jI ((if dd + 1 < tp_T t then _ else _ : Nat) : Int); rw [if_neg cT]
      · rw [o4]; show _ = jI ((if dd + 1 < tp_T t then _ else _ : Nat) : Int); rw [if_neg cT]
      · rw [o5]; show _ = jI ((if dd + 1 < tp_T t then _ else _ : Nat) : Int); rw [if_neg cT]
      · rw [x6]; unfold wk_st; rw [hpd, hq]
      · rw [x7]; unfold wk_st; rw [hpd, hq]
      · rw [x8]; rfl
  refine ok_87 ⟨W.1, P.1.1.1, by omega, by rw [k1]; exact sz35 P.1, ?_⟩
  rw [hday]
  refine ⟨fun _ => ?_, fun q => absurd (by decide) q⟩
  rw [k2, jm4, jI_eq (by omega) (by omega) (by omega) (by omega)]
  refine ⟨fun c => main h Fr.rf (by rw [k2, if_neg (fun q => c q.1)]), fun c => ⟨by omega, by rw [k1]; exact sz46 P.1 (by omega), ?_⟩⟩
  have c' := Classical.not_not.mp c
  rw [k1, fz46 ok ou P.1 (by omega) (by omega)]
  by_cases cm : tp_lo t u dd ≤ x ∧ x ≤ tp_hi t u dd
  · rw [if_pos cm]
    refine ⟨fun _ => main h Fr.rf (by rw [k2, if_neg (fun q => q.2 cm)]), fun q => absurd (by decide) q⟩
  · rw [if_neg cm]
    refine ⟨fun q => absurd rfl q, fun _ => nm_e (main _ (Fr.uI Fr.rf ⟨rfl, rfl⟩) (by rw [zI_here, if_pos ⟨c', cm⟩]))⟩
end WLK
