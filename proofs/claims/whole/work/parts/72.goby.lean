/-! THE MODEL: a day goes by; the row -/
section MGB
variable {E : Nat → Nat} {h : ZH} {m : Nat} {t u : Nat → Nat} {Q : Option Value → ZH → Prop}
def MkS (h : ZH) (m : Nat) (z : WkT) : Prop := zI h m 41 = jI (z.1 : Int) ∧ zI h m 42 = jI (z.2.1 : Int) ∧ zI h m 43 = jI (z.2.2.1 : Int) ∧ zI h m 44 = jI z.2.2.2.1 ∧ zI h m 45 = jI z.2.2.2.2.1 ∧ zI h m 46 = jI z.2.2.2.2.2
theorem ct_201 {d : Nat} (hd : 1 ≤ d) (S : MSh h m) (kQ : ∀ h', Fr (tp_Sm m 41 46) h h' → MkS h' m (0, 0, 0, 0, 0, 0) → Q none h') : Ct E d 201 [.ref m] h Q := by
  obtain ⟨d, rfl⟩ : ∃ n, d = n + 1 := ⟨d - 1, by omega⟩
  refine ok_201 ⟨S.1, nm_e (nm_e (nm_e (nm_e (nm_e (nm_e (kQ _ ?_ ?_))))))⟩
  · exact Fr.uI (Fr.uI (Fr.uI (Fr.uI (Fr.uI (Fr.uI Fr.rf (by unfold tp_Sm; omega)) (by unfold tp_Sm; omega)) (by unfold tp_Sm; omega)) (by unfold tp_Sm; omega)) (by unfold tp_Sm; omega)) (by unfold tp_Sm; omega)
  · refine ⟨?_, ?_, ?_, ?_, ?_, ?_⟩ <;> simp only [zI_uI, Nat.reduceEqDiff, and_false, and_true, if_false, if_true, true_and] <;> rfl
def tp_Sb (m : Nat) : Nat → Nat → Prop := fun a i => a = m ∧ ((21 ≤ i ∧ i ≤ 26) ∨ (41 ≤ i ∧ i ≤ 46))
set_option maxHeartbeats 2000000 in
theorem ct_202 {d dd s x : Nat} {z : WkT} (hd : 8 ≤ d) (ok : tp_Ok t) (ou : tp_Ou u) (P : MPg h m t u) (hdd : dd < tp_T t) (hs : s < 3) (hx : x ≤ 9) (hz : wk_B z) (K : MkS h m z) (kQ : ∀ h', Fr (tp_Sb m) h h' → MkS h' m (wk_st t u dd s x z) → zI h' m 23 = jI ((tp_nC t u dd z.1 z.2.1 z.2.2.1 x * tp_un t (t (20 + s)) 1 + tp_fl t u dd z.1 z.2.1 z.2.2.1 x : Nat) : Int) → zI h' m 24 = jI (tp_mU t u dd z.1 z.2.1 z.2.2.1 x : Int) → Q none h') : Ct E d 202 [.ref m, .int (jI (dd : Int)), .int (jI (s : Int)), .int (jI (x : Int))] h Q := by
  obtain ⟨d, rfl⟩ : ∃ n, d = n + 1 := ⟨d - 1, by omega⟩
  have hT := ok.T
  have h1 := ok.2.1
  have hy := ok.y hdd
  obtain ⟨hc, hm, hk⟩ := hz
  obtain ⟨k1, k2, k3, k4, k5, k6⟩ := K
  refine ok_202 ⟨P.1.1, ?_⟩
  rw [k1, k2, k3]
  refine ct_167 (by omega) ok ou P hdd hc hm hk hs hx (fun h2 F2 K2 => ?_)
  have P2 : MPg h2 m t u := P.fr F2 (fun i => by unfold tp_Sm; omega) (fun i => by unfold tp_Sm; omega)
  obtain ⟨T1, T2, T3, T4⟩ := K2
  have hnc := tp_nC_x t u dd z.1 z.2.1 z.2.2.1 x
  have g2 : ∀ i, 41 ≤ i → zI h2 m i = zI h m i := fun i hi => F2.I (by unfold tp_Sm; omega)
  have ec1 : fz_164 E h2 (zI h2 m 21) 20 = jI (tp_c1 t u dd z.1 z.2.1 z.2.2.1 x : Int) := by
    rw [T1, show (20 : Int32) = jI ((20 : Nat) : Int) from rfl, fz164 (by omega) (by omega)]
    unfold tp_c1
    congr 1; omega
  generalize hpd : (tp_nC t u dd z.1 z.2.1 z.2.2.1 x * tp_un t (t (20 + s)) 1 + tp_fl t u dd z.1 z.2.1 z.2.2.1 x : Nat) = pd at T3 kQ
  refine ⟨rfl, P2.1.1, by omega, trivial, nm_r (e' := zuI h2 m 41 (jI (tp_c1 t u dd z.1 z.2.1 z.2.2.1 x : Int))) (by rw [ec1]) (nm_r (e' := zuI (zuI h2 m 41 (jI (tp_c1 t u dd z.1 z.2.1 z.2.2.1 x : Int))) m 42 (jI (tp_m1 t u dd z.1 z.2.1 z.2.2.1 x : Int))) (by rw [zI_offi (by omega), T2]) (nm_r (e' := zuI (zuI (zuI h2 m 41 (jI (tp_c1 t u dd z.1 z.2.1 z.2.2.1 x : Int))) m 42 (jI (tp_m1 t u dd z.1 z.2.1 z.2.2.1 x : Int))) m 44 (jI (z.2.2.2.1 + (pd : Int)))) (by rw [zI_offi (by omega), zI_offi (by omega), zI_offi (by omega), zI_offi (by omega), g2 44 (by omega), k4, T3, jI_add]) ⟨by omega, ?_, ?_⟩))⟩
  · exact sz168 (P2.fr (S := tp_Sb m) (Fr.uI (Fr.uI (Fr.uI Fr.rf (by unfold tp_Sb; omega)) (by unfold tp_Sb; omega)) (by unfold tp_Sb; omega)) (fun i => by unfold tp_Sb; omega) (fun i => by unfold tp_Sb; omega)) hs
  have F3 : Fr (tp_Sm m 41 46) h2 (zuI (zuI (zuI h2 m 41 (jI (tp_c1 t u dd z.1 z.2.1 z.2.2.1 x : Int))) m 42 (jI (tp_m1 t u dd z.1 z.2.1 z.2.2.1 x : Int))) m 44 (jI (z.2.2.2.1 + (pd : Int)))) := Fr.uI (Fr.uI (Fr.uI Fr.rf (by unfold tp_Sm; omega)) (by unfold tp_Sm; omega)) (by unfold tp_Sm; omega)
  have P3 := P2.fr F3 (fun i => by unfold tp_Sm; omega) (fun i => by unfold tp_Sm; omega)
  refine nm_r (e' := zuI (zuI (zuI (zuI h2 m 41 (jI (tp_c1 t u dd z.1 z.2.1 z.2.2.1 x : Int))) m 42 (jI (tp_m1 t u dd z.1 z.2.1 z.2.2.1 x : Int))) m 44 (jI (z.2.2.2.1 + (pd : Int)))) m 45 (jI (z.2.2.2.2.1 + (100 * (t (20 + s) : Int) * x - (pd : Int))))) ?_ ?_
  · rw [fz168 (z := (pd : Int)) P3 hs (by rw [F3.I (by unfold tp_Sm; omega)]; exact T3), zI_offi (by omega), zI_offi (by omega), zI_offi (by omega), g2 45 (by omega), k5, jI_add]
  have F4 : Fr (tp_Sb m) h (zuI (zuI (zuI (zuI h2 m 41 (jI (tp_c1 t u dd z.1 z.2.1 z.2.2.1 x : Int))) m 42 (jI (tp_m1 t u dd z.1 z.2.1 z.2.2.1 x : Int))) m 44 (jI (z.2.2.2.1 + (pd : Int)))) m 45 (jI (z.2.2.2.2.1 + (100 * (t (20 + s) : Int) * x - (pd : Int))))) := (F2.wd (fun a i e => by unfold tp_Sm at e; unfold tp_Sb; omega)).tr ((F3.wd (fun a i e => by unfold tp_Sm at e; unfold tp_Sb; omega)).uI (by unfold tp_Sb; omega))
  have v41 : zI (zuI (zuI (zuI (zuI h2 m 41 (jI (tp_c1 t u dd z.1 z.2.1 z.2.2.1 x : Int))) m 42 (jI (tp_m1 t u dd z.1 z.2.1 z.2.2.1 x : Int))) m 44 (jI (z.2.2.2.1 + (pd : Int)))) m 45 (jI (z.2.2.2.2.1 + (100 * (t (20 + s) : Int) * x - (pd : Int))))) m 41 = jI (tp_c1 t u dd z.1 z.2.1 z.2.2.1 x : Int) := by rw [zI_offi (by omega), zI_offi (by omega), zI_offi (by omega), zI_here]
  have v42 : zI (zuI (zuI (zuI (zuI h2 m 41 (jI (tp_c1 t u dd z.1 z.2.1 z.2.2.1 x : Int))) m 42 (jI (tp_m1 t u dd z.1 z.2.1 z.2.2.1 x : Int))) m 44 (jI (z.2.2.2.1 + (pd : Int)))) m 45 (jI (z.2.2.2.2.1 + (100 * (t (20 + s) : Int) * x - (pd : Int))))) m 42 = jI (tp_m1 t u dd z.1 z.2.1 z.2.2.1 x : Int) := by rw [zI_offi (by omega), zI_offi (by omega), zI_here]
  have v43 : zI (zuI (zuI (zuI (zuI h2 m 41 (jI (tp_c1 t u dd z.1 z.2.1 z.2.2.1 x : Int))) m 42 (jI (tp_m1 t u dd z.1 z.2.1 z.2.2.1 x : Int))) m 44 (jI (z.2.2.2.1 + (pd : Int)))) m 45 (jI (z.2.2.2.2.1 + (100 * (t (20 + s) : Int) * x - (pd : Int))))) m 43 = jI (z.2.2.1 : Int) := by rw [zI_offi (by omega), zI_offi (by omega), zI_offi (by omega), zI_offi (by omega), g2 43 (by omega), k3]
  have v44 : zI (zuI (zuI (zuI (zuI h2 m 41 (jI (tp_c1 t u dd z.1 z.2.1 z.2.2.1 x : Int))) m 42 (jI (tp_m1 t u dd z.1 z.2.1 z.2.2.1 x : Int))) m 44 (jI (z.2.2.2.1 + (pd : Int)))) m 45 (jI (z.2.2.2.2.1 + (100 * (t (20 + s) : Int) * x - (pd : Int))))) m 44 = jI (z.2.2.2.1 + (pd : Int)) := by rw [zI_offi (by omega), zI_here]
  have v45 : zI (zuI (zuI (zuI (zuI h2 m 41 (jI (tp_c1 t u dd z.1 z.2.1 z.2.2.1 x : Int))) m 42 (jI (tp_m1 t u dd z.1 z.2.1 z.2.2.1 x : Int))) m 44 (jI (z.2.2.2.1 + (pd : Int)))) m 45 (jI (z.2.2.2.2.1 + (100 * (t (20 + s) : Int) * x - (pd : Int))))) m 45 = jI (z.2.2.2.2.1 + (100 * (t (20 + s) : Int) * x - (pd : Int))) := by rw [zI_here]
  have v46 : zI (zuI (zuI (zuI (zuI h2 m 41 (jI (tp_c1 t u dd z.1 z.2.1 z.2.2.1 x : Int))) m 42 (jI (tp_m1 t u dd z.1 z.2.1 z.2.2.1 x : Int))) m 44 (jI (z.2.2.2.1 + (pd : Int)))) m 45 (jI (z.2.2.2.2.1 + (100 * (t (20 + s) : Int) * x - (pd : Int))))) m 46 = jI z.2.2.2.2.2 := by rw [zI_offi (by omega), zI_offi (by omega), zI_offi (by omega), zI_offi (by omega), g2 46 (by omega), k6]
  have v23 : zI (zuI (zuI (zuI (zuI h2 m 41 (jI (tp_c1 t u dd z.1 z.2.1 z.2.2.1 x : Int))) m 42 (jI (tp_m1 t u dd z.1 z.2.1 z.2.2.1 x : Int))) m 44 (jI (z.2.2.2.1 + (pd : Int)))) m 45 (jI (z.2.2.2.2.1 + (100 * (t (20 + s) : Int) * x - (pd : Int))))) m 23 = jI (pd : Int) := by rw [zI_offi (by omega), zI_offi (by omega), zI_offi (by omega), zI_offi (by omega), T3]
  have v24 : zI (zuI (zuI (zuI (zuI h2 m 41 (jI (tp_c1 t u dd z.1 z.2.1 z.2.2.1 x : Int))) m 42 (jI (tp_m1 t u dd z.1 z.2.1 z.2.2.1 x : Int))) m 44 (jI (z.2.2.2.1 + (pd : Int)))) m 45 (jI (z.2.2.2.2.1 + (100 * (t (20 + s) : Int) * x - (pd : Int))))) m 24 = jI (tp_mU t u dd z.1 z.2.1 z.2.2.1 x : Int) := by rw [zI_offi (by omega), zI_offi (by omega), zI_offi (by omega), zI_offi (by omega), T4]
  generalize zuI (zuI (zuI (zuI h2 m 41 (jI (tp_c1 t u dd z.1 z.2.1 z.2.2.1 x : Int))) m 42 (jI (tp_m1 t u dd z.1 z.2.1 z.2.2.1 x : Int))) m 44 (jI (z.2.2.2.1 + (pd : Int)))) m 45 (jI (z.2.2.2.2.1 + (100 * (t (20 + s) : Int) * x - (pd : Int)))) = h7 at F4 v41 v42 v43 v44 v45 v46 v23 v24 ⊢
  have P7 : MPg h7 m t u := P.fr F4 (fun i => by unfold tp_Sb; omega) (fun i => by unfold tp_Sb; omega)
  refine ⟨by omega, sz177 ok P7, ?_⟩
  rw [fz177 ok P7 (by omega)]
  by_cases cl : (dd + 1) % t 1 = 0
  · rw [if_pos cl]
    refine ⟨fun q => absurd q (by decide), fun _ => ⟨m + 8, P7.1.a15.1, P7.1.a15.ti, P7.1.a15.inc (by decide), ?_, ?_⟩⟩
    · intro q
      rw [P7.2.1 1 (by omega), show (0 : Int32) = jI ((0 : Nat) : Int) from rfl, jI_eqn (by omega) (by omega)] at q
      omega
    rw [P7.2.1 1 (by omega), jI_div (by omega) (by omega) (by omega), v41, v43]
    refine ct_171 (by omega) ok ou P7 hy (tp_c1_le _ _ _ _ _ _ _) hk (fun h8 e8 => ?_)
    have F8 : Fr (tp_Sm m 25 26) h7 h8 := by rw [e8]; exact Fr.uI (Fr.uI Fr.rf (by unfold tp_Sm; omega)) (by unfold tp_Sm; omega)
    have P8 : MPg h8 m t u := P7.fr F8 (fun i => by unfold tp_Sm; omega) (fun i => by unfold tp_Sm; omega)
    have hsh : tp_sh t u dd z.1 z.2.1 z.2.2.1 x = tp_sE t u (dd / t 1) (tp_c1 t u dd z.1 z.2.1 z.2.2.1 x) z.2.2.1 := by unfold tp_sh; rw [if_pos cl]
    have i25 : zI h8 m 25 = jI (tp_sh t u dd z.1 z.2.1 z.2.2.1 x : Int) := by rw [e8, zI_offi (by omega), zI_here, hsh]
    have i26 : zI h8 m 26 = jI (tp_kE t u (dd / t 1) (tp_c1 t u dd z.1 z.2.1 z.2.2.1 x) : Int) := by rw [e8, zI_here]
    have g8 : ∀ i, i ≠ 25 → i ≠ 26 → zI h8 m i = zI h7 m i := fun i a b => F8.I (by unfold tp_Sm; omega)
    generalize hq : (100 * t 6 * tp_sh t u dd z.1 z.2.1 z.2.2.1 x : Nat) = ps
    have e172 : ∀ h', MPg h' m t u → zI h' m 25 = jI (tp_sh t u dd z.1 z.2.1 z.2.2.1 x : Int) → fz_172 E h' m = jI (ps : Int) := fun h' P' a => by rw [fz172 P' a, hq]
    have F9 : Fr (tp_Sm m 44 44) h8 (zuI h8 m 44 (jI (z.2.2.2.1 + (pd : Int) + (ps : Int)))) := Fr.uI Fr.rf (by unfold tp_Sm; omega)
    have P9 := P8.fr F9 (fun i => by unfold tp_Sm; omega) (fun i => by unfold tp_Sm; omega)
    refine ⟨rfl, P8.1.1, by omega, sz172 P8, nm_r (e' := zuI h8 m 44 (jI (z.2.2.2.1 + (pd : Int) + (ps : Int)))) (by rw [e172 h8 P8 i25, g8 44 (by omega) (by omega), v44, jI_add]) ⟨by omega, sz172 P9, nm_r (e' := zuI (zuI h8 m 44 (jI (z.2.2.2.1 + (pd : Int) + (ps : Int)))) m 45 (jI (z.2.2.2.2.1 + (100 * (t (20 + s) : Int) * x - (pd : Int)) - (ps : Int)))) (by rw [e172 _ P9 (by rw [zI_offi (by omega)]; exact i25), zI_offi (by omega), g8 45 (by omega) (by omega), v45, jI_sub]) (nm_r (e' := zuI (zuI (zuI h8 m 44 (jI (z.2.2.2.1 + (pd : Int) + (ps : Int)))) m 45 (jI (z.2.2.2.2.1 + (100 * (t (20 + s) : Int) * x - (pd : Int)) - (ps : Int)))) m 46 (jI (z.2.2.2.2.2 + (tp_sh t u dd z.1 z.2.1 z.2.2.1 x : Int)))) (by rw [zI_offi (by omega), zI_offi (by omega), g8 46 (by omega) (by omega), v46, zI_offi (by omega), zI_offi (by omega), i25, jI_add]) ?_)⟩⟩
    have FX : Fr (tp_Sm m 44 46) h8 (zuI (zuI (zuI h8 m 44 (jI (z.2.2.2.1 + (pd : Int) + (ps : Int)))) m 45 (jI (z.2.2.2.2.1 + (100 * (t (20 + s) : Int) * x - (pd : Int)) - (ps : Int)))) m 46 (jI (z.2.2.2.2.2 + (tp_sh t u dd z.1 z.2.1 z.2.2.1 x : Int)))) := Fr.uI (Fr.uI (Fr.uI Fr.rf (by unfold tp_Sm; omega)) (by unfold tp_Sm; omega)) (by unfold tp_Sm; omega)
    have x44 : zI (zuI (zuI (zuI h8 m 44 (jI (z.2.2.2.1 + (pd : Int) + (ps : Int)))) m 45 (jI (z.2.2.2.2.1 + (100 * (t (20 + s) : Int) * x - (pd : Int)) - (ps : Int)))) m 46 (jI (z.2.2.2.2.2 + (tp_sh t u dd z.1 z.2.1 z.2.2.1 x : Int)))) m 44 = jI (z.2.2.2.1 + (pd : Int) + (ps : Int)) := by rw [zI_offi (by omega), zI_offi (by omega), zI_here]
    have x45 : zI (zuI (zuI (zuI h8 m 44 (jI (z.2.2.2.1 + (pd : Int) + (ps : Int)))) m 45 (jI (z.2.2.2.2.1 + (100 * (t (20 + s) : Int) * x - (pd : Int)) - (ps : Int)))) m 46 (jI (z.2.2.2.2.2 + (tp_sh t u dd z.1 z.2.1 z.2.2.1 x : Int)))) m 45 = jI (z.2.2.2.2.1 + (100 * (t (20 + s) : Int) * x - (pd : Int)) - (ps : Int)) := by rw [zI_offi (by omega), zI_here]
    have x46 : zI (zuI (zuI (zuI h8 m 44 (jI (z.2.2.2.1 + (pd : Int) + (ps : Int)))) m 45 (jI (z.2.2.2.2.1 + (100 * (t (20 + s) : Int) * x - (pd : Int)) - (ps : Int)))) m 46 (jI (z.2.2.2.2.2 + (tp_sh t u dd z.1 z.2.1 z.2.2.1 x : Int)))) m 46 = jI (z.2.2.2.2.2 + (tp_sh t u dd z.1 z.2.1 z.2.2.1 x : Int)) := by rw [zI_here]
    generalize zuI (zuI (zuI h8 m 44 (jI (z.2.2.2.1 + (pd : Int) + (ps : Int)))) m 45 (jI (z.2.2.2.2.1 + (100 * (t (20 + s) : Int) * x - (pd : Int)) - (ps : Int)))) m 46 (jI (z.2.2.2.2.2 + (tp_sh t u dd z.1 z.2.1 z.2.2.1 x : Int))) = hX at FX x44 x45 x46 ⊢
    have PX : MPg hX m t u := P8.fr FX (fun i => by unfold tp_Sm; omega) (fun i => by unfold tp_Sm; omega)
    have FA : Fr (tp_Sb m) h hX := (F4.tr (F8.wd (fun a i e => by unfold tp_Sm at e; unfold tp_Sb; omega))).tr (FX.wd (fun a i e => by unfold tp_Sm at e; unfold tp_Sb; omega))
    have o : ∀ i, i = 41 ∨ i = 42 ∨ i = 43 ∨ i = 23 ∨ i = 24 → zI hX m i = zI h7 m i := fun i hi => by rw [FX.I (by unfold tp_Sm; omega), g8 i (by omega) (by omega)]
    have hle : (jI (tp_T t : Int) ≤ (jI (dd : Int) + 1 : Int32)) ↔ ¬ dd + 1 < tp_T t := by
      rw [show (1 : Int32) = jI 1 from rfl, jI_add, show ((dd : Int) + 1) = ((dd + 1 : Nat) : Int) by omega, jI_len (by omega) (by omega)]; omega
    refine ⟨by omega, sz152 PX, ?_⟩
    rw [fz152 PX, hle]
    refine ⟨fun cT => kQ hX FA ⟨?_, ?_, ?_, ?_, ?_, ?_⟩ (by rw [o 23 (by omega)]; exact v23) (by rw [o 24 (by omega)]; exact v24), fun cT => nm_e ⟨by omega, ?_, nm_r (e' := zuI (zuI hX m 41 (jI 0)) m 42 (jI (tp_mE t u (dd / t 1) (tp_c1 t u dd z.1 z.2.1 z.2.2.1 x) z.2.2.1 : Int))) ?_ (nm_r (e' := zuI (zuI (zuI hX m 41 (jI 0)) m 42 (jI (tp_mE t u (dd / t 1) (tp_c1 t u dd z.1 z.2.1 z.2.2.1 x) z.2.2.1 : Int))) m 43 (jI (tp_kE t u (dd / t 1) (tp_c1 t u dd z.1 z.2.1 z.2.2.1 x) : Int))) ?_ (kQ _ (((FA.uI (by unfold tp_Sb; omega)).uI (by unfold tp_Sb; omega)).uI (by unfold tp_Sb; omega)) ⟨?_, ?_, ?_, ?_, ?_, ?_⟩ ?_ ?_))⟩⟩
    · rw [o 41 (by omega), v41]; show _ = jI ((if dd + 1 < tp_T t then _ else _ : Nat) : Int); rw [if_neg cT]
    · rw [o 42 (by omega), v42]; show _ = jI ((if dd + 1 < tp_T t then _ else _ : Nat) : Int); rw [if_neg cT]
    · rw [o 43 (by omega), v43]; show _ = jI ((if dd + 1 < tp_T t then _ else _ : Nat) : Int); rw [if_neg cT]
    · rw [x44]; unfold wk_st; rw [hpd, hq]
    · rw [x45]; unfold wk_st; rw [hpd, hq]
    · rw [x46]; rfl
    · exact sz173 (PX.fr (S := tp_Sb m) (Fr.uI Fr.rf (by unfold tp_Sb; omega)) (fun i => by unfold tp_Sb; omega) (fun i => by unfold tp_Sb; omega))
    · have PY : MPg (zuI hX m 41 (jI 0)) m t u := PX.fr (S := tp_Sb m) (Fr.uI Fr.rf (by unfold tp_Sb; omega)) (fun i => by unfold tp_Sb; omega) (fun i => by unfold tp_Sb; omega)
      show zuI (zuI hX m 41 (jI 0)) m 42 (fz_173 E (zuI hX m 41 (jI 0)) m) = _
      rw [fz173 ok PY (z := tp_sh t u dd z.1 z.2.1 z.2.2.1 x) (by rw [zI_offi (by omega), FX.I (by unfold tp_Sm; omega)]; exact i25), hsh]
      rfl
    · rw [zI_offi (by omega), zI_offi (by omega), FX.I (by unfold tp_Sm; omega), i26]
    · have cT' := Classical.not_not.mp cT
      rw [zI_offi (by omega), zI_offi (by omega), zI_here]; show _ = jI ((if dd + 1 < tp_T t then tp_c2 _ _ _ _ _ _ _ else _ : Nat) : Int); rw [if_pos cT']; unfold tp_c2; rw [if_pos cl]; rfl
    · have cT' := Classical.not_not.mp cT
      rw [zI_offi (by omega), zI_here]; show _ = jI ((if dd + 1 < tp_T t then tp_m2 _ _ _ _ _ _ _ else _ : Nat) : Int); rw [if_pos cT']; unfold tp_m2; rw [if_pos cl]
    · have cT' := Classical.not_not.mp cT
      rw [zI_here]; show _ = jI ((if dd + 1 < tp_T t then tp_k2 _ _ _ _ _ _ _ else _ : Nat) : Int); rw [if_pos cT']; unfold tp_k2; rw [if_pos cl]
    · rw [zI_offi (by omega), zI_offi (by omega), zI_offi (by omega), x44]; unfold wk_st; rw [hpd, hq]
    · rw [zI_offi (by omega), zI_offi (by omega), zI_offi (by omega), x45]; unfold wk_st; rw [hpd, hq]
    · rw [zI_offi (by omega), zI_offi (by omega), zI_offi (by omega), x46]; rfl
    · rw [zI_offi (by omega), zI_offi (by omega), zI_offi (by omega), o 23 (by omega)]; exact v23
    · rw [zI_offi (by omega), zI_offi (by omega), zI_offi (by omega), o 24 (by omega)]; exact v24
  · rw [if_neg cl]
    have hsh : tp_sh t u dd z.1 z.2.1 z.2.2.1 x = 0 := by unfold tp_sh; rw [if_neg cl]
    refine ⟨fun _ => kQ h7 F4 ⟨?_, ?_, ?_, ?_, ?_, ?_⟩ v23 v24, fun q => absurd rfl q⟩
    · rw [v41]; show _ = jI ((if dd + 1 < tp_T t then tp_c2 _ _ _ _ _ _ _ else _ : Nat) : Int); unfold tp_c2; rw [if_neg cl]; split <;> rfl
    · rw [v42]; show _ = jI ((if dd + 1 < tp_T t then tp_m2 _ _ _ _ _ _ _ else _ : Nat) : Int); unfold tp_m2; rw [if_neg cl]; split <;> rfl
    · rw [v43]; show _ = jI ((if dd + 1 < tp_T t then tp_k2 _ _ _ _ _ _ _ else _ : Nat) : Int); unfold tp_k2; rw [if_neg cl]; split <;> rfl
    · rw [v44]; unfold wk_st; rw [hpd, hsh]; simp
    · rw [v45]; unfold wk_st; rw [hpd, hsh]; simp
    · rw [v46]; unfold wk_st; rw [hsh]; simp
end MGB
