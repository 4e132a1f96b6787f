/-! THE MODEL: a day's taking, a year's end -/
section MTK
variable {E : Nat → Nat} {d : Nat} {h : ZH} {m : Nat} {t u : Nat → Nat} {Q : Option Value → ZH → Prop}
def tp_Sm (m : Nat) (lo hi : Nat) : Nat → Nat → Prop := fun a i => a = m ∧ lo ≤ i ∧ i ≤ hi
theorem ct_171 {y c k : Nat} (hd : 5 ≤ d) (ok : tp_Ok t) (ou : tp_Ou u) (P : MPg h m t u) (hy : y < t 0) (hc : c ≤ 20) (hk : k ≤ 8) (q : ∀ h', h' = zuI (zuI h m 25 (jI (tp_sE t u y c k : Int))) m 26 (jI (tp_kE t u y c : Int)) → Q none h') : Ct E d 171 [.ref m, .int (jI (y : Int)), .int (jI (c : Int)), .int (jI (k : Int))] h Q := by
  obtain ⟨d, rfl⟩ : ∃ n, d = n + 1 := ⟨d - 1, by omega⟩
  have htp := tp_tp_le t u y
  have hqt := tp_qt_le ok u y
  have h11 : t 11 ≤ 1 := ok.2.2.2.2.2.2.2.2.2.2.1
  refine ok_171 ⟨P.1.1, ct_165 (by omega) ok ou P hy hk ⟨_, rfl, nm_r (jI_sub _ _) ⟨P.1.1, nm_r (e' := zuI h m 25 (jI (tp_sE t u y c k : Int))) ?_ ?_⟩⟩⟩
  · congr 1
    rw [show (0 : Int32) = jI 0 from rfl]
    simp (disch := omega) only [jI_le]
    unfold tp_sE
    split
    · congr 1; omega
    · congr 1; omega
  · have F1 : Fr (tp_Sm m 25 25) h (zuI h m 25 (jI (tp_sE t u y c k : Int))) := Fr.uI Fr.rf (by unfold tp_Sm; omega)
    have P1 : MPg (zuI h m 25 (jI (tp_sE t u y c k : Int))) m t u := P.fr F1 (fun i => by unfold tp_Sm; omega) (fun i => by unfold tp_Sm; omega)
    refine ct_158 (by omega) ok ou P1 hy ⟨_, rfl, nm_r (jI_sub _ _) ⟨P1.1.1, m + 8, P1.1.a15.1, P1.1.a15.ti, P1.1.a15.inc (by decide), ⟨fun _ => trivial, fun _ => ⟨⟨fun _ => ⟨by omega, trivial, trivial⟩, fun _ => trivial⟩, trivial⟩⟩, nm_r (e' := zuI (zuI h m 25 (jI (tp_sE t u y c k : Int))) m 26 (jI (tp_kE t u y c : Int))) ?_ (q _ rfl)⟩⟩
    congr 1
    rw [P1.2.1 11 (by omega), show (0 : Int32) = jI ((0 : Nat) : Int) from rfl]
    unfold tp_kE
    by_cases c1 : t 11 = 1
    · rw [if_pos c1, if_neg (by rw [jI_eqn (by omega) (by omega)]; omega)]
      by_cases c2 : tp_qt t u y ≤ c
      · rw [if_pos (by rw [jI_le (by omega) (by omega) (by omega) (by omega)]; omega), show ((c : Int) - (tp_qt t u y : Int)) = ((c - tp_qt t u y : Nat) : Int) by omega, show (8 : Int32) = jI ((8 : Nat) : Int) from rfl, fz164 (by omega) (by omega)]
        congr 1; omega
      · rw [if_neg (by rw [jI_le (by omega) (by omega) (by omega) (by omega)]; omega)]
        congr 1; omega
    · rw [if_neg c1, if_pos (by rw [jI_eqn (by omega) (by omega)]; omega)]
/-- what a taking leaves in the model's fields -/
def MTk (h : ZH) (m : Nat) (t u : Nat → Nat) (dd c mm k s x : Nat) : Prop := zI h m 21 = jI ((c + tp_nC t u dd c mm k x : Nat) : Int) ∧ zI h m 22 = jI (tp_m1 t u dd c mm k x : Int) ∧ zI h m 23 = jI ((tp_nC t u dd c mm k x * tp_un t (t (20 + s)) 1 + tp_fl t u dd c mm k x : Nat) : Int) ∧ zI h m 24 = jI (tp_mU t u dd c mm k x : Int)
set_option maxHeartbeats 2000000 in
theorem ct_167 {dd c mm k s x : Nat} (hd : 5 ≤ d) (ok : tp_Ok t) (ou : tp_Ou u) (P : MPg h m t u) (hdd : dd < tp_T t) (hc : c ≤ 20) (hmm : mm ≤ 12) (hk : k ≤ 8) (hs : s < 3) (hx : x ≤ 9) (q : ∀ h', Fr (tp_Sm m 21 24) h h' → MTk h' m t u dd c mm k s x → Q none h') : Ct E d 167 [.ref m, .int (jI (dd : Int)), .int (jI (c : Int)), .int (jI (mm : Int)), .int (jI (k : Int)), .int (jI (s : Int)), .int (jI (x : Int))] h Q := by
  obtain ⟨d, rfl⟩ : ∃ n, d = n + 1 := ⟨d - 1, by omega⟩
  have hT := ok.T
  have hy := ok.y hdd
  have h1 := ok.2.1
  have h9 : t 9 ≤ 2 := ok.2.2.2.2.2.2.2.2.1
  have h7 : t 7 ≤ 100 := ok.2.2.2.2.2.2.1
  have htp := tp_tp_le t u (dd / t 1)
  have hqt := tp_qt_le ok u (dd / t 1)
  have hmu := tp_mU_x t u dd c mm k x
  have hmm2 := tp_mU_m t u dd c mm k x
  have hnc := tp_nC_x t u dd c mm k x
  refine ok_167 ⟨P.1.1, m + 8, P.1.a15.1, P.1.a15.ti, P.1.a15.inc (by decide), ?_, nm_r (e' := jI ((dd / t 1 : Nat) : Int)) ?_ (ct_165 (by omega) ok ou P hy hk ⟨_, rfl, nm_r (jI_sub _ _) ⟨P.1.1, m + 8, P.1.a15.1, P.1.a15.ti, P.1.a15.inc (by decide), ⟨fun _ => trivial, fun _ => ⟨⟨fun _ => trivial, fun _ => ⟨by omega, trivial, trivial⟩⟩, trivial⟩⟩, ?_⟩⟩)⟩
  · intro q
    rw [P.2.1 1 (by omega), show (0 : Int32) = jI ((0 : Nat) : Int) from rfl, jI_eqn (by omega) (by omega)] at q
    omega
  · rw [P.2.1 1 (by omega), jI_div (by omega) (by omega) (by omega)]
  -- what is left for MADE
  have hcf : (if t 9 = 2 then min x (tp_tp t u (dd / t 1) - k - c) else 0) ≤ x := by split <;> omega
  refine nm_r (e' := jI ((x - (if t 9 = 2 then min x (tp_tp t u (dd / t 1) - k - c) else 0) : Nat) : Int)) ?_ ?_
  · rw [P.2.1 9 (by omega), show (2 : Int32) = jI ((2 : Nat) : Int) from rfl, show (0 : Int32) = jI 0 from rfl]
    by_cases c2 : t 9 = 2
    · rw [if_neg (by rw [jI_eqn (by omega) (by omega)]; omega), if_pos c2]
      by_cases c3 : tp_tp t u (dd / t 1) - k ≤ c
      · rw [if_pos (by rw [jI_le (by omega) (by omega) (by omega) (by omega)]; omega)]
        congr 1; omega
      · rw [if_neg (by rw [jI_le (by omega) (by omega) (by omega) (by omega)]; omega), show (((tp_tp t u (dd / t 1) - k : Nat) : Int) - (c : Int)) = ((tp_tp t u (dd / t 1) - k - c : Nat) : Int) by omega, fz164 (by omega) (by omega), jI_sub]
        congr 1; omega
    · rw [if_pos (by rw [jI_eqn (by omega) (by omega)]; omega), if_neg c2]
      rfl
  have e24 : (if ¬ (zI h (m + 8) 9 : Int32) = 0 then fz_164 E h (jI ((x - (if t 9 = 2 then min x (tp_tp t u (dd / t 1) - k - c) else 0) : Nat) : Int)) (jI (mm : Int)) else 0) = jI (tp_mU t u dd c mm k x : Int) := by
    rw [P.2.1 9 (by omega), show (0 : Int32) = jI ((0 : Nat) : Int) from rfl, fz164 (by omega) (by omega)]
    unfold tp_mU
    by_cases c2 : t 9 = 0
    · rw [if_neg (by rw [jI_eqn (by omega) (by omega)]; omega), if_pos c2]
    · rw [if_pos (by rw [jI_eqn (by omega) (by omega)]; omega), if_neg c2]
  refine ⟨P.1.a15.inc (by decide), ⟨fun _ => ⟨by omega, trivial, trivial⟩, fun _ => trivial⟩, nm_r (by rw [e24]) (nm_r (e' := jI (tp_nC t u dd c mm k x : Int)) ?_ (nm_r (e' := zuI (zuI h m 24 (jI (tp_mU t u dd c mm k x : Int))) m 21 (jI ((c : Int) + (tp_nC t u dd c mm k x : Int)))) (by rw [jI_add]) (nm_r (e' := zuI (zuI (zuI h m 24 (jI (tp_mU t u dd c mm k x : Int))) m 21 (jI ((c : Int) + (tp_nC t u dd c mm k x : Int)))) m 22 (jI (tp_m1 t u dd c mm k x : Int))) ?_ ?_)))⟩
  · rw [zI_here, jI_sub]
    unfold tp_nC
    congr 1; omega
  · rw [zI_offi (by omega), zI_here, jI_sub]
    unfold tp_m1
    congr 2; omega
  · have F1 : Fr (tp_Sm m 21 24) h (zuI (zuI (zuI h m 24 (jI (tp_mU t u dd c mm k x : Int))) m 21 (jI ((c : Int) + (tp_nC t u dd c mm k x : Int)))) m 22 (jI (tp_m1 t u dd c mm k x : Int))) := Fr.uI (Fr.uI (Fr.uI Fr.rf (by unfold tp_Sm; omega)) (by unfold tp_Sm; omega)) (by unfold tp_Sm; omega)
    have i21 : zI (zuI (zuI (zuI h m 24 (jI (tp_mU t u dd c mm k x : Int))) m 21 (jI ((c : Int) + (tp_nC t u dd c mm k x : Int)))) m 22 (jI (tp_m1 t u dd c mm k x : Int))) m 21 = jI ((c : Int) + (tp_nC t u dd c mm k x : Int)) := by rw [zI_offi (by omega), zI_here]
    have i22 : zI (zuI (zuI (zuI h m 24 (jI (tp_mU t u dd c mm k x : Int))) m 21 (jI ((c : Int) + (tp_nC t u dd c mm k x : Int)))) m 22 (jI (tp_m1 t u dd c mm k x : Int))) m 22 = jI (tp_m1 t u dd c mm k x : Int) := by rw [zI_here]
    have i24 : zI (zuI (zuI (zuI h m 24 (jI (tp_mU t u dd c mm k x : Int))) m 21 (jI ((c : Int) + (tp_nC t u dd c mm k x : Int)))) m 22 (jI (tp_m1 t u dd c mm k x : Int))) m 24 = jI (tp_mU t u dd c mm k x : Int) := by rw [zI_offi (by omega), zI_offi (by omega), zI_here]
    generalize zuI (zuI (zuI h m 24 (jI (tp_mU t u dd c mm k x : Int))) m 21 (jI ((c : Int) + (tp_nC t u dd c mm k x : Int)))) m 22 (jI (tp_m1 t u dd c mm k x : Int)) = h1 at F1 i21 i22 i24 ⊢
    have P1 : MPg h1 m t u := P.fr F1 (fun i => by unfold tp_Sm; omega) (fun i => by unfold tp_Sm; omega)
    refine ct_158 (by omega) ok ou P1 hy ⟨_, rfl, P1.1.1, nm_e (nm_r (e' := jI (tp_oV t u dd c mm k x : Int)) ?_ ⟨m + 8, P1.1.a15.1, P1.1.a15.ti, P1.1.a15.inc (by decide), P1.1.a15.inc (by decide), by omega, sz166 P1 hs, P1.1.a15.inc (by decide), P1.1.a15.inc (by decide), P1.1.a15.inc (by decide), nm_r (e' := zuI h1 m 23 (jI ((tp_nC t u dd c mm k x * tp_un t (t (20 + s)) 1 + tp_fl t u dd c mm k x : Nat) : Int))) ?_ (q _ (F1.uI (by unfold tp_Sm; omega)) ?_)⟩)⟩
    · rw [i21]
      have e1 : (if jI (c : Int) ≤ jI (tp_qt t u (dd / t 1) : Int) then jI (tp_qt t u (dd / t 1) : Int) else jI (c : Int)) = jI ((max c (tp_qt t u (dd / t 1)) : Nat) : Int) := by
        simp (disch := omega) only [jI_len]
        split
        · congr 1; omega
        · congr 1; omega
      rw [e1, jI_sub, show (0 : Int32) = jI 0 from rfl]
      simp (disch := omega) only [jI_le]
      unfold tp_oV
      split
      · congr 1; omega
      · congr 1; omega
    · congr 1
      rw [i24, P1.2.1 6 (by omega), P1.2.1 7 (by omega), P1.2.1 8 (by omega), P1.2.1 10 (by omega), fz166 P1 hs, show (100 : Int32) = jI 100 from rfl, jI_sub, jI_mul, jI_mul, jI_add, jI_mul, jI_mul, jI_mul, jI_add, jI_mul, jI_mul, jI_add]
      congr 1
      unfold tp_un tp_fl
      simp only [Int.natCast_add, Int.natCast_mul, Int.natCast_sub h7, Int.natCast_one, Int.one_mul]
      generalize (tp_nC t u dd c mm k x : Int) = A
      generalize (tp_oV t u dd c mm k x : Int) = B
      generalize (tp_mU t u dd c mm k x : Int) = C
      show A * ((t 6 : Int) * (100 - (t 7 : Int)) + (t (20 + s) : Int) * (t 7 : Int)) + 100 * (t 8 : Int) * B + 100 * (t 10 : Int) * C = A * ((t 6 : Int) * (100 - (t 7 : Int)) + (t (20 + s) : Int) * (t 7 : Int)) + 100 * ((t 8 : Int) * B + (t 10 : Int) * C)
      grind
    · refine ⟨?_, ?_, ?_, ?_⟩
      · rw [zI_offi (by omega), i21]; rfl
      · rw [zI_offi (by omega), i22]
      · rw [zI_here]
      · rw [zI_offi (by omega), i24]
/-- a taking leads on -/
theorem ct_178 {dd c mm k s x : Nat} (hd : 7 ≤ d) (ok : tp_Ok t) (ou : tp_Ou u) (P : MPg h m t u) (hdd : dd < tp_T t) (hc : c ≤ 20) (hmm : mm ≤ 12) (hk : k ≤ 8) (hx : x ≤ 9) (K : MTk h m t u dd c mm k s x) (q : ∀ h', Fr (fun a i => a = m ∧ (i = 25 ∨ i = 26 ∨ i = 30 ∨ i = 31)) h h' → zI h' m 30 = jI (tp_at (dd + 1) (tp_c2 t u dd c mm k x) (tp_m2 t u dd c mm k x) (tp_k2 t u dd c mm k x) 0 : Int) → zI h' m 31 = jI ((100 * t 6 * tp_sh t u dd c mm k x : Nat) : Int) → ((dd + 1) % t 1 = 0 → zI h' m 25 = jI (tp_sh t u dd c mm k x : Int)) → Q none h') : Ct E d 178 [.ref m, .int (jI (dd : Int)), .int (jI (k : Int))] h Q := by
  obtain ⟨d, rfl⟩ : ∃ n, d = n + 1 := ⟨d - 1, by omega⟩
  have hT := ok.T
  have hy := ok.y hdd
  have h1 := ok.2.1
  have hnc := tp_nC_x t u dd c mm k x
  have hm1 := tp_m1_le t u dd c mm k x
  obtain ⟨K21, K22, K23, K24⟩ := K
  have e1 : fz_164 E h (zI h m 21) 20 = jI (tp_c1 t u dd c mm k x : Int) := by
    rw [K21, show (20 : Int32) = jI ((20 : Nat) : Int) from rfl, fz164 (by omega) (by omega)]
    unfold tp_c1
    congr 1; omega
  have en : (jI (dd : Int) + 1 : Int32) = jI ((dd + 1 : Nat) : Int) := by
    rw [show (1 : Int32) = jI 1 from rfl, jI_add]; rfl
  have F0 : Fr (fun a i => a = m ∧ (i = 25 ∨ i = 26 ∨ i = 30 ∨ i = 31)) h (zuI h m 31 0) := Fr.uI Fr.rf (by omega)
  have P0 : MPg (zuI h m 31 0) m t u := P.fr F0 (fun i => by omega) (fun i => by omega)
  refine ok_178 ⟨P.1.1, by omega, trivial, nm_r e1 (nm_e ⟨by omega, sz177 ok P0, ?_⟩)⟩
  rw [fz177 ok P0 (by omega)]
  by_cases cl : (dd + 1) % t 1 = 0
  · rw [if_pos cl]
    refine ⟨fun q => absurd q (by decide), fun _ => ⟨m + 8, P0.1.a15.1, P0.1.a15.ti, P0.1.a15.inc (by decide), ?_, ?_⟩⟩
    · intro q
      rw [P0.2.1 1 (by omega), show (0 : Int32) = jI ((0 : Nat) : Int) from rfl, jI_eqn (by omega) (by omega)] at q
      omega
    · rw [P0.2.1 1 (by omega), jI_div (by omega) (by omega) (by omega)]
      refine ct_171 (by omega) ok ou P0 hy (tp_c1_le _ _ _ _ _ _ _) hk (fun h1 e1 => ?_)
      have F1 : Fr (fun a i => a = m ∧ (i = 25 ∨ i = 26 ∨ i = 30 ∨ i = 31)) h h1 := by rw [e1]; exact (F0.uI (by omega)).uI (by omega)
      have P1 : MPg h1 m t u := P.fr F1 (fun i => by omega) (fun i => by omega)
      have i25 : zI h1 m 25 = jI (tp_sE t u (dd / t 1) (tp_c1 t u dd c mm k x) k : Int) := by rw [e1, zI_offi (by omega), zI_here]
      have i26 : zI h1 m 26 = jI (tp_kE t u (dd / t 1) (tp_c1 t u dd c mm k x) : Int) := by rw [e1, zI_here]
      have P2 : MPg (zuI h1 m 31 (jI ((100 * t 6 * tp_sE t u (dd / t 1) (tp_c1 t u dd c mm k x) k : Nat) : Int))) m t u := P.fr (F1.uI (i := 31) (by omega)) (fun i => by omega) (fun i => by omega)
      refine ⟨rfl, P1.1.1, by omega, sz172 P1, nm_r (by rw [fz172 P1 i25]) ⟨by omega, sz173 P2, by omega, trivial, nm_r (e' := zuI (zuI h1 m 31 (jI ((100 * t 6 * tp_sE t u (dd / t 1) (tp_c1 t u dd c mm k x) k : Nat) : Int))) m 30 (jI (tp_at (dd + 1) 0 (tp_mE t u (dd / t 1) (tp_c1 t u dd c mm k x) k) (tp_kE t u (dd / t 1) (tp_c1 t u dd c mm k x)) 0 : Int))) ?_ (q _ ((F1.uI (by omega)).uI (by omega)) ?_ ?_ ?_)⟩⟩
      · rw [fz173 ok P2 (by rw [zI_offi (by omega)]; exact i25), zI_offi (by omega), i26, en, show (0 : Int32) = jI ((0 : Nat) : Int) from rfl, fz175]
        rfl
      · rw [zI_here]
        unfold tp_c2 tp_m2 tp_k2
        rw [if_pos cl, if_pos cl, if_pos cl]
      · rw [zI_offi (by omega), zI_here]
        unfold tp_sh
        rw [if_pos cl]
      · intro _
        rw [zI_offi (by omega), zI_offi (by omega), i25]
        unfold tp_sh
        rw [if_pos cl]
  · rw [if_neg cl]
    refine ⟨fun _ => ⟨by omega, trivial, nm_r (e' := zuI (zuI h m 31 0) m 30 (jI (tp_at (dd + 1) (tp_c1 t u dd c mm k x) (tp_m1 t u dd c mm k x) k 0 : Int))) ?_ (q _ (F0.uI (by omega)) ?_ ?_ ?_)⟩, fun q => absurd rfl q⟩
    · rw [zI_offi (by omega), K22, en, show (0 : Int32) = jI ((0 : Nat) : Int) from rfl, fz175]
    · rw [zI_here]
      unfold tp_c2 tp_m2 tp_k2
      rw [if_neg cl, if_neg cl, if_neg cl]
    · rw [zI_offi (by omega), zI_here]
      unfold tp_sh
      rw [if_neg cl]
      rfl
    · exact fun q => absurd q cl
end MTK
