/-! THE MODEL: oneForward, layExpected, wholeOf -/
section MF4
variable {E : Nat → Nat} {m : Nat} {t u : Nat → Nat}
set_option maxHeartbeats 2000000 in
theorem l187m {d n : Nat} {h0 : ZH} {dd : Nat} {e0 L : Nat → Int} {Q : Option Value → ZH → Prop} (hd : 9 ≤ d) (ok : tp_Ok t) (ou : tp_Ou u) (P0 : MPg h0 m t u) (D0 : MLd h0 m t u 0) (hL : MLk h0 (m + 13) L) (hn : dd + 1 + n = tp_T t) (hL0 : ∀ i, 0 ≤ L i) (hLb : tp_sr L 0 7371 ≤ 1099511627776) (kB : ∀ h' e' L', MFI h0 m t u n dd e0 L 7371 0 h' e' L' → wb_187_77 E d Q m h') : ∀ r q h1 e L', q + r = 7371 → MFI h0 m t u n dd e0 L q r h1 e L' → wl_187_14 E d Q (r + 1) m (jI (dd : Int)) (jI (q : Int)) h1
  | 0, q, h1, e, L', eq, I => by
    have hq : q = 7371 := by omega
    subst hq
    rw [wl_187_14]
    refine ⟨fun _ => kB h1 e L' I, fun c => ?_⟩
    exfalso
    apply c
    rw [show (7371 : Int32) = jI ((7371 : Nat) : Int) from rfl, jI_len (by omega) (by omega)]
    exact Nat.le_refl _
  | r + 1, q, h1, e, L', eq, I => by
    have IH := l187m (Q := Q) hd ok ou P0 D0 hL hn hL0 hLb kB r (q + 1)
    obtain ⟨F1, X1, K1, N1, S1, T1⟩ := I
    have hq : q < 7371 := by omega
    have hsq : q % 3 < 3 := by omega
    have h12 : t 12 ≤ 1 := ok.2.2.2.2.2.2.2.2.2.2.2.1
    have P1 : MPg h1 m t u := P0.fr F1 (fun i => by unfold tp_Sg tp_Sw; omega) (fun i => by unfold tp_Sg tp_Sw; omega)
    have D1 : MLd h1 m t u 0 := D0.fr F1 (fun i => by unfold tp_Sg tp_Sw; omega) (fun i => by unfold tp_Sg tp_Sw; omega)
    have L1 : MLk h1 (m + 13) L := fun i hi => by rw [F1.L (by unfold tp_Sg tp_Sw; omega)]; exact hL i hi
    have hLq := hL0 q
    have hLt : L q ≤ 1099511627776 := Int.le_trans (tp_sr_le 7371 0 (fun i _ _ => hL0 i) (Nat.zero_le _) (by omega)) hLb
    have en : (jI (q : Int) + 1 : Int32) = jI ((q + 1 : Nat) : Int) := by
      rw [show (1 : Int32) = jI 1 from rfl, jI_add]; rfl
    have es : (jI (q : Int) - jI (q : Int) / 3 * 3 : Int32) = jI ((q % 3 : Nat) : Int) := by rw [show (3 : Int32) = jI ((3 : Nat) : Int) from rfl, jI_rem (by omega) (by omega) (by omega)]
    have sS : tp_sr L q (r + 1) = L q + tp_sr L (q + 1) r := rfl
    have sT : ∀ j, tp_sr (fun i => L i * tp_Fq t u j (n + 1) dd i) q (r + 1) = L q * tp_Fq t u j (n + 1) dd q + tp_sr (fun i => L i * tp_Fq t u j (n + 1) dd i) (q + 1) r := fun j => rfl
    rw [wl_187_14]
    refine ⟨fun c => ?_, fun _ => ⟨P1.1.1, m + 13, P1.1.a32.1, P1.1.a32.tg, P1.1.a32.inn hq (by omega), ?_⟩⟩
    · exfalso
      rw [show (7371 : Int32) = jI ((7371 : Nat) : Int) from rfl, jI_len (by omega) (by omega)] at c
      omega
    · rw [jI_cln (by omega), L1 q hq, show (0 : Int64) = jL 0 from rfl, jL_le (by omega) (by omega) (by omega) (by omega)]
      refine ⟨fun c => nm_r en (IH h1 e L' (by omega) ⟨F1, X1, K1, N1, ?_, fun j hj => ?_⟩), fun c => nm_r es ⟨m + 8, P1.1.a15.1, P1.1.a15.ti, P1.1.a15.inc (by decide), ?_⟩⟩
      · have : L q = 0 := by omega
        rw [sS, this] at S1
        omega
      · have : L q = 0 := by omega
        have T := T1 j hj
        rw [sT j, this, Int.zero_mul, Int.zero_add] at T
        exact T
      · rw [P1.2.1 12 (by omega), show (0 : Int32) = jI ((0 : Nat) : Int) from rfl, jI_eqn (by omega) (by omega)]
        refine ⟨fun c12 => ⟨4, ?_⟩, fun c12 => ?_⟩
        · have h1' : t 12 = 1 := by omega
          refine l187n (x := tp_B t u (tp_pr t) n dd (q / 351) (q / 27 % 13) (q / 3 % 9) (q % 3)) (e0 := e) (L0 := L') (hb := h1) hd ok ou h1' P0 D0 hL hn hq hLq rfl F1 (fun h2 e2 L2 I2 => ?_) 3 0 h1 e L' (by omega) ⟨Fr.rf, X1, K1, N1, ?_, fun j hj => ?_⟩
          · obtain ⟨F2, X2, K2, N2, S2, T2⟩ := I2
            have hch := tp_ch_sum ok hsq
            refine IH h2 e2 L2 (by omega) ⟨F1.tr F2, X2, K2, N2, ?_, fun j hj => ?_⟩
            · have s3 : tp_sr (fun w => (tp_ch t (q % 3) w : Int)) 0 3 = 4 := by
                show (tp_ch t (q % 3) 0 : Int) + ((tp_ch t (q % 3) 1 : Int) + ((tp_ch t (q % 3) 2 : Int) + 0)) = 4
                omega
              rw [s3] at S2
              rw [sS] at S1
              omega
            · have T := T1 j hj
              have TT := T2 j hj
              rw [sT j] at T
              have FQ : L q * tp_Fq t u j (n + 1) dd q = L q * tp_sr (fun w => (tp_ch t (q % 3) w : Int) * (4 ^ n * tp_ad t u j dd (q / 351) (q / 27 % 13) (q / 3 % 9) w (tp_B t u (tp_pr t) n dd (q / 351) (q / 27 % 13) (q / 3 % 9) (q % 3)) + tp_F t u j n (dd + 1) (tp_c2 t u dd (q / 351) (q / 27 % 13) (q / 3 % 9) (tp_B t u (tp_pr t) n dd (q / 351) (q / 27 % 13) (q / 3 % 9) (q % 3))) (tp_m2 t u dd (q / 351) (q / 27 % 13) (q / 3 % 9) (tp_B t u (tp_pr t) n dd (q / 351) (q / 27 % 13) (q / 3 % 9) (q % 3))) (tp_k2 t u dd (q / 351) (q / 27 % 13) (q / 3 % 9) (tp_B t u (tp_pr t) n dd (q / 351) (q / 27 % 13) (q / 3 % 9) (q % 3))) w)) 0 3 := by
                congr 1
                unfold tp_Fq
                rw [tp_F_s, tp_cb_1 ok h1' j n dd _ _ _ hsq]
                unfold tp_sr tp_sr tp_sr tp_sr
                generalize (4 ^ n : Int) = P4
                grind
              omega
          · show _ = _ + L q * 0
            omega
          · show _ = _ + L q * 0
            omega
        · have h0' : t 12 = 0 := Classical.not_not.mp c12
          refine ct_188 (cz := 1) (dr := 0) hd ok ou P1 hn hq hsq (by omega) (by omega) D1 X1 L1 K1 (fun h2 x2 hx2 F2 X2 K2 _ => ⟨rfl, nm_r en ?_⟩)
          obtain ⟨a1, a2, a3⟩ := tp_st0 (n := n) (dd := dd) (q := q) (r := r) (e := e) (L := L) (L' := L') ok h0' hq hx2 (fun j _ => rfl) hLq N1 (fun i => rfl)
          refine IH h2 _ _ (by omega) ⟨F1.tr F2, X2, K2 h0', a1, ?_, fun j hj => ?_⟩
          · rw [sS] at S1
            omega
          · have T := T1 j hj
            have TT := a3 j hj
            rw [sT j] at T
            omega
theorem l187c {d : Nat} {h0 : ZH} {dd : Nat} {Q : Option Value → ZH → Prop} (S0 : MSh h0 m) (kB : ∀ h', Fr (fun a _ => a = m + 14) h0 h' → MLk h' (m + 14) (fun _ => 0) → wb_187_12 E d Q m (jI (dd : Int)) h') : ∀ r q h1, q + r = 7371 → Fr (fun a _ => a = m + 14) h0 h1 → (∀ i, i < q → zL h1 (m + 14) i = jL 0) → wl_187_2 E d Q (r + 1) m (jI (dd : Int)) (jI (q : Int)) h1
  | 0, q, h1, e, F1, I1 => by
    rw [wl_187_2]
    refine ⟨fun _ => kB h1 F1 (fun i hi => I1 i (by omega)), fun c => ?_⟩
    exfalso
    apply c
    rw [show (7371 : Int32) = jI ((7371 : Nat) : Int) from rfl, jI_len (by omega) (by omega)]
    omega
  | r + 1, q, h1, e, F1, I1 => by
    have S1 := S0.fr F1
    rw [wl_187_2]
    refine ⟨fun c => ?_, fun _ => ⟨S1.1, m + 14, S1.a33.1, S1.a33.tg, S1.a33.inn (by omega) (by omega), nm_r (e' := zuL h1 (m + 14) q (jL 0)) (by rw [jI_cln (by omega)]; rfl) (nm_r (e' := jI ((q + 1 : Nat) : Int)) (by rw [show (1 : Int32) = jI 1 from rfl, jI_add]; rfl) (l187c S0 kB r (q + 1) _ (by omega) (F1.uL rfl) (fun i hi => ?_)))⟩⟩
    · exfalso
      rw [show (7371 : Int32) = jI ((7371 : Nat) : Int) from rfl, jI_len (by omega) (by omega)] at c
      omega
    · by_cases ci : i = q
      · subst ci
        rw [zL_here]
      · rw [zL_offi ci]
        exact I1 i (by omega)
theorem l187k {d : Nat} {h0 : ZH} {L' : Nat → Int} {Q : Option Value → ZH → Prop} (S0 : MSh h0 m) (K0 : MLk h0 (m + 14) L') (kQ : ∀ h', Fr (fun a _ => a = m + 13) h0 h' → MLk h' (m + 13) L' → Q none h') : ∀ r q h1, q + r = 7371 → Fr (fun a _ => a = m + 13) h0 h1 → (∀ i, i < q → zL h1 (m + 13) i = jL (L' i)) → wl_187_79 E d Q (r + 1) m (jI (q : Int)) h1
  | 0, q, h1, e, F1, I1 => by
    rw [wl_187_79]
    refine ⟨fun _ => kQ h1 F1 (fun i hi => I1 i (by omega)), fun c => ?_⟩
    exfalso
    apply c
    rw [show (7371 : Int32) = jI ((7371 : Nat) : Int) from rfl, jI_len (by omega) (by omega)]
    omega
  | r + 1, q, h1, e, F1, I1 => by
    have S1 := S0.fr F1
    rw [wl_187_79]
    refine ⟨fun c => ?_, fun _ => ⟨S1.1, m + 13, S1.a32.1, m + 14, S1.a33.1, S1.a33.tg, S1.a33.inn (by omega) (by omega), S1.a32.tg, S1.a32.inn (by omega) (by omega), nm_r (e' := zuL h1 (m + 13) q (jL (L' q))) (by rw [jI_cln (by omega), F1.L (by omega), K0 q (by omega)]) (nm_r (e' := jI ((q + 1 : Nat) : Int)) (by rw [show (1 : Int32) = jI 1 from rfl, jI_add]; rfl) (l187k S0 K0 kQ r (q + 1) _ (by omega) (F1.uL rfl) (fun i hi => ?_)))⟩⟩
    · exfalso
      rw [show (7371 : Int32) = jI ((7371 : Nat) : Int) from rfl, jI_len (by omega) (by omega)] at c
      omega
    · by_cases ci : i = q
      · subst ci
        rw [zL_here]
      · rw [zL_offi ci]
        exact I1 i (by omega)
theorem ct_187 {d n : Nat} {h : ZH} {dd : Nat} {e L : Nat → Int} {Q : Option Value → ZH → Prop} (hd : 10 ≤ d) (ok : tp_Ok t) (ou : tp_Ou u) (P : MPg h m t u) (D : MLd h m t u 0) (X : MEx h m e) (hL : MLk h (m + 13) L) (hn : dd + 1 + n = tp_T t) (hL0 : ∀ i, 0 ≤ L i) (hLb : tp_sr L 0 7371 ≤ 1099511627776) (kQ : ∀ h' e' L', Fr (tp_Sf m) h h' → MEx h' m e' → MLk h' (m + 13) L' → (∀ i, 0 ≤ L' i) → tp_sr L' 0 7371 = 4 * tp_sr L 0 7371 → (∀ j, j < 4 → e' j + tp_sr (fun i => L' i * tp_Fq t u j n (dd + 1) i) 0 7371 = e j + tp_sr (fun i => L i * tp_Fq t u j (n + 1) dd i) 0 7371) → Q none h') : Ct E d 187 [.ref m, .int (jI (dd : Int))] h Q := by
  obtain ⟨d, rfl⟩ : ∃ n, d = n + 1 := ⟨d - 1, by omega⟩
  refine ok_187 ⟨7371 + 1, l187c (h0 := h) P.1 (fun h1 F1 K1 => ⟨7371 + 1, ?_⟩) 7371 0 h (by omega) Fr.rf (fun i hi => by omega)⟩
  have P1 : MPg h1 m t u := P.fr F1 (fun i => by omega) (fun i => by omega)
  have D1 : MLd h1 m t u 0 := D.fr F1 (fun i => by omega) (fun i => by omega)
  have L1 : MLk h1 (m + 13) L := fun i hi => by rw [F1.L (by omega)]; exact hL i hi
  have X1 : MEx h1 m e := fun j hj => by rw [F1.L (by omega)]; exact X j hj
  refine l187m (h0 := h1) (e0 := e) (by omega) ok ou P1 D1 L1 hn hL0 hLb (fun h2 e2 L2 I2 => ⟨7371 + 1, ?_⟩) 7371 0 h1 e (fun _ => 0) (by omega) ⟨Fr.rf, X1, K1, fun _ => Int.le_refl 0, ?_, fun j hj => ?_⟩
  · obtain ⟨F2, X2, K2, N2, S2, T2⟩ := I2
    refine l187k (h0 := h2) (P1.1.fr F2) K2 (fun h3 F3 K3 => kQ h3 e2 L2 ?_ (fun j hj => by rw [F3.L (by omega)]; exact X2 j hj) K3 N2 ?_ (fun j hj => ?_)) 7371 0 h2 (by omega) Fr.rf (fun i hi => by omega)
    · exact ((F1.wd (fun a i e => Or.inr (Or.inr (Or.inl e)))).tr (F2.wd (fun a i e => by
        rcases e with e | e | e
        · exact Or.inl e
        · exact Or.inr (Or.inr (Or.inl e))
        · exact Or.inr (Or.inr (Or.inr e))))).tr (F3.wd (fun a i e => Or.inr (Or.inl e)))
    · have : tp_sr L 7371 0 = 0 := rfl
      omega
    · have T := T2 j hj
      have : tp_sr (fun i => L i * tp_Fq t u j (n + 1) dd i) 7371 0 = 0 := rfl
      omega
  · rw [tp_sr_zero 7371 0 (fun _ _ _ => rfl)]
    omega
  · have : tp_sr (fun i => (fun _ => (0 : Int)) i * tp_Fq t u j n (dd + 1) i) 0 7371 = 0 := tp_sr_zero 7371 0 (fun i _ _ => by simp)
    rw [this]
    omega
end MF4
