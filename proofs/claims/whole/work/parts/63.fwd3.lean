/-! THE MODEL: oneForward, on -/
section MF3
variable {E : Nat → Nat} {m : Nat} {t u : Nat → Nat}
theorem MLd.fr {S : Nat → Nat → Prop} {h h1 : ZH} {dd : Nat} (x : MLd h m t u dd) (y : Fr S h h1) (h11 : ∀ i, ¬ S (m + 11) i) (h12 : ∀ i, ¬ S (m + 12) i) : MLd h1 m t u dd := fun d c mm k s a1 a2 a3 a4 a5 a6 => by
  rw [y.L (h11 _), y.I (h12 _)]
  exact x d c mm k s a1 a2 a3 a4 a5 a6
/-- one place gone through, with notice: the states below v were gone through -/
def MFN (h0 : ZH) (m : Nat) (t u : Nat → Nat) (n dd : Nat) (e0 L L0 : Nat → Int) (q x v : Nat) (h1 : ZH) (e L' : Nat → Int) : Prop := Fr (tp_Sg m) h0 h1 ∧ MEx h1 m e ∧ MLk h1 (m + 14) L' ∧ (∀ i, 0 ≤ L' i) ∧ tp_sr L' 0 7371 = tp_sr L0 0 7371 + L q * tp_sr (fun w => (tp_ch t (q % 3) w : Int)) 0 v ∧ ∀ j, j < 4 → e j + tp_sr (fun i => L' i * tp_Fq t u j n (dd + 1) i) 0 7371 = e0 j + tp_sr (fun i => L0 i * tp_Fq t u j n (dd + 1) i) 0 7371 + L q * tp_sr (fun w => (tp_ch t (q % 3) w : Int) * (4 ^ n * tp_ad t u j dd (q / 351) (q / 27 % 13) (q / 3 % 9) w x + tp_F t u j n (dd + 1) (tp_c2 t u dd (q / 351) (q / 27 % 13) (q / 3 % 9) x) (tp_m2 t u dd (q / 351) (q / 27 % 13) (q / 3 % 9) x) (tp_k2 t u dd (q / 351) (q / 27 % 13) (q / 3 % 9) x) w)) 0 v
theorem tp_sr_snoc (f : Nat → Int) : ∀ v q, tp_sr f q (v + 1) = tp_sr f q v + f (q + v)
  | 0, q => by simp [tp_sr]
  | v + 1, q => by
    show f q + tp_sr f (q + 1) (v + 1) = f q + tp_sr f (q + 1) v + f (q + (v + 1))
    rw [tp_sr_snoc f v (q + 1), show q + 1 + v = q + (v + 1) by omega]
    omega
set_option maxHeartbeats 2000000 in
theorem l187n {d n : Nat} {h0 hb : ZH} {dd q x : Nat} {e0 L L0 : Nat → Int} {A : Nat → Int32 → Int32 → ZH → Prop} {Q : Option Value → ZH → Prop} (hd : 9 ≤ d) (ok : tp_Ok t) (ou : tp_Ou u) (h12 : t 12 = 1) (P0 : MPg h0 m t u) (D0 : MLd h0 m t u 0) (hL : MLk h0 (m + 13) L) (hn : dd + 1 + n = tp_T t) (hq : q < 7371) (hL0 : 0 ≤ L q) (hx : x = tp_B t u (tp_pr t) n dd (q / 351) (q / 27 % 13) (q / 3 % 9) (q % 3)) (Fb : Fr (tp_Sg m) h0 hb) (kA : ∀ h' e' L', MFN hb m t u n dd e0 L L0 q x 3 h' e' L' → A m (jI (dd : Int)) (jI ((q + 1 : Nat) : Int)) h') : ∀ r v h1 e L', v + r = 3 → MFN hb m t u n dd e0 L L0 q x v h1 e L' → wl_187_43 E d Q A (r + 1) m (jI (dd : Int)) (jI (q : Int)) (jI ((q % 3 : Nat) : Int)) (jI (v : Int)) h1
  | 0, v, h1, e, L', ev, I => by
    have hv : v = 3 := by omega
    subst hv
    rw [wl_187_43]
    refine ⟨fun _ => nm_r (e' := jI ((q + 1 : Nat) : Int)) (by rw [show (1 : Int32) = jI 1 from rfl, jI_add]; rfl) (kA h1 e L' I), fun c => absurd (by decide) c⟩
  | r + 1, v, h1, e, L', ev, I => by
    have IH := l187n (Q := Q) hd ok ou h12 P0 D0 hL hn hq hL0 hx Fb kA r (v + 1)
    obtain ⟨F1, X1, K1, N1, S1, T1⟩ := I
    have hv : v < 3 := by omega
    have hsq : q % 3 < 3 := by omega
    have FA := Fb.tr F1
    have n8 : ∀ i, ¬ tp_Sg m (m + 8) i := fun i => by unfold tp_Sg tp_Sw; omega
    have n10 : ∀ i, ¬ tp_Sg m (m + 10) i := fun i => by unfold tp_Sg tp_Sw; omega
    have P1 : MPg h1 m t u := P0.fr FA n8 n10
    have D1 : MLd h1 m t u 0 := D0.fr FA (fun i => by unfold tp_Sg tp_Sw; omega) (fun i => by unfold tp_Sg tp_Sw; omega)
    have L1 : MLk h1 (m + 13) L := fun i hi => by rw [FA.L (by unfold tp_Sg tp_Sw; omega)]; exact hL i hi
    have c4 := tp_ch_le ok hsq hv
    have ech : ((19 + (3 * jI ((q % 3 : Nat) : Int))) + jI (v : Int) : Int32) = jI ((19 + (3 * (q % 3) + v) : Nat) : Int) := by
      rw [show (19 : Int32) = jI 19 from rfl, show (3 : Int32) = jI 3 from rfl, jI_mul, jI_add, jI_add]
      congr 1
      omega
    have ec : zI h1 (m + 8) ((19 + (3 * jI ((q % 3 : Nat) : Int))) + jI (v : Int) : Int32).toNatClampNeg = jI (tp_ch t (q % 3) v : Int) := by
      rw [ech, jI_cln (by omega), P1.2.2.2.1 (3 * (q % 3) + v) (by omega)]
      unfold tp_ch
      congr 3
      omega
    have zn : zin ((19 + (3 * jI ((q % 3 : Nat) : Int))) + jI (v : Int)) (zlen h1 (m + 8)) = true := by rw [ech]; exact P1.1.a15.inn (by omega) (by omega)
    have en : (jI (v : Int) + 1 : Int32) = jI ((v + 1 : Nat) : Int) := by
      rw [show (1 : Int32) = jI 1 from rfl, jI_add]; rfl
    rw [wl_187_43]
    refine ⟨fun c => ?_, fun _ => ⟨P1.1.1, m + 8, P1.1.a15.1, P1.1.a15.ti, zn, ?_⟩⟩
    · exfalso
      rw [show (3 : Int32) = jI ((3 : Nat) : Int) from rfl, jI_len (by omega) (by omega)] at c
      omega
    · rw [ec, show (0 : Int32) = jI ((0 : Nat) : Int) from rfl, jI_len (by omega) (by omega)]
      refine ⟨fun c0 => nm_r en (IH h1 e L' (by omega) ⟨F1, X1, K1, N1, ?_, fun j hj => ?_⟩), fun c0 => ⟨zn, ct_188 (dr := 1) (cz := tp_ch t (q % 3) v) hd ok ou P1 hn hq hv c4 (by omega) D1 X1 L1 K1 (fun h2 x2 hx2 F2 X2 _ K2 => ⟨rfl, nm_r en ?_⟩)⟩⟩
      · rw [tp_sr_snoc _ v 0, Nat.zero_add, S1]
        have : (tp_ch t (q % 3) v : Int) = 0 := by omega
        rw [this, Int.add_zero]
      · rw [tp_sr_snoc _ v 0, Nat.zero_add, T1 j hj]
        have : (tp_ch t (q % 3) v : Int) = 0 := by omega
        rw [this, Int.zero_mul, Int.add_zero]
      · rw [← hx] at hx2
        subst hx2
        have hm2 := tp_m2_le t u dd (q / 351) (q / 3 % 9) x2 (show q / 27 % 13 ≤ 12 by omega)
        have hk2 := tp_k2_le t u dd (q / 351) (q / 27 % 13) x2 (show q / 3 % 9 ≤ 8 by omega)
        have hc2 := tp_c2_le t u dd (q / 351) (q / 27 % 13) (q / 3 % 9) x2
        have hb2 : tp_qi (tp_c2 t u dd (q / 351) (q / 27 % 13) (q / 3 % 9) x2) (tp_m2 t u dd (q / 351) (q / 27 % 13) (q / 3 % 9) x2) (tp_k2 t u dd (q / 351) (q / 27 % 13) (q / 3 % 9) x2) v < 7371 := by unfold tp_qi; omega
        have pv : 0 ≤ L q * (tp_ch t (q % 3) v : Int) := Int.mul_nonneg hL0 (by omega)
        have uu := fun F => tp_up1 (L' := L') (G := fun i => if i = tp_qi (tp_c2 t u dd (q / 351) (q / 27 % 13) (q / 3 % 9) x2) (tp_m2 t u dd (q / 351) (q / 27 % 13) (q / 3 % 9) x2) (tp_k2 t u dd (q / 351) (q / 27 % 13) (q / 3 % 9) x2) v then L' i + L q * (tp_ch t (q % 3) v : Int) else L' i) (F := F) (a := L q * (tp_ch t (q % 3) v : Int)) hb2 (fun i hi => by (try dsimp only); rw [if_neg hi]) (by (try dsimp only); rw [if_pos rfl])
        refine IH h2 _ _ (by omega) ⟨F1.tr F2, X2, K2 h12, fun i => ?_, ?_, fun j hj => ?_⟩
        · have := N1 i
          (try dsimp only)
          split
          · omega
          · omega
        · rw [(uu (fun _ => 0)).2, S1, tp_sr_snoc _ v 0, Nat.zero_add, Int.mul_add]
          omega
        · rw [(uu _).1, tp_Fq_qi hm2 hk2 hv, tp_sr_snoc _ v 0, Nat.zero_add]
          have T := T1 j hj
          have en1 : n + 1 - 1 = n := by omega
          rw [en1]
          generalize tp_sr (fun i => L' i * tp_Fq t u j n (dd + 1) i) 0 7371 = Z1 at T ⊢
          generalize tp_sr (fun i => L0 i * tp_Fq t u j n (dd + 1) i) 0 7371 = Z0 at T ⊢
          generalize tp_sr _ 0 v = Zv at T ⊢
          generalize tp_F t u j n (dd + 1) (tp_c2 t u dd (q / 351) (q / 27 % 13) (q / 3 % 9) x2) (tp_m2 t u dd (q / 351) (q / 27 % 13) (q / 3 % 9) x2) (tp_k2 t u dd (q / 351) (q / 27 % 13) (q / 3 % 9) x2) v = FF
          generalize tp_ad t u j dd (q / 351) (q / 27 % 13) (q / 3 % 9) v x2 = AA
          generalize (4 ^ n : Int) = P4
          generalize (tp_ch t (q % 3) v : Int) = CC
          grind
end MF3
