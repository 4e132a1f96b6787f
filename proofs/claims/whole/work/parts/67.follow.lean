/-! THE CLASS'S SPREAD: follow -/
def tp_Fo (t u : Nat → Nat) (j n d i : Nat) : Int := tp_F t u j n d (tp_oc (i / 3)) (tp_om (i / 3)) (tp_ok (i / 3)) (i % 3)
theorem tp_Fo_ce {t u : Nat → Nat} {j n d c m k s : Nat} (hc : c ≤ 20) (hm : m ≤ 12) (hk : k ≤ 8) (ho : m = 0 ∨ k = 0) (hs : s < 3) : tp_Fo t u j n d (3 * tp_ce c m k + s) = tp_F t u j n d c m k s := by
  obtain ⟨a, b, e, f⟩ := tp_o_ce hc hm hk ho
  unfold tp_Fo
  rw [show (3 * tp_ce c m k + s) / 3 = tp_ce c m k by omega, show (3 * tp_ce c m k + s) % 3 = s by omega, b, e, f]
theorem tp_upN {N : Nat} {L' G : Nat → Int} {F : Nat → Int} {p : Nat} {a : Int} (hp : p < N) (h1 : ∀ i, i ≠ p → G i = L' i) (h2 : G p = L' p + a) : tp_sr (fun i => G i * F i) 0 N = tp_sr (fun i => L' i * F i) 0 N + a * F p ∧ tp_sr G 0 N = tp_sr L' 0 N + a := by
  refine ⟨tp_sr_up (p := p) N 0 (Nat.zero_le _) (by omega) (fun i hi => by (try dsimp only); rw [h1 i hi]) (by (try dsimp only); rw [h2, Int.add_mul]), tp_sr_up (p := p) N 0 (Nat.zero_le _) (by omega) h1 h2⟩
section SPF
variable {E : Nat → Nat} {b p sp ac g : Nat} {t u : Nat → Nat}
/-- a place of a day is stamped -/
def SpD (h : ZH) (b : Nat) (t : Nat → Nat) (d : Nat) (G : Nat → Int) : Prop := ∀ i, i < 1323 → 0 < G i → d < tp_T t → BSd h b d (tp_oc (i / 3)) (tp_om (i / 3)) (tp_ok (i / 3))
def SpE (h : ZH) (sp : Nat) (e : Nat → Int) : Prop := ∀ j, j < 4 → zL h sp (8 + j) = jL (e j)
/-- in the midst of the states behind a place: those below v were gone through -/
def SpN (h0 : ZH) (b sp B D : Nat) (t u : Nat → Nat) (n dd : Nat) (G : Nat → Int) (gc : Int) (s C2 M2 K2 v : Nat) (h1 : ZH) (nn : Nat) (G' : Nat → Int) : Prop := Fr (fun a i => a = B ∨ a = D ∨ (a = sp ∧ i = 5)) h0 h1 ∧ SpL h1 B D nn G' ∧ zI h1 sp 5 = jI (nn : Int) ∧ SpD h1 b t (dd + 1) G' ∧ tp_sr G' 0 1323 = tp_sr G 0 1323 + gc * tp_sr (fun w => (tp_ch t s w : Int)) 0 v ∧ ∀ j, j < 4 → tp_sr (fun i => G' i * tp_Fo t u j n (dd + 1) i) 0 1323 = tp_sr (fun i => G i * tp_Fo t u j n (dd + 1) i) 0 1323 + gc * tp_sr (fun w => (tp_ch t s w : Int) * tp_F t u j n (dd + 1) C2 M2 K2 w) 0 v
set_option maxHeartbeats 2000000 in
theorem l76 {d n : Nat} {h0 : ZH} {A B C D dd s C2 M2 K2 : Nat} {G : Nat → Int} {gc : Int} {Q : Option Value → ZH → Prop} (hd : 2 ≤ d) (ok : tp_Ok t) (hpb : p + 6 < b) (hps : p + 6 < sp) (hsb : sp + 5 < b ∨ b + 26 < sp) (P0 : PgR h0 p t u) (S0 : SpS h0 sp A B C D) (hs : s < 3) (hC : C2 ≤ 20) (hM : M2 ≤ 12) (hK : K2 ≤ 8) (ho : M2 = 0 ∨ K2 = 0) (hst : dd + 1 < tp_T t → BSd h0 b (dd + 1) C2 M2 K2) (hgc : 0 < gc) (hG : tp_sr G 0 1323 + 4 * gc ≤ 1099511627776) (kQ : ∀ h' nn G', SpN h0 b sp B D t u n dd G gc s C2 M2 K2 3 h' nn G' → Q none h') : ∀ r v h1 nn G', v + r = 3 → SpN h0 b sp B D t u n dd G gc s C2 M2 K2 v h1 nn G' → wl_76_153 E d Q (r + 1) sp p (jL gc) (jI (s : Int)) (jI ((3 * tp_ce C2 M2 K2 : Nat) : Int)) (jI (v : Int)) h1
  | 0, v, h1, nn, G', ev, I => by
    have hv : v = 3 := by omega
    subst hv
    rw [wl_76_153]
    exact ⟨fun _ => kQ h1 nn G' I, fun c => absurd (by decide) c⟩
  | r + 1, v, h1, nn, G', ev, I => by
    have IH := l76 (Q := Q) hd ok hpb hps hsb P0 S0 hs hC hM hK ho hst hgc hG kQ r (v + 1)
    obtain ⟨F1, L1, i5, D1, S1, T1⟩ := I
    have hv : v < 3 := by omega
    have s0 := S0
    obtain ⟨q0, qA, qB, qC, qD, q6, q5, oAB, oCD⟩ := s0
    have P1 : PgR h1 p t u := P0.fr F1 (fun a i ha hb => by omega)
    have S1' := S0.fr F1
    have c4 := tp_ch_le ok hs hv
    have hch := tp_ch_sum ok hs
    have en : (jI (v : Int) + 1 : Int32) = jI ((v + 1 : Nat) : Int) := by
      rw [show (1 : Int32) = jI 1 from rfl, jI_add]; rfl
    obtain ⟨oc1, oc2, oc3, oc4⟩ := tp_o_ce hC hM hK ho
    rw [wl_76_153]
    refine ⟨fun c => ?_, fun _ => ⟨P1.1.1.1, by omega, sz48 P1.1 hs hv, ?_⟩⟩
    · exfalso
      rw [show (3 : Int32) = jI ((3 : Nat) : Int) from rfl, jI_len (by omega) (by omega)] at c
      omega
    · rw [fz48 P1.1 hs hv, show (0 : Int32) = jI ((0 : Nat) : Int) from rfl, jI_len (by omega) (by omega)]
      refine ⟨fun c0 => nm_r en (IH h1 nn G' (by omega) ⟨F1, L1, i5, D1, ?_, fun j hj => ?_⟩), fun c0 => ⟨by omega, sz48 P1.1 hs hv, S1'.1, ?_⟩⟩
      · rw [tp_sr_snoc _ v 0, Nat.zero_add, S1]
        have : (tp_ch t s v : Int) = 0 := by omega
        rw [this, Int.add_zero]
      · rw [tp_sr_snoc _ v 0, Nat.zero_add, T1 j hj]
        have : (tp_ch t s v : Int) = 0 := by omega
        rw [this, Int.zero_mul, Int.add_zero]
      · have ei : (jI ((3 * tp_ce C2 M2 K2 : Nat) : Int) + jI (v : Int) : Int32) = jI ((3 * tp_ce C2 M2 K2 + v : Nat) : Int) := by rw [jI_add]; rfl
        rw [ei, jI_toL (by omega) (by omega), jL_mul]
        have hpos : 0 < gc * (tp_ch t s v : Int) := Int.mul_pos hgc (by omega)
        have hsv : tp_sr (fun w => (tp_ch t s w : Int)) 0 v + (tp_ch t s v : Int) ≤ 4 := by
          have : v = 0 ∨ v = 1 ∨ v = 2 := by omega
          rcases this with e | e | e <;> subst e
          · show (0 : Int) + (tp_ch t s 0 : Int) ≤ 4; omega
          · show (tp_ch t s 0 : Int) + 0 + (tp_ch t s 1 : Int) ≤ 4; omega
          · show (tp_ch t s 0 : Int) + ((tp_ch t s 1 : Int) + 0) + (tp_ch t s 2 : Int) ≤ 4; omega
        have hle : G' (3 * tp_ce C2 M2 K2 + v) ≤ tp_sr G' 0 1323 := tp_sr_le 1323 0 (fun i _ _ => L1.2.1 i) (Nat.zero_le _) (by omega)
        have hm4 := Int.mul_le_mul_of_nonneg_left hsv (Int.le_of_lt hgc)
        rw [Int.mul_add] at hm4
        have uu := fun F => tp_upN (N := 1323) (L' := G') (G := fun i => if i = 3 * tp_ce C2 M2 K2 + v then G' i + gc * (tp_ch t s v : Int) else G' i) (F := F) (a := gc * (tp_ch t s v : Int)) (show 3 * tp_ce C2 M2 K2 + v < 1323 by omega) (fun i hi => by (try dsimp only); rw [if_neg hi]) (by (try dsimp only); rw [if_pos rfl])
        refine ct_75 (by omega) S1' L1 i5 (by omega) hpos (by omega) (fun h2 n2 F2 L2 j5 => ⟨rfl, nm_r en (IH h2 n2 _ (by omega) ⟨F1.tr F2, L2, j5, ?_, ?_, fun j hj => ?_⟩)⟩)
        · intro i hi gi hT2
          rw [BSd.fr F2 (by omega) (by omega) (by omega)]
          dsimp only at gi
          by_cases ci : i = 3 * tp_ce C2 M2 K2 + v
          · subst ci
            rw [show (3 * tp_ce C2 M2 K2 + v) / 3 = tp_ce C2 M2 K2 by omega, oc2, oc3, oc4, BSd.fr F1 (by omega) (by omega) (by omega)]
            exact hst hT2
          · rw [if_neg ci] at gi
            exact D1 i hi gi hT2
        · rw [(uu (fun _ => 0)).2, S1, tp_sr_snoc _ v 0, Nat.zero_add, Int.mul_add]
          omega
        · rw [(uu _).1, tp_Fo_ce hC hM hK ho hv, T1 j hj, tp_sr_snoc _ v 0, Nat.zero_add, Int.mul_add, Int.mul_assoc]
          omega
/-- what follow may change -/
def tp_S76 (b sp B D : Nat) (dd : Nat) : Nat → Nat → Prop := fun a i => tp_S12 b dd a i ∨ a = sp + 5 ∨ (a = sp ∧ (i = 5 ∨ (8 ≤ i ∧ i ≤ 11))) ∨ a = B ∨ a = D
set_option maxHeartbeats 4000000 in
theorem ct_76 {d n : Nat} {h : ZH} {A B C D dd pc nn : Nat} {G e : Nat → Int} {gc : Int} {Q : Option Value → ZH → Prop} (hd : 12 ≤ d) (ok : tp_Ok t) (ou : tp_Ou u) (hpb : p + 6 < b) (hps : p + 6 < sp) (hsb : sp + 5 < b ∨ b + 26 < sp) (hn : dd + 1 + n = tp_T t) (P : PgR h p t u) (A0 : BAl h b p ac g t u (tp_pr t)) (S : SpS h sp A B C D) (hpc : pc < 1323) (hA : zL h A pc = jL gc) (hgc : 0 < gc) (L : SpL h B D nn G) (h5 : zI h sp 5 = jI (nn : Int)) (hD : BSd h b dd (tp_oc (pc / 3)) (tp_om (pc / 3)) (tp_ok (pc / 3))) (DG : SpD h b t (dd + 1) G) (X : SpE h sp e) (hG : tp_sr G 0 1323 + 4 * gc ≤ 1099511627776) (kQ : ∀ h' nn' G' e', Fr (tp_S76 b sp B D dd) h h' → SpL h' B D nn' G' → zI h' sp 5 = jI (nn' : Int) → SpD h' b t (dd + 1) G' → SpE h' sp e' → tp_sr G' 0 1323 = tp_sr G 0 1323 + 4 * gc → (∀ j, j < 4 → e' j + tp_sr (fun i => G' i * tp_Fo t u j n (dd + 1) i) 0 1323 = e j + tp_sr (fun i => G i * tp_Fo t u j n (dd + 1) i) 0 1323 + gc * tp_Fo t u j (n + 1) dd pc) → Q none h') : Ct E d 76 [.ref sp, .ref b, .int (jI (dd : Int)), .int (jI (pc : Int))] h Q := by
  obtain ⟨d, rfl⟩ : ∃ n, d = n + 1 := ⟨d - 1, by omega⟩
  have hT := ok.T
  have h14 : t 14 ≤ 60 := ok.2.2.2.2.2.2.2.2.2.2.2.2.2.1
  have A0' := A0
  obtain ⟨B0, R0, O0, N0⟩ := A0
  have S' := S
  obtain ⟨s0, sA, sB, sC, sD, s6, s5, oAB, oCD⟩ := S
  have hq : pc / 3 < 441 := by omega
  have hs : pc % 3 < 3 := by omega
  obtain ⟨o1, o2, o3, o4⟩ := tp_o_b hq
  have e3 : (jI (pc : Int) / 3 : Int32) = jI ((pc / 3 : Nat) : Int) := by rw [show (3 : Int32) = jI ((3 : Nat) : Int) from rfl, jI_div (by omega) (by omega) (by omega)]
  have em : (jI (pc : Int) - jI (pc : Int) / 3 * 3 : Int32) = jI ((pc % 3 : Nat) : Int) := by rw [show (3 : Int32) = jI ((3 : Nat) : Int) from rfl, jI_rem (by omega) (by omega) (by omega)]
  refine ok_76 ⟨B0.1, p, R0.1, s0, A, sA.1, sA.tg, sA.inn hpc (by omega), nm_r (e' := jL gc) (by rw [jI_cln (by omega)]; exact hA) (nm_r em ⟨by omega, trivial, nm_r (e' := jI (tp_oc (pc / 3) : Int)) (by rw [e3]; exact fz6 hq) ⟨by omega, trivial, nm_r (e' := jI (tp_om (pc / 3) : Int)) (by rw [e3]; exact fz7 hq) ⟨by omega, trivial, nm_r (e' := jI (tp_ok (pc / 3) : Int)) (by rw [e3]; exact fz8 hq) ?_⟩⟩⟩)⟩
  have V : tp_V ac (tp_oc (pc / 3)) (tp_om (pc / 3)) (tp_ok (pc / 3)) := ⟨o1, o2, o3, by omega⟩
  have hTn : tp_T t - (dd + 1) = n := by omega
  -- what the place adds, before its cells are forgotten
  have FP : ∀ j, tp_Fo t u j (n + 1) dd pc = tp_cb t u j n dd (tp_oc (pc / 3)) (tp_om (pc / 3)) (tp_ok (pc / 3)) (pc % 3) + ((tp_ch t (pc % 3) 0 : Int) * tp_F t u j n (dd + 1) (tp_c2 t u dd (tp_oc (pc / 3)) (tp_om (pc / 3)) (tp_ok (pc / 3)) (tp_B t u (tp_pr t) n dd (tp_oc (pc / 3)) (tp_om (pc / 3)) (tp_ok (pc / 3)) (pc % 3))) (tp_m2 t u dd (tp_oc (pc / 3)) (tp_om (pc / 3)) (tp_ok (pc / 3)) (tp_B t u (tp_pr t) n dd (tp_oc (pc / 3)) (tp_om (pc / 3)) (tp_ok (pc / 3)) (pc % 3))) (tp_k2 t u dd (tp_oc (pc / 3)) (tp_om (pc / 3)) (tp_ok (pc / 3)) (tp_B t u (tp_pr t) n dd (tp_oc (pc / 3)) (tp_om (pc / 3)) (tp_ok (pc / 3)) (pc % 3))) 0 + (tp_ch t (pc % 3) 1 : Int) * tp_F t u j n (dd + 1) (tp_c2 t u dd (tp_oc (pc / 3)) (tp_om (pc / 3)) (tp_ok (pc / 3)) (tp_B t u (tp_pr t) n dd (tp_oc (pc / 3)) (tp_om (pc / 3)) (tp_ok (pc / 3)) (pc % 3))) (tp_m2 t u dd (tp_oc (pc / 3)) (tp_om (pc / 3)) (tp_ok (pc / 3)) (tp_B t u (tp_pr t) n dd (tp_oc (pc / 3)) (tp_om (pc / 3)) (tp_ok (pc / 3)) (pc % 3))) (tp_k2 t u dd (tp_oc (pc / 3)) (tp_om (pc / 3)) (tp_ok (pc / 3)) (tp_B t u (tp_pr t) n dd (tp_oc (pc / 3)) (tp_om (pc / 3)) (tp_ok (pc / 3)) (pc % 3))) 1 + (tp_ch t (pc % 3) 2 : Int) * tp_F t u j n (dd + 1) (tp_c2 t u dd (tp_oc (pc / 3)) (tp_om (pc / 3)) (tp_ok (pc / 3)) (tp_B t u (tp_pr t) n dd (tp_oc (pc / 3)) (tp_om (pc / 3)) (tp_ok (pc / 3)) (pc % 3))) (tp_m2 t u dd (tp_oc (pc / 3)) (tp_om (pc / 3)) (tp_ok (pc / 3)) (tp_B t u (tp_pr t) n dd (tp_oc (pc / 3)) (tp_om (pc / 3)) (tp_ok (pc / 3)) (pc % 3))) (tp_k2 t u dd (tp_oc (pc / 3)) (tp_om (pc / 3)) (tp_ok (pc / 3)) (tp_B t u (tp_pr t) n dd (tp_oc (pc / 3)) (tp_om (pc / 3)) (tp_ok (pc / 3)) (pc % 3))) 2) := fun j => tp_F_s j n dd _ _ _ _
  generalize tp_oc (pc / 3) = c at *
  generalize tp_om (pc / 3) = m at *
  generalize tp_ok (pc / 3) = k at *
  generalize hsv : pc % 3 = s at *
  refine ct_12 ok ou (tp_pr_ok ok) hpb (show dd < tp_T t by omega) (by omega) P B0 R0 O0 V hD hs (fun h11 F11 w11 => ?_)
  rw [hTn]
  have hBi : tp_lo t u dd ≤ tp_B t u (tp_pr t) n dd c m k s ∧ tp_B t u (tp_pr t) n dd c m k s ≤ tp_lo t u dd + (tp_hi t u dd - tp_lo t u dd) := tp_ma_in _
  have hl := tp_lohi (u := u) ok dd
  have hst := fun h2 => (O0 _ _ _ _ (show dd < tp_T t by omega) V hD).2 h2 (tp_B t u (tp_pr t) n dd c m k s) (by omega) (by omega)
  have CB : ∀ j, tp_cb t u j n dd c m k s = match j with
    | 0 => 4 ^ n * ((tp_nC t u dd c m k (tp_B t u (tp_pr t) n dd c m k s) : Int) * tp_un t (tp_pr t dd s) 4 + 4 * ((tp_fl t u dd c m k (tp_B t u (tp_pr t) n dd c m k s) : Int) + ((100 * t 6 * tp_sh t u dd c m k (tp_B t u (tp_pr t) n dd c m k s) : Nat) : Int) - 100 * (t 14 : Int) * (tp_B t u (tp_pr t) n dd c m k s : Int)))
    | 1 => 4 ^ n * (4 * (tp_B t u (tp_pr t) n dd c m k s : Int))
    | 2 => 4 ^ n * (4 * (tp_sh t u dd c m k (tp_B t u (tp_pr t) n dd c m k s) : Int))
    | _ => 4 ^ n * (4 * (tp_mU t u dd c m k (tp_B t u (tp_pr t) n dd c m k s) : Int)) := fun j => rfl
  generalize tp_B t u (tp_pr t) n dd c m k s = x at *
  have hx4 : x ≤ 4 := by omega
  have F11' : Fr (tp_S76 b sp B D dd) h h11 := F11.wd (fun a i e => Or.inl e)
  have P11 : PgR h11 p t u := P.fr F11 (fun a i ha hb => by unfold tp_S12; omega)
  have S11 := S'.fr F11
  have hmv11 : ztag h11 (sp + 5) = 2 := S11.2.2.2.2.2.2.1
  refine ⟨_, rfl, S11.1, sp + 5, S11.2.2.2.2.2.1, hmv11, ct_2526 (by omega) ok P11 hmv11 (by omega) o1 o2 o3 (by omega) (fun h16 F16 T16 K => ⟨by rw [F16.tg]; exact S11.1, sp + 5, by rw [F16.rr]; exact S11.2.2.2.2.2.1, by rw [F16.tg]; exact hmv11, K _ (fun h20 F20 M20 => ?_)⟩)⟩
  have F20' : Fr (tp_S76 b sp B D dd) h h20 := F11'.tr (F20.wd (fun a i e => Or.inr (Or.inl e)))
  have P20 : PgR h20 p t u := P11.fr F20 (fun a i ha hb => by omega)
  have S20 := S11.fr F20
  have B20 : BSh h20 b := B0.fr F20'
  have R20 : BPr h20 b p t (tp_pr t) := R0.fr F20' (fun a i ha hb => by unfold tp_S76 tp_S12; omega)
  have M20' := M20
  obtain ⟨M0, M1, M2, M3, M4, M5, M6, M7, M8⟩ := M20
  have b4 := B20.2.2.2.2.1
  have b5 := B20.2.2.2.2.2.1
  have b6 := B20.2.2.2.2.2.2.1
  have eun : (3 * jI (dd : Int) + jI (s : Int) : Int32) = jI ((3 * dd + s : Nat) : Int) := by
    rw [show (3 : Int32) = jI 3 from rfl, jI_mul, jI_add]; congr 1
  have en1 : (jI (dd : Int) + 1 : Int32) = jI ((dd + 1 : Nat) : Int) := by
    rw [show (1 : Int32) = jI 1 from rfl, jI_add]; rfl
  have bpaid := tp_paid_le ok u dd c m k hx4 (tp_pr_ok ok dd s hs)
  have bfl := tp_fl_le ok u dd c m k hx4
  have bps := tp_ps_le ok u dd c m k x
  have bun : tp_nC t u dd c m k x * tp_un t (tp_pr t dd s) 4 ≤ 4 * 24000 := Nat.mul_le_mul (Nat.le_trans (tp_nC_x _ _ _ _ _ _ _) hx4) (tp_un_le ok (by have := tp_pr_ok ok dd s hs; omega))
  have bco : 100 * t 14 * x ≤ 100 * 60 * 4 := Nat.mul_le_mul (Nat.mul_le_mul_left _ h14) hx4
  have eco : (100 * (t 14 : Int) * (x : Int)) = ((100 * t 14 * x : Nat) : Int) := by simp only [Int.natCast_mul]; rfl
  have enu : ((tp_nC t u dd c m k x : Int) * (tp_un t (tp_pr t dd s) 4 : Int)) = ((tp_nC t u dd c m k x * tp_un t (tp_pr t dd s) 4 : Nat) : Int) := by simp only [Int.natCast_mul]
  have hsh := tp_sh_le t u dd c m k x
  have hmu := tp_mU_x t u dd c m k x
  have hc2 := tp_c2_le t u dd c m k x
  have hm2 := tp_m2_le t u dd c k x o2
  have hk2 := tp_k2_le t u dd c m x o3
  have hown := tp_own ok u dd c x o4
  refine ⟨S20.1, sp + 5, S20.2.2.2.2.2.1, S20.2.2.2.2.2.2.1, P20.1.1.1, p + 1, P20.1.1.2.1.1, P20.1.1.2.1.ti, P20.1.1.2.1.inc (by decide), nm_r (e' := jI ((tp_fl t u dd c m k x : Int) + ((100 * t 6 * tp_sh t u dd c m k x : Nat) : Int) - 100 * (t 14 : Int) * (x : Int))) ?_ ⟨B20.1, b + 5, b5.1, b5.ti, by rw [eun]; exact b5.inn (by omega) (by omega), nm_r (e' := jI ((tp_nC t u dd c m k x : Int) * tp_un t (tp_pr t dd s) 4 + 4 * ((tp_fl t u dd c m k x : Int) + ((100 * t 6 * tp_sh t u dd c m k x : Nat) : Int) - 100 * (t 14 : Int) * (x : Int)))) ?_ ⟨b + 6, b6.1, b6.tg, by rw [en1]; exact b6.inn (by omega) (by omega), nm_r (e' := jL (gc * 4 ^ n)) ?_ ?_⟩⟩⟩
  · rw [M7, M8, P20.1.2.1 14 (by omega), show (100 : Int32) = jI 100 from rfl, jI_mul, jI_mul, jI_add, jI_sub]
  · rw [M2, eun, jI_cln (by omega), R20.2.2.1 dd s (by omega) hs, show (4 : Int32) = jI 4 from rfl, jI_mul, jI_mul, jI_add]
  · rw [en1, jI_cln (by omega), R20.2.2.2 (dd + 1) (by omega), hTn, jL_mul]
  have X20 : SpE h20 sp e := fun j hj => by rw [F20.L (by omega), F11.L (by unfold tp_S12; omega)]; exact X j hj
  generalize hv0 : (tp_nC t u dd c m k x : Int) * (tp_un t (tp_pr t dd s) 4 : Int) + 4 * ((tp_fl t u dd c m k x : Int) + ((100 * t 6 * tp_sh t u dd c m k x : Nat) : Int) - 100 * (t 14 : Int) * (x : Int)) = v0 at CB ⊢
  have bv0 : -2147483648 ≤ v0 ∧ v0 < 2147483648 := by rw [← hv0, eco, enu]; omega
  have l8 : ∀ j, j < 4 → zL h20 sp (8 + j) = jL (e j) := X20
  refine nm_r (e' := zuL h20 sp 8 (jL (e 0 + gc * 4 ^ n * v0))) ?_ (nm_r (e' := zuL (zuL h20 sp 8 (jL (e 0 + gc * 4 ^ n * v0))) sp 9 (jL (e 1 + 4 * (gc * 4 ^ n) * (x : Int)))) ?_ (nm_r (e' := zuL (zuL (zuL h20 sp 8 (jL (e 0 + gc * 4 ^ n * v0))) sp 9 (jL (e 1 + 4 * (gc * 4 ^ n) * (x : Int)))) sp 10 (jL (e 2 + 4 * (gc * 4 ^ n) * (tp_sh t u dd c m k x : Int)))) ?_ (nm_r (e' := zuL (zuL (zuL (zuL h20 sp 8 (jL (e 0 + gc * 4 ^ n * v0))) sp 9 (jL (e 1 + 4 * (gc * 4 ^ n) * (x : Int)))) sp 10 (jL (e 2 + 4 * (gc * 4 ^ n) * (tp_sh t u dd c m k x : Int)))) sp 11 (jL (e 3 + 4 * (gc * 4 ^ n) * (tp_mU t u dd c m k x : Int)))) ?_ ?_)))
  · rw [l8 0 (by omega), jI_toL bv0.1 bv0.2, jL_mul, jL_add]
  · rw [zL_offi (by omega), l8 1 (by omega), jI_toL (by omega) (by omega), show (4 : Int64) = jL 4 from rfl, jL_mul, jL_mul, jL_add]
  · rw [zL_offi (by omega), zL_offi (by omega), l8 2 (by omega)]
    show zuL _ sp 10 (jL (e 2) + (4 * jL (gc * 4 ^ n)) * (zI h20 (sp + 5) 6 : Int32).toInt64) = _
    rw [M6, jI_toL (by omega) (by omega), show (4 : Int64) = jL 4 from rfl, jL_mul, jL_mul, jL_add]
  · rw [zL_offi (by omega), zL_offi (by omega), zL_offi (by omega), l8 3 (by omega)]
    show zuL _ sp 11 (jL (e 3) + (4 * jL (gc * 4 ^ n)) * (zI h20 (sp + 5) 1 : Int32).toInt64) = _
    rw [M1, jI_toL (by omega) (by omega), show (4 : Int64) = jL 4 from rfl, jL_mul, jL_mul, jL_add]
  have F21 : Fr (fun a i => a = sp ∧ 8 ≤ i ∧ i ≤ 11) h20 (zuL (zuL (zuL (zuL h20 sp 8 (jL (e 0 + gc * 4 ^ n * v0))) sp 9 (jL (e 1 + 4 * (gc * 4 ^ n) * (x : Int)))) sp 10 (jL (e 2 + 4 * (gc * 4 ^ n) * (tp_sh t u dd c m k x : Int)))) sp 11 (jL (e 3 + 4 * (gc * 4 ^ n) * (tp_mU t u dd c m k x : Int)))) := Fr.uL (Fr.uL (Fr.uL (Fr.uL Fr.rf (by omega)) (by omega)) (by omega)) (by omega)
  have X21 : SpE (zuL (zuL (zuL (zuL h20 sp 8 (jL (e 0 + gc * 4 ^ n * v0))) sp 9 (jL (e 1 + 4 * (gc * 4 ^ n) * (x : Int)))) sp 10 (jL (e 2 + 4 * (gc * 4 ^ n) * (tp_sh t u dd c m k x : Int)))) sp 11 (jL (e 3 + 4 * (gc * 4 ^ n) * (tp_mU t u dd c m k x : Int)))) sp (fun j => e j + gc * tp_cb t u j n dd c m k s) := by
    intro j hj
    show _ = jL (e j + gc * tp_cb t u j n dd c m k s)
    have : j = 0 ∨ j = 1 ∨ j = 2 ∨ j = 3 := by omega
    rcases this with q | q | q | q <;> subst q
    · rw [zL_offi (by omega), zL_offi (by omega), zL_offi (by omega), zL_here, CB]
      congr 1
      show _ = e 0 + gc * (4 ^ n * v0)
      rw [Int.mul_assoc]
    · rw [zL_offi (by omega), zL_offi (by omega), zL_here, CB]
      congr 1
      show _ = e 1 + gc * (4 ^ n * (4 * (x : Int)))
      generalize (4 ^ n : Int) = P4
      grind
    · rw [zL_offi (by omega), zL_here, CB]
      congr 1
      show _ = e 2 + gc * (4 ^ n * (4 * (tp_sh t u dd c m k x : Int)))
      generalize (4 ^ n : Int) = P4
      grind
    · rw [zL_here, CB]
      congr 1
      show _ = e 3 + gc * (4 ^ n * (4 * (tp_mU t u dd c m k x : Int)))
      generalize (4 ^ n : Int) = P4
      grind
  generalize zuL (zuL (zuL (zuL h20 sp 8 (jL (e 0 + gc * 4 ^ n * v0))) sp 9 (jL (e 1 + 4 * (gc * 4 ^ n) * (x : Int)))) sp 10 (jL (e 2 + 4 * (gc * 4 ^ n) * (tp_sh t u dd c m k x : Int)))) sp 11 (jL (e 3 + 4 * (gc * 4 ^ n) * (tp_mU t u dd c m k x : Int))) = h21 at F21 X21 ⊢
  have FA : Fr (tp_S76 b sp B D dd) h h21 := F20'.tr (F21.wd (fun a i e => Or.inr (Or.inr (Or.inl ⟨e.1, Or.inr e.2⟩))))
  have P21 : PgR h21 p t u := P20.fr F21 (fun a i ha hb => by omega)
  have S21 := S20.fr F21
  have M21 := M20'.fr F21 (fun i => by omega)
  have fB : ∀ i, zL h21 B i = zL h B i := fun i => by rw [F21.L (by omega), F20.L (by omega), F11.L (by unfold tp_S12; omega)]
  have L21 : SpL h21 B D nn G := ((L.fr F11 (fun i => by unfold tp_S12; omega) (fun i => by unfold tp_S12; omega)).fr F20 (fun i => by omega) (fun i => by omega)).fr F21 (fun i => by omega) (fun i => by omega)
  have i5 : zI h21 sp 5 = jI (nn : Int) := by rw [F21.I (by omega), F20.I (by omega), F11.I (by unfold tp_S12; omega)]; exact h5
  have bs : ∀ d' c' m' k', BSd h21 b d' c' m' k' ↔ BSd h b d' c' m' k' := fun d' c' m' k' => by
    rw [BSd.fr F21 (by omega) (by omega) (by omega), BSd.fr F20 (by omega) (by omega) (by omega), BSd.fr F11 (by unfold tp_S12; omega) (by unfold tp_S12; omega) (by unfold tp_S12; omega)]
  refine ⟨by omega, sz5 _ _ _, nm_r (e' := jI ((3 * tp_ce (tp_c2 t u dd c m k x) (tp_m2 t u dd c m k x) (tp_k2 t u dd c m k x) : Nat) : Int)) ?_ ⟨4, ?_⟩⟩
  · rw [M21.2.2.2.1, M21.2.2.2.2.1, M21.2.2.2.2.2.1, fz5 hc2 hm2 hk2, show (3 : Int32) = jI 3 from rfl, jI_mul]
    congr 1
  · refine l76 (n := n) (G := G) (by omega) ok hpb hps hsb P21 S21 hs hc2 hm2 hk2 hown (fun h2 => (bs _ _ _ _).mpr (hst h2)) hgc hG (fun h3 n3 G3 I3 => ?_) 3 0 h21 nn G (by omega) ⟨Fr.rf, L21, i5, fun i hi gi hT2 => (bs _ _ _ _).mpr (DG i hi gi hT2), ?_, fun j hj => ?_⟩
    · obtain ⟨F3, L3, j5, D3, S3, T3⟩ := I3
      have hch := tp_ch_sum ok hs
      refine kQ h3 n3 G3 (fun j => e j + gc * tp_cb t u j n dd c m k s) (FA.tr (F3.wd (fun a i e => ?_))) L3 j5 D3 (fun j hj => by rw [F3.L (by omega)]; exact X21 j hj) ?_ (fun j hj => ?_)
      · rcases e with e | e | e
        · exact Or.inr (Or.inr (Or.inr (Or.inl e)))
        · exact Or.inr (Or.inr (Or.inr (Or.inr e)))
        · exact Or.inr (Or.inr (Or.inl ⟨e.1, Or.inl e.2⟩))
      · rw [S3]
        show _ + gc * ((tp_ch t s 0 : Int) + ((tp_ch t s 1 : Int) + ((tp_ch t s 2 : Int) + 0))) = _
        rw [show ((tp_ch t s 0 : Int) + ((tp_ch t s 1 : Int) + ((tp_ch t s 2 : Int) + 0))) = 4 by omega]
        omega
      · rw [T3 j hj, FP j]
        unfold tp_sr tp_sr tp_sr tp_sr
        grind
    · show _ = _ + gc * 0
      omega
    · show _ = _ + gc * 0
      omega
end SPF
