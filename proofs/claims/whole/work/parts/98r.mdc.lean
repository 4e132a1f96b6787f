/-! THE READER, the Model's: chances -/
def sg (t : Nat → Nat) (s : Nat) : Nat → Nat
  | 0 => 0
  | i + 1 => sg t s i + t (30 + 3 * s + i)
theorem sg_up {t : Nat → Nat} {s j v : Nat} : ∀ i, 30 + 3 * s + i ≤ j → sg (upt t j v) s i = sg t s i
  | 0, _ => rfl
  | i + 1, h => by rw [sg, sg, sg_up i (by omega), upt_n (by omega)]
section MDC
variable {E : Nat → Nat} {h h0 : ZH} {x m tn d r p n : Nat} {tb : Nat → Int32} {ln sl tm : Nat} {to : Nat → Bool} {t : Nat → Nat} {S : RdT} {k : TkT} {A : Nat × Nat × Nat × RdT} {Q : Option Value → ZH → Prop} {R : ZH → Prop}
theorem ix147 {s i : Nat} : ((19 : Int32) + (3 * jI (s : Int))) + jI (i : Int) = jI ((19 + 3 * s + i : Nat) : Int) := by
  rw [show (19 : Int32) = jI 19 from rfl, show (3 : Int32) = jI 3 from rfl, jI_mul, jI_add, jI_add]; rfl
theorem i1_ (i : Nat) : jI (i : Int) + 1 = jI ((i + 1 : Nat) : Int) := by rw [show (1 : Int32) = jI 1 from rfl, jI_add]; rfl
theorem l147F {s : Nat} (hd : 1 ≤ d) (hs : s ≤ 2) (M0 : MTp h0 m tn tb) (q : ∀ h', MdF h0 h' m A → Q none h') : ∀ (j i : Nat) (a2 : Int32) (h : ZH), i + j = 3 → MdF h0 h m A → wl_147_31 E d Q (j + 1) m (jI (s : Int)) a2 (jI (i : Int)) h
  | 0, i, a2, h, e, G => by
    rw [wl_147_31]
    refine ⟨fun _ => ⟨(M0.fr G.1).1.1, F141 hd M0 G ⟨rfl, q h G⟩⟩, fun w => absurd ?_ w⟩
    rw [show (3 : Int32) = jI ((3 : Nat) : Int) from rfl, jI_len (by omega) (by omega)]
    omega
  | j + 1, i, a2, h, e, G => by
    have s0 := (M0.fr G.1).1.1
    have A16 := (M0.fr G.1).1.a16
    rw [wl_147_31]
    refine ⟨fun w => ?_, fun _ => ⟨s0, F141 hd M0 G ⟨rfl, s0, F142 hd M0 G ⟨_, rfl, nm_e ?_⟩⟩⟩⟩
    · exfalso
      rw [show (3 : Int32) = jI ((3 : Nat) : Int) from rfl, jI_len (by omega) (by omega)] at w
      omega
    have b : ∀ a2 a4, wb_147_57 E d Q (wl_147_31 E d Q (j + 1)) m (jI (s : Int)) a2 (jI (i : Int)) a4 h := fun a2 a4 => by
      refine ⟨s0, m + 9, A16.1, A16.tg, ?_, nm_e ?_⟩
      · rw [ix147]; exact A16.inn (by omega) (by omega)
      · rw [i1_]
        exact nm_e (l147F hd hs M0 q j (i + 1) a2 _ (by omega) G.u9)
    exact ⟨fun _ => b _ _, fun _ => ⟨s0, fun _ => b _ _, fun w => absurd G.z w⟩⟩
theorem l147N {s r0 : Nat} (hd : 3 ≤ d) (hs : s ≤ 2) (B : TpB tb) (hn : tn ≤ 320) (M0 : MTp h0 m tn tb) (q : BdK tb tn h0 m r0 15 n A Q) : ∀ (j i r p : Nat) (S : RdT) (to : Nat → Bool) (t : Nat → Nat) (h : ZH), i + j = 3 → MdN tb tn h0 h m r S p n A → ¬ (tk tb tn p).1 = 4 → ¬ (tk tb tn p).1 = 3 → stp S (tk tb tn p) = (0, (15, i + 1, 30 + 3 * s + i, to, t)) → RdW h m to t → r ≤ r0 → wl_147_31 E d Q (j + 1) m (jI (s : Int)) (jI (sg t s i : Int)) (jI (i : Int)) h
  | 0, i, r, p, S, to, t, h, e, N, c4, c3, es, W, hr0 => by
    have e3 : i = 3 := by omega
    subst e3
    rw [wl_147_31]
    refine ⟨fun _ => ⟨(M0.fr N.1).1.1, N141 hd B hn M0 N c4 es (by rw [if_neg c3]; rfl) W (fun h' G => ⟨rfl, q.1 h' G⟩) (fun h' p' lt N2 W2 => ⟨rfl, q.2 h' (r - 1) p' _ _ _ (by omega) N2 W2⟩)⟩, fun w => absurd ?_ w⟩
    rw [show (3 : Int32) = jI ((3 : Nat) : Int) from rfl, jI_len (by omega) (by omega)]
    omega
  | j + 1, i, r, p, S, to, t, h, e, N, c4, c3, es, W, hr0 => by
    have s0 := (M0.fr N.1).1.1
    rw [wl_147_31]
    refine ⟨fun w => ?_, fun _ => ⟨s0, N141 hd B hn M0 N c4 es (by rw [if_neg c3]) W (fun h1 G => ⟨rfl, ?_⟩) (fun h1 p1 lt N1 W1 => ⟨rfl, ?_⟩)⟩⟩
    · exfalso
      rw [show (3 : Int32) = jI ((3 : Nat) : Int) from rfl, jI_len (by omega) (by omega)] at w
      omega
    · have s1 := (M0.fr G.1).1.1
      have A16 := (M0.fr G.1).1.a16
      refine ⟨s1, F142 (by omega) M0 G ⟨_, rfl, nm_e ?_⟩⟩
      have b : ∀ a2 a4, wb_147_57 E d Q (wl_147_31 E d Q (j + 1)) m (jI (s : Int)) a2 (jI (i : Int)) a4 h1 := fun a2 a4 => by
        refine ⟨s1, m + 9, A16.1, A16.tg, ?_, nm_e ?_⟩
        · rw [ix147]; exact A16.inn (by omega) (by omega)
        · rw [i1_]
          exact nm_e (l147F (by omega) hs M0 q.1 j (i + 1) a2 _ (by omega) G.u9)
      exact ⟨fun _ => b _ _, fun _ => ⟨s1, fun _ => b _ _, fun w => absurd G.z w⟩⟩
    · have s1 := (M0.fr N1.1).1.1
      have A16 := (M0.fr N1.1).1.a16
      have bF : ∀ a2 a4 h2, MdF h0 h2 m A → wb_147_57 E d Q (wl_147_31 E d Q (j + 1)) m (jI (s : Int)) a2 (jI (i : Int)) a4 h2 := fun a2 a4 h2 G => by
        have A16 := (M0.fr G.1).1.a16
        refine ⟨(M0.fr G.1).1.1, m + 9, A16.1, A16.tg, ?_, nm_e ?_⟩
        · rw [ix147]; exact A16.inn (by omega) (by omega)
        · rw [i1_]
          exact nm_e (l147F (by omega) hs M0 q.1 j (i + 1) a2 _ (by omega) G.u9)
      have es1 := stp_v (ln := 15) (sl := i + 1) (tm := 30 + 3 * s + i) (to := to) (t := t) (k := tk tb tn p1) N1.2.2.1 (by omega) (by show ¬ i + 1 = 4; omega) (by omega) (by omega) (by omega)
      unfold stV at es1
      rw [if_neg (show ¬ (15 = 3 ∧ i + 1 = 1) by omega), show loN 15 = 0 from rfl, show hiN 15 = 4 from rfl] at es1
      refine ⟨s1, N142 (lo := 0) (hi := 4) (by omega) M0 (by omega) (by omega) N1 (by show ¬ 15 = 17; omega) (fun c => by rw [es1, if_pos c]) (fun c c' => by rw [es1, if_neg (fun w => w c), if_pos c']) (fun h2 G => ⟨_, rfl, nm_e ⟨fun _ => bF _ _ h2 G, fun _ => ⟨(M0.fr G.1).1.1, fun _ => bF _ _ h2 G, fun w => absurd G.z w⟩⟩⟩) (fun v c hv l1 l2 => ⟨_, rfl, nm_r (e' := jI ((sg t s i + v : Nat) : Int)) (by rw [jI_add]; rfl) ?_⟩)⟩
      rw [if_neg (fun w => w c), hv, Int.toNat_natCast, if_neg (show ¬ (v < 0 ∨ 4 < v) by omega)] at es1
      have rx : rxN (30 + 3 * s + i) = 19 + 3 * s + i := by
        unfold rxN
        rw [if_neg (by omega), if_neg (by omega)]
        omega
      have bN : stp (15, i + 1, 30 + 3 * s + i, to, t) (tk tb tn p1) = (0, (15, i + 1 + 1, 30 + 3 * s + i + 1, to, upt t (30 + 3 * s + i) v)) → wb_147_57 E d Q (wl_147_31 E d Q (j + 1)) m (jI (s : Int)) (jI ((sg t s i + v : Nat) : Int)) (jI (i : Int)) (jI (v : Int)) h1 := fun es2 => by
        refine ⟨s1, m + 9, A16.1, A16.tg, ?_, nm_r (e' := zuI h1 (m + 9) (rxN (30 + 3 * s + i)) (jI (v : Int))) ?_ ?_⟩
        · rw [ix147]; exact A16.inn (by omega) (by omega)
        · rw [ix147, jI_cln (by omega), rx]
        · rw [i1_, show sg t s i + v = sg (upt t (30 + 3 * s + i) v) s (i + 1) by rw [sg, sg_up i (by omega), upt_e]]
          exact nm_e (l147N hd hs B hn M0 q j (i + 1) (r - 1) p1 _ to _ _ (by omega) N1.u9 (by omega) (by omega) es2 (W1.up (by unfold okT; omega)) (by omega))
      have i2 : (jI (i : Int) = 2 ↔ i = 2) := jI_eqn (b := 2) (by omega) (by omega)
      rw [i2]
      refine ⟨fun c2 => ?_, fun c2 => ⟨s1, fun w => absurd N1.2.1.1 w, fun _ => ?_⟩⟩
      · rw [if_neg (by omega)] at es1
        exact bN es1
      · rw [Classical.not_not] at c2
        subst c2
        have K1 := N1.2.2.2.1
        have b1 : t (30 + 3 * s) ≤ 100 := rdo_b K1 (show 30 + 3 * s < 39 by omega)
        have b2 : t (30 + 3 * s + 1) ≤ 100 := rdo_b K1 (show 30 + 3 * s + 1 < 39 by omega)
        have e2 : sg t s 2 = t (30 + 3 * s) + t (30 + 3 * s + 1) := by
          show 0 + t (30 + 3 * s + 0) + t (30 + 3 * s + 1) = _
          rw [Nat.zero_add]; rfl
        have i4 : (jI ((sg t s 2 + v : Nat) : Int) = 4 ↔ t (30 + 3 * s + 2 - 2) + t (30 + 3 * s + 2 - 1) + v = 4) := by
          rw [show 30 + 3 * s + 2 - 2 = 30 + 3 * s by omega, show 30 + 3 * s + 2 - 1 = 30 + 3 * s + 1 by omega, ← e2]
          exact jI_eqn (b := 4) (by omega) (by omega)
        rw [i4]
        refine ⟨fun c => ?_, fun c => ?_⟩
        · rw [if_neg (fun w => w.2.2 c)] at es1
          exact bN es1
        · rw [if_pos ⟨rfl, rfl, c⟩] at es1
          exact N139 (c := 3) (by omega) M0 N1 (by show ¬ (_ ∧ 15 = 17); omega) (by rw [es1]) (by omega) (fun h' G => ⟨rfl, bF _ _ h' G⟩)
theorem b147F {s : Nat} (hd : 1 ≤ d) (hs : s ≤ 2) (M0 : MTp h0 m tn tb) (G : MdF h0 h m A) (q : ∀ h', MdF h0 h' m A → Q none h') : wb_147_19 E d Q m (jI (s : Int)) h := ⟨(M0.fr G.1).1.1, nm_e ⟨3 + 1, l147F hd hs M0 q 3 0 0 _ (by omega) (G.um (by omega) (by omega))⟩⟩
theorem ct_147F (hd : 2 ≤ d) (M0 : MTp h0 m tn tb) (G : MdF h0 h m A) (q : ∀ h', MdF h0 h' m A → Q none h') : Ct E d 147 [.ref m] h Q := by
  obtain ⟨d, rfl⟩ : ∃ n, d = n + 1 := ⟨d - 1, by omega⟩
  exact ok_147 ⟨(M0.fr G.1).1.1, F142 (by omega) M0 G ⟨_, rfl, (M0.fr G.1).1.1, fun _ => b147F (s := 0) (by omega) (by omega) M0 G q, fun w => absurd G.z w⟩⟩
theorem ct_147N (hd : 4 ≤ d) (B : TpB tb) (hn : tn ≤ 320) (M0 : MTp h0 m tn tb) (N : MdN tb tn h0 h m r (15, 0, 30, to, t) p n A) (W : RdW h m to t) (q : BdK tb tn h0 m r 15 n A Q) : Ct E d 147 [.ref m] h Q := by
  obtain ⟨d, rfl⟩ : ∃ n, d = n + 1 := ⟨d - 1, by omega⟩
  have es := stp_w (ln := 15) (tm := 30) (to := to) (t := t) (k := tk tb tn p) N.2.2.1 (by omega)
  unfold stW at es
  rw [if_neg (show ¬ 15 = 14 by omega), if_neg (show ¬ 15 = 14 by omega)] at es
  refine ok_147 ⟨(M0.fr N.1).1.1, N142 (lo := 0) (hi := 2) (by omega) M0 (by omega) (by omega) N (by show ¬ 15 = 17; omega) (fun c => by rw [es, if_pos c]) (fun c c' => by rw [es, if_neg (fun w => w c), if_pos (by omega)]) (fun h' G => ?_) (fun v c hv l1 l2 => ?_)⟩
  · exact ⟨_, rfl, (M0.fr G.1).1.1, fun _ => b147F (s := 0) (by omega) (by omega) M0 G q.1, fun w => absurd G.z w⟩
  · rw [if_neg (fun w => w c), hv, Int.toNat_natCast, if_neg (by omega)] at es
    have tl : ((zI h m 19 >>> (jI (v : Int) &&& 31)) &&& 1 = 1 ↔ to (20 + v) = true) := W.2.2.1 v (by omega)
    refine ⟨_, rfl, (M0.fr N.1).1.1, fun w => absurd N.2.1.1 w, fun _ => ?_⟩
    rw [tl]
    refine ⟨fun c4 => ?_, fun c4 => ?_⟩
    · rw [if_neg c4] at es
      exact ⟨(M0.fr N.1).1.1, nm_e ⟨3 + 1, l147N (by omega) (by omega) B hn M0 q 3 0 r p _ _ _ _ (by omega) (N.um (by omega) (by omega)) (by omega) (by omega) es (W.m19 (by omega)) (by omega)⟩⟩
    · rw [Classical.not_not] at c4
      rw [if_pos c4] at es
      exact N139 (c := 4) (by omega) M0 N (by show ¬ (_ ∧ 15 = 17); omega) (by rw [es]) (by omega) (fun h' G => ⟨rfl, b147F (by omega) (by omega) M0 G q.1⟩)
end MDC
