/-! TOKENS: the class's -/
theorem wdi_le : ∀ j, j < 135 → wdi j ≤ 21 ∧ wdp j < 10 := by decide +kernel
theorem wdi_0 : wdi 0 = 0 ∧ wdp 0 = 0 := by decide
section TKD
variable {E : Nat → Nat} {h : ZH} {x m tn d : Nat} {tb : Nat → Int32} {Q : Option Value → ZH → Prop}
def wW (j : Nat) : Nat := if j < 135 then wdi j else 22
theorem nmF_at {q n j : Nat} (hj : j < 135) : nmF tb q n (22 - wW j) (wW j) = if eqw tb q n (wd (wdi j)) = true then (wdi j : Int) else nmF tb q n (22 - (wdi j + 1)) (wdi j + 1) := by
  have := (wdi_le j hj).1
  have e : wW j = wdi j := by unfold wW; rw [if_pos hj]
  rw [e, show 22 - wdi j = (22 - (wdi j + 1)) + 1 by omega, nmF]
theorem l84 {q e : Nat} (hd : 4 ≤ d) (Sc : Stc E h) (B : TpB tb) (T : TpD h x tn tb) (hn : tn ≤ 320) (hq : q ≤ e) (he : e ≤ tn) (i2 : zI h (x + 8) 2 = jI (e : Int)) (i5 : zI h (x + 8) 5 = jI (q : Int)) : ∀ (r j : Nat) (a1 a2 a3 : Int32), j + r = 135 → (j < 135 → a1 = jI (wdi j : Int) ∧ a2 = jI (wdp j : Int) ∧ a3 = (if mtw tb q (e - q) (wd (wdi j)) (wdp j) = true then 1 else 0)) → Q (some (.int (jI (nmF tb q (e - q) (22 - wW j) (wW j))))) h → wl_84_8 E d Q (r + 1) (x + 8) a1 a2 a3 (jI (j : Int)) h
  | 0, j, a1, a2, a3, ej, _, hQ => by
    have e1 : j = 135 := by omega
    subst e1
    rw [wl_84_8]
    obtain ⟨_, t7, l7, _⟩ := Sc.2
    refine ⟨hd, t7, fun _ => ?_, fun c => ?_⟩
    · exact hQ
    · exfalso
      apply c
      rw [l7]
      decide
  | r + 1, j, a1, a2, a3, ej, ha, hQ => by
    obtain ⟨_, t7, l7, z7⟩ := Sc.2
    obtain ⟨rfl, rfl, rfl⟩ := ha (by omega)
    have hw := wdi_le j (by omega)
    have hN := wd_N j (by omega)
    have nxt : ∀ (b1 b2 b3 : Int32), (j + 1 < 135 → b1 = jI (wdi (j + 1) : Int) ∧ b2 = jI (wdp (j + 1) : Int) ∧ b3 = (if mtw tb q (e - q) (wd (wdi (j + 1))) (wdp (j + 1)) = true then 1 else 0)) → Q (some (.int (jI (nmF tb q (e - q) (22 - wW (j + 1)) (wW (j + 1)))))) h → ∀ x3 : Int32, x3 = (jI (j : Int) + 1) → wl_84_8 E d Q (r + 1) (x + 8) b1 b2 b3 x3 h := by
      rintro b1 b2 b3 hb hq' x3 rfl
      rw [show (jI (j : Int) + 1 : Int32) = jI ((j + 1 : Nat) : Int) by rw [show (1 : Int32) = jI 1 from rfl, jI_add]; rfl]
      exact l84 hd Sc B T hn hq he i2 i5 r (j + 1) b1 b2 b3 (by omega) hb hq'
    rw [nmF_at (by omega)] at hQ
    rw [wl_84_8]
    refine ⟨hd, t7, fun c => ?_, fun _ => ⟨hd, t7, ?_, nm_r (e' := zNames.getD j 0) (by rw [z7, jI_cln (by omega)]) ⟨fun c => ?_, fun c => ?_⟩⟩⟩
    · exfalso
      rw [l7, show Int32.ofNat 135 = jI ((135 : Nat) : Int) from rfl, jI_len (by omega) (by omega)] at c
      omega
    · rw [l7]
      unfold zin
      rw [Bool.and_eq_true]
      exact ⟨decide_eq_true ((jI_len (a := 0) (by omega) (by omega)).mpr (by omega)), decide_eq_true (by rw [jI_cln (by omega)]; omega)⟩
    · -- a word's end
      obtain ⟨w1, w2, w3⟩ := hN.1 c
      have go : ¬ eqw tb q (e - q) (wd (wdi j)) = true → ∀ x2 : Int32, x2 = (jI (wdi j : Int) + 1) → ∀ x3 : Int32, x3 = (jI (j : Int) + 1) → wl_84_8 E d Q (r + 1) (x + 8) x2 0 1 x3 h := fun ne x2 ex2 => by
        rw [if_neg ne] at hQ
        refine nxt x2 0 1 (fun hj => ?_) ?_
        · obtain ⟨v1, v2⟩ := w2 hj
          rw [v1, v2]
          exact ⟨by rw [ex2, show (1 : Int32) = jI 1 from rfl, jI_add]; rfl, rfl, rfl⟩
        · by_cases hj : j + 1 < 135
          · have : wW (j + 1) = wdi j + 1 := by unfold wW; rw [if_pos hj, (w2 hj).1]
            rw [this]
            exact hQ
          · have : wW (j + 1) = wdi j + 1 := by unfold wW; rw [if_neg hj, w3 hj]
            rw [this]
            exact hQ
      rw [w1]
      by_cases cm : mtw tb q (e - q) (wd (wdi j)) (wd (wdi j)).length = true
      · rw [if_pos cm]
        refine ⟨fun c0 => absurd c0 (by decide), fun _ => ⟨T.1.1, ?_⟩⟩
        rw [i2, i5, jI_sub, show (e : Int) - (q : Int) = ((e - q : Nat) : Int) by omega, jI_eqn (by have := hw.2; omega) (by omega)]
        refine ⟨fun cl => go (fun q => ?_), fun cl => ?_⟩
        · unfold eqw at q
          rw [Bool.and_eq_true, decide_eq_true_iff] at q
          exact cl q.2
        · rw [if_pos (by unfold eqw; rw [cm, Bool.true_and, decide_eq_true_iff]; omega)] at hQ
          exact hQ
      · rw [if_neg cm]
        refine ⟨fun _ => go (fun q => ?_), fun c0 => absurd rfl c0⟩
        unfold eqw at q
        rw [Bool.and_eq_true] at q
        exact cm q.1
    · -- a letter
      obtain ⟨w1, w2, w3, w4, w5, w6⟩ := hN.2 c
      have A := T.1.2
      refine ⟨T.1.1, nm_r (e' := jI ((q + wdp j : Nat) : Int)) (by rw [i5, jI_add]; rfl) ?_⟩
      have li : zI h (x + 8) 2 ≤ jI ((q + wdp j : Nat) : Int) ↔ e ≤ q + wdp j := by rw [i2]; exact jI_len (by omega) (by have := hw.2; omega)
      refine ⟨⟨fun _ => trivial, fun _ => ⟨⟨fun _ => trivial, fun cl => ?_⟩, trivial⟩⟩, fun x10 ex10 x11 ex11 => ?_⟩
      · rw [li] at cl
        rw [A.sub]
        exact ⟨A.ne, A.tb, A.inn (by omega) (by omega), trivial⟩
      · have e10 : x10 = (if mtw tb q (e - q) (wd (wdi j)) (wdp j + 1) = true then 1 else 0) := by
          rw [ex10]
          show _ = (if (mtw tb q (e - q) (wd (wdi j)) (wdp j) && (decide (wdp j < e - q) && decide (bt tb (q + wdp j) = (wd (wdi j)).getD (wdp j) 0))) = true then 1 else 0)
          by_cases cm : mtw tb q (e - q) (wd (wdi j)) (wdp j) = true
          · rw [if_pos cm, if_neg (show ¬ (1 : Int32) = 0 by decide), cm, Bool.true_and]
            by_cases cl : e ≤ q + wdp j
            · rw [if_pos (li.mpr cl), if_neg (by rw [Bool.and_eq_true, decide_eq_true_iff]; omega)]
            · rw [if_neg (fun q => cl (li.mp q)), A.sub, jI_cln (by omega), show x + 8 + 1 = x + 9 from rfl, T.2.2 _ (by omega), w2]
              have cc := cb_of B (q + wdp j)
              have ieq : jI (cb tb (q + wdp j)) = jI ((wd (wdi j)).getD (wdp j) 0 : Int) ↔ bt tb (q + wdp j) = (wd (wdi j)).getD (wdp j) 0 := by rw [jI_eq (by omega) (by omega) (by omega) (by omega), cb_E B _ w3]
              by_cases cb' : bt tb (q + wdp j) = (wd (wdi j)).getD (wdp j) 0
              · rw [if_neg (fun q => q (ieq.mpr cb')), if_pos (by rw [Bool.and_eq_true, decide_eq_true_iff, decide_eq_true_iff]; omega)]
              · rw [if_pos (fun q => cb' (ieq.mp q)), if_neg (by rw [Bool.and_eq_true, decide_eq_true_iff, decide_eq_true_iff]; omega)]
          · rw [if_neg cm, if_pos rfl]
            have : mtw tb q (e - q) (wd (wdi j)) (wdp j) = false := by simpa using cm
            rw [this, Bool.false_and, if_neg (by decide)]
        refine nxt _ x11 x10 (fun hj => ?_) ?_
        · rw [w5, w6]
          exact ⟨rfl, by rw [ex11, show (1 : Int32) = jI 1 from rfl, jI_add]; rfl, e10⟩
        · have : wW (j + 1) = wW j := by unfold wW; rw [if_pos w4, if_pos (by omega), w5]
          rw [this, nmF_at (by omega)]
          exact hQ
theorem ct_84 {q e : Nat} (hd : 5 ≤ d) (Sc : Stc E h) (B : TpB tb) (T : TpD h x tn tb) (hn : tn ≤ 320) (hq : q ≤ e) (he : e ≤ tn) (i2 : zI h (x + 8) 2 = jI (e : Int)) (i5 : zI h (x + 8) 5 = jI (q : Int)) (hQ : Q (some (.int (jI (nmw tb q (e - q))))) h) : Ct E d 84 [.ref (x + 8)] h Q := by
  obtain ⟨d, rfl⟩ : ∃ n, d = n + 1 := ⟨d - 1, by omega⟩
  have w0 := wdi_0
  refine ok_84 ⟨136, l84 (by omega) Sc B T hn hq he i2 i5 135 0 0 0 1 (by omega) (fun _ => ?_) ?_⟩
  · rw [w0.1, w0.2]
    exact ⟨rfl, rfl, rfl⟩
  · have : wW 0 = 0 := by unfold wW; rw [if_pos (by omega), w0.1]
    rw [this]
    exact hQ
theorem l82 {h0 : ZH} {q : Nat} (hd : 1 ≤ d) (B : TpB tb) (T0 : TpD h0 x tn tb) (hn : tn ≤ 320) (k : ∀ h' e, e = rn (isA tb) (tn - q) q → Fr (tp_St x) h0 h' → zI h' (x + 8) 2 = jI (e : Int) → (∀ i, i ≠ 2 → zI h' (x + 8) i = zI h0 (x + 8) i) → wb_82_17 E d Q (x + 8) h') : ∀ (r p : Nat) h1, p + r = tn → q ≤ p → rn (isA tb) r p = rn (isA tb) (tn - q) q → Fr (tp_St x) h0 h1 → zI h1 (x + 8) 2 = jI (p : Int) → (∀ i, i ≠ 2 → zI h1 (x + 8) i = zI h0 (x + 8) i) → wl_82_0 E d Q (r + 1) (x + 8) h1
  | 0, p, h1, e, hq, hr, F1, i2, io => by
    have T1 := T0.fr F1
    rw [wl_82_0]
    refine ⟨T1.1.1, fun _ => k h1 p hr F1 i2 io, fun c => ?_⟩
    exfalso
    apply c
    rw [T1.2.1, i2, jI_len (by omega) (by omega)]
    omega
  | r + 1, p, h1, e, hq, hr, F1, i2, io => by
    have T1 := T0.fr F1
    obtain ⟨s8, f8⟩ := s80 (E := E) B T1 hn (show p < tn by omega)
    rw [rn] at hr
    rw [wl_82_0]
    refine ⟨T1.1.1, fun c => ?_, fun _ => ⟨hd, by rw [i2]; exact s8, ?_⟩⟩
    · exfalso
      rw [T1.2.1, i2, jI_len (by omega) (by omega)] at c
      omega
    rw [i2, f8]
    refine ⟨fun c => ?_, fun c => ?_⟩
    · rw [if_neg c] at hr
      exact k h1 p hr F1 i2 io
    · rw [Classical.not_not] at c
      rw [if_pos c] at hr
      exact nm_r (e' := zuI h1 (x + 8) 2 (jI ((p + 1 : Nat) : Int))) (by rw [show (1 : Int32) = jI 1 from rfl, jI_add]; rfl) (l82 hd B T0 hn k r (p + 1) _ (by omega) (by omega) hr (Fr.uI F1 (by unfold tp_St; omega)) (zI_here _ _ _ _) (fun i hi => by rw [zI_offi hi]; exact io i hi))
end TKD
