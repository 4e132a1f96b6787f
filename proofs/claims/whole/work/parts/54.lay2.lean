/-! THE MODEL: layPlace, layAll -/
section ML2
variable {E : Nat → Nat} {m : Nat} {t u : Nat → Nat}
/-- how many takings were looked at ahead of x -/
def tp_jx (t u : Nat → Nat) (d x : Nat) : Nat := min x (tp_hi t u d + 1) - tp_lo t u d
def tp_bx (f : Nat → Int) (lo j : Nat) : Int := match j with
  | 0 => -4
  | i + 1 => (tp_ma f lo i : Int)
def tp_Sp (m q : Nat) : Nat → Nat → Prop := fun a i => tp_Sw m a i ∨ ((a = m + 11 ∨ a = m + 12) ∧ i = q)
set_option maxHeartbeats 2000000 in
theorem l181 {d n : Nat} {h0 : ZH} {dd c mm k s : Nat} {Q : Option Value → ZH → Prop} (hd : 9 ≤ d) (ok : tp_Ok t) (ou : tp_Ou u) (P0 : MPg h0 m t u) (hn : dd + 1 + n = tp_T t) (hc : c ≤ 20) (hmm : mm ≤ 12) (hk : k ≤ 8) (hs : s < 3) (T : dd + 1 < tp_T t → MTb h0 m t u n (dd + 1)) (q : ∀ h', Fr (tp_Sp m (tp_at dd c mm k s)) h0 h' → zL h' (m + 11) (tp_at dd c mm k s) = jL (tp_Wm t u (n + 1) dd c mm k s) → zI h' (m + 12) (tp_at dd c mm k s) = jI (tp_B t u (tp_pr t) n dd c mm k s : Int) → Q none h') : ∀ r x h1, x + r = 5 → Fr (tp_Sw m) h0 h1 → wl_181_6 E d Q (r + 1) m (jI (dd : Int)) (jI (c : Int)) (jI (mm : Int)) (jI (k : Int)) (jI (s : Int)) (jI (tp_bx (tp_Xm t u n dd c mm k s) (tp_lo t u dd) (tp_jx t u dd x))) (jL (tp_wj (tp_Xm t u n dd c mm k s) (tp_lo t u dd) (tp_jx t u dd x))) (jI (x : Int)) h1
  | 0, x, h1, e, F1 => by
    have hT := ok.T
    have hl := tp_lohi (u := u) ok dd
    have P1 : MPg h1 m t u := P0.fr F1 (fun i => by unfold tp_Sw; omega) (fun i => by unfold tp_Sw; omega)
    have hat := tp_at_lt (dd := dd) (by omega) hc hmm hk hs
    rw [wl_181_6]
    refine ⟨fun _ => ⟨by omega, trivial, nm_r fz175 ⟨P1.1.1, m + 11, P1.1.a27.1, P1.1.a27.tg, P1.1.a27.inn hat (by omega), nm_e ⟨m + 12, P1.1.a28.1, P1.1.a28.tg, P1.1.a28.inn hat (by omega), nm_e ?_⟩⟩⟩, fun c => ?_⟩
    · have ex : x = 5 := by omega
      subst ex
      have ej : tp_jx t u dd 5 = tp_hi t u dd - tp_lo t u dd + 1 := by unfold tp_jx; omega
      rw [ej, jI_cln (by omega)]
      refine q _ (Fr.uI (Fr.uL (F1.wd (fun a i e => Or.inl e)) (Or.inr ⟨Or.inl rfl, rfl⟩)) (Or.inr ⟨Or.inr rfl, rfl⟩)) ?_ ?_
      · show zL (zuL h1 (m + 11) (tp_at dd c mm k s) _) (m + 11) (tp_at dd c mm k s) = _
        rw [zL_here]
        rfl
      · rw [zI_here, tp_Bm ok u n dd c mm k hs]
        rfl
    · exfalso
      apply c
      rw [show (5 : Int32) = jI ((5 : Nat) : Int) from rfl, jI_len (by omega) (by omega)]
      omega
  | r + 1, x, h1, e, F1 => by
    have IH := l181 (Q := Q) hd ok ou P0 hn hc hmm hk hs T q r (x + 1)
    have hT := ok.T
    have hl := tp_lohi (u := u) ok dd
    have P1 : MPg h1 m t u := P0.fr F1 (fun i => by unfold tp_Sw; omega) (fun i => by unfold tp_Sw; omega)
    have en : (jI (x : Int) + 1 : Int32) = jI ((x + 1 : Nat) : Int) := by
      rw [show (1 : Int32) = jI 1 from rfl, jI_add]; rfl
    rw [wl_181_6]
    refine ⟨fun c => ?_, fun _ => ⟨P1.1.1, by omega, sz163 P1 (by omega), ?_⟩⟩
    · exfalso
      rw [show (5 : Int32) = jI ((5 : Nat) : Int) from rfl, jI_len (by omega) (by omega)] at c
      omega
    · rw [fz163 ok ou P1 (by omega) (by omega)]
      by_cases cl : tp_lo t u dd ≤ x ∧ x ≤ tp_hi t u dd
      · rw [if_pos cl]
        refine ⟨fun q => absurd q (by decide), fun _ => ct_179 hd ok ou P1 hn hc hmm hk hs (by omega) (fun h2 => fun c' m' k' s' a1 a2 a3 a4 => by rw [F1.L (by unfold tp_Sw; omega)]; exact T h2 c' m' k' s' a1 a2 a3 a4) (fun h12 F12 => ⟨_, rfl, ?_⟩)⟩
        have bx := tp_Xm_bd (u := u) ok (n := n) (by omega) dd c mm k hs (x := x) (by omega)
        have ejx : tp_jx t u dd x = x - tp_lo t u dd := by unfold tp_jx; omega
        have ejn : tp_jx t u dd (x + 1) = x - tp_lo t u dd + 1 := by unfold tp_jx; omega
        have IH2 := IH h12 (by omega) (F1.tr F12)
        rw [ejn] at IH2
        rw [ejx]
        cases hj : x - tp_lo t u dd with
        | zero =>
          have ex : x = tp_lo t u dd := by omega
          rw [hj] at IH2
          refine nm_r (e' := jI (x : Int)) ?_ (nm_r (e' := jL (tp_Xm t u n dd c mm k s x)) ?_ (nm_r en ?_))
          · show (if jI (-4) = (-4 : Int32) then jI (x : Int) else _) = _
            rw [if_pos (by decide)]
          · rw [if_neg (fun q => q rfl)]
          · have e1 : tp_bx (tp_Xm t u n dd c mm k s) (tp_lo t u dd) (0 + 1) = (x : Int) := by rw [ex]; rfl
            have e2 : tp_wj (tp_Xm t u n dd c mm k s) (tp_lo t u dd) (0 + 1) = tp_Xm t u n dd c mm k s x := by
              show tp_Xm t u n dd c mm k s (tp_lo t u dd) = _
              rw [← ex]
            rw [e1, e2] at IH2
            exact IH2
        | succ i =>
          rw [hj] at IH2
          have exi : tp_lo t u dd + (i + 1) = x := by omega
          have mi := tp_ma_in (f := tp_Xm t u n dd c mm k s) (lo := tp_lo t u dd) i
          have bw : -2814749767106560000 ≤ tp_mv (tp_Xm t u n dd c mm k s) (tp_lo t u dd) i ∧ tp_mv (tp_Xm t u n dd c mm k s) (tp_lo t u dd) i ≤ 2814749767106560000 := tp_mv_bd i (fun j hj => tp_Xm_bd ok u (by omega) dd c mm k hs (by omega))
          have hb4 : ¬ jI (tp_ma (tp_Xm t u n dd c mm k s) (tp_lo t u dd) i : Int) = (-4 : Int32) := by
            rw [jm4, jI_eq (by omega) (by omega) (by omega) (by omega)]
            omega
          have e1 : tp_bx (tp_Xm t u n dd c mm k s) (tp_lo t u dd) (i + 1 + 1) = ((if tp_mv (tp_Xm t u n dd c mm k s) (tp_lo t u dd) i < tp_Xm t u n dd c mm k s (tp_lo t u dd + (i + 1)) then tp_lo t u dd + (i + 1) else tp_ma (tp_Xm t u n dd c mm k s) (tp_lo t u dd) i : Nat) : Int) := rfl
          have e2 : tp_wj (tp_Xm t u n dd c mm k s) (tp_lo t u dd) (i + 1 + 1) = (if tp_mv (tp_Xm t u n dd c mm k s) (tp_lo t u dd) i < tp_Xm t u n dd c mm k s (tp_lo t u dd + (i + 1)) then tp_Xm t u n dd c mm k s (tp_lo t u dd + (i + 1)) else tp_mv (tp_Xm t u n dd c mm k s) (tp_lo t u dd) i) := rfl
          rw [e1, e2, exi] at IH2
          show ∀ x14 : Int32, x14 = (if jI (tp_ma (tp_Xm t u n dd c mm k s) (tp_lo t u dd) i : Int) = (-4 : Int32) then jI (x : Int) else if jL (tp_Xm t u n dd c mm k s x) ≤ jL (tp_mv (tp_Xm t u n dd c mm k s) (tp_lo t u dd) i) then jI (tp_ma (tp_Xm t u n dd c mm k s) (tp_lo t u dd) i : Int) else jI (x : Int)) → ∀ x15 : Int64, x15 = (if ¬ x14 = jI (x : Int) then jL (tp_mv (tp_Xm t u n dd c mm k s) (tp_lo t u dd) i) else jL (tp_Xm t u n dd c mm k s x)) → _
          rw [if_neg hb4]
          by_cases c3 : tp_mv (tp_Xm t u n dd c mm k s) (tp_lo t u dd) i < tp_Xm t u n dd c mm k s x
          · rw [if_pos c3, if_pos c3] at IH2
            rw [if_neg (by rw [jL_le (by omega) (by omega) (by omega) (by omega)]; omega)]
            refine nm_e (nm_r (e' := jL (tp_Xm t u n dd c mm k s x)) (by rw [if_neg (fun q => q rfl)]) (nm_r en IH2))
          · rw [if_neg c3, if_neg c3] at IH2
            rw [if_pos (by rw [jL_le (by omega) (by omega) (by omega) (by omega)]; omega)]
            refine nm_e (nm_r (e' := jL (tp_mv (tp_Xm t u n dd c mm k s) (tp_lo t u dd) i)) (by rw [if_pos (by rw [jI_eqn (by omega) (by omega)]; omega)]) (nm_r en IH2))
      · rw [if_neg cl]
        refine ⟨fun _ => nm_r en ?_, fun q => absurd rfl q⟩
        have ejn : tp_jx t u dd (x + 1) = tp_jx t u dd x := by unfold tp_jx; omega
        have IH2 := IH h1 (by omega) F1
        rw [ejn] at IH2
        exact IH2
theorem ct_181 {d n : Nat} {h : ZH} {dd c mm k s : Nat} {Q : Option Value → ZH → Prop} (hd : 10 ≤ d) (ok : tp_Ok t) (ou : tp_Ou u) (P : MPg h m t u) (hn : dd + 1 + n = tp_T t) (hc : c ≤ 20) (hmm : mm ≤ 12) (hk : k ≤ 8) (hs : s < 3) (T : dd + 1 < tp_T t → MTb h m t u n (dd + 1)) (q : ∀ h', Fr (tp_Sp m (tp_at dd c mm k s)) h h' → zL h' (m + 11) (tp_at dd c mm k s) = jL (tp_Wm t u (n + 1) dd c mm k s) → zI h' (m + 12) (tp_at dd c mm k s) = jI (tp_B t u (tp_pr t) n dd c mm k s : Int) → Q none h') : Ct E d 181 [.ref m, .int (jI (dd : Int)), .int (jI (c : Int)), .int (jI (mm : Int)), .int (jI (k : Int)), .int (jI (s : Int))] h Q := by
  obtain ⟨d, rfl⟩ : ∃ n, d = n + 1 := ⟨d - 1, by omega⟩
  have e0 : tp_jx t u dd 0 = 0 := by unfold tp_jx; omega
  have := l181 (E := E) (Q := Q) (show 9 ≤ d by omega) ok ou P hn hc hmm hk hs T q 5 0 h (by omega) Fr.rf
  rw [e0] at this
  exact ok_181 (nm_e ⟨6, this⟩)
/-- the tables of all days from dd on -/
def MLd (h : ZH) (m : Nat) (t u : Nat → Nat) (dd : Nat) : Prop := ∀ d c mm k s, dd ≤ d → d < tp_T t → c ≤ 20 → mm ≤ 12 → k ≤ 8 → s < 3 → zL h (m + 11) (tp_at d c mm k s) = jL (tp_Wm t u (tp_T t - d) d c mm k s) ∧ zI h (m + 12) (tp_at d c mm k s) = jI (tp_B t u (tp_pr t) (tp_T t - (d + 1)) d c mm k s : Int)
def tp_Sl (m : Nat) : Nat → Nat → Prop := fun a i => tp_Sw m a i ∨ (a = m ∧ i = 29) ∨ a = m + 11 ∨ a = m + 12
theorem tp_at_q (dd q : Nat) : tp_at dd (q / 351) (q / 27 % 13) (q / 3 % 9) (q % 3) = 7371 * dd + q := by
  unfold tp_at
  omega
theorem l182i {d n : Nat} {h0 : ZH} {dd : Nat} {L : Nat → Int32 → ZH → Prop} {Q : Option Value → ZH → Prop} (hd : 10 ≤ d) (ok : tp_Ok t) (ou : tp_Ou u) (P0 : MPg h0 m t u) (hn : dd + 1 + n = tp_T t) (kL : ∀ h', Fr (tp_Sl m) h0 h' → MLd h' m t u dd → L m (jI ((dd : Int) - 1)) h') : ∀ r q h1, q + r = 7371 → Fr (tp_Sl m) h0 h1 → MLd h1 m t u (dd + 1) → (∀ q', q' < q → zL h1 (m + 11) (7371 * dd + q') = jL (tp_Wm t u (n + 1) dd (q' / 351) (q' / 27 % 13) (q' / 3 % 9) (q' % 3)) ∧ zI h1 (m + 12) (7371 * dd + q') = jI (tp_B t u (tp_pr t) n dd (q' / 351) (q' / 27 % 13) (q' / 3 % 9) (q' % 3) : Int)) → wl_182_13 E d Q L (r + 1) m (jI (dd : Int)) (jI (q : Int)) h1
  | 0, q, h1, e, F1, D1, I1 => by
    rw [wl_182_13]
    refine ⟨fun _ => nm_r (e' := jI ((dd : Int) - 1)) (by rw [show ((-1) : Int32) = jI (-1) from rfl, jI_add]; congr 1) (kL h1 F1 (fun d' c mm k s a1 a2 a3 a4 a5 a6 => ?_)), fun c => ?_⟩
    · by_cases c1 : d' = dd
      · subst c1
        have hq : ((c * 13 + mm) * 9 + k) * 3 + s < q := by omega
        have := I1 _ hq
        have q1 : (((c * 13 + mm) * 9 + k) * 3 + s) / 351 = c := by omega
        have q2 : (((c * 13 + mm) * 9 + k) * 3 + s) / 27 % 13 = mm := by omega
        have q3 : (((c * 13 + mm) * 9 + k) * 3 + s) / 3 % 9 = k := by omega
        have q4 : (((c * 13 + mm) * 9 + k) * 3 + s) % 3 = s := by omega
        have q5 : tp_at d' c mm k s = 7371 * d' + (((c * 13 + mm) * 9 + k) * 3 + s) := by unfold tp_at; omega
        rw [q1, q2, q3, q4, ← q5] at this
        have q6 : tp_T t - d' = n + 1 := by omega
        have q7 : tp_T t - (d' + 1) = n := by omega
        rw [q6, q7]
        exact this
      · exact D1 d' c mm k s (by omega) a2 a3 a4 a5 a6
    · exfalso
      apply c
      rw [show (7371 : Int32) = jI ((7371 : Nat) : Int) from rfl, jI_len (by omega) (by omega)]
      omega
  | r + 1, q, h1, e, F1, D1, I1 => by
    have hT := ok.T
    have P1 : MPg h1 m t u := P0.fr F1 (fun i => by unfold tp_Sl tp_Sw; omega) (fun i => by unfold tp_Sl tp_Sw; omega)
    have e351 : (jI (q : Int) / 351 : Int32) = jI ((q / 351 : Nat) : Int) := by rw [show (351 : Int32) = jI ((351 : Nat) : Int) from rfl, jI_div (by omega) (by omega) (by omega)]
    have e27 : ((jI (q : Int) / 27) - (jI (q : Int) / 27) / 13 * 13 : Int32) = jI ((q / 27 % 13 : Nat) : Int) := by rw [show (27 : Int32) = jI ((27 : Nat) : Int) from rfl, jI_div (by omega) (by omega) (by omega), show (13 : Int32) = jI ((13 : Nat) : Int) from rfl, jI_rem (by omega) (by omega) (by omega)]
    have e3 : ((jI (q : Int) / 3) - (jI (q : Int) / 3) / 9 * 9 : Int32) = jI ((q / 3 % 9 : Nat) : Int) := by rw [show (3 : Int32) = jI ((3 : Nat) : Int) from rfl, jI_div (by omega) (by omega) (by omega), show (9 : Int32) = jI ((9 : Nat) : Int) from rfl, jI_rem (by omega) (by omega) (by omega)]
    have e1 : (jI (q : Int) - jI (q : Int) / 3 * 3 : Int32) = jI ((q % 3 : Nat) : Int) := by rw [show (3 : Int32) = jI ((3 : Nat) : Int) from rfl, jI_rem (by omega) (by omega) (by omega)]
    rw [wl_182_13]
    refine ⟨fun c => ?_, fun _ => ⟨P1.1.1, ?_⟩⟩
    · exfalso
      rw [show (7371 : Int32) = jI ((7371 : Nat) : Int) from rfl, jI_len (by omega) (by omega)] at c
      omega
    · rw [e351, e27, e3, e1]
      refine ct_181 hd ok ou P1 hn (by omega) (by omega) (by omega) (by omega) (fun h2 c mm k s a1 a2 a3 a4 => ?_) (fun h2 F2 L2 B2 => ⟨rfl, nm_r (e' := jI ((q + 1 : Nat) : Int)) (by rw [show (1 : Int32) = jI 1 from rfl, jI_add]; rfl) ?_⟩)
      · have := (D1 (dd + 1) c mm k s (by omega) h2 a1 a2 a3 a4).1
        rw [show tp_T t - (dd + 1) = n by omega] at this
        exact this
      · rw [tp_at_q] at F2 L2 B2
        have F2' : Fr (tp_Sl m) h1 h2 := F2.wd (fun a i e => by rcases e with e | e; exact Or.inl e; exact Or.inr (Or.inr (by omega)))
        refine l182i hd ok ou P0 hn kL r (q + 1) h2 (by omega) (F1.tr F2') (fun d' c mm k s a1 a2 a3 a4 a5 a6 => ?_) (fun q' hq' => ?_)
        · have hne : tp_at d' c mm k s ≠ 7371 * dd + q := by unfold tp_at; omega
          rw [F2.L (by unfold tp_Sp tp_Sw; omega), F2.I (by unfold tp_Sp tp_Sw; omega)]
          exact D1 d' c mm k s a1 a2 a3 a4 a5 a6
        · by_cases c1 : q' = q
          · subst c1
            exact ⟨L2, B2⟩
          · rw [F2.L (by unfold tp_Sp tp_Sw; omega), F2.I (by unfold tp_Sp tp_Sw; omega)]
            exact I1 q' (by omega)
theorem l182o {d : Nat} {h0 : ZH} {Q : Option Value → ZH → Prop} (hd : 10 ≤ d) (ok : tp_Ok t) (ou : tp_Ou u) (P0 : MPg h0 m t u) (kQ : ∀ h', Fr (tp_Sl m) h0 h' → MLd h' m t u 0 → zI h' m 29 = 1 → Q none h') : ∀ dd h1, dd ≤ tp_T t → Fr (tp_Sl m) h0 h1 → MLd h1 m t u dd → wl_182_9 E d Q (dd + 1) m (jI ((dd : Int) - 1)) h1
  | 0, h1, e, F1, D1 => by
    have hT := ok.T
    have P1 : MPg h1 m t u := P0.fr F1 (fun i => by unfold tp_Sl tp_Sw; omega) (fun i => by unfold tp_Sl tp_Sw; omega)
    rw [wl_182_9]
    refine ⟨fun _ => ⟨P1.1.1, nm_e (kQ _ (F1.uI (Or.inr (Or.inl ⟨rfl, rfl⟩))) ?_ ?_)⟩, fun c => absurd (by decide) c⟩
    · intro d' c mm k s a1 a2 a3 a4 a5 a6
      rw [zI_offa (by omega)]
      exact D1 d' c mm k s a1 a2 a3 a4 a5 a6
    · rw [zI_here]
  | dd + 1, h1, e, F1, D1 => by
    have hT := ok.T
    rw [wl_182_9]
    refine ⟨fun c => ?_, fun _ => ⟨7371 + 1, ?_⟩⟩
    · exfalso
      rw [show (0 : Int32) = jI 0 from rfl, jI_lt (by omega) (by omega) (by omega) (by omega)] at c
      omega
    · rw [show (((dd + 1 : Nat) : Int) - 1) = (dd : Int) by omega]
      exact l182i (h0 := h0) (n := tp_T t - (dd + 1)) hd ok ou P0 (by omega) (fun h' F' D' => l182o hd ok ou P0 kQ dd h' (by omega) F' D') 7371 0 h1 (by omega) F1 D1 (fun q' hq' => by omega)
/-- layAll: the tables are right -/
theorem ct_182 {d : Nat} {h : ZH} {Q : Option Value → ZH → Prop} (hd : 11 ≤ d) (ok : tp_Ok t) (ou : tp_Ou u) (P : MPg h m t u) (hL : ¬ zI h m 29 = 0 → MLd h m t u 0) (kQ : ∀ h', Fr (tp_Sl m) h h' → MLd h' m t u 0 → ¬ zI h' m 29 = 0 → Q none h') : Ct E d 182 [.ref m] h Q := by
  obtain ⟨d, rfl⟩ : ∃ n, d = n + 1 := ⟨d - 1, by omega⟩
  have hT := ok.T
  refine ok_182 ⟨P.1.1, fun _ => ⟨by omega, sz152 P, nm_r (e' := jI ((tp_T t : Int) - 1)) (by rw [fz152 P, show (1 : Int32) = jI 1 from rfl, jI_sub]) ⟨tp_T t + 1, ?_⟩⟩, fun c => kQ h Fr.rf (hL c) c⟩
  exact l182o (h0 := h) (by omega) ok ou P (fun h' F' D' L' => kQ h' F' D' (by rw [L']; decide)) (tp_T t) h (by omega) Fr.rf (fun d' c mm k s a1 a2 => by omega)
end ML2
