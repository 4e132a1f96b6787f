/-! THE CLASS'S BEST: open, openKnowing -/
section BO2
variable {E : Nat → Nat} {b p g : Nat} {t u : Nat → Nat} {pr : Nat → Nat → Nat}
/-- in the midst of open: the prices of the days and states that fulfil X are set -/
def BOI (h0 : ZH) (b p : Nat) (t u : Nat → Nat) (pr : Nat → Nat → Nat) (X : Nat → Nat → Prop) (h : ZH) : Prop := Fr (fun a _ => a = b + 4 ∨ a = b + 5) h0 h ∧ ∀ dd s, dd < tp_T t → s < 3 → X dd s → zI h (b + 4) (3 * dd + s) = jI (pr dd s : Int) ∧ zI h (b + 5) (3 * dd + s) = jI (tp_un t (pr dd s) 4 : Int)
theorem BOI.put {h0 h : ZH} {X : Nat → Nat → Prop} {dd s : Nat} (I : BOI h0 b p t u pr X h) (hdd : dd < tp_T t) (hs : s < 3) : BOI h0 b p t u pr (fun a c => X a c ∨ (a = dd ∧ c = s)) (zuI (zuI h (b + 4) (3 * dd + s) (jI (pr dd s : Int))) (b + 5) (3 * dd + s) (jI (tp_un t (pr dd s) 4 : Int))) := by
  refine ⟨(I.1.uI (Or.inl rfl)).uI (Or.inr rfl), fun d' s' hd' hs' hx => ?_⟩
  by_cases c : d' = dd ∧ s' = s
  · obtain ⟨rfl, rfl⟩ := c
    rw [zI_offa (by omega), zI_here, zI_here]
    exact ⟨rfl, rfl⟩
  · have hX : X d' s' := by
      rcases hx with q | q
      · exact q
      · exact absurd q c
    rw [zI_offa (by omega), zI_offi (by omega), zI_offi (by omega), zI_offa (by omega)]
    exact I.2 d' s' hd' hs' hX
theorem BOI.wk {h0 h : ZH} {X Y : Nat → Nat → Prop} (I : BOI h0 b p t u pr X h) (hY : ∀ a c, a < tp_T t → c < 3 → Y a c → X a c) : BOI h0 b p t u pr Y h := ⟨I.1, fun d s hd hs hy => I.2 d s hd hs (hY d s hd hs hy)⟩
theorem l1i {d : Nat} {h0 : ZH} {L : Nat → Nat → Int32 → ZH → Prop} {Q : Option Value → ZH → Prop} {s : Nat} {f : Nat} (ok : tp_Ok t) (hpb : p + 6 < b) (hd : 2 ≤ d) (P0 : PgR h0 p t u) (B0 : BSh h0 b) (R6 : zR h0 b 6 = p + 1) (hs : s < 3) (hf : ∀ dd, pr dd s = f) (kL : ∀ h', BOI h0 b p t u pr (fun _ c => c < s + 1) h' → L b p (jI ((s + 1 : Nat) : Int)) h') : ∀ r j h1, j + r = tp_T t → BOI h0 b p t u pr (fun a c => c < s ∨ (c = s ∧ a < j)) h1 → wl_1_29 E d Q L (r + 1) b p (jI (s : Int)) (jI (f : Int)) (jI (j : Int)) h1
  | 0, j, h1, e, I => by
    have hT := ok.T
    have P1 : PgR h1 p t u := P0.fr I.1 (fun a i ha hb => by omega)
    rw [wl_1_29]
    refine ⟨P1.1.1.1, fun _ => nm_r (e' := jI ((s + 1 : Nat) : Int)) (by rw [show (1 : Int32) = jI 1 from rfl, jI_add]; rfl) (kL h1 (I.wk (fun a c ha hc q => by omega))), fun q => ?_⟩
    exfalso
    apply q
    rw [P1.2.2.2.2.2, jI_len (by omega) (by omega)]
    omega
  | r + 1, j, h1, e, I => by
    have hT := ok.T
    have P1 : PgR h1 p t u := P0.fr I.1 (fun a i ha hb => by omega)
    have B1 := B0.fr I.1
    rw [wl_1_29]
    refine ⟨P1.1.1.1, fun q => ?_, fun _ => ⟨B1.1, ct_4 ok hpb hd P1 B1 (by rw [I.1.rr]; exact R6) (show j < tp_T t by omega) hs (fun h' eh => ⟨rfl, nm_r (e' := jI ((j + 1 : Nat) : Int)) (by rw [show (1 : Int32) = jI 1 from rfl, jI_add]; rfl) ?_⟩)⟩⟩
    · exfalso
      rw [P1.2.2.2.2.2, jI_len (by omega) (by omega)] at q
      omega
    · refine l1i ok hpb hd P0 B0 R6 hs hf kL r (j + 1) h' (by omega) ?_
      rw [eh, ← hf j]
      exact (I.put (show j < tp_T t by omega) hs).wk (fun a c ha hc q => by omega)
theorem l1o {d : Nat} {h0 : ZH} {Q : Option Value → ZH → Prop} (ok : tp_Ok t) (hpb : p + 6 < b) (hd : 2 ≤ d) (P0 : PgR h0 p t u) (B0 : BSh h0 b) (R6 : zR h0 b 6 = p + 1) (kQ : ∀ h', BOI h0 b p t u (tp_pr t) (fun _ _ => True) h' → Q none h') : ∀ r s h1, s + r = 3 → BOI h0 b p t u (tp_pr t) (fun _ c => c < s) h1 → wl_1_5 E d Q (r + 1) b p (jI (s : Int)) h1
  | 0, s, h1, e, I => by
    rw [wl_1_5]
    refine ⟨fun _ => kQ h1 (I.wk (fun a c ha hc _ => by omega)), fun q => ?_⟩
    exfalso
    apply q
    rw [show (3 : Int32) = jI ((3 : Nat) : Int) from rfl, jI_len (by omega) (by omega)]
    omega
  | r + 1, s, h1, e, I => by
    have hT := ok.T
    have P1 : PgR h1 p t u := P0.fr I.1 (fun a i ha hb => by omega)
    have ht12 : t 12 ≤ 1 := ok.2.2.2.2.2.2.2.2.2.2.2.1
    have IH := fun h' I' => l1o (Q := Q) ok hpb hd P0 B0 R6 kQ r (s + 1) h' (by omega) I'
    have P1' := P1
    obtain ⟨⟨⟨S0, S1, S2, S3, S4, S5, S6⟩, Pt, Pu⟩, -⟩ := P1
    rw [wl_1_5]
    refine ⟨fun q => ?_, fun _ => ⟨S0, p + 1, S1.1, S1.ti, S1.inc (by decide), ?_⟩⟩
    · exfalso
      rw [show (3 : Int32) = jI ((3 : Nat) : Int) from rfl, jI_len (by omega) (by omega)] at q
      omega
    · rw [Pt 12 (by omega), show (1 : Int32) = jI ((1 : Nat) : Int) from rfl, jI_eqn (by omega) (by omega)]
      refine ⟨fun q => ⟨?_, tp_T t + 1, ?_⟩, fun q => ?_⟩
      · rw [show (20 : Int32) = jI 20 from rfl, jI_add]
        exact S1.inb (by omega) (by omega) (by omega)
      · have ev : (4 * (zI h1 (p + 1) (20 + jI (s : Int) : Int32).toNatClampNeg) : Int32) = jI ((4 * t (20 + s) : Nat) : Int) := by
          rw [show (20 : Int32) = jI 20 from rfl, jI_add, show (20 + (s : Int)) = ((20 + s : Nat) : Int) by omega, jI_cln (by omega), Pt _ (by omega), show (4 : Int32) = jI 4 from rfl, jI_mul]
          congr 1
        rw [ev]
        exact l1i (h0 := h0) (pr := tp_pr t) ok hpb hd P0 B0 R6 (by omega) (fun dd => by unfold tp_pr; rw [if_neg q]) IH (tp_T t) 0 h1 (by omega) (I.wk (fun a c ha hc q => by omega))
      · refine ct_49 hd P1'.1 (by omega) ⟨_, rfl, tp_T t + 1, ?_⟩
        exact l1i (h0 := h0) (pr := tp_pr t) ok hpb hd P0 B0 R6 (by omega) (fun dd => by unfold tp_pr; rw [if_pos (Classical.not_not.mp q)]) IH (tp_T t) 0 h1 (by omega) (I.wk (fun a c ha hc q => by omega))
/-- a Best that has been made: its numbers -/
def BMd (h : ZH) (b g : Nat) : Prop := BSh h b ∧ zI h b 10 = jI (g : Int) ∧ (∃ v : Nat, v ≤ g ∧ zI h b 8 = jI (v : Int)) ∧ ∀ i, i < 13860 → ∃ v : Nat, v ≤ g ∧ zI h (b + 2) i = jI (v : Int)
theorem BAl.md {h : ZH} {ac : Nat} (x : BAl h b p ac g t u pr) : BMd h b g := ⟨x.1, x.2.2.2.2.2.1, x.2.2.2.2.2.2.2.1, x.2.2.2.2.2.2.2.2⟩
theorem tp_ce_ge {c m k : Nat} (hm : m ≠ 0) (hk : k ≠ 0) : ¬ (m = 0 ∨ k = 0) := by omega
/-- what open leaves: nothing is stamped -/
theorem BAl.opened {h h' : ZH} (hT : tp_T t ≤ 20) (hg : g + 1 < 1000000) (M : BMd h b g) (F : FrR (tp_S1 b) (tp_Z1 b) h h') (R : BPr h' b p t pr) (i7 : zI h' b 7 = jI ((g + 1 : Nat) : Int)) (i9 : zI h' b 9 = jI 0) (i10 : zI h' b 10 = jI ((g + 1 : Nat) : Int)) : BAl h' b p 0 (g + 1) t u pr := by
  obtain ⟨B, n10, n8, n2⟩ := M
  have i2 : ∀ i, zI h' (b + 2) i = zI h (b + 2) i := fun i => F.I (by unfold tp_S1; omega)
  refine ⟨B.frR F (fun i hi z => by unfold tp_Z1 at z; omega) (fun i z => by unfold tp_Z1 at z; omega), R, ?_, Nat.zero_le 8, i9, i10, ⟨g + 1, by omega, i7⟩, ?_, fun i hi => ?_⟩
  · intro d c m k hd V D
    exfalso
    have hce := (tp_ce_lt V.1 V.2.1 V.2.2.1).1
    have hat := jrow 693 hd
    have o : m = 0 ∨ k = 0 := by have := V.2.2.2; omega
    unfold BSd at D
    rw [if_pos o, i2, i7] at D
    obtain ⟨v, hv, ev⟩ := n2 (d * 693 + tp_ce c m k) (by omega)
    rw [ev, jI_eqn (by omega) (by omega)] at D
    omega
  · obtain ⟨v, hv, ev⟩ := n8
    exact ⟨v, by omega, by rw [F.I (by unfold tp_S1; omega)]; exact ev⟩
  · obtain ⟨v, hv, ev⟩ := n2 i hi
    exact ⟨v, by omega, by rw [i2]; exact ev⟩
theorem ct_1 {d : Nat} {h : ZH} {Q : Option Value → ZH → Prop} (ok : tp_Ok t) (hpb : p + 6 < b) (hd : 3 ≤ d) (hg : g + 1 < 1000000) (P : PgR h p t u) (M : BMd h b g) (kQ : ∀ h', FrR (tp_S1 b) (tp_Z1 b) h h' → BAl h' b p 0 (g + 1) t u (tp_pr t) → Q none h') : Ct E d 1 [.ref b, .ref p] h Q := by
  obtain ⟨d, rfl⟩ : ∃ n, d = n + 1 := ⟨d - 1, by omega⟩
  refine ok_1 ⟨M.1.1, ct_3 (g := g) ok hpb (by omega) P M.1 M.2.1 (fun h1 F1 r6 i7 i9 i10 L1 => ⟨rfl, 4, ?_⟩)⟩
  have P1 : PgR h1 p t u := P.frR F1 (fun i z => by unfold tp_Z1 at z; omega) (fun a i ha hb => by omega)
  have B1 := M.1.frR F1 (fun i hi z => by unfold tp_Z1 at z; omega) (fun i z => by unfold tp_Z1 at z; omega)
  refine l1o (h0 := h1) ok hpb (by omega) P1 B1 r6 (fun h2 I2 => ?_) 3 0 h1 (by omega) ⟨Fr.rf, fun dd s hdd hs q => by omega⟩
  have F2 : FrR (tp_S1 b) (tp_Z1 b) h h2 := (F1.wd (fun a i e => by unfold tp_S1; omega) (fun a i e => e)).tr ((I2.1.wd (fun a i e => by unfold tp_S1; omega)).R)
  refine kQ h2 F2 (BAl.opened ok.T.2 hg M F2 ⟨by rw [I2.1.rr]; exact r6, fun dd s hdd hs => (I2.2 dd s hdd hs trivial).1, fun dd s hdd hs => (I2.2 dd s hdd hs trivial).2, fun dd hdd => ?_⟩ ?_ ?_ ?_)
  · rw [I2.1.L (by omega)]; exact L1 dd hdd
  · rw [I2.1.I (by omega)]; exact i7
  · rw [I2.1.I (by omega)]; exact i9
  · rw [I2.1.I (by omega)]; exact i10
/-- the prices of a row whose states are known -/
def tp_prk (t rs : Nat → Nat) (d _ : Nat) : Nat := 4 * t (20 + rs d)
theorem tp_prk_ok (ok : tp_Ok t) {rs : Nat → Nat} (hrs : ∀ d, rs d < 3) : tp_Pr (tp_prk t rs) := fun d s _ => by
  have := ok.2.2.2.2.2.2.2.2.2.2.2.2.2.2.2.1 (rs d) (hrs d)
  unfold tp_prk
  omega
theorem l2i {d : Nat} {h0 : ZH} {rw rs0 : Nat} {rs : Nat → Nat} {L : Nat → Nat → Nat → Int32 → ZH → Prop} {Q : Option Value → ZH → Prop} {j : Nat} (ok : tp_Ok t) (hpb : p + 6 < b) (hd : 2 ≤ d) (P0 : PgR h0 p t u) (B0 : BSh h0 b) (R6 : zR h0 b 6 = p + 1) (W0 : RSh h0 rw) (hrb : rw + 2 < b) (hrs : ∀ d, rs d < 3) (hr : ∀ k, k < tp_T t → zI h0 (rw + 1) k = jI (rs k : Int)) (hj : j < tp_T t) (kL : ∀ h', BOI h0 b p t u (tp_prk t rs) (fun a _ => a < j + 1) h' → L b p rw (jI ((j + 1 : Nat) : Int)) h') : ∀ r s h1, s + r = 3 → BOI h0 b p t u (tp_prk t rs) (fun a c => a < j ∨ (a = j ∧ c < s)) h1 → wl_2_11 E d Q L (r + 1) b p rw (jI (j : Int)) (jI (s : Int)) h1
  | 0, s, h1, e, I => by
    rw [wl_2_11]
    refine ⟨fun _ => nm_r (e' := jI ((j + 1 : Nat) : Int)) (by rw [show (1 : Int32) = jI 1 from rfl, jI_add]; rfl) (kL h1 (I.wk (fun a c ha hc q => by omega))), fun q => ?_⟩
    exfalso
    apply q
    rw [show (3 : Int32) = jI ((3 : Nat) : Int) from rfl, jI_len (by omega) (by omega)]
    omega
  | r + 1, s, h1, e, I => by
    have hT := ok.T
    have P1 : PgR h1 p t u := P0.fr I.1 (fun a i ha hb => by omega)
    have B1 := B0.fr I.1
    have W1 := W0.fr I.1
    have P1' := P1
    obtain ⟨⟨⟨S0, S1, S2, S3, S4, S5, S6⟩, Pt, Pu⟩, -⟩ := P1
    have hsj := hrs j
    have es : zI h1 (rw + 1) (jI (j : Int)).toNatClampNeg = jI (rs j : Int) := by
      rw [jI_cln (by omega), I.1.I (by omega)]
      exact hr j hj
    have e20 : (20 + jI (rs j : Int) : Int32) = jI ((20 + rs j : Nat) : Int) := by
      rw [show (20 : Int32) = jI 20 from rfl, jI_add]; rfl
    rw [wl_2_11]
    refine ⟨fun q => ?_, fun _ => ⟨S0, p + 1, S1.1, W1.1, rw + 1, W1.2.1.1, W1.2.1.ti, W1.2.1.inn (by omega) (by omega), S1.ti, ?_, B1.1, ?_⟩⟩
    · exfalso
      rw [show (3 : Int32) = jI ((3 : Nat) : Int) from rfl, jI_len (by omega) (by omega)] at q
      omega
    · rw [es, e20]
      exact S1.inn (by omega) (by omega)
    · have ev : (4 * (zI h1 (p + 1) (20 + zI h1 (rw + 1) (jI (j : Int)).toNatClampNeg : Int32).toNatClampNeg) : Int32) = jI (tp_prk t rs j s : Int) := by
        rw [es, e20, jI_cln (by omega), Pt _ (by omega), show (4 : Int32) = jI 4 from rfl, jI_mul]
        rfl
      rw [ev]
      refine ct_4 ok hpb hd P1' B1 (by rw [I.1.rr]; exact R6) hj (by omega) (fun h' eh => ⟨rfl, nm_r (e' := jI ((s + 1 : Nat) : Int)) (by rw [show (1 : Int32) = jI 1 from rfl, jI_add]; rfl) ?_⟩)
      refine l2i (rs0 := rs0) ok hpb hd P0 B0 R6 W0 hrb hrs hr hj kL r (s + 1) h' (by omega) ?_
      rw [eh]
      exact (I.put hj (by omega)).wk (fun a c ha hc q => by omega)
theorem l2o {d : Nat} {h0 : ZH} {rw : Nat} {rs : Nat → Nat} {Q : Option Value → ZH → Prop} (ok : tp_Ok t) (hpb : p + 6 < b) (hd : 2 ≤ d) (P0 : PgR h0 p t u) (B0 : BSh h0 b) (R6 : zR h0 b 6 = p + 1) (W0 : RSh h0 rw) (hrb : rw + 2 < b) (hrs : ∀ d, rs d < 3) (hr : ∀ k, k < tp_T t → zI h0 (rw + 1) k = jI (rs k : Int)) (kQ : ∀ h', BOI h0 b p t u (tp_prk t rs) (fun _ _ => True) h' → Q none h') : ∀ r j h1, j + r = tp_T t → BOI h0 b p t u (tp_prk t rs) (fun a _ => a < j) h1 → wl_2_5 E d Q (r + 1) b p rw (jI (j : Int)) h1
  | 0, j, h1, e, I => by
    have hT := ok.T
    have P1 : PgR h1 p t u := P0.fr I.1 (fun a i ha hb => by omega)
    rw [wl_2_5]
    refine ⟨P1.1.1.1, fun _ => kQ h1 (I.wk (fun a c ha hc _ => by omega)), fun q => ?_⟩
    exfalso
    apply q
    rw [P1.2.2.2.2.2, jI_len (by omega) (by omega)]
    omega
  | r + 1, j, h1, e, I => by
    have hT := ok.T
    have P1 : PgR h1 p t u := P0.fr I.1 (fun a i ha hb => by omega)
    rw [wl_2_5]
    refine ⟨P1.1.1.1, fun q => ?_, fun _ => ⟨4, ?_⟩⟩
    · exfalso
      rw [P1.2.2.2.2.2, jI_len (by omega) (by omega)] at q
      omega
    · exact l2i (rs0 := 0) ok hpb hd P0 B0 R6 W0 hrb hrs hr (by omega) (fun h' I' => l2o ok hpb hd P0 B0 R6 W0 hrb hrs hr kQ r (j + 1) h' (by omega) I') 3 0 h1 (by omega) (I.wk (fun a c ha hc q => by omega))
theorem ct_2 {d : Nat} {h : ZH} {rw : Nat} {rs : Nat → Nat} {Q : Option Value → ZH → Prop} (ok : tp_Ok t) (hpb : p + 6 < b) (hd : 3 ≤ d) (hg : g + 1 < 1000000) (P : PgR h p t u) (M : BMd h b g) (W : RSh h rw) (hrb : rw + 2 < b) (hrs : ∀ d, rs d < 3) (hr : ∀ k, k < tp_T t → zI h (rw + 1) k = jI (rs k : Int)) (kQ : ∀ h', FrR (tp_S1 b) (tp_Z1 b) h h' → BAl h' b p 0 (g + 1) t u (tp_prk t rs) → Q none h') : Ct E d 2 [.ref b, .ref p, .ref rw] h Q := by
  obtain ⟨d, rfl⟩ : ∃ n, d = n + 1 := ⟨d - 1, by omega⟩
  refine ok_2 ⟨M.1.1, ct_3 (g := g) ok hpb (by omega) P M.1 M.2.1 (fun h1 F1 r6 i7 i9 i10 L1 => ⟨rfl, tp_T t + 1, ?_⟩)⟩
  have P1 : PgR h1 p t u := P.frR F1 (fun i z => by unfold tp_Z1 at z; omega) (fun a i ha hb => by omega)
  have B1 := M.1.frR F1 (fun i hi z => by unfold tp_Z1 at z; omega) (fun i z => by unfold tp_Z1 at z; omega)
  have W1 : RSh h1 rw := ⟨by rw [F1.tg]; exact W.1, W.2.1.frR F1 (fun z => by unfold tp_Z1 at z; omega), W.2.2.frR F1 (fun z => by unfold tp_Z1 at z; omega)⟩
  refine l2o (h0 := h1) ok hpb (by omega) P1 B1 r6 W1 hrb hrs (fun k hk => by rw [F1.I (by omega)]; exact hr k hk) (fun h2 I2 => ?_) (tp_T t) 0 h1 (by omega) ⟨Fr.rf, fun dd s hdd hs q => by omega⟩
  have F2 : FrR (tp_S1 b) (tp_Z1 b) h h2 := (F1.wd (fun a i e => by unfold tp_S1; omega) (fun a i e => e)).tr ((I2.1.wd (fun a i e => by unfold tp_S1; omega)).R)
  refine kQ h2 F2 (BAl.opened ok.T.2 hg M F2 ⟨by rw [I2.1.rr]; exact r6, fun dd s hdd hs => (I2.2 dd s hdd hs trivial).1, fun dd s hdd hs => (I2.2 dd s hdd hs trivial).2, fun dd hdd => ?_⟩ ?_ ?_ ?_)
  · rw [I2.1.L (by omega)]; exact L1 dd hdd
  · rw [I2.1.I (by omega)]; exact i7
  · rw [I2.1.I (by omega)]; exact i9
  · rw [I2.1.I (by omega)]; exact i10
end BO2
