/-! THE MODEL: layExpected, wholeOf -/
section MWH
variable {E : Nat → Nat} {m : Nat} {t u : Nat → Nat}
def tp_Se (m : Nat) : Nat → Nat → Prop := fun a i => tp_Sw m a i ∨ (a = m ∧ i = 29) ∨ (m + 11 ≤ a ∧ a ≤ m + 15)
theorem tp_Sf_e : ∀ a i, tp_Sf m a i → tp_Se m a i := fun a i e => by
  rcases e with e | e
  · exact Or.inl e
  · exact Or.inr (Or.inr (by omega))
theorem tp_Sl_e : ∀ a i, tp_Sl m a i → tp_Se m a i := fun a i e => by
  rcases e with e | e | e
  · exact Or.inl e
  · exact Or.inr (Or.inl e)
  · exact Or.inr (Or.inr (by omega))
theorem tp_4pow {d : Nat} (h : d ≤ 20) : (4 : Int) ^ d ≤ 1099511627776 := by
  have : d = 0 ∨ d = 1 ∨ d = 2 ∨ d = 3 ∨ d = 4 ∨ d = 5 ∨ d = 6 ∨ d = 7 ∨ d = 8 ∨ d = 9 ∨ d = 10 ∨ d = 11 ∨ d = 12 ∨ d = 13 ∨ d = 14 ∨ d = 15 ∨ d = 16 ∨ d = 17 ∨ d = 18 ∨ d = 19 ∨ d = 20 := by omega
  rcases this with e | e | e | e | e | e | e | e | e | e | e | e | e | e | e | e | e | e | e | e | e <;> subst e <;> decide
theorem l189d {d : Nat} {h0 : ZH} {Q : Option Value → ZH → Prop} (hd : 10 ≤ d) (ok : tp_Ok t) (ou : tp_Ou u) (P0 : MPg h0 m t u) (D0 : MLd h0 m t u 0) {K : Nat → Int} (kQ : ∀ h', Fr (tp_Sf m) h0 h' → (∀ j, j < 4 → zL h' (m + 15) j = jL (K j)) → Q none h') : ∀ r dd h1 e L, dd + r = tp_T t → Fr (tp_Sf m) h0 h1 → MEx h1 m e → MLk h1 (m + 13) L → (∀ i, 0 ≤ L i) → tp_sr L 0 7371 = 4 ^ dd → (∀ j, j < 4 → e j + tp_sr (fun i => L i * tp_Fq t u j r dd i) 0 7371 = K j) → wl_189_36 E d Q (r + 1) m (jI (dd : Int)) h1
  | 0, dd, h1, e, L, er, F1, X1, K1, N1, S1, T1 => by
    have hT := ok.T
    have P1 : MPg h1 m t u := P0.fr F1 (fun i => by unfold tp_Sf tp_Sw; omega) (fun i => by unfold tp_Sf tp_Sw; omega)
    rw [wl_189_36]
    refine ⟨P1.1.1, by omega, sz152 P1, fun _ => kQ h1 F1 (fun j hj => ?_), fun c => ?_⟩
    · have T := T1 j hj
      rw [tp_sr_zero 7371 0 (fun i _ _ => by show L i * 0 = 0; omega), Int.add_zero] at T
      rw [← T]
      exact X1 j hj
    · exfalso
      apply c
      rw [fz152 P1, jI_len (by omega) (by omega)]
      omega
  | r + 1, dd, h1, e, L, er, F1, X1, K1, N1, S1, T1 => by
    have hT := ok.T
    have P1 : MPg h1 m t u := P0.fr F1 (fun i => by unfold tp_Sf tp_Sw; omega) (fun i => by unfold tp_Sf tp_Sw; omega)
    have D1 : MLd h1 m t u 0 := D0.fr F1 (fun i => by unfold tp_Sf tp_Sw; omega) (fun i => by unfold tp_Sf tp_Sw; omega)
    rw [wl_189_36]
    refine ⟨P1.1.1, by omega, sz152 P1, fun c => ?_, fun _ => ct_187 (n := r) hd ok ou P1 D1 X1 K1 (by omega) N1 (by rw [S1]; exact tp_4pow (by omega)) (fun h2 e2 L2 F2 X2 K2 N2 S2 T2 => ⟨rfl, nm_r (e' := jI ((dd + 1 : Nat) : Int)) (by rw [show (1 : Int32) = jI 1 from rfl, jI_add]; rfl) (l189d hd ok ou P0 D0 kQ r (dd + 1) h2 e2 L2 (by omega) (F1.tr F2) X2 K2 N2 ?_ (fun j hj => ?_))⟩)⟩
    · exfalso
      rw [fz152 P1, jI_len (by omega) (by omega)] at c
      omega
    · rw [S2, S1, Int.pow_succ, Int.mul_comm]
    · rw [T2 j hj]
      exact T1 j hj
theorem l189l {d : Nat} {h0 : ZH} {Q : Option Value → ZH → Prop} (S0 : MSh h0 m) (kB : ∀ h', Fr (fun a _ => a = m + 13) h0 h' → MLk h' (m + 13) (fun _ => 0) → wb_189_26 E d Q m h') : ∀ r q h1, q + r = 7371 → Fr (fun a _ => a = m + 13) h0 h1 → (∀ i, i < q → zL h1 (m + 13) i = jL 0) → wl_189_16 E d Q (r + 1) m (jI (q : Int)) h1
  | 0, q, h1, e, F1, I1 => by
    rw [wl_189_16]
    refine ⟨fun _ => kB h1 F1 (fun i hi => I1 i (by omega)), fun c => ?_⟩
    exfalso
    apply c
    rw [show (7371 : Int32) = jI ((7371 : Nat) : Int) from rfl, jI_len (by omega) (by omega)]
    omega
  | r + 1, q, h1, e, F1, I1 => by
    have S1 := S0.fr F1
    rw [wl_189_16]
    refine ⟨fun c => ?_, fun _ => ⟨S1.1, m + 13, S1.a32.1, S1.a32.tg, S1.a32.inn (by omega) (by omega), nm_r (e' := zuL h1 (m + 13) q (jL 0)) (by rw [jI_cln (by omega)]; rfl) (nm_r (e' := jI ((q + 1 : Nat) : Int)) (by rw [show (1 : Int32) = jI 1 from rfl, jI_add]; rfl) (l189l S0 kB r (q + 1) _ (by omega) (F1.uL rfl) (fun i hi => ?_)))⟩⟩
    · exfalso
      rw [show (7371 : Int32) = jI ((7371 : Nat) : Int) from rfl, jI_len (by omega) (by omega)] at c
      omega
    · by_cases ci : i = q
      · subst ci
        rw [zL_here]
      · rw [zL_offi ci]
        exact I1 i (by omega)
theorem l189e {d : Nat} {h0 : ZH} {Q : Option Value → ZH → Prop} (S0 : MSh h0 m) (kB : ∀ h', Fr (fun a _ => a = m + 15) h0 h' → MEx h' m (fun _ => 0) → wb_189_14 E d Q m h') : ∀ r q h1, q + r = 4 → Fr (fun a _ => a = m + 15) h0 h1 → (∀ i, i < q → zL h1 (m + 15) i = jL 0) → wl_189_4 E d Q (r + 1) m (jI (q : Int)) h1
  | 0, q, h1, e, F1, I1 => by
    rw [wl_189_4]
    refine ⟨fun _ => kB h1 F1 (fun i hi => I1 i (by omega)), fun c => ?_⟩
    exfalso
    apply c
    rw [show (4 : Int32) = jI ((4 : Nat) : Int) from rfl, jI_len (by omega) (by omega)]
    omega
  | r + 1, q, h1, e, F1, I1 => by
    have S1 := S0.fr F1
    rw [wl_189_4]
    refine ⟨fun c => ?_, fun _ => ⟨S1.1, m + 15, S1.a34.1, S1.a34.tg, S1.a34.inn (by omega) (by omega), nm_r (e' := zuL h1 (m + 15) q (jL 0)) (by rw [jI_cln (by omega)]; rfl) (nm_r (e' := jI ((q + 1 : Nat) : Int)) (by rw [show (1 : Int32) = jI 1 from rfl, jI_add]; rfl) (l189e S0 kB r (q + 1) _ (by omega) (F1.uL rfl) (fun i hi => ?_)))⟩⟩
    · exfalso
      rw [show (4 : Int32) = jI ((4 : Nat) : Int) from rfl, jI_len (by omega) (by omega)] at c
      omega
    · by_cases ci : i = q
      · subst ci
        rw [zL_here]
      · rw [zL_offi ci]
        exact I1 i (by omega)
theorem ct_189 {d : Nat} {h : ZH} {Q : Option Value → ZH → Prop} (hd : 12 ≤ d) (ok : tp_Ok t) (ou : tp_Ou u) (P : MPg h m t u) (hL : ¬ zI h m 29 = 0 → MLd h m t u 0) (kQ : ∀ h', Fr (tp_Se m) h h' → MLd h' m t u 0 → ¬ zI h' m 29 = 0 → (∀ j, j < 4 → zL h' (m + 15) j = jL (tp_F t u j (tp_T t) 0 0 0 0 (t 15))) → Q none h') : Ct E d 189 [.ref m] h Q := by
  obtain ⟨d, rfl⟩ : ∃ n, d = n + 1 := ⟨d - 1, by omega⟩
  have hT := ok.T
  have h15 : t 15 ≤ 2 := ok.2.2.2.2.2.2.2.2.2.2.2.2.2.2.1
  refine ok_189 ⟨P.1.1, ct_182 (by omega) ok ou P hL (fun h1 F1 D1 L1 => ⟨rfl, 5, l189e (h0 := h1) (P.1.fr F1) (fun h2 F2 X2 => ⟨7371 + 1, l189l (h0 := h2) ((P.1.fr F1).fr F2) (fun h3 F3 K3 => ?_) 7371 0 h2 (by omega) Fr.rf (fun i hi => by omega)⟩) 4 0 h1 (by omega) Fr.rf (fun i hi => by omega)⟩)⟩
  have P1 : MPg h1 m t u := P.fr F1 (fun i => by unfold tp_Sl tp_Sw; omega) (fun i => by unfold tp_Sl tp_Sw; omega)
  have P2 : MPg h2 m t u := P1.fr F2 (fun i => by omega) (fun i => by omega)
  have P3 : MPg h3 m t u := P2.fr F3 (fun i => by omega) (fun i => by omega)
  have D3 : MLd h3 m t u 0 := (D1.fr F2 (fun i => by omega) (fun i => by omega)).fr F3 (fun i => by omega) (fun i => by omega)
  have e15 : zI h3 (m + 8) 15 = jI (t 15 : Int) := P3.2.1 15 (by omega)
  refine ⟨P3.1.1, m + 13, P3.1.a32.1, m + 8, P3.1.a15.1, P3.1.a15.ti, P3.1.a15.inc (by decide), P3.1.a32.tg, by rw [e15]; exact P3.1.a32.inn (by omega) (by omega), nm_r (e' := zuL h3 (m + 13) (t 15) (jL 1)) (by rw [e15, jI_cln (by omega)]; rfl) ⟨tp_T t + 1, ?_⟩⟩
  have F4 : Fr (fun a (_ : Nat) => a = m + 13) h3 (zuL h3 (m + 13) (t 15) (jL 1)) := Fr.uL Fr.rf rfl
  have FA : Fr (tp_Se m) h (zuL h3 (m + 13) (t 15) (jL 1)) := (((F1.wd tp_Sl_e).tr (F2.wd (fun a i e => Or.inr (Or.inr (by omega))))).tr (F3.wd (fun a i e => Or.inr (Or.inr (by omega))))).tr (F4.wd (fun a i e => Or.inr (Or.inr (by omega))))
  have P4 := P3.fr F4 (fun i => by omega) (fun i => by omega)
  have D4 := D3.fr F4 (fun i => by omega) (fun i => by omega)
  have l29 : zI (zuL h3 (m + 13) (t 15) (jL 1)) m 29 = zI h1 m 29 := by
    show zI h3 m 29 = _
    rw [F3.I (by omega), F2.I (by omega)]
  have key : ∀ F : Nat → Int, tp_sr (fun i => (if i = t 15 then (1 : Int) else 0) * F i) 0 7371 = F (t 15) := fun F => by
    have z : tp_sr (fun i => (0 : Int) * F i) 0 7371 = 0 := tp_sr_zero 7371 0 (fun i _ _ => by simp)
    have := tp_sr_up (f := fun i => (0 : Int) * F i) (g := fun i => (if i = t 15 then (1 : Int) else 0) * F i) (a := F (t 15)) (p := t 15) 7371 0 (by omega) (by omega) (fun i hi => by (try dsimp only); rw [if_neg hi]) (by (try dsimp only); rw [if_pos rfl]; omega)
    omega
  refine l189d (h0 := zuL h3 (m + 13) (t 15) (jL 1)) (K := fun j => tp_F t u j (tp_T t) 0 0 0 0 (t 15)) (by omega) ok ou P4 D4 (fun h5 F5 X5 => kQ h5 (FA.tr (F5.wd tp_Sf_e)) (D4.fr F5 (fun i => by unfold tp_Sf tp_Sw; omega) (fun i => by unfold tp_Sf tp_Sw; omega)) (by rw [F5.I (by unfold tp_Sf tp_Sw; omega), l29]; exact L1) X5) (tp_T t) 0 _ (fun _ => 0) (fun i => if i = t 15 then 1 else 0) (by omega) Fr.rf (fun j hj => ?_) (fun i hi => ?_) (fun i => ?_) ?_ (fun j hj => ?_)
  · rw [zL_offa (by omega), F3.L (by omega)]
    exact X2 j hj
  · dsimp only
    by_cases ci : i = t 15
    · subst ci
      rw [zL_here, if_pos rfl]
    · rw [zL_offi ci, if_neg ci]
      exact K3 i hi
  · split <;> omega
  · have := key (fun _ => 1)
    rw [tp_sr_ext 7371 0 (g := fun i => (if i = t 15 then (1 : Int) else 0) * (fun _ => (1 : Int)) i) (fun i _ _ => by simp)]
    exact this
  · have := key (tp_Fq t u j (tp_T t) 0)
    rw [this]
    show 0 + tp_Fq t u j (tp_T t) 0 (t 15) = _
    unfold tp_Fq
    rw [show t 15 / 351 = 0 by omega, show t 15 / 27 % 13 = 0 by omega, show t 15 / 3 % 9 = 0 by omega, show t 15 % 3 = t 15 by omega]
    omega
/-- the worth of the page to one of both -/
def tp_wh (t u : Nat → Nat) (who : Nat) : Int := if who = 0 then tp_W t u (tp_pr t) (tp_T t) 0 0 0 0 (t 15) else tp_F t u 0 (tp_T t) 0 0 0 0 (t 15)
theorem ct_190 {d w : Nat} {h : ZH} {Q : Option Value → ZH → Prop} (hd : 13 ≤ d) (hw : w < 2) (ok : tp_Ok t) (ou : tp_Ou u) (P : MPg h m t u) (hL : ¬ zI h m 29 = 0 → MLd h m t u 0) (kQ : ∀ h', Fr (tp_Se m) h h' → MLd h' m t u 0 → ¬ zI h' m 29 = 0 → (∀ j, j < 4 → zL h' (m + 15) j = jL (tp_F t u j (tp_T t) 0 0 0 0 (t 15))) → Q (some (.long (jL (tp_wh t u w)))) h') : Ct E d 190 [.ref m, .int (jI (w : Int))] h Q := by
  obtain ⟨d, rfl⟩ : ∃ n, d = n + 1 := ⟨d - 1, by omega⟩
  have hT := ok.T
  have h12 : t 12 ≤ 1 := ok.2.2.2.2.2.2.2.2.2.2.2.1
  have h15 : t 15 ≤ 2 := ok.2.2.2.2.2.2.2.2.2.2.2.2.2.2.1
  refine ok_190 ⟨P.1.1, ct_189 (by omega) ok ou P hL (fun h1 F1 D1 L1 X1 => ⟨rfl, ?_⟩)⟩
  have P1 : MPg h1 m t u := P.fr F1 (fun i => by unfold tp_Se tp_Sw; omega) (fun i => by unfold tp_Se tp_Sw; omega)
  have e15 : zI h1 (m + 8) 15 = jI (t 15 : Int) := P1.2.1 15 (by omega)
  have q := kQ h1 F1 D1 L1 X1
  rw [P1.1.a34.sub, P1.1.a27.sub, P1.1.a15.sub]
  refine ⟨⟨fun _ => ⟨P1.1.1, P1.1.a34.ne, P1.1.a34.tg, P1.1.a34.inc (by decide), trivial⟩, fun _ => ⟨P1.1.1, P1.1.a27.ne, P1.1.a15.ne, P1.1.a15.ti, P1.1.a15.inc (by decide), P1.1.a27.tg, by rw [e15]; exact P1.1.a27.inn (by omega) (by omega), P1.1.a15.ne, P1.1.a15.inc (by decide), by omega, trivial, trivial⟩⟩, ?_⟩
  refine ek_v (P := fun z => Q (some (.long z)) h1) ?_ q
  rw [show (0 : Int32) = jI ((0 : Nat) : Int) from rfl]
  unfold tp_wh
  by_cases c : w = 0
  · rw [if_pos c, if_neg (by rw [jI_eqn (by omega) (by omega)]; omega), e15, jI_cln (by omega), P1.2.1 12 (by omega)]
    have D := (D1 0 0 0 0 (t 15) (by omega) (by omega) (by omega) (by omega) (by omega) (by omega)).1
    rw [show tp_at 0 0 0 0 (t 15) = t 15 by unfold tp_at; omega, Nat.sub_zero] at D
    rw [D, (tp_WX ok u (tp_T t)).1 0 0 0 0 (t 15) (by omega), show (1 : Int32) = jI 1 from rfl, jI_sub, show (1 - (t 12 : Int)) = ((1 - t 12 : Nat) : Int) by omega, fz176 (by omega), jL_mul]
    unfold tp_f
    by_cases c2 : t 12 = 0
    · rw [if_pos c2, c2]
      congr 1
      show _ * 4 = _
      omega
    · rw [if_neg c2, show 1 - t 12 = 0 by omega]
      congr 1
      show _ * 1 = _
      omega
  · rw [if_neg c, if_pos (by rw [jI_eqn (by omega) (by omega)]; omega), X1 0 (by omega)]
end MWH
