/-! ROWS of takings; the shape of the class's object -/
/-- the class's object: everything lies behind it -/
def XSh (h : ZH) (x : Nat) : Prop := (ztag h x = 10 ∧ zR h x 0 = x + 1 + 1 ∧ zR h x 1 = x + 8 + 1 ∧ zR h x 2 = x + 10 + 1 ∧ zR h x 3 = x + 18 + 1 ∧ zR h x 4 = x + 21 + 1 ∧ zR h x 5 = x + 23 + 1 ∧ zR h x 6 = x + 24 + 1 ∧ zAr h x 7 (x + 36) 17 4) ∧ (∀ k, k < 4 → zR h (x + 36) k = x + 37 + 2 * k + 1 ∧ SSh h (x + 37 + 2 * k)) ∧ PSh h (x + 1) ∧ TSh h (x + 8) ∧ (ztag h (x + 10) = 4 ∧ zR h (x + 10) 0 = x + 8 + 1 ∧ zR h (x + 10) 1 = x + 11 + 1) ∧ PSh h (x + 11) ∧ RSh h (x + 18) ∧ WSh h (x + 21) ∧ ztag h (x + 23) = 2 ∧ (ztag h (x + 24) = 1 ∧ zR h (x + 24) 0 = x + 1 + 1 ∧ zR h (x + 24) 1 = x + 18 + 1 ∧ zR h (x + 24) 2 = x + 25 + 1 ∧ zR h (x + 24) 3 = x + 32 + 1 ∧ zAr h (x + 24) 11 (x + 33) 15 8 ∧ zAr h (x + 24) 12 (x + 34) 14 5 ∧ zAr h (x + 24) 13 (x + 35) 14 16) ∧ PSh h (x + 25) ∧ ztag h (x + 32) = 2
theorem XSh.fr {S : Nat → Nat → Prop} {h h1 : ZH} {x : Nat} (a : XSh h x) (y : Fr S h h1) : XSh h1 x := by
  unfold XSh SSh PSh TSh RSh WSh zAr at a ⊢
  rw [y.2.1, y.2.2.1, y.2.2.2.1]
  exact a
def RwB (rs rx : Nat → Nat) : Prop := ∀ k, rs k < 3 ∧ rx k ≤ 9
def RwC (h : ZH) (r N : Nat) (rs rx : Nat → Nat) : Prop := RSh h r ∧ zI h r 2 = jI (N : Int) ∧ ∀ k, k < N → zI h (r + 1) k = jI (rs k : Int) ∧ zI h (r + 2) k = jI (rx k : Int)
theorem RwC.fr {S : Nat → Nat → Prop} {h h1 : ZH} {r N : Nat} {rs rx : Nat → Nat} (a : RwC h r N rs rx) (y : Fr S h h1) (hS : ∀ b i, r ≤ b → b ≤ r + 2 → ¬ S b i) : RwC h1 r N rs rx := by
  refine ⟨a.1.fr y, by rw [y.I (hS _ _ (by omega) (by omega))]; exact a.2.1, fun k hk => ?_⟩
  rw [y.I (hS _ _ (by omega) (by omega)), y.I (hS _ _ (by omega) (by omega))]
  exact a.2.2 k hk
def RwM (h : ZH) (m N : Nat) (rs rx : Nat → Nat) : Prop := zI h m 36 = jI (N : Int) ∧ ∀ k, k < N → zI h (m + 17) k = jI (rs k : Int) ∧ zI h (m + 18) k = jI (rx k : Int)
section RWS
variable {E : Nat → Nat} {h : ZH} {x m N : Nat} {t u rs rx : Nat → Nat} {Q : Option Value → ZH → Prop}
/-- what is paid and MADE UP on one day of the row -/
def wk_pd (t u : Nat → Nat) (rs rx : Nat → Nat) (d : Nat) : Nat := tp_nC t u d (wk t u (fun d _ _ _ => rx d) rs d).1 (wk t u (fun d _ _ _ => rx d) rs d).2.1 (wk t u (fun d _ _ _ => rx d) rs d).2.2.1 (rx d) * tp_un t (t (20 + rs d)) 1 + tp_fl t u d (wk t u (fun d _ _ _ => rx d) rs d).1 (wk t u (fun d _ _ _ => rx d) rs d).2.1 (wk t u (fun d _ _ _ => rx d) rs d).2.2.1 (rx d)
def wk_mu (t u : Nat → Nat) (rs rx : Nat → Nat) (d : Nat) : Nat := tp_mU t u d (wk t u (fun d _ _ _ => rx d) rs d).1 (wk t u (fun d _ _ _ => rx d) rs d).2.1 (wk t u (fun d _ _ _ => rx d) rs d).2.2.1 (rx d)
theorem l131 {d n : Nat} {h0 : ZH} (hd : 9 ≤ d) (ok : tp_Ok t) (ou : tp_Ou u) (hR : RwB rs rx) (X0 : XSh h0 x) (P0 : PgR h0 (x + 1) t u) (R0 : RwC h0 (x + 18) N rs rx) (hn : n ≤ N) (hN : N ≤ tp_T t) (kQ : ∀ h', Fr (fun a _ => a = x + 21 ∨ a = x + 22) h0 h' → WkS h' (x + 21) n (wk_fw t u rx n) (wk t u (fun d _ _ _ => rx d) rs n) → (1 ≤ n → zI h' (x + 21) 9 = jI (wk_pd t u rs rx (n - 1) : Int) ∧ zI h' (x + 21) 10 = jI (wk_mu t u rs rx (n - 1) : Int)) → Q none h') : ∀ r i h1, i + r = n → Fr (fun a _ => a = x + 21 ∨ a = x + 22) h0 h1 → WkS h1 (x + 21) i (wk_fw t u rx i) (wk t u (fun d _ _ _ => rx d) rs i) → (1 ≤ i → zI h1 (x + 21) 9 = jI (wk_pd t u rs rx (i - 1) : Int) ∧ zI h1 (x + 21) 10 = jI (wk_mu t u rs rx (i - 1) : Int)) → wl_131_5 E d Q (r + 1) x (jI (n : Int)) (jI (i : Int)) h1
  | 0, i, h1, e, F1, K1, D1 => by
    have hT := ok.T
    have ei : i = n := by omega
    subst ei
    rw [wl_131_5]
    refine ⟨fun _ => kQ h1 F1 K1 D1, fun c => ?_⟩
    exfalso
    apply c
    rw [jI_len (by omega) (by omega)]
    exact Nat.le_refl _
  | r + 1, i, h1, e, F1, K1, D1 => by
    have hT := ok.T
    have X1 := X0.fr F1
    have P1 : PgR h1 (x + 1) t u := P0.fr F1 (fun a j ha hb => by omega)
    have R1 : RwC h1 (x + 18) N rs rx := R0.fr F1 (fun a j ha hb => by omega)
    obtain ⟨⟨x0, xr0, xr1, xr2, xr3, xr4, xr5, xr6, xa7⟩, -, -, -, -, -, RS, WS, -⟩ := X1
    obtain ⟨q1, q2⟩ := R1.2.2 i (by omega)
    have hRi := hR i
    have fwb := wk_fw_b t u rx i
    rw [wl_131_5]
    refine ⟨fun c => ?_, fun _ => ⟨x0, x + 21, xr4, x + 1, xr0, x + 18, xr3, RS.1, x + 19, RS.2.1.1, RS.2.1.ti, RS.2.1.inn (by omega) (by omega), x + 20, RS.2.2.1, RS.2.2.ti, RS.2.2.inn (by omega) (by omega), WS.1, ?_⟩⟩
    · exfalso
      rw [jI_len (by omega) (by omega)] at c
      omega
    · rw [jI_cln (by omega), q1, q2]
      refine ct_87 hd ok ou P1 WS (by omega) hRi.1 hRi.2 (wk_bd t u _ rs i) ⟨fwb.1, by omega⟩ K1 (fun h2 F2 K2 p2 m2 => ⟨rfl, nm_r (e' := jI ((i + 1 : Nat) : Int)) (by rw [show (1 : Int32) = jI 1 from rfl, jI_add]; rfl) (l131 hd ok ou hR X0 P0 R0 hn hN kQ r (i + 1) h2 (by omega) (F1.tr (F2.wd (fun a j e => by omega))) K2 (fun _ => ⟨p2, m2⟩))⟩)
theorem ct_131 {d n : Nat} (hd : 10 ≤ d) (ok : tp_Ok t) (ou : tp_Ou u) (hR : RwB rs rx) (X0 : XSh h x) (P0 : PgR h (x + 1) t u) (R0 : RwC h (x + 18) N rs rx) (hn : n ≤ N) (hN : N ≤ tp_T t) (kQ : ∀ h', Fr (fun a _ => a = x + 21 ∨ a = x + 22) h h' → WkS h' (x + 21) n (wk_fw t u rx n) (wk t u (fun d _ _ _ => rx d) rs n) → (1 ≤ n → zI h' (x + 21) 9 = jI (wk_pd t u rs rx (n - 1) : Int) ∧ zI h' (x + 21) 10 = jI (wk_mu t u rs rx (n - 1) : Int)) → Q none h') : Ct E d 131 [.ref x, .int (jI (n : Int))] h Q := by
  obtain ⟨d, rfl⟩ : ∃ n, d = n + 1 := ⟨d - 1, by omega⟩
  have X0' := X0
  obtain ⟨⟨x0, xr0, xr1, xr2, xr3, xr4, xr5, xr6, xa7⟩, -, -, -, -, -, RS, WS, -⟩ := X0'
  refine ok_131 ⟨x0, x + 21, xr4, WS.1, ct_86 (by omega) WS (fun h1 F1 K1 => ⟨rfl, n + 1, ?_⟩)⟩
  have F1' : Fr (fun a (_ : Nat) => a = x + 21 ∨ a = x + 22) h h1 := F1.wd (fun a i e => Or.inl e)
  exact l131 (h0 := h) (by omega) ok ou hR X0 P0 R0 hn hN kQ n 0 h1 (by omega) F1' K1 (fun c => by omega)
/-! the model's -/
def tp_Sr (m : Nat) : Nat → Nat → Prop := fun a i => tp_Sb m a i ∨ a = m + 19 ∨ a = m + 20
theorem l203 {d : Nat} {h0 : ZH} (hd : 8 ≤ d) (ok : tp_Ok t) (ou : tp_Ou u) (hR : RwB rs rx) (P0 : MPg h0 m t u) (R0 : RwM h0 m N rs rx) (hN : N ≤ tp_T t) (kQ : ∀ h', Fr (tp_Sr m) h0 h' → MkS h' m (wk t u (fun d _ _ _ => rx d) rs N) → (∀ k, k < N → zI h' (m + 19) k = jI (wk_pd t u rs rx k : Int) ∧ zI h' (m + 20) k = jI (wk_mu t u rs rx k : Int)) → Q none h') : ∀ r i h1, i + r = N → Fr (tp_Sr m) h0 h1 → MkS h1 m (wk t u (fun d _ _ _ => rx d) rs i) → (∀ k, k < i → zI h1 (m + 19) k = jI (wk_pd t u rs rx k : Int) ∧ zI h1 (m + 20) k = jI (wk_mu t u rs rx k : Int)) → wl_203_4 E d Q (r + 1) m (jI (i : Int)) h1
  | 0, i, h1, e, F1, K1, D1 => by
    have hT := ok.T
    have ei : i = N := by omega
    subst ei
    have S1 := P0.1.fr F1
    have i36 : zI h1 m 36 = jI (i : Int) := by rw [F1.I (by unfold tp_Sr tp_Sb; omega)]; exact R0.1
    rw [wl_203_4]
    refine ⟨S1.1, fun _ => kQ h1 F1 K1 D1, fun c => ?_⟩
    exfalso
    apply c
    rw [i36, jI_len (by omega) (by omega)]
    exact Nat.le_refl _
  | r + 1, i, h1, e, F1, K1, D1 => by
    have hT := ok.T
    have P1 : MPg h1 m t u := P0.fr F1 (fun j => by unfold tp_Sr tp_Sb; omega) (fun j => by unfold tp_Sr tp_Sb; omega)
    have i36 : zI h1 m 36 = jI (N : Int) := by rw [F1.I (by unfold tp_Sr tp_Sb; omega)]; exact R0.1
    obtain ⟨q1, q2⟩ := R0.2 i (by omega)
    have hRi := hR i
    rw [wl_203_4]
    refine ⟨P1.1.1, fun c => ?_, fun _ => ⟨m + 17, P1.1.a37.1, P1.1.a37.ti, P1.1.a37.inn (by omega) (by omega), m + 18, P1.1.a38.1, P1.1.a38.ti, P1.1.a38.inn (by omega) (by omega), ?_⟩⟩
    · exfalso
      rw [i36, jI_len (by omega) (by omega)] at c
      omega
    · rw [jI_cln (by omega), F1.I (show ¬ tp_Sr m (m + 17) i by unfold tp_Sr tp_Sb; omega), F1.I (show ¬ tp_Sr m (m + 18) i by unfold tp_Sr tp_Sb; omega), q1, q2]
      refine ct_202 hd ok ou P1 (by omega) hRi.1 hRi.2 (wk_bd t u _ rs i) K1 (fun h2 F2 K2 p2 m2 => ?_)
      have S2 := P1.1.fr F2
      have F2' : Fr (tp_Sr m) h1 h2 := F2.wd (fun a j e => Or.inl e)
      refine ⟨rfl, S2.1, m + 19, S2.a39.1, S2.a39.tg, S2.a39.inn (by omega) (by omega), nm_r (e' := zuI h2 (m + 19) i (jI (wk_pd t u rs rx i : Int))) (by rw [p2]; rfl) ⟨m + 20, S2.a40.1, S2.a40.tg, S2.a40.inn (by omega) (by omega), nm_r (e' := zuI (zuI h2 (m + 19) i (jI (wk_pd t u rs rx i : Int))) (m + 20) i (jI (wk_mu t u rs rx i : Int))) (by rw [zI_offa (by omega), m2]; rfl) (nm_r (e' := jI ((i + 1 : Nat) : Int)) (by rw [show (1 : Int32) = jI 1 from rfl, jI_add]; rfl) (l203 hd ok ou hR P0 R0 hN kQ r (i + 1) _ (by omega) (((F1.tr F2').uI (Or.inr (Or.inl rfl))).uI (Or.inr (Or.inr rfl))) ?_ (fun k hk => ?_)))⟩⟩
      · unfold MkS at K2 ⊢
        rw [zI_offa (by omega), zI_offa (by omega), zI_offa (by omega), zI_offa (by omega), zI_offa (by omega), zI_offa (by omega), zI_offa (by omega), zI_offa (by omega), zI_offa (by omega), zI_offa (by omega), zI_offa (by omega), zI_offa (by omega)]
        exact K2
      · rw [zI_offa (by omega : m + 19 ≠ m + 20)]
        by_cases ck : k = i
        · subst ck
          rw [zI_here, zI_here]
          exact ⟨rfl, rfl⟩
        · rw [zI_offi ck, zI_offi ck, zI_offa (by omega : m + 20 ≠ m + 19), F2.I (by unfold tp_Sb; omega), F2.I (by unfold tp_Sb; omega)]
          exact D1 k (by omega)
theorem ct_203 {d : Nat} (hd : 9 ≤ d) (ok : tp_Ok t) (ou : tp_Ou u) (hR : RwB rs rx) (P0 : MPg h m t u) (R0 : RwM h m N rs rx) (hN : N ≤ tp_T t) (kQ : ∀ h', Fr (tp_Sr m) h h' → MkS h' m (wk t u (fun d _ _ _ => rx d) rs N) → (∀ k, k < N → zI h' (m + 19) k = jI (wk_pd t u rs rx k : Int) ∧ zI h' (m + 20) k = jI (wk_mu t u rs rx k : Int)) → Q none h') : Ct E d 203 [.ref m] h Q := by
  obtain ⟨d, rfl⟩ : ∃ n, d = n + 1 := ⟨d - 1, by omega⟩
  refine ok_203 ⟨P0.1.1, ct_201 (by omega) P0.1 (fun h1 F1 K1 => ⟨rfl, N + 1, ?_⟩)⟩
  have F1' : Fr (tp_Sr m) h h1 := F1.wd (fun a i e => Or.inl (by unfold tp_Sm at e; unfold tp_Sb; omega))
  exact l203 (h0 := h) (by omega) ok ou hR P0 R0 hN kQ N 0 h1 (by omega) F1' K1 (fun k hk => by omega)
theorem wk_fw_ne (t u : Nat → Nat) (rx : Nat → Nat) {i : Nat} (hi : ∀ k, k < i → tp_lo t u k ≤ rx k ∧ rx k ≤ tp_hi t u k) : wk_fw t u rx i = -4 := by
  induction i with
  | zero => rfl
  | succ i ih =>
    unfold wk_fw
    rw [ih (fun k hk => hi k (by omega)), if_neg (fun q => q.2 (hi i (by omega)))]
theorem wk_fw_at (t u : Nat → Nat) (rx : Nat → Nat) {i : Nat} (hi : ∀ k, k < i → tp_lo t u k ≤ rx k ∧ rx k ≤ tp_hi t u k) (hn : ¬ (tp_lo t u i ≤ rx i ∧ rx i ≤ tp_hi t u i)) : ∀ n, i < n → wk_fw t u rx n = (i : Int)
  | 0, h => by omega
  | n + 1, h => by
    by_cases c : i = n
    · subst c
      unfold wk_fw
      rw [wk_fw_ne t u rx hi, if_pos ⟨rfl, hn⟩]
    · unfold wk_fw
      rw [wk_fw_at t u rx hi hn n (by omega), if_neg (fun q => by have := q.1; omega)]
theorem l204 {d : Nat} (hd : 2 ≤ d) (ok : tp_Ok t) (ou : tp_Ou u) (hR : RwB rs rx) (P : MPg h m t u) (R : RwM h m N rs rx) (hN : N ≤ tp_T t) (q0 : Q (some (.int (jI (wk_fw t u rx N)))) h) : ∀ r i, i + r = N → (∀ k, k < i → tp_lo t u k ≤ rx k ∧ rx k ≤ tp_hi t u k) → wl_204_2 E d Q (r + 1) m (jI (i : Int)) h
  | 0, i, e, I => by
    have hT := ok.T
    have ei : i = N := by omega
    subst ei
    rw [wl_204_2]
    refine ⟨P.1.1, fun _ => ?_, fun c => ?_⟩
    · rw [wk_fw_ne t u rx I] at q0
      exact q0
    · exfalso
      apply c
      rw [R.1, jI_len (by omega) (by omega)]
      exact Nat.le_refl _
  | r + 1, i, e, I => by
    have hT := ok.T
    obtain ⟨q1, q2⟩ := R.2 i (by omega)
    have hRi := hR i
    rw [wl_204_2]
    refine ⟨P.1.1, fun c => ?_, fun _ => ⟨m + 18, P.1.a38.1, P.1.a38.ti, P.1.a38.inn (by omega) (by omega), by omega, ?_, ?_⟩⟩
    · exfalso
      rw [R.1, jI_len (by omega) (by omega)] at c
      omega
    · exact sz163 P (by omega)
    · rw [jI_cln (by omega), q2, fz163 ok ou P (by omega) (by omega)]
      by_cases c : tp_lo t u i ≤ rx i ∧ rx i ≤ tp_hi t u i
      · rw [if_pos c]
        refine ⟨fun _ => nm_r (e' := jI ((i + 1 : Nat) : Int)) (by rw [show (1 : Int32) = jI 1 from rfl, jI_add]; rfl) (l204 hd ok ou hR P R hN q0 r (i + 1) (by omega) (fun k hk => ?_)), fun q => absurd (by decide) q⟩
        by_cases ck : k = i
        · subst ck; exact c
        · exact I k (by omega)
      · rw [if_neg c]
        refine ⟨fun q => absurd rfl q, fun _ => ?_⟩
        rw [wk_fw_at t u rx I c N (by omega)] at q0
        exact q0
theorem ct_204 {d : Nat} (hd : 3 ≤ d) (ok : tp_Ok t) (ou : tp_Ou u) (hR : RwB rs rx) (P : MPg h m t u) (R : RwM h m N rs rx) (hN : N ≤ tp_T t) (q : Q (some (.int (jI (wk_fw t u rx N)))) h) : Ct E d 204 [.ref m] h Q := by
  obtain ⟨d, rfl⟩ : ∃ n, d = n + 1 := ⟨d - 1, by omega⟩
  exact ok_204 ⟨N + 1, l204 (by omega) ok ou hR P R hN q N 0 (by omega) (fun k hk => by omega)⟩
end RWS
