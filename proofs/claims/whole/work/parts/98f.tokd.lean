/-! TOKENS: the class's, the rest -/
section TKE
variable {E : Nat → Nat} {h : ZH} {x m tn d : Nat} {tb : Nat → Int32} {Q : Option Value → ZH → Prop}
theorem Stc.tp {h1 : ZH} (Sc : Stc E h) (hE : E 0 ≤ x) (y : Fr (tp_St x) h h1) : Stc E h1 := Sc.ag (y.ag (fun a i ha => by unfold tp_St; omega))
theorem nmw_b (tb : Nat → Int32) (q n : Nat) : nmw tb q n = -4 ∨ (0 ≤ nmw tb q n ∧ nmw tb q n < 22) := by
  have := nmF_b tb q n 22 0
  unfold nmw
  omega
theorem ct_82 {q e : Nat} (hd : 7 ≤ d) (Sc : Stc E h) (hE : E 0 ≤ x) (B : TpB tb) (T : TpD h x tn tb) (hn : tn ≤ 320) (hq : q ≤ tn) (i2 : zI h (x + 8) 2 = jI (q : Int)) (i5 : zI h (x + 8) 5 = jI (q : Int)) (ee : e = rn (isA tb) (tn - q) q) (k : ∀ h', Fr (tp_St x) h h' → TkC h' x (if nmw tb q (e - q) = -4 then 0 else 1, nmw tb q (e - q), q, e) → Q none h') : Ct E d 82 [.ref (x + 8)] h Q := by
  obtain ⟨d, rfl⟩ : ∃ n, d = n + 1 := ⟨d - 1, by omega⟩
  have hin := rn_in (isA tb) (tn - q) q
  refine ok_82 ⟨tn - q + 1, l82 (q := q) (by omega) B T hn (fun h1 e' e1 F1 j2 jo => ?_) (tn - q) q h (by omega) (Nat.le_refl _) rfl Fr.rf i2 (fun _ _ => rfl)⟩
  have eE : e' = e := by rw [e1, ee]
  subst eE
  have T1 := T.fr F1
  refine ⟨T1.1.1, ct_84 (by omega) (Sc.tp hE F1) B T1 hn (show q ≤ e' by omega) (by omega) j2 (by rw [jo 5 (by omega)]; exact i5) ⟨_, rfl, T1.1.1, nm_e (nm_e (k _ (Fr.uI (Fr.uI F1 (by unfold tp_St; omega)) (by unfold tp_St; omega)) ⟨?_, ?_, ?_, ?_⟩))⟩⟩
  · rw [zI_here, zI_here]
    have nb := nmw_b tb q (e' - q)
    have i4 : jI (nmw tb q (e' - q)) = -4 ↔ nmw tb q (e' - q) = -4 := by rw [show (-4 : Int32) = jI (-4) from rfl, jI_eq (by omega) (by omega) (by omega) (by omega)]
    by_cases c : nmw tb q (e' - q) = -4
    · rw [if_neg (fun q => q (i4.mpr c)), if_pos c]; rfl
    · rw [if_pos (fun q => c (i4.mp q)), if_neg c]; rfl
  · rw [zI_offi (by omega), zI_here]
  · rw [zI_offi (by omega), zI_offi (by omega), jo 5 (by omega)]; exact i5
  · rw [zI_offi (by omega), zI_offi (by omega)]; exact j2
theorem l83 {h0 : ZH} {q : Nat} (hd : 1 ≤ d) (B : TpB tb) (T0 : TpD h0 x tn tb) (hn : tn ≤ 320) (i5 : zI h0 (x + 8) 5 = jI (q : Int)) (k : ∀ h' e, e = rn (isD tb) (tn - q) q → Fr (tp_St x) h0 h' → zI h' (x + 8) 2 = jI (e : Int) → zI h' (x + 8) 4 = jI (dg tb q (e - q)) → zI h' (x + 8) 5 = jI (q : Int) → wb_83_41 E d Q (x + 8) h') : ∀ (r p : Nat) h1, p + r = tn → q ≤ p → rn (isD tb) r p = rn (isD tb) (tn - q) q → Fr (tp_St x) h0 h1 → zI h1 (x + 8) 2 = jI (p : Int) → zI h1 (x + 8) 4 = jI (dg tb q (p - q)) → zI h1 (x + 8) 5 = jI (q : Int) → wl_83_0 E d Q (r + 1) (x + 8) h1
  | 0, p, h1, e, hq, hr, F1, i2, i4, j5 => by
    have T1 := T0.fr F1
    rw [wl_83_0]
    refine ⟨T1.1.1, fun _ => k h1 p hr F1 i2 i4 j5, fun c => ?_⟩
    exfalso
    apply c
    rw [T1.2.1, i2, jI_len (by omega) (by omega)]
    omega
  | r + 1, p, h1, e, hq, hr, F1, i2, i4, j5 => by
    have T1 := T0.fr F1
    have A := T1.1.2
    obtain ⟨s8, f8⟩ := s81 (E := E) B T1 hn (show p < tn by omega)
    rw [rn] at hr
    rw [wl_83_0]
    refine ⟨T1.1.1, fun c => ?_, fun _ => ⟨hd, by rw [i2]; exact s8, ?_⟩⟩
    · exfalso
      rw [T1.2.1, i2, jI_len (by omega) (by omega)] at c
      omega
    rw [i2, f8]
    refine ⟨fun c => ?_, fun c => ?_⟩
    · rw [if_neg c] at hr
      exact k h1 p hr F1 i2 i4 j5
    · rw [Classical.not_not] at c
      rw [if_pos c] at hr
      have l3 : (3 : Int32) ≤ jI (p : Int) - zI h1 (x + 8) 5 ↔ 3 ≤ p - q := by
        rw [j5, jI_sub, show (p : Int) - (q : Int) = ((p - q : Nat) : Int) by omega, show (3 : Int32) = jI ((3 : Nat) : Int) from rfl, jI_len (by omega) (by omega)]
      have cd := (cb_D B p).mpr c
      have cv : cb tb p = (bt tb p : Int) := by
        have := (bt_of B p).2
        unfold cb at cd ⊢
        split at cd <;> split <;> omega
      have ed : dg tb q (p + 1 - q) = if 3 ≤ p - q then dg tb q (p - q) else 10 * dg tb q (p - q) + (bt tb p : Int) - 48 := by
        rw [show p + 1 - q = (p - q) + 1 by omega, dg, show q + (p - q) = p by omega]
      refine ⟨⟨fun _ => trivial, fun _ => ?_⟩, nm_r (e' := zuI h1 (x + 8) 4 (jI (dg tb q (p + 1 - q)))) ?_ (nm_r (e' := zuI (zuI h1 (x + 8) 4 (jI (dg tb q (p + 1 - q)))) (x + 8) 2 (jI ((p + 1 : Nat) : Int))) ?_ (l83 hd B T0 hn i5 k r (p + 1) _ (by omega) (by omega) hr (Fr.uI (Fr.uI F1 (by unfold tp_St; omega)) (by unfold tp_St; omega)) (zI_here _ _ _ _) (by rw [zI_offi (by omega), zI_here]) (by rw [zI_offi (by omega), zI_offi (by omega)]; exact j5)))⟩
      · rw [A.sub]
        exact ⟨A.ne, A.tb, A.inn (by omega) (by omega), trivial⟩
      · rw [ed]
        by_cases c3 : 3 ≤ p - q
        · rw [if_pos (l3.mpr c3), if_pos c3, i4]
        · rw [if_neg (fun q => c3 (l3.mp q)), if_neg c3, i4, A.sub, jI_cln (by omega), show x + 8 + 1 = x + 9 from rfl, T1.2.2 p (by omega), cv, show (10 : Int32) = jI 10 from rfl, show (48 : Int32) = jI 48 from rfl, jI_mul, jI_add, jI_sub]
      · rw [zI_offi (by omega), i2, show (1 : Int32) = jI 1 from rfl, jI_add]; rfl
theorem ct_83 {q e : Nat} (hd : 3 ≤ d) (B : TpB tb) (T : TpD h x tn tb) (hn : tn ≤ 320) (hq : q ≤ tn) (i2 : zI h (x + 8) 2 = jI (q : Int)) (i4 : zI h (x + 8) 4 = 0) (i5 : zI h (x + 8) 5 = jI (q : Int)) (ee : e = rn (isD tb) (tn - q) q) (k : ∀ h', Fr (tp_St x) h h' → TkC h' x (if e - q ≤ 3 then 2 else 0, dg tb q (e - q), q, e) → Q none h') : Ct E d 83 [.ref (x + 8)] h Q := by
  obtain ⟨d, rfl⟩ : ∃ n, d = n + 1 := ⟨d - 1, by omega⟩
  have hin := rn_in (isD tb) (tn - q) q
  refine ok_83 ⟨tn - q + 1, l83 (q := q) (by omega) B T hn i5 (fun h1 e' e1 F1 j2 j4 j5 => ?_) (tn - q) q h (by omega) (Nat.le_refl _) rfl Fr.rf i2 (by rw [Nat.sub_self]; exact i4) i5⟩
  have eE : e' = e := by rw [e1, ee]
  subst eE
  have T1 := T.fr F1
  have l3 : jI (e' : Int) - jI (q : Int) ≤ 3 ↔ e' - q ≤ 3 := by
    rw [jI_sub, show (e' : Int) - (q : Int) = ((e' - q : Nat) : Int) by omega, show (3 : Int32) = jI ((3 : Nat) : Int) from rfl, jI_len (by omega) (by omega)]
  refine ⟨T1.1.1, nm_e (k _ (Fr.uI F1 (by unfold tp_St; omega)) ⟨?_, ?_, ?_, ?_⟩)⟩
  · rw [zI_here, j2, j5]
    by_cases c : e' - q ≤ 3
    · rw [if_pos (l3.mpr c), if_pos c]; rfl
    · rw [if_neg (fun q => c (l3.mp q)), if_neg c]; rfl
  · rw [zI_offi (by omega)]; exact j4
  · rw [zI_offi (by omega)]; exact j5
  · rw [zI_offi (by omega)]; exact j2
theorem b79 {h0 h1 : ZH} {q : Nat} (hd : 9 ≤ d) (Sc : Stc E h0) (hE : E 0 ≤ x) (B : TpB tb) (T0 : TpD h0 x tn tb) (hn : tn ≤ 320) (hq : q ≤ tn) (F1 : Fr (tp_St x) h0 h1) (i2 : zI h1 (x + 8) 2 = jI (q : Int)) (k : ∀ h', Fr (tp_St x) h0 h' → TkC h' x (tkA tb tn q) → Q none h') : wb_79_19 E d Q (x + 8) h1 := by
  have T1 := T0.fr F1
  refine ⟨T1.1.1, nm_r (e' := zuI h1 (x + 8) 5 (jI (q : Int))) (by rw [i2]) (nm_e ?_)⟩
  have F2 : Fr (tp_St x) h0 (zuI (zuI h1 (x + 8) 5 (jI (q : Int))) (x + 8) 4 0) := Fr.uI (Fr.uI F1 (by unfold tp_St; omega)) (by unfold tp_St; omega)
  have j2 : zI (zuI (zuI h1 (x + 8) 5 (jI (q : Int))) (x + 8) 4 0) (x + 8) 2 = jI (q : Int) := by rw [zI_offi (by omega), zI_offi (by omega)]; exact i2
  have j4 : zI (zuI (zuI h1 (x + 8) 5 (jI (q : Int))) (x + 8) 4 0) (x + 8) 4 = 0 := zI_here _ _ _ _
  have j5 : zI (zuI (zuI h1 (x + 8) 5 (jI (q : Int))) (x + 8) 4 0) (x + 8) 5 = jI (q : Int) := by rw [zI_offi (by omega), zI_here]
  generalize zuI (zuI h1 (x + 8) 5 (jI (q : Int))) (x + 8) 4 0 = h2 at F2 j2 j4 j5 ⊢
  have T2 := T0.fr F2
  have A := T2.1.2
  unfold tkA at k
  refine ⟨fun c => ?_, fun c => nm_e ?_⟩
  · rw [j2, T2.2.1, jI_ltn (by omega) (by omega)] at c
    rw [if_neg (show ¬ tn ≤ q by omega)] at k
    obtain ⟨s8, f8⟩ := s80 (E := E) B T2 hn c
    obtain ⟨s9, f9⟩ := s81 (E := E) B T2 hn c
    refine ⟨by omega, by rw [j2]; exact s8, ?_⟩
    rw [j2, f8]
    refine ⟨fun ca => ⟨by omega, s9, ?_⟩, fun ca => ?_⟩
    · rw [if_neg ca] at k
      rw [f9]
      refine ⟨fun cd => ⟨x + 8 + 1, A.1, A.tb, A.inn (by omega) (by omega), nm_r (e' := zuI h2 (x + 8) 3 (jI ((if bt tb q = 59 then 3 else 0 : Nat) : Int))) ?_ (nm_r (e' := zuI (zuI h2 (x + 8) 3 (jI ((if bt tb q = 59 then 3 else 0 : Nat) : Int))) (x + 8) 2 (jI ((q + 1 : Nat) : Int))) ?_ ?_)⟩, fun cd => ?_⟩
      · rw [jI_cln (by omega), show x + 8 + 1 = x + 9 from rfl, T2.2.2 q c]
        have cc := cb_of B q
        have i59 : jI (cb tb q) = 59 ↔ bt tb q = 59 := by rw [show (59 : Int32) = jI ((59 : Nat) : Int) from rfl, jI_eq (by omega) (by omega) (by omega) (by omega), cb_E B q (by omega)]
        by_cases c59 : bt tb q = 59
        · rw [if_neg (fun q => q (i59.mpr c59)), if_pos c59]; rfl
        · rw [if_pos (fun q => c59 (i59.mp q)), if_neg c59]; rfl
      · rw [zI_offi (by omega), j2, show (1 : Int32) = jI 1 from rfl, jI_add]; rfl
      · rw [if_neg cd] at k
        exact k _ (Fr.uI (Fr.uI F2 (by unfold tp_St; omega)) (by unfold tp_St; omega)) ⟨by rw [zI_offi (by omega), zI_here], by rw [zI_offi (by omega), zI_offi (by omega)]; exact j4, by rw [zI_offi (by omega), zI_offi (by omega)]; exact j5, zI_here _ _ _ _⟩
      · rw [Classical.not_not] at cd
        rw [if_pos cd] at k
        exact ct_83 (by omega) B T2 hn hq j2 j4 j5 rfl (fun h3 F3 K3 => ⟨rfl, k h3 (F2.tr F3) K3⟩)
    · rw [Classical.not_not] at ca
      rw [if_pos ca] at k
      exact ct_82 (by omega) (Sc.tp hE F2) hE B T2 hn hq j2 j5 rfl (fun h3 F3 K3 => ⟨rfl, k h3 (F2.tr F3) K3⟩)
  · rw [j2, T2.2.1, jI_ltn (by omega) (by omega)] at c
    rw [if_pos (show tn ≤ q by omega)] at k
    exact k _ (Fr.uI F2 (by unfold tp_St; omega)) ⟨zI_here _ _ _ _, by rw [zI_offi (by omega)]; exact j4, by rw [zI_offi (by omega)]; exact j5, by rw [zI_offi (by omega)]; exact j2⟩
theorem l79 {h0 : ZH} {p0 : Nat} (hd : 9 ≤ d) (Sc : Stc E h0) (hE : E 0 ≤ x) (B : TpB tb) (T0 : TpD h0 x tn tb) (hn : tn ≤ 320) (k : ∀ h', Fr (tp_St x) h0 h' → TkC h' x (tk tb tn p0) → Q none h') : ∀ (r p : Nat) h1, p + r = tn → rn (isS tb) r p = tkS tb tn p0 → Fr (tp_St x) h0 h1 → zI h1 (x + 8) 2 = jI (p : Int) → wl_79_0 E d Q (r + 1) (x + 8) h1
  | 0, p, h1, e, hr, F1, i2 => by
    have T1 := T0.fr F1
    rw [wl_79_0]
    refine ⟨T1.1.1, fun _ => b79 (q := p) hd Sc hE B T0 hn (by omega) F1 i2 (fun h' F' K' => k h' F' ?_), fun c => ?_⟩
    · unfold tk
      rw [← hr]
      exact K'
    · exfalso
      apply c
      rw [T1.2.1, i2, jI_len (by omega) (by omega)]
      omega
  | r + 1, p, h1, e, hr, F1, i2 => by
    have T1 := T0.fr F1
    have A := T1.1.2
    have cc := cb_of B p
    rw [rn] at hr
    have i32 : jI (cb tb p) = 32 ↔ isS tb p = true := by
      rw [show (32 : Int32) = jI ((32 : Nat) : Int) from rfl, jI_eq (by omega) (by omega) (by omega) (by omega), cb_E B p (by omega)]
      unfold isS
      rw [decide_eq_true_iff]
    rw [wl_79_0]
    refine ⟨T1.1.1, fun c => ?_, fun _ => ⟨x + 8 + 1, A.1, A.tb, by rw [i2]; exact A.inn (by omega) (by omega), ?_⟩⟩
    · exfalso
      rw [T1.2.1, i2, jI_len (by omega) (by omega)] at c
      omega
    rw [i2, jI_cln (by omega), show x + 8 + 1 = x + 9 from rfl, T1.2.2 p (by omega), i32]
    refine ⟨fun c => ?_, fun c => ?_⟩
    · rw [if_neg c] at hr
      refine b79 (q := p) hd Sc hE B T0 hn (by omega) F1 i2 (fun h' F' K' => k h' F' ?_)
      unfold tk
      rw [← hr]
      exact K'
    · rw [Classical.not_not] at c
      rw [if_pos c] at hr
      exact nm_r (e' := zuI h1 (x + 8) 2 (jI ((p + 1 : Nat) : Int))) (by rw [show (1 : Int32) = jI 1 from rfl, jI_add]; rfl) (l79 hd Sc hE B T0 hn k r (p + 1) _ (by omega) hr (Fr.uI F1 (by unfold tp_St; omega)) (zI_here _ _ _ _))
theorem ct_79 {p : Nat} (hd : 10 ≤ d) (Sc : Stc E h) (hE : E 0 ≤ x) (B : TpB tb) (T : TpD h x tn tb) (hn : tn ≤ 320) (hp : p ≤ tn) (i2 : zI h (x + 8) 2 = jI (p : Int)) (k : ∀ h', Fr (tp_St x) h h' → TkC h' x (tk tb tn p) → Q none h') : Ct E d 79 [.ref (x + 8)] h Q := by
  obtain ⟨d, rfl⟩ : ∃ n, d = n + 1 := ⟨d - 1, by omega⟩
  exact ok_79 ⟨tn - p + 1, l79 (by omega) Sc hE B T hn k (tn - p) p h (by omega) rfl Fr.rf i2⟩
end TKE
