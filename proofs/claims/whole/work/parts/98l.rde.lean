/-! THE READER, the class's: numbers, a token, the lines -/
theorem hgT_b : ∀ k, k < 39 → hgT k ≤ 100 := by decide
theorem tmN_39 : ∀ l, l < 17 → ¬ (l = 14 ∨ l = 15) → tmN l + slN l < 39 := by decide
section RDG
variable {E : Nat → Nat} {h : ZH} {x tn p d pl : Nat} {tb : Nat → Int32} {ln sl tm : Nat} {to : Nat → Bool} {t : Nat → Nat} {k : TkT} {Q : Option Value → ZH → Prop}
theorem rdo_b (R : RdO ln sl tm to t) {k : Nat} (hk : k < 39) : t k ≤ 100 := Nat.le_trans (R.2.2.2.2.2.1 k hk).2 (hgT_b k hk)
theorem rdo_tm (R : RdO ln sl tm to t) (hl : ln < 17) (h8 : ¬ ln = 8) (h12 : ¬ ln = 12) (hs : ¬ sl = slN ln) : tm < 39 := by
  obtain ⟨-, s1, m0, m1, m2, -⟩ := R
  have s1 := s1 hl
  by_cases c14 : ln = 14
  · subst c14
    have m1 := m1 rfl
    have : slN 14 = 2 := rfl
    omega
  by_cases c15 : ln = 15
  · subst c15
    have m2 := m2 rfl
    have : slN 15 = 4 := rfl
    omega
  have := tmN_39 ln hl (by omega)
  have := m0 hl c14 c15 h8 h12
  omega
theorem b93F {h1 : ZH} {c : Nat} (X1 : XSh h1 x) (F : Fr (rc_S x) h h1) (G : FlC h1 x c pl) (q : ∀ h', Fr (rc_S x) h h' → FlC h' x c pl → Q none h') : wb_62_93 E d Q (x + 10) h1 := ⟨X1.t10, nm_e (q _ (Fr.uI F (by unfold rc_S; omega)) ⟨by rw [zI_offi (by omega)]; exact G.1, by rw [zI_offi (by omega)]; exact G.2⟩)⟩
theorem b93S {h1 : ZH} (X1 : XSh h1 x) (F : Fr (rc_S x) h h1) (hl : ln < 17) (R : RdC h1 x ln sl tm to t) (q : ∀ h', Fr (rc_S x) h h' → RdC h' x ln (sl + 1) tm to t → Q none h') : wb_62_93 E d Q (x + 10) h1 := by
  obtain ⟨f0, i5, i67, Tl, D⟩ := R
  obtain ⟨i6, i7⟩ := i67 hl
  refine ⟨X1.t10, nm_r (e' := zuI h1 (x + 10) 6 (jI ((sl + 1 : Nat) : Int))) (by rw [i6, show (1 : Int32) = jI 1 from rfl, jI_add]; rfl) (q _ (Fr.uI F (by unfold rc_S; omega)) ⟨?_, ?_, fun _ => ⟨?_, ?_⟩, ?_, fun k hk => ?_⟩)⟩
  · rw [zI_offi (by omega)]; exact f0
  · rw [zI_offi (by omega)]; exact i5
  · rw [zI_here]
  · rw [zI_offi (by omega)]; exact i7
  · rw [zI_offi (by omega)]; exact Tl
  · rw [zI_offa (by omega)]; exact D k hk
theorem ct_62w (hd : 4 ≤ d) (X : XSh h x) (hl : ln = 14 ∨ ln = 15) (R : RdC h x ln 0 tm to t) (T : TkC h x k) (O : TkO tn p k) (qF : ¬ (stW ln tm to t k).1 = 0 → ∀ h', Fr (rc_S x) h h' → FlC h' x (stW ln tm to t k).1 k.2.2.1 → Q none h') (qS : (stW ln tm to t k).1 = 0 → ∀ h', Fr (rc_S x) h h' → RdD h' x (stW ln tm to t k).2 → Q none h') : Ct E d 62 [.ref (x + 10)] h Q := by
  obtain ⟨d, rfl⟩ : ∃ n, d = n + 1 := ⟨d - 1, by omega⟩
  have R' := R
  obtain ⟨f0, i5, i67, Tl, D⟩ := R
  obtain ⟨i6, i7⟩ := i67 (by omega)
  have l14 : (zI h (x + 10) 5 = 14 ↔ ln = 14) := by rw [i5]; exact lnI_e (j := 14) (by omega) (by omega)
  have l15 : (zI h (x + 10) 5 = 15 ↔ ln = 15) := by rw [i5]; exact lnI_e (j := 15) (by omega) (by omega)
  have l3 : (zI h (x + 10) 5 = 3 ↔ ln = 3) := by rw [i5]; exact lnI_e (j := 3) (by omega) (by omega)
  have k1 : (zI h (x + 8) 3 = 2 ↔ k.1 = 2) := by rw [T.1]; exact jI_eqn (b := 2) (by have := O.1; omega) (by omega)
  unfold stW at qF qS
  refine ok_62 ⟨X.t10, nm_r (e' := (1 : Int32)) ?_ ⟨⟨fun q => absurd q (by decide), fun _ => trivial⟩, nm_e ⟨⟨fun q => absurd q (by decide), fun _ => trivial⟩, nm_e ⟨⟨fun _ => trivial, fun q => absurd (l3.mp (Classical.not_not.mp q)) (by omega)⟩, x + 8, X.rt, X.t8.1, ?_⟩⟩⟩⟩
  · rw [if_neg (fun q => q (show zI h (x + 10) 6 = 0 from i6))]
    rcases hl with c | c
    · rw [if_pos (l14.mpr c)]
    · rw [if_neg (fun q => absurd (l14.mp q) (by omega)), if_neg (fun q => q (l15.mpr c))]
  rw [if_pos (show ¬ zI h (x + 10) 5 = 3 from fun q => absurd (l3.mp q) (by omega)), if_neg (show ¬ (1 : Int32) = 0 by decide), if_neg (show ¬ (1 : Int32) = 0 by decide)]
  refine ⟨fun w => ?_, fun w => ?_⟩
  · rw [k1] at w
    rw [if_neg (fun q => q w)] at qF qS
    have O2 := O.2.2.1 w
    obtain ⟨v, hv⟩ : ∃ n : Nat, k.2.1 = (n : Int) := ⟨k.2.1.toNat, by omega⟩
    rw [hv, Int.toNat_natCast] at qF qS
    have T4 : zI h (x + 8) 4 = jI (v : Int) := by rw [T.2.1, hv]
    rw [T4]
    refine ⟨fun q => absurd q ?_, fun _ => ⟨fun c => ?_, fun c => ?_⟩⟩
    · rw [show (0 : Int32) = jI ((0 : Nat) : Int) from rfl, jI_ltn (by omega) (by omega)]; omega
    · rw [show (2 : Int32) = jI ((2 : Nat) : Int) from rfl, jI_ltn (by omega) (by omega)] at c
      rw [if_pos c] at qF
      exact ct_54 (c := 3) (by omega) X f0 T.2.2.1 (fun h' F G => ⟨rfl, b93F (X.fr F) (fl_rc F) G (qF (by show ¬ 3 = 0; omega))⟩)
    · rw [show (2 : Int32) = jI ((2 : Nat) : Int) from rfl, jI_ltn (by omega) (by omega)] at c
      rw [if_neg c] at qF qS
      have n63 : (if ¬ (zI h (x + 10) 5 : Int32) = 15 then (0 : Int32) else if ¬ (zI h (x + 10) 6 : Int32) = 3 then 0 else 1) = 0 := by
        split
        · rfl
        · rw [if_pos (by rw [i6]; decide)]
      refine ⟨by omega, ⟨X.t10, nm_r (e' := (0 : Int32)) n63 ⟨⟨fun _ => trivial, fun q => absurd rfl q⟩, trivial⟩⟩, fun _ => ⟨fun q => absurd q (by decide), fun _ => ?_⟩, fun q => ?_⟩
      · refine ct_64 (by omega) X hl R' (by omega) T4 T.2.2.1 (fun e h1 F1 G1 => ⟨rfl, ?_⟩) (fun e h1 F1 R1 => ⟨rfl, ?_⟩)
        · rw [if_pos e] at qF
          exact b93F (X.fr F1) F1 G1 (qF (by show ¬ 4 = 0; omega))
        · rw [if_neg e] at qS
          exact b93S (X.fr F1) F1 (by omega) R1 (qS rfl)
      · rw [Classical.not_not] at q
        have e : fz_63 E h (x + 10) = 1 := by
          unfold fz_63
          dsimp only
          rw [if_pos n63]
        rw [e] at q
        exact absurd q (by decide)
  · rw [k1] at w
    rw [if_pos w] at qF
    exact ct_54 (c := 2) (by omega) X f0 T.2.2.1 (fun h' F G => ⟨rfl, b93F (X.fr F) (fl_rc F) G (qF (by show ¬ 2 = 0; omega))⟩)
theorem ct_62v (hd : 4 ≤ d) (X : XSh h x) (Sc : Stc E h) (hE : E 0 ≤ x) (hl : ln < 17) (h8 : ¬ ln = 8) (h12 : ¬ ln = 12) (hs : ¬ sl = slN ln) (hw : ¬ (sl = 0 ∧ (ln = 14 ∨ ln = 15))) (K : RdO ln sl tm to t) (R : RdC h x ln sl tm to t) (T : TkC h x k) (O : TkO tn p k) (qF : ¬ (stV ln sl tm to t k).1 = 0 → ∀ h', Fr (rc_S x) h h' → FlC h' x (stV ln sl tm to t k).1 k.2.2.1 → Q none h') (qS : (stV ln sl tm to t k).1 = 0 → ∀ h', Fr (rc_S x) h h' → RdD h' x (stV ln sl tm to t k).2 → Q none h') : Ct E d 62 [.ref (x + 10)] h Q := by
  obtain ⟨d, rfl⟩ : ∃ n, d = n + 1 := ⟨d - 1, by omega⟩
  have R' := R
  obtain ⟨f0, i5, i67, Tl, D⟩ := R
  obtain ⟨i6, i7⟩ := i67 hl
  have tm39 := rdo_tm K hl h8 h12 hs
  have sl4 : sl ≤ 4 := Nat.le_trans (K.2.1 hl) (slN_b2 ln hl)
  have P := X.s11.2.1
  have l14 : (zI h (x + 10) 5 = 14 ↔ ln = 14) := by rw [i5]; exact lnI_e (j := 14) (by omega) (by omega)
  have l15 : (zI h (x + 10) 5 = 15 ↔ ln = 15) := by rw [i5]; exact lnI_e (j := 15) (by omega) (by omega)
  have l3 : (zI h (x + 10) 5 = 3 ↔ ln = 3) := by rw [i5]; exact lnI_e (j := 3) (by omega) (by omega)
  have s0 : (zI h (x + 10) 6 = 0 ↔ sl = 0) := by rw [i6]; exact jI_eqn (b := 0) (by omega) (by omega)
  have s1 : (zI h (x + 10) 6 = 1 ↔ sl = 1) := by rw [i6]; exact jI_eqn (b := 1) (by omega) (by omega)
  have s3 : (zI h (x + 10) 6 = 3 ↔ sl = 3) := by rw [i6]; exact jI_eqn (b := 3) (by omega) (by omega)
  have k1 : (zI h (x + 8) 3 = 2 ↔ k.1 = 2) := by rw [T.1]; exact jI_eqn (b := 2) (by have := O.1; omega) (by omega)
  have li : zI h (x + 10) 5 = jI (ln : Int) := by rw [i5]; unfold lnI; rw [if_neg (by omega)]
  have A5 := Sc.tab (j := 5) (by omega) (by omega) hl
  have A6 := Sc.tab (j := 6) (by omega) (by omega) hl
  have dr : zR h (x + 10) 1 - 1 = x + 11 := by rw [X.rg]; rfl
  unfold stV at qF qS
  refine ok_62 ⟨X.t10, nm_r (e' := (0 : Int32)) ?_ ⟨⟨fun _ => ⟨A6.1, by rw [li]; exact A6.2.1, trivial⟩, fun q => absurd rfl q⟩, nm_r (e' := jI (hiN ln : Int)) ?_ ⟨⟨fun _ => ⟨A5.1, by rw [li]; exact A5.2.1, trivial⟩, fun q => absurd rfl q⟩, nm_r (e' := jI (loN ln : Int)) ?_ ⟨⟨fun _ => trivial, fun q => ⟨⟨fun _ => trivial, fun q => ?_⟩, trivial⟩⟩, x + 8, X.rt, X.t8.1, ?_⟩⟩⟩⟩
  · by_cases c : sl = 0
    · rw [if_neg (fun q => q (s0.mpr c)), if_neg (fun q => hw ⟨c, Or.inl (l14.mp q)⟩), if_pos (fun q => hw ⟨c, Or.inr (l15.mp q)⟩)]
    · rw [if_pos (fun q => c (s0.mp q))]
  · rw [if_pos rfl, li, jI_cln (by omega), A6.2.2, zst_6 ln hl]
  · rw [if_pos rfl, li, jI_cln (by omega), A5.2.2, zst_5 ln hl]
  · rw [dr, P.sub]
    exact ⟨by rw [X.rg]; omega, X.s11.1, P.ne, P.ti, P.inn (a := 3) (by omega) (by omega), trivial⟩
  have elo : (if ¬ (zI h (x + 10) 5 : Int32) = 3 then jI (loN ln : Int) else if ¬ (zI h (x + 10) 6 : Int32) = 1 then jI (loN ln : Int) else zI h (zR h (zR h (x + 10) 1 - 1) 0 - 1) 3 : Int32) = jI ((if ln = 3 ∧ sl = 1 then t 3 else loN ln : Nat) : Int) := by
    by_cases c3 : ln = 3
    · rw [if_neg (fun q => q (l3.mpr c3))]
      by_cases c1 : sl = 1
      · rw [if_neg (fun q => q (s1.mpr c1)), if_pos ⟨c3, c1⟩, dr, P.sub, show x + 11 + 1 = x + 12 from rfl, D 3 (by omega)]
      · rw [if_pos (fun q => c1 (s1.mp q)), if_neg (fun q => c1 q.2)]
    · rw [if_pos (fun q => c3 (l3.mp q)), if_neg (fun q => c3 q.1)]
  have blo : (if ln = 3 ∧ sl = 1 then t 3 else loN ln) ≤ 100 := by
    split
    · exact rdo_b K (by omega)
    · have : ∀ l, l < 17 → loN l ≤ 100 := by decide
      exact this ln hl
  have bhi : hiN ln ≤ 100 := by
    have : ∀ l, l < 17 → hiN l ≤ 100 := by decide
    exact this ln hl
  rw [elo]
  generalize (if ln = 3 ∧ sl = 1 then t 3 else loN ln) = lo at qF qS blo ⊢
  refine ⟨fun w => ?_, fun w => ?_⟩
  · rw [k1] at w
    rw [if_neg (fun q => q w)] at qF qS
    have O2 := O.2.2.1 w
    obtain ⟨v, hv⟩ : ∃ n : Nat, k.2.1 = (n : Int) := ⟨k.2.1.toNat, by omega⟩
    rw [hv, Int.toNat_natCast] at qF qS
    have T4 : zI h (x + 8) 4 = jI (v : Int) := by rw [T.2.1, hv]
    rw [T4, jI_ltn (by omega) (by omega), jI_ltn (by omega) (by omega)]
    refine ⟨fun c => ?_, fun c => ⟨fun c2 => ?_, fun c2 => ?_⟩⟩
    · rw [if_pos (Or.inl c)] at qF
      exact ct_54 (c := 3) (by omega) X f0 T.2.2.1 (fun h' F G => ⟨rfl, b93F (X.fr F) (fl_rc F) G (qF (by show ¬ 3 = 0; omega))⟩)
    · rw [if_pos (Or.inr c2)] at qF
      exact ct_54 (c := 3) (by omega) X f0 T.2.2.1 (fun h' F G => ⟨rfl, b93F (X.fr F) (fl_rc F) G (qF (by show ¬ 3 = 0; omega))⟩)
    · rw [if_neg (show ¬ (v < lo ∨ hiN ln < v) by omega)] at qF qS
      have n63 : (if ¬ (zI h (x + 10) 5 : Int32) = 15 then (0 : Int32) else if ¬ (zI h (x + 10) 6 : Int32) = 3 then 0 else 1) = if ln = 15 ∧ sl = 3 then 1 else 0 := by
        by_cases c15 : ln = 15
        · rw [if_neg (fun q => q (l15.mpr c15))]
          by_cases c3 : sl = 3
          · rw [if_neg (fun q => q (s3.mpr c3)), if_pos ⟨c15, c3⟩]
          · rw [if_pos (fun q => c3 (s3.mp q)), if_neg (fun q => c3 q.2)]
        · rw [if_pos (fun q => c15 (l15.mp q)), if_neg (fun q => c15 q.1)]
      have r8 : zR h (x + 10) 0 - 1 = x + 8 := by rw [X.rt]; rfl
      have tml : ln = 15 ∧ sl = 3 → 2 ≤ tm := fun q => by
        have := (K.2.2.2.2.1 q.1).2 (by omega) (by omega)
        omega
      have j2 : ln = 15 ∧ sl = 3 → zI h (x + 10) 7 - 2 = jI ((tm - 2 : Nat) : Int) ∧ zI h (x + 10) 7 - 1 = jI ((tm - 1 : Nat) : Int) := fun q => by
        have := tml q
        rw [i7, show (2 : Int32) = jI 2 from rfl, show (1 : Int32) = jI 1 from rfl, jI_sub, jI_sub, show (tm : Int) - 2 = ((tm - 2 : Nat) : Int) by omega, show (tm : Int) - 1 = ((tm - 1 : Nat) : Int) by omega]
        exact ⟨rfl, rfl⟩
      have z63 : fz_63 E h (x + 10) = 0 ↔ (ln = 15 ∧ sl = 3 ∧ ¬ t (tm - 2) + t (tm - 1) + v = 4) := by
        unfold fz_63
        dsimp only
        rw [n63]
        by_cases c15 : ln = 15 ∧ sl = 3
        · have j2 := j2 c15
          have t2 := tml c15
          rw [if_pos c15, if_neg (show ¬ (1 : Int32) = 0 by decide), dr, P.sub, j2.1, j2.2, r8, T4, jI_cln (by omega), jI_cln (by omega), show x + 11 + 1 = x + 12 from rfl, D _ (by omega), D _ (by omega), jI_add, jI_add]
          have b1 := rdo_b K (show tm - 2 < 39 by omega)
          have b2 := rdo_b K (show tm - 1 < 39 by omega)
          have i4 : jI ((t (tm - 2) : Int) + (t (tm - 1) : Int) + (v : Int)) = 4 ↔ t (tm - 2) + t (tm - 1) + v = 4 := by
            rw [show (4 : Int32) = jI 4 from rfl, jI_eq (by omega) (by omega) (by omega) (by omega)]
            omega
          by_cases c4 : t (tm - 2) + t (tm - 1) + v = 4
          · rw [if_neg (fun q => q (i4.mpr c4))]
            exact ⟨fun q => absurd q (by decide), fun q => absurd c4 q.2.2⟩
          · rw [if_pos (fun q => c4 (i4.mp q))]
            exact ⟨fun _ => ⟨c15.1, c15.2, c4⟩, fun _ => rfl⟩
        · rw [if_neg c15, if_pos rfl]
          exact ⟨fun q => absurd q (by decide), fun q => absurd ⟨q.1, q.2.1⟩ c15⟩
      refine ⟨by omega, ⟨X.t10, nm_r (e' := if ln = 15 ∧ sl = 3 then (1 : Int32) else 0) n63 ⟨⟨fun _ => trivial, fun q => ?_⟩, trivial⟩⟩, fun q => ⟨fun _ => ?_, fun q => absurd rfl q⟩, fun q => ?_⟩
      · have c15 : ln = 15 ∧ sl = 3 := by
          apply Classical.byContradiction
          intro q'
          rw [if_neg q'] at q
          exact q rfl
        have j2 := j2 c15
        have t2 := tml c15
        rw [dr, P.sub, j2.1, j2.2, r8]
        exact ⟨by rw [X.rg]; omega, X.s11.1, P.ne, P.ti, P.inn (by omega) (by omega), by rw [X.rg]; omega, P.ne, P.inn (by omega) (by omega), by rw [X.rt]; omega, X.t8.1, trivial⟩
      · rw [z63] at q
        rw [if_neg q] at qS
        refine ⟨x + 11, X.rg, X.s11.1, x + 11 + 1, P.1, P.tg, by rw [i7]; exact P.inn (by omega) (by omega), nm_r (e' := zuI h (x + 12) tm (jI (v : Int))) ?_ (nm_r (e' := zuI (zuI h (x + 12) tm (jI (v : Int))) (x + 10) 7 (jI ((tm + 1 : Nat) : Int))) ?_ (b93S (X.fr (Fr.uI (Fr.uI (Fr.rf (S := rc_S x)) (by unfold rc_S; omega)) (by unfold rc_S; omega))) (Fr.uI (Fr.uI Fr.rf (by unfold rc_S; omega)) (by unfold rc_S; omega)) hl ⟨?_, ?_, fun _ => ⟨?_, ?_⟩, ?_, fun k hk => ?_⟩ (qS rfl)))⟩
        · rw [i7, jI_cln (by omega)]
        · rw [zI_offa (by omega), i7, show (1 : Int32) = jI 1 from rfl, jI_add]; rfl
        · rw [zI_offi (by omega), zI_offa (by omega)]; exact f0
        · rw [zI_offi (by omega), zI_offa (by omega)]; exact i5
        · rw [zI_offi (by omega), zI_offa (by omega)]; exact i6
        · rw [zI_here]
        · rw [zI_offi (by omega), zI_offa (by omega)]; exact Tl
        · show _ = jI ((upt t tm v k : Nat) : Int)
          rw [zI_offa (by omega)]
          by_cases e : k = tm
          · rw [e, upt_e, zI_here]
          · rw [upt_n e, zI_offi e]; exact D k hk
      · rw [Classical.not_not, z63] at q
        rw [if_pos q] at qF
        exact ct_54 (c := 3) (by omega) X f0 T.2.2.1 (fun h' F G => ⟨rfl, b93F (X.fr F) (fl_rc F) G (qF (by show ¬ 3 = 0; omega))⟩)
  · rw [k1] at w
    rw [if_pos w] at qF
    exact ct_54 (c := 2) (by omega) X f0 T.2.2.1 (fun h' F G => ⟨rfl, b93F (X.fr F) (fl_rc F) G (qF (by show ¬ 2 = 0; omega))⟩)
end RDG
