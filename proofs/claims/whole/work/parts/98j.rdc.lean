/-! THE READER, the class's: failing, marking, heads and ends of lines, names -/
theorem zst_3 : ∀ l, l < 17 → (zst 3).getD l 0 = jI (tmN l : Int) := by decide
theorem zst_4 : ∀ l, l < 17 → (zst 4).getD l 0 = jI (slN l : Int) := by decide
theorem zst_5 : ∀ l, l < 17 → (zst 5).getD l 0 = jI (loN l : Int) := by decide
theorem zst_6 : ∀ l, l < 17 → (zst 6).getD l 0 = jI (hiN l : Int) := by decide
section RDC
variable {E : Nat → Nat} {h : ZH} {x tn p d pl : Nat} {tb : Nat → Int32} {ln sl tm : Nat} {to : Nat → Bool} {t : Nat → Nat} {k : TkT} {Q : Option Value → ZH → Prop}
theorem Stc.tab (Sc : Stc E h) {j l : Nat} (h1 : 3 ≤ j) (h2 : j ≤ 6) (hl : l < 17) : (ztag h (E j) = 13 ∨ ztag h (E j) = 19) ∧ zin (jI (l : Int)) (zlen h (E j)) = true ∧ zI h (E j) l = (zst j).getD l 0 := by
  obtain ⟨-, a, b, c⟩ := Sc.1 j (by omega) (by omega)
  have e : (zst j).length = 17 := by
    have : j = 3 ∨ j = 4 ∨ j = 5 ∨ j = 6 := by omega
    rcases this with rfl | rfl | rfl | rfl <;> rfl
  rw [e] at b c
  exact ⟨Or.inr a, by rw [b]; exact zin_j (by omega) (by omega) (by omega), c l hl⟩
theorem XSh.rt (X : XSh h x) : zR h (x + 10) 0 = x + 8 + 1 := X.2.2.2.2.1.2.1
theorem XSh.rg (X : XSh h x) : zR h (x + 10) 1 = x + 11 + 1 := X.2.2.2.2.1.2.2
theorem XSh.t8 (X : XSh h x) : TSh h (x + 8) := X.2.2.2.1
theorem XSh.s11 (X : XSh h x) : PSh h (x + 11) := X.2.2.2.2.2.1
def fl_S (x : Nat) : Nat → Nat → Prop := fun a i => a = x + 10 ∧ 2 ≤ i ∧ i ≤ 4
def rc_S (x : Nat) : Nat → Nat → Prop := fun a i => (a = x + 10 ∧ 2 ≤ i ∧ i ≤ 7) ∨ a = x + 12
theorem fl_rc {h1 : ZH} (y : Fr (fl_S x) h h1) : Fr (rc_S x) h h1 := y.wd (fun a i q => by unfold fl_S at q; unfold rc_S; omega)
def FlC (h : ZH) (x c pl : Nat) : Prop := zI h (x + 10) 3 = jI (c : Int) ∧ zI h (x + 10) 4 = jI (pl : Int)
def lnI (ln : Nat) : Int32 := if ln = 17 then -4 else jI (ln : Int)
theorem lnI_n {l : Nat} (h : l ≤ 17) : lnI l = -4 ↔ l = 17 := by
  unfold lnI
  split
  · next c => exact ⟨fun _ => c, fun _ => rfl⟩
  · next c => rw [show (-4 : Int32) = jI (-4) from rfl, jI_eq (by omega) (by omega) (by omega) (by omega)]; omega
theorem lnI_e {l j : Nat} (h : l < 17) (hj : j < 100) : lnI l = jI (j : Int) ↔ l = j := by
  unfold lnI
  rw [if_neg (by omega), jI_eqn (by omega) (by omega)]
def RdC (h : ZH) (x ln sl tm : Nat) (to : Nat → Bool) (t : Nat → Nat) : Prop := zI h (x + 10) 3 = 0 ∧ zI h (x + 10) 5 = lnI ln ∧ (ln < 17 → zI h (x + 10) 6 = jI (sl : Int) ∧ zI h (x + 10) 7 = jI (tm : Int)) ∧ Tol (zI h (x + 10) 2) 26 to ∧ ∀ k, k < 39 → zI h (x + 12) k = jI (t k : Int)
def RdD (h : ZH) (x : Nat) (S : RdT) : Prop := RdC h x S.1 S.2.1 S.2.2.1 S.2.2.2.1 S.2.2.2.2
theorem ct_54 {c : Nat} (hd : 1 ≤ d) (X : XSh h x) (f0 : zI h (x + 10) 3 = 0) (i5 : zI h (x + 8) 5 = jI (pl : Int)) (q : ∀ h', Fr (fl_S x) h h' → FlC h' x c pl → Q none h') : Ct E d 54 [.ref (x + 10), .int (jI (c : Int))] h Q := by
  obtain ⟨d, rfl⟩ : ∃ n, d = n + 1 := ⟨d - 1, by omega⟩
  refine ok_54 ⟨X.t10, fun w => absurd f0 w, fun _ => nm_e ⟨x + 8, X.rt, X.t8.1, nm_e (q _ (Fr.uI (Fr.uI Fr.rf (by unfold fl_S; omega)) (by unfold fl_S; omega)) ⟨?_, ?_⟩)⟩⟩
  · rw [zI_offi (by omega), zI_here]
  · rw [zI_here, zI_offa (by omega), i5]
theorem ct_54' {c : Int32} (hd : 1 ≤ d) (X : XSh h x) (f0 : ¬ zI h (x + 10) 3 = 0) (q : Q none h) : Ct E d 54 [.ref (x + 10), .int c] h Q := by
  obtain ⟨d, rfl⟩ : ∃ n, d = n + 1 := ⟨d - 1, by omega⟩
  exact ok_54 ⟨X.t10, fun _ => q, fun w => absurd f0 w⟩
theorem ct_56 {b : Nat} (hd : 2 ≤ d) (hb : b < 26) (X : XSh h x) (f0 : zI h (x + 10) 3 = 0) (Tl : Tol (zI h (x + 10) 2) 26 to) (i5 : zI h (x + 8) 5 = jI (pl : Int)) (q4 : to b = true → ∀ h', Fr (fl_S x) h h' → FlC h' x 4 pl → Q none h') (q0 : ¬ to b = true → ∀ h', Fr (fun a i => a = x + 10 ∧ i = 2) h h' → Tol (zI h' (x + 10) 2) 26 (mkd to b) → Q none h') : Ct E d 56 [.ref (x + 10), .int (jI (b : Int))] h Q := by
  obtain ⟨d, rfl⟩ : ∃ n, d = n + 1 := ⟨d - 1, by omega⟩
  have T := Tl b hb
  refine ok_56 ⟨X.t10, fun w => ?_, fun w => ?_⟩
  · exact ⟨X.t10, nm_e (q0 (fun e => w (T.mpr e)) _ (Fr.uI Fr.rf ⟨rfl, rfl⟩) (by rw [zI_here]; exact tol_m (by omega) (by omega) Tl))⟩
  · rw [Classical.not_not] at w
    refine ct_54 (c := 4) (pl := pl) (by omega) X f0 i5 (fun h' F G => ⟨rfl, (X.fr F).t10, nm_e (q4 (T.mp w) _ (Fr.uI F (by unfold fl_S; omega)) ⟨?_, ?_⟩)⟩)
    · rw [zI_offi (by omega)]; exact G.1
    · rw [zI_offi (by omega)]; exact G.2
theorem FlC.kp {h1 : ZH} {c : Nat} {S : Nat → Nat → Prop} (G : FlC h x c pl) (y : Fr S h h1) (h3 : ¬ S (x + 10) 3) (h4 : ¬ S (x + 10) 4) : FlC h1 x c pl := ⟨by rw [y.I h3]; exact G.1, by rw [y.I h4]; exact G.2⟩
/-- the end of the head of a line -/
theorem b57 {l c : Nat} (X : XSh h x) (Sc : Stc E h) (hl : l < 17) (i5 : zI h (x + 10) 5 = jI (l : Int)) (i7 : zI h (x + 10) 7 = jI (tmN l : Int)) (q : ∀ h', Fr (fun a i => a = x + 12 ∧ i = tmN l) h h' → zI h' (x + 12) (tmN l) = (if slN l = 0 then 1 else zI h (x + 12) (tmN l)) → Q none h') : wb_57_44 E d Q (x + 10) h := by
  have A := Sc.tab (j := 4) (by omega) (by omega) hl
  have s4 := slN_b2 l hl
  have P := X.s11.2.1
  refine ⟨X.t10, A.1, by rw [i5]; exact A.2.1, ?_⟩
  rw [i5, jI_cln (by omega), A.2.2, zst_4 l hl]
  have z : (jI (slN l : Int) = 0 ↔ slN l = 0) := jI_eqn (b := 0) (by omega) (by omega)
  refine ⟨fun w => ?_, fun w => ?_⟩
  · exact q h Fr.rf (by rw [if_neg (fun e => w (z.mpr e))])
  · rw [Classical.not_not, z] at w
    have t20 : tmN l < 39 := by have := slN_b1 l hl w; rcases this with rfl | rfl <;> decide
    refine ⟨x + 11, X.rg, X.s11.1, x + 11 + 1, P.1, P.tg, by rw [i7]; exact P.inn (by omega) (by omega), nm_e (q _ (Fr.uI Fr.rf ⟨rfl, by rw [i7, jI_cln (by omega)]⟩) ?_)⟩
    rw [if_pos w, i7, jI_cln (by omega), zI_here]
theorem ct_57 (hd : 3 ≤ d) (X : XSh h x) (Sc : Stc E h) (hE : E 0 ≤ x) (R : RdC h x 17 sl tm to t) (T : TkC h x k) (O : TkO tn p k) (qF : ¬ (stN to t k).1 = 0 → ∀ h', Fr (rc_S x) h h' → FlC h' x (stN to t k).1 k.2.2.1 → Q none h') (qS : (stN to t k).1 = 0 → ∀ h', Fr (rc_S x) h h' → RdD h' x (stN to t k).2 → Q none h') : Ct E d 57 [.ref (x + 10)] h Q := by
  obtain ⟨d, rfl⟩ : ∃ n, d = n + 1 := ⟨d - 1, by omega⟩
  obtain ⟨f0, -, -, Tl, D⟩ := R
  have k1 : (jI (k.1 : Int) = 1 ↔ k.1 = 1) := jI_eqn (b := 1) (by have := O.1; omega) (by omega)
  unfold stN at qF qS
  refine ok_57 ⟨X.t10, x + 8, X.rt, X.t8.1, ?_⟩
  rw [T.1, k1]
  refine ⟨fun w => ?_, fun w => ?_⟩
  · rw [if_pos w] at qF
    exact ct_54 (c := 2) (by omega) X f0 T.2.2.1 (fun h' F G => ⟨rfl, qF (by omega) h' (fl_rc F) G⟩)
  rw [if_neg w] at qF qS
  rw [Classical.not_not] at w
  have O1 := O.2.1 w
  obtain ⟨v, hv⟩ : ∃ n : Nat, k.2.1 = (n : Int) := ⟨k.2.1.toNat, by omega⟩
  rw [hv, Int.toNat_natCast] at qF qS
  have t4 : zI h (x + 8) 4 = jI (v : Int) := by rw [T.2.1, hv]
  rw [t4]
  have z17 : (jI (v : Int) < 17 ↔ v < 17) := jI_ltn (b := 17) (by omega) (by omega)
  rw [z17]
  refine ⟨fun w17 => ?_, fun w17 => ?_⟩
  · rw [if_neg (show ¬ 17 ≤ v by omega)] at qF qS
    have A := Sc.tab (j := 3) (by omega) (by omega) w17
    have e3 : E 3 < E 0 := (Sc.1 3 (by omega) (by omega)).1
    have tm39 : ∀ l, l < 17 → tmN l < 39 := by decide
    have tm39 := tm39 v w17
    refine nm_e (nm_e ⟨A.1, by rw [zI_offi (by omega), zI_here]; exact A.2.1, nm_r (e' := zuI (zuI (zuI h (x + 10) 5 (jI (v : Int))) (x + 10) 6 0) (x + 10) 7 (jI (tmN v : Int))) ?_ ?_⟩)
    · rw [zI_offi (show 5 ≠ 6 by omega), zI_here, jI_cln (by omega), zI_offa (by omega), zI_offa (by omega), A.2.2, zst_3 v w17]
    have F1 : Fr (rc_S x) h (zuI (zuI (zuI h (x + 10) 5 (jI (v : Int))) (x + 10) 6 0) (x + 10) 7 (jI (tmN v : Int))) := Fr.uI (Fr.uI (Fr.uI Fr.rf (by unfold rc_S; omega)) (by unfold rc_S; omega)) (by unfold rc_S; omega)
    have F1' : Fr (fun a i => a = x + 10 ∧ 5 ≤ i ∧ i ≤ 7) h (zuI (zuI (zuI h (x + 10) 5 (jI (v : Int))) (x + 10) 6 0) (x + 10) 7 (jI (tmN v : Int))) := Fr.uI (Fr.uI (Fr.uI Fr.rf (by omega)) (by omega)) (by omega)
    have j5 : zI (zuI (zuI (zuI h (x + 10) 5 (jI (v : Int))) (x + 10) 6 0) (x + 10) 7 (jI (tmN v : Int))) (x + 10) 5 = jI (v : Int) := by rw [zI_offi (by omega), zI_offi (by omega), zI_here]
    have j6 : zI (zuI (zuI (zuI h (x + 10) 5 (jI (v : Int))) (x + 10) 6 0) (x + 10) 7 (jI (tmN v : Int))) (x + 10) 6 = jI ((0 : Nat) : Int) := by rw [zI_offi (by omega), zI_here]; rfl
    have j7 : zI (zuI (zuI (zuI h (x + 10) 5 (jI (v : Int))) (x + 10) 6 0) (x + 10) 7 (jI (tmN v : Int))) (x + 10) 7 = jI (tmN v : Int) := zI_here _ _ _ _
    generalize zuI (zuI (zuI h (x + 10) 5 (jI (v : Int))) (x + 10) 6 0) (x + 10) 7 (jI (tmN v : Int)) = h1 at F1 F1' j5 j6 j7 ⊢
    have X1 := X.fr F1
    have Sc1 : Stc E h1 := Sc.fr F1 (fun a i ha => by unfold rc_S; omega)
    have f1 : zI h1 (x + 10) 3 = 0 := by rw [F1'.I (by omega)]; exact f0
    have Tl1 : Tol (zI h1 (x + 10) 2) 26 to := by rw [F1'.I (by omega)]; exact Tl
    have D1 : ∀ k, k < 39 → zI h1 (x + 12) k = jI (t k : Int) := fun k hk => by rw [F1'.I (by omega)]; exact D k hk
    have p1 : zI h1 (x + 8) 5 = jI (k.2.2.1 : Int) := by rw [F1'.I (by omega)]; exact T.2.2.1
    have ln1 : lnI v = jI (v : Int) := by unfold lnI; rw [if_neg (by omega)]
    rw [j5]
    have no : (v = 12 ∨ v = 14 ∨ v = 15) → wb_57_44 E d Q (x + 10) h1 := fun c => by
      rw [if_pos c] at qS
      have s0 : ¬ slN v = 0 := by rcases c with rfl | rfl | rfl <;> decide
      refine b57 (c := 0) X1 Sc1 w17 j5 j7 (fun h2 F2 e2 => qS rfl h2 (F1.tr (F2.wd (fun a i q => by unfold rc_S; omega))) ⟨?_, ?_, fun _ => ⟨?_, ?_⟩, ?_, fun k hk => ?_⟩)
      · rw [F2.I (by omega)]; exact f1
      · rw [F2.I (by omega), j5]; exact ln1.symm
      · rw [F2.I (by omega)]; exact j6
      · rw [F2.I (by omega)]; exact j7
      · rw [F2.I (by omega)]; exact Tl1
      · show zI h2 (x + 12) k = jI (t k : Int)
        by_cases e : k = tmN v
        · rw [e, e2, if_neg s0]; exact D1 _ tm39
        · rw [F2.I (by omega)]; exact D1 k hk
    have i14 : (jI (v : Int) = 14 ↔ v = 14) := jI_eqn (b := 14) (by omega) (by omega)
    have i15 : (jI (v : Int) = 15 ↔ v = 15) := jI_eqn (b := 15) (by omega) (by omega)
    have i12 : (jI (v : Int) = 12 ↔ v = 12) := jI_eqn (b := 12) (by omega) (by omega)
    rw [i14, i15, i12]
    refine ⟨fun c => no (by omega), fun c14 => ⟨fun c => no (by omega), fun c15 => ⟨fun c => no (by omega), fun c12 => ?_⟩⟩⟩
    rw [if_neg (show ¬ (v = 12 ∨ v = 14 ∨ v = 15) by omega)] at qF qS
    refine ct_56 (by omega) (by omega) X1 f1 Tl1 p1 (fun c h2 F2 G2 => ⟨rfl, ?_⟩) (fun c h2 F2 T2 => ⟨rfl, ?_⟩)
    · rw [if_pos c] at qF
      refine b57 (c := 0) (X1.fr F2) (Sc1.fr F2 (fun a i ha => by unfold fl_S; omega)) w17 (by rw [F2.I (by unfold fl_S; omega)]; exact j5) (by rw [F2.I (by unfold fl_S; omega)]; exact j7) (fun h3 F3 e3 => qF (by show ¬ 4 = 0; omega) h3 ((F1.tr (fl_rc F2)).tr (F3.wd (fun a i q => by unfold rc_S; omega))) (G2.kp F3 (by omega) (by omega)))
    · rw [if_neg c] at qS
      refine b57 (c := 0) (X1.fr F2) (Sc1.fr F2 (fun a i ha => by omega)) w17 (by rw [F2.I (by omega)]; exact j5) (by rw [F2.I (by omega)]; exact j7) (fun h3 F3 e3 => qS rfl h3 ((F1.tr (F2.wd (fun a i q => by unfold rc_S; omega))).tr (F3.wd (fun a i q => by unfold rc_S; omega))) ⟨?_, ?_, fun _ => ⟨?_, ?_⟩, ?_, fun k hk => ?_⟩)
      · rw [F3.I (by omega), F2.I (by omega)]; exact f1
      · rw [F3.I (by omega), F2.I (by omega), j5]; exact ln1.symm
      · rw [F3.I (by omega), F2.I (by omega)]; exact j6
      · rw [F3.I (by omega), F2.I (by omega)]; exact j7
      · rw [F3.I (by omega)]; exact T2
      · show zI h3 (x + 12) k = jI (((if slN v = 0 then upt t (tmN v) 1 else t) k : Nat) : Int)
        by_cases e : k = tmN v
        · rw [e, e3, F2.I (by omega), D1 _ tm39]
          split
          · rw [upt_e]; rfl
          · rfl
        · rw [F3.I (by omega), F2.I (by omega), D1 k hk]
          split
          · rw [upt_n e]
          · rfl
  · rw [if_pos (show 17 ≤ v by omega)] at qF
    exact ct_54 (c := 2) (by omega) X f0 T.2.2.1 (fun h' F G => ⟨rfl, qF (by show ¬ 2 = 0; omega) h' (fl_rc F) G⟩)
theorem ct_58 (hd : 2 ≤ d) (X : XSh h x) (R : RdC h x ln sl tm to t) (T : TkC h x k) (O : TkO tn p k) (qF : ¬ (stE sl tm to t k).1 = 0 → ∀ h', Fr (rc_S x) h h' → FlC h' x (stE sl tm to t k).1 k.2.2.1 → Q none h') (qS : (stE sl tm to t k).1 = 0 → ∀ h', Fr (rc_S x) h h' → RdD h' x (stE sl tm to t k).2 → Q none h') : Ct E d 58 [.ref (x + 10)] h Q := by
  obtain ⟨d, rfl⟩ : ∃ n, d = n + 1 := ⟨d - 1, by omega⟩
  obtain ⟨f0, -, -, Tl, D⟩ := R
  have k1 : (jI (k.1 : Int) = 3 ↔ k.1 = 3) := jI_eqn (b := 3) (by have := O.1; omega) (by omega)
  unfold stE at qF qS
  refine ok_58 ⟨X.t10, x + 8, X.rt, X.t8.1, ?_⟩
  rw [T.1, k1]
  refine ⟨fun w => ?_, fun w => ?_⟩
  · rw [if_neg (fun q => q w)] at qS
    refine ⟨X.t10, nm_e (qS rfl _ (Fr.uI Fr.rf (by unfold rc_S; omega)) ⟨?_, ?_, fun q => absurd (show 17 < 17 from q) (by omega), ?_, fun k hk => ?_⟩)⟩
    · rw [zI_offi (by omega)]; exact f0
    · rw [zI_here]; rfl
    · rw [zI_offi (by omega)]; exact Tl
    · rw [zI_offa (by omega)]; exact D k hk
  · rw [if_pos w] at qF
    refine ct_54 (c := 2) (by omega) X f0 T.2.2.1 (fun h' F G => ⟨rfl, (X.fr F).t10, nm_e (qF (by show ¬ 2 = 0; omega) _ (Fr.uI (fl_rc F) (by unfold rc_S; omega)) ⟨?_, ?_⟩)⟩)
    · rw [zI_offi (by omega)]; exact G.1
    · rw [zI_offi (by omega)]; exact G.2
end RDC
