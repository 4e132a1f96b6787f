/-! THE CLASS'S PAGE: copies -/
section PGO
variable {E : Nat → Nat} {d : Nat} {p : Nat} {t u : Nat → Nat} {Q : Option Value → ZH → Prop}
def tp_S33 (p : Nat) : Nat → Nat → Prop := fun a i => (a = p ∧ i = 6) ∨ a = p + 2 ∨ a = p + 3 ∨ a = p + 4 ∨ a = p + 5 ∨ a = p + 6
theorem l33 {h0 : ZH} (hd : 8 ≤ d) (ok : tp_Ok t) (q : ∀ h', PgR h' p t (fun _ => 3) → Fr (tp_S33 p) h0 h' → Q none h') : ∀ n i h, i + n = 20 → PSh h p → (∀ k, k < 39 → zI h (p + 1) k = jI (t k : Int)) → (∀ k, k < i → zI h (p + 2) k = jI (-4)) → Fr (tp_S33 p) h0 h → wl_33_2 E d Q (n + 1) p (jI (i : Int)) h
  | 0, i, h, e, S, Pt, Iu, If => by
    rw [wl_33_2]
    refine ⟨fun _ => ⟨S.1, ?_⟩, fun c => ?_⟩
    · have e2 : i = 20 := by omega
      subst e2
      refine ct_34 (u := fun _ => 3) (by omega) ok (fun _ => Nat.le_refl _) ⟨S, Pt, fun k hk => ?_⟩ (fun h' hP hF => ⟨rfl, q h' hP (If.tr (hF.wd ?_))⟩)
      · rw [Iu k hk]
        rfl
      · intro a i ha
        unfold tp_S34 at ha
        unfold tp_S33
        omega
    · exfalso
      rw [show (20 : Int32) = jI 20 from rfl, jI_le (by omega) (by omega) (by omega) (by omega)] at c
      omega
  | n + 1, i, h, e, S, Pt, Iu, If => by
    have S' := S
    obtain ⟨S0, S1, S2, S3, S4, S5, S6⟩ := S
    rw [wl_33_2]
    refine ⟨fun c => ?_, fun _ => ⟨S0, p + 2, S2.1, S2.tg, S2.inn (by omega) (by omega), nm_r (e' := zuI h (p + 2) i (jI (-4))) (by rw [jI_cln (by omega)]; rfl) (nm_r (e' := jI ((i + 1 : Nat) : Int)) (by rw [show (1 : Int32) = jI 1 from rfl, jI_add]; rfl) ?_)⟩⟩
    · exfalso
      rw [show (20 : Int32) = jI 20 from rfl, jI_le (by omega) (by omega) (by omega) (by omega)] at c
      omega
    · have fr1 : Fr (tp_S33 p) h (zuI h (p + 2) i (jI (-4))) := Fr.uI Fr.rf (by unfold tp_S33; omega)
      refine l33 hd ok q n (i + 1) _ (by omega) (S'.fr fr1) (fun k hk => ?_) (fun k hk => ?_) (If.tr fr1)
      · rw [zI_offa (by omega : p + 1 ≠ p + 2)]
        exact Pt k hk
      · by_cases c : k = i
        · subst c
          rw [zI_here]
        · rw [zI_offi c]
          exact Iu k (by omega)
theorem ct_33 {h : ZH} (hd : 9 ≤ d) (ok : tp_Ok t) (S : PSh h p) (Pt : ∀ k, k < 39 → zI h (p + 1) k = jI (t k : Int)) (q : ∀ h', PgR h' p t (fun _ => 3) → Fr (tp_S33 p) h h' → Q none h') : Ct E d 33 [.ref p] h Q := by
  obtain ⟨d, rfl⟩ : ∃ n, d = n + 1 := ⟨d - 1, by omega⟩
  refine ok_33 ?_
  exact ⟨21, l33 (by omega) ok q 20 0 h (by omega) S Pt (fun k hk => by omega) Fr.rf⟩
/-- the terms that a page has at first -/
def tp_t0 (k : Nat) : Nat := [2, 4, 8, 0, 3, 80, 20, 0, 0, 0, 0, 0, 0, 0, 10, 1, 0, 0, 0, 0, 15, 20, 30, 0, 0, 0, 0, 0, 0, 0, 2, 1, 1, 1, 2, 1, 1, 1, 2].getD k 0
theorem tp_t0_ok : tp_Ok tp_t0 := by
  unfold tp_Ok
  refine ⟨by decide, by decide, by decide, by decide, by decide, by decide, by decide, by decide, by decide, by decide, by decide, by decide, by decide, by decide, by decide, by decide, by decide⟩
theorem tp_t0_st : ∀ k, k < 39 → (zst 1).getD k 0 = jI (tp_t0 k : Int) := by decide
theorem ct_30 {h : ZH} (hd : 5 ≤ d) (S : PSh h p) (X : Stc E h) (q : ∀ h', Fr (fun a _ => a = p + 1) h h' → (∀ k, k < 39 → zI h' (p + 1) k = jI (tp_t0 k : Int)) → Q none h') : Ct E d 30 [.ref p] h Q := by
  obtain ⟨d, rfl⟩ : ∃ n, d = n + 1 := ⟨d - 1, by omega⟩
  refine ok_30 ?_
  obtain ⟨S0, S1, -⟩ := S
  obtain ⟨x1, x2, x3, x4⟩ := X.1 1 (by omega) (by omega)
  have x3' : zlen h (E 1) = 39 := x3
  refine ⟨S0, p + 1, S1.1, ⟨by omega, S1.tg, Or.inr x2, by rw [x3']; exact Nat.le_refl _, by rw [S1.2.2]; exact Nat.le_refl _⟩, nm_e (q _ (Fr.uA Fr.rf (fun _ => rfl)) (fun k hk => ?_))⟩
  rw [zI_hereA]
  unfold zcpy
  rw [if_pos (by omega), Nat.zero_add, Nat.sub_zero, x4 k hk]
  exact tp_t0_st k hk
theorem ct_31 {h : ZH} {r : Nat} (hd : 5 ≤ d) (S : PSh h p) (S' : PSh h r) (Pt : ∀ k, k < 39 → zI h (r + 1) k = jI (t k : Int)) (q : ∀ h', Fr (fun a _ => a = p + 1) h h' → (∀ k, k < 39 → zI h' (p + 1) k = jI (t k : Int)) → Q none h') : Ct E d 31 [.ref p, .ref r] h Q := by
  obtain ⟨d, rfl⟩ : ∃ n, d = n + 1 := ⟨d - 1, by omega⟩
  refine ok_31 ?_
  obtain ⟨S0, S1, -⟩ := S
  obtain ⟨T0, T1, -⟩ := S'
  refine ⟨T0, r + 1, T1.1, S0, p + 1, S1.1, ⟨by omega, S1.tg, Or.inl T1.tg, by rw [T1.2.2]; exact Nat.le_refl _, by rw [S1.2.2]; exact Nat.le_refl _⟩, nm_e (q _ (Fr.uA Fr.rf (fun _ => rfl)) (fun k hk => ?_))⟩
  rw [zI_hereA]
  unfold zcpy
  rw [if_pos (by omega), Nat.zero_add, Nat.sub_zero]
  exact Pt k hk
theorem ct_32 {h : ZH} {r : Nat} (hd : 6 ≤ d) (S : PSh h p) (P : PgC h r t u) (hn : r + 2 ≠ p + 1) (q : ∀ h', Fr (fun a _ => a = p + 1 ∨ a = p + 2) h h' → PgC h' p t u → Q none h') : Ct E d 32 [.ref p, .ref r] h Q := by
  obtain ⟨d, rfl⟩ : ∃ n, d = n + 1 := ⟨d - 1, by omega⟩
  refine ok_32 ?_
  refine ⟨S.1, ct_31 (t := t) (by omega) S P.1 P.2.1 (fun h1 hF hPt => ⟨rfl, ?_⟩)⟩
  have S1 := S.fr hF
  have T1 := P.1.fr hF
  have S1' := S1
  obtain ⟨S0, Sa, Sb, -⟩ := S1
  obtain ⟨T0, Ta, Tb, -⟩ := T1
  have hF1 : Fr (fun a _ => a = p + 1 ∨ a = p + 2) h h1 := hF.wd (fun a i e => Or.inl e)
  have fr2 : Fr (fun a (_ : Nat) => a = p + 1 ∨ a = p + 2) h1 (zuA h1 (p + 2) (zcpy (zI h1 (r + 2)) (zI h1 (p + 2)) 0 0 20)) := Fr.uA Fr.rf (fun _ => Or.inr rfl)
  refine ⟨T0, r + 2, Tb.1, S0, p + 2, Sb.1, ⟨by omega, Sb.tg, Or.inl Tb.tg, by rw [Tb.2.2]; exact Nat.le_refl _, by rw [Sb.2.2]; exact Nat.le_refl _⟩, nm_e (q _ (hF1.tr fr2) ⟨S1'.fr fr2, fun k hk => ?_, fun k hk => ?_⟩)⟩
  · rw [zI_offA (by omega)]
    exact hPt k hk
  · rw [zI_hereA]
    unfold zcpy
    rw [if_pos (by omega), Nat.zero_add, Nat.sub_zero, hF.I (by omega)]
    exact P.2.2 k hk
/-- a page without one of its words -/
def tp_lw (w : Nat) : Nat := [5, 7, 8, 9, 11, 12, 13, 3].getD w 0
def tp_lo8 (t : Nat → Nat) (w : Nat) : Nat → Nat := fun k => if k = tp_lw w then 0 else if w = 3 ∧ k = 10 then 0 else t k
theorem tp_lw_st : ∀ w, w < 8 → (zst 2).getD w 0 = jI (tp_lw w : Int) ∧ tp_lw w < 39 ∧ (tp_lw w = 9 ↔ w = 3) := by decide
theorem tp_lo8_ok (ok : tp_Ok t) {w : Nat} (hw : w < 8) : tp_Ok (tp_lo8 t w) := by
  have : w = 0 ∨ w = 1 ∨ w = 2 ∨ w = 3 ∨ w = 4 ∨ w = 5 ∨ w = 6 ∨ w = 7 := by omega
  unfold tp_Ok at ok ⊢
  obtain ⟨o0, o1, o2, o3, o5, o6, o7, o8, o9, o10, o11, o12, o13, o14, o15, op, oc⟩ := ok
  rcases this with e | e | e | e | e | e | e | e <;> subst e <;> simp only [tp_lo8, tp_lw] <;>
    refine ⟨?_, ?_, ?_, ?_, ?_, ?_, ?_, ?_, ?_, ?_, ?_, ?_, ?_, ?_, ?_, fun s hs => ?_, fun s hs => ?_⟩ <;>
    first
      | (simp only [List.getD_cons_zero, List.getD_cons_succ]; omega)
      | (have h1 := op s hs; simp only [List.getD_cons_zero, List.getD_cons_succ]; rw [if_neg (by omega), if_neg (by omega)]; exact h1)
      | (have h1 := oc s hs; simp only [List.getD_cons_zero, List.getD_cons_succ]; rw [if_neg (by omega), if_neg (by omega), if_neg (by omega), if_neg (by omega), if_neg (by omega), if_neg (by omega)]; exact h1)
      | (simp; done)
      | (simp; omega)
theorem ct_51 {h : ZH} {w : Nat} (hd : 8 ≤ d) (ok : tp_Ok t) (ou : tp_Ou u) (X : Stc E h) (hE : E 0 ≤ p) (P : PgC h p t u) (hw : w < 8) (q : ∀ h', PgR h' p (tp_lo8 t w) u → Fr (fun a i => a = p + 1 ∨ tp_S34 p a i) h h' → Q none h') : Ct E d 51 [.ref p, .int (jI (w : Int))] h Q := by
  obtain ⟨d, rfl⟩ : ∃ n, d = n + 1 := ⟨d - 1, by omega⟩
  refine ok_51 ?_
  unfold w_51
  have P' := P
  obtain ⟨⟨S0, S1, S2, S3, S4, S5, S6⟩, Pt, Pu⟩ := P
  obtain ⟨x1, x2, x3, x4⟩ := X.1 2 (by omega) (by omega)
  have x3' : zlen h (E 2) = 8 := x3
  obtain ⟨y1, y2, y3⟩ := tp_lw_st w hw
  have ev : zI h (E 2) (jI (w : Int)).toNatClampNeg = jI (tp_lw w : Int) := by rw [jI_cln (by omega), x4 w hw, y1]
  have nE : E 2 ≠ p + 1 := by omega
  have ev2 : ∀ v i, zI (zuI h (p + 1) i v) (E 2) (jI (w : Int)).toNatClampNeg = jI (tp_lw w : Int) := fun v i => by rw [zI_offa nE]; exact ev
  have fin : ∀ h1, PgC h1 p (tp_lo8 t w) u → Fr (fun a i => a = p + 1 ∨ tp_S34 p a i) h h1 → wb_51_17 E d Q p h1 := by
    intro h1 PC hF
    refine ⟨PC.1.1, ct_34 (by omega) (tp_lo8_ok ok hw) ou PC (fun h' hP hF2 => ⟨rfl, q h' hP (hF.tr (hF2.wd (fun a i ha => Or.inr ha)))⟩)⟩
  refine ⟨S0, p + 1, S1.1, Or.inr x2, by rw [x3']; exact zin_j (by omega) (by omega) (by omega), S1.tg, by rw [ev]; exact S1.inn y2 (by omega), nm_r (e' := zuI h (p + 1) (tp_lw w) (jI 0)) (by rw [ev, jI_cln (by omega)]; rfl) ⟨by show zin (jI (w : Int)) (zlen h (E 2)) = true; rw [x3']; exact zin_j (by omega) (by omega) (by omega), ?_⟩⟩
  rw [ev2, show (9 : Int32) = jI 9 from rfl, jI_eq (by omega) (by omega) (by omega) (by omega)]
  have fr1 : Fr (fun a i => a = p + 1 ∨ tp_S34 p a i) h (zuI h (p + 1) (tp_lw w) (jI 0)) := Fr.uI Fr.rf (Or.inl rfl)
  refine ⟨fun c => fin _ ⟨P'.1.fr fr1, fun k hk => ?_, fun k hk => ?_⟩ fr1, fun c => ⟨S1.inc (by decide), nm_e (fin _ ⟨P'.1.fr (Fr.uI fr1 (Or.inl rfl)), fun k hk => ?_, fun k hk => ?_⟩ (Fr.uI fr1 (Or.inl rfl)))⟩⟩
  · have hw3 : w ≠ 3 := fun q => c (by have := y3.mpr q; omega)
    unfold tp_lo8
    by_cases e : k = tp_lw w
    · subst e
      rw [zI_here, if_pos rfl]; rfl
    · rw [zI_offi e, if_neg e, if_neg (by omega)]
      exact Pt k hk
  · rw [zI_offa (by omega : p + 2 ≠ p + 1)]
    exact Pu k hk
  · have hw3 : w = 3 := y3.mp (by have := Classical.not_not.mp c; omega)
    have h9 : tp_lw w = 9 := y3.mpr hw3
    unfold tp_lo8
    by_cases e : k = tp_lw w
    · subst e
      rw [if_pos rfl, zI_offi (by omega), zI_here]; rfl
    · rw [if_neg e]
      by_cases e2 : k = 10
      · subst e2
        rw [zI_here, if_pos ⟨hw3, rfl⟩]; rfl
      · rw [zI_offi e2, zI_offi e, if_neg (by omega)]
        exact Pt k hk
  · rw [zI_offa (by omega : p + 2 ≠ p + 1), zI_offa (by omega : p + 2 ≠ p + 1)]
    exact Pu k hk
end PGO
