/-! THE CLASS'S SPREAD: turn, reckon -/
section SPR
variable {E : Nat → Nat} {b p sp ac g : Nat} {t u : Nat → Nat} {pr : Nat → Nat → Nat} {S Z : Nat → Nat → Prop} {h h1 : ZH}
theorem BSd.frR {d c m k : Nat} (y : FrR S Z h h1) (h2 : ∀ i, ¬ S (b + 2) i) (h7 : ¬ S b 7) (h8 : ¬ S b 8) : BSd h1 b d c m k ↔ BSd h b d c m k := by
  unfold BSd
  rw [y.I (h2 _), y.I h7, y.I h8]
theorem BAl.frR (x : BAl h b p ac g t u pr) (y : FrR S Z h h1) (hz : ∀ a i, b ≤ a → a ≤ b + 26 → ¬ Z a i) (hS : ∀ a i, ((b + 1 ≤ a ∧ a ≤ b + 6) ∨ (a = b ∧ i ≤ 10)) → ¬ S a i) : BAl h1 b p ac g t u pr := by
  obtain ⟨B, R, O, n0, n9, n10, n7, n8, n2⟩ := x
  have s2 : ∀ i, ¬ S (b + 2) i := fun i => hS _ _ (by omega)
  have s7 : ¬ S b 7 := hS _ _ (by omega)
  have s8 : ¬ S b 8 := hS _ _ (by omega)
  refine ⟨B.frR y (fun i _ => hz _ _ (by omega) (by omega)) (fun i => hz _ _ (by omega) (by omega)), ⟨by rw [y.rr (hz _ _ (by omega) (by omega))]; exact R.1, fun d s hd hs => by rw [y.I (hS _ _ (by omega))]; exact R.2.1 d s hd hs, fun d s hd hs => by rw [y.I (hS _ _ (by omega))]; exact R.2.2.1 d s hd hs, fun d hd => by rw [y.L (hS _ _ (by omega))]; exact R.2.2.2 d hd⟩, ?_, n0, by rw [y.I (hS _ _ (by omega))]; exact n9, by rw [y.I (hS _ _ (by omega))]; exact n10, by rw [y.I s7]; exact n7, by rw [y.I s8]; exact n8, fun i hi => by rw [y.I (s2 i)]; exact n2 i hi⟩
  intro d c m k hd hv hs
  rw [BSd.frR y s2 s7 s8] at hs
  obtain ⟨e1, e2⟩ := O d c m k hd hv hs
  refine ⟨fun s hs => ?_, fun hd2 x hx1 hx2 => ?_⟩
  · rw [y.L (hS _ _ (by omega))]; exact e1 s hs
  · rw [BSd.frR y s2 s7 s8]; exact e2 hd2 x hx1 hx2
theorem SpL.frR {B D n : Nat} {G : Nat → Int} (x : SpL h B D n G) (y : FrR S Z h h1) (hB : ∀ i, ¬ S B i) (hD : ∀ i, ¬ S D i) : SpL h1 B D n G := by
  obtain ⟨a, b, pl, c, d, e⟩ := x
  exact ⟨fun i hi => by rw [y.L (hB i)]; exact a i hi, b, pl, fun i hi => ⟨(c i hi).1, by rw [y.I (hD i)]; exact (c i hi).2.1, (c i hi).2.2⟩, d, e⟩
theorem ct_74 {d A B C D : Nat} {Q : Option Value → ZH → Prop} (hd : 1 ≤ d) (X : SpS h sp A B C D) (kQ : ∀ h', FrR (fun a i => a = sp ∧ (i = 4 ∨ i = 5)) (fun a i => a = sp ∧ i < 4) h h' → SpS h' sp B A D C → zI h' sp 4 = zI h sp 5 → zI h' sp 5 = jI 0 → Q none h') : Ct E d 74 [.ref sp] h Q := by
  obtain ⟨d, rfl⟩ : ∃ n, d = n + 1 := ⟨d - 1, by omega⟩
  obtain ⟨s0, sA, sB, sC, sD, s6, s5, oAB, oCD⟩ := X
  refine ok_74 ⟨s0, A, sA.1, B, sB.1, nm_e ⟨s0, nm_e ⟨s0, C, ?_, D, ?_, nm_e ⟨s0, nm_e ⟨s0, nm_e (nm_e (kQ _ ?_ ?_ ?_ ?_))⟩⟩⟩⟩⟩
  · simp [zR_uR]; exact sC.1
  · simp [zR_uR]; exact sD.1
  · have F : ∀ {a i r : Nat} {h' : ZH}, FrR (fun a i => a = sp ∧ (i = 4 ∨ i = 5)) (fun a i => a = sp ∧ i < 4) h h' → a = sp ∧ i < 4 → FrR (fun a i => a = sp ∧ (i = 4 ∨ i = 5)) (fun a i => a = sp ∧ i < 4) h (zuR h' a i r) := fun x y => x.tr (FrR.uR y)
    have F0 : FrR (fun a i => a = sp ∧ (i = 4 ∨ i = 5)) (fun a i => a = sp ∧ i < 4) h h := (Fr.rf (S := fun a i => a = sp ∧ (i = 4 ∨ i = 5))).R
    exact (F (F (F (F F0 ⟨rfl, by omega⟩) ⟨rfl, by omega⟩) ⟨rfl, by omega⟩) ⟨rfl, by omega⟩).tr ((Fr.uI (Fr.uI Fr.rf ⟨rfl, Or.inl rfl⟩) ⟨rfl, Or.inr rfl⟩).R)
  · refine ⟨s0, ⟨?_, sB.2⟩, ⟨?_, sA.2⟩, ⟨?_, sD.2⟩, ⟨?_, sC.2⟩, ?_, s5, by omega, by omega⟩
    · simp [zR_uR, zR_uI]
    · simp [zR_uR, zR_uI]
    · simp [zR_uR, zR_uI]
    · simp [zR_uR, zR_uI]
    · simp [zR_uR, zR_uI]; exact s6
  · rw [zI_offi (by omega), zI_here]
    rfl
  · rw [zI_here]
    rfl
/-- the places of a list that were gone through are empty -/
def tp_gz (G : Nat → Int) (pl : Nat → Nat) : Nat → Nat → Int
  | 0, x => G x
  | i + 1, x => if x = pl i then 0 else tp_gz G pl i x
theorem tp_gz_in {G : Nat → Int} {pl : Nat → Nat} : ∀ i x, (∃ j, j < i ∧ pl j = x) → tp_gz G pl i x = 0
  | 0, x, ⟨j, hj, _⟩ => by omega
  | i + 1, x, ⟨j, hj, e⟩ => by
    unfold tp_gz
    by_cases c : x = pl i
    · rw [if_pos c]
    · rw [if_neg c]
      refine tp_gz_in i x ⟨j, ?_, e⟩
      by_cases c2 : j = i
      · subst c2; exact absurd e.symm c
      · omega
theorem tp_gz_out {G : Nat → Int} {pl : Nat → Nat} : ∀ i x, (∀ j, j < i → pl j ≠ x) → tp_gz G pl i x = G x
  | 0, x, _ => rfl
  | i + 1, x, h => by
    unfold tp_gz
    rw [if_neg (fun e => h i (by omega) e.symm)]
    exact tp_gz_out i x (fun j hj => h j (by omega))
/-- a Spread at rest -/
def SpM (h : ZH) (sp : Nat) : Prop := ∃ A B C D, SpS h sp A B C D ∧ (∀ i, i < 1323 → zL h A i = jL 0) ∧ (∀ i, i < 1323 → zL h B i = jL 0) ∧ zI h sp 5 = jI 0
/-- what reckon may change -/
def tp_S73 (b sp : Nat) : Nat → Nat → Prop := fun a i => (sp ≤ a ∧ a ≤ sp + 5) ∨ tp_S9 b a i
def tp_Z73 (sp : Nat) : Nat → Nat → Prop := fun a i => a = sp ∧ i < 4
end SPR
