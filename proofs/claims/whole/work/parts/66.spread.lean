/-! THE CLASS'S SPREAD: its lists -/
theorem tp_pig : ∀ (N n : Nat) (f : Nat → Nat), (∀ i, i < n → f i < N) → (∀ i j, i < n → j < n → f i = f j → i = j) → n ≤ N
  | 0, n, f, h1, _ => by
    by_cases c : n = 0
    · omega
    · have := h1 0 (by omega); omega
  | N + 1, 0, f, _, _ => by omega
  | N + 1, n + 1, f, h1, h2 => by
    have key := tp_pig N n (fun i => if f i = N then f n else f i) (fun i hi => ?_) (fun i j hi hj e => ?_)
    · omega
    · have a := h1 i (by omega)
      have b := h1 n (by omega)
      (try dsimp only)
      split
      · next c =>
        by_cases c2 : f n = N
        · have := h2 i n (by omega) (by omega) (by omega); omega
        · omega
      · omega
    · (try dsimp only at e)
      split at e
      · next c1 =>
        split at e
        · next c2 => exact h2 i j (by omega) (by omega) (by omega)
        · next c2 => have := h2 n j (by omega) (by omega) e; omega
      · next c1 =>
        split at e
        · next c2 => have := h2 i n (by omega) (by omega) e; omega
        · next c2 => exact h2 i j (by omega) (by omega) e
/-- cells of places without MADE or without CREDIT -/
def tp_oc (q : Nat) : Nat := q % 21
def tp_om (q : Nat) : Nat := q / 21 - 8
def tp_ok (q : Nat) : Nat := if q / 21 ≤ 8 then q / 21 else 0
theorem tp_o_b {q : Nat} (h : q < 441) : tp_oc q ≤ 20 ∧ tp_om q ≤ 12 ∧ tp_ok q ≤ 8 ∧ (tp_om q = 0 ∨ tp_ok q = 0) := by
  unfold tp_oc tp_om tp_ok
  split <;> omega
theorem tp_o_ce {c m k : Nat} (hc : c ≤ 20) (hm : m ≤ 12) (hk : k ≤ 8) (ho : m = 0 ∨ k = 0) : tp_ce c m k < 441 ∧ tp_oc (tp_ce c m k) = c ∧ tp_om (tp_ce c m k) = m ∧ tp_ok (tp_ce c m k) = k := by
  unfold tp_ce tp_oc tp_om tp_ok
  rw [if_pos ho]
  by_cases c1 : m = 0
  · rw [if_pos c1]
    refine ⟨by omega, by omega, by omega, ?_⟩
    rw [if_pos (by omega)]
    omega
  · rw [if_neg c1]
    refine ⟨by omega, by omega, by omega, ?_⟩
    rw [if_neg (by omega)]
    omega
section SPL
variable {E : Nat → Nat} {h : ZH} {sp : Nat} {t u : Nat → Nat}
theorem fz6 {q : Nat} (hq : q < 441) : fz_6 E h (jI (q : Int)) = jI (tp_oc q : Int) := by
  unfold fz_6 tp_oc
  rw [show (21 : Int32) = jI ((21 : Nat) : Int) from rfl, jI_rem (by omega) (by omega) (by omega)]
theorem fz7 {q : Nat} (hq : q < 441) : fz_7 E h (jI (q : Int)) = jI (tp_om q : Int) := by
  unfold fz_7 tp_om
  rw [show (21 : Int32) = jI ((21 : Nat) : Int) from rfl, jI_div (by omega) (by omega) (by omega), show (8 : Int32) = jI 8 from rfl, jI_sub, show (0 : Int32) = jI 0 from rfl, zmax_j (by omega) (by omega) (by omega) (by omega)]
  congr 1
  omega
theorem fz8 {q : Nat} (hq : q < 441) : fz_8 E h (jI (q : Int)) = jI (tp_ok q : Int) := by
  unfold fz_8 tp_ok
  rw [show (21 : Int32) = jI ((21 : Nat) : Int) from rfl, jI_div (by omega) (by omega) (by omega), show (8 : Int32) = jI ((8 : Nat) : Int) from rfl]
  simp (disch := omega) only [jI_len]
  split <;> rfl
def SpS (h : ZH) (sp A B C D : Nat) : Prop := ztag h sp = 7 ∧ zAr h sp 0 A 14 1323 ∧ zAr h sp 1 B 14 1323 ∧ zAr h sp 2 C 13 1323 ∧ zAr h sp 3 D 13 1323 ∧ zR h sp 6 = sp + 5 + 1 ∧ ztag h (sp + 5) = 2 ∧ ((A = sp + 1 ∧ B = sp + 2) ∨ (A = sp + 2 ∧ B = sp + 1)) ∧ ((C = sp + 3 ∧ D = sp + 4) ∨ (C = sp + 4 ∧ D = sp + 3))
theorem SpS.fr {S : Nat → Nat → Prop} {h1 : ZH} {A B C D : Nat} (x : SpS h sp A B C D) (y : Fr S h h1) : SpS h1 sp A B C D := by
  unfold SpS zAr at x ⊢
  rw [y.2.1, y.2.2.1, y.2.2.2.1]
  exact x
/-- a row of chances and the list of places where there are any -/
def SpL (h : ZH) (B D n : Nat) (G : Nat → Int) : Prop := (∀ i, i < 1323 → zL h B i = jL (G i)) ∧ (∀ i, 0 ≤ G i) ∧ ∃ pl : Nat → Nat, (∀ i, i < n → pl i < 1323 ∧ zI h D i = jI (pl i : Int) ∧ 0 < G (pl i)) ∧ (∀ i j, i < n → j < n → pl i = pl j → i = j) ∧ ∀ i, i < 1323 → 0 < G i → ∃ j, j < n ∧ pl j = i
theorem SpL.fr {S : Nat → Nat → Prop} {h1 : ZH} {B D n : Nat} {G : Nat → Int} (x : SpL h B D n G) (y : Fr S h h1) (hB : ∀ i, ¬ S B i) (hD : ∀ i, ¬ S D i) : SpL h1 B D n G := by
  obtain ⟨a, b, pl, c, d, e⟩ := x
  exact ⟨fun i hi => by rw [y.L (hB i)]; exact a i hi, b, pl, fun i hi => ⟨(c i hi).1, by rw [y.I (hD i)]; exact (c i hi).2.1, (c i hi).2.2⟩, d, e⟩
theorem ct_75 {d A B C D n pc : Nat} {G : Nat → Int} {p : Int} {Q : Option Value → ZH → Prop} (hd : 1 ≤ d) (S : SpS h sp A B C D) (L : SpL h B D n G) (h5 : zI h sp 5 = jI (n : Int)) (hpc : pc < 1323) (hp : 0 < p) (hb : G pc + p ≤ 1099511627776) (kQ : ∀ h' n', Fr (fun a i => a = B ∨ a = D ∨ (a = sp ∧ i = 5)) h h' → SpL h' B D n' (fun i => if i = pc then G i + p else G i) → zI h' sp 5 = jI (n' : Int) → Q none h') : Ct E d 75 [.ref sp, .int (jI (pc : Int)), .long (jL p)] h Q := by
  obtain ⟨d, rfl⟩ : ∃ n, d = n + 1 := ⟨d - 1, by omega⟩
  have S' := S
  obtain ⟨s0, sA, sB, sC, sD, s6, s5, oAB, oCD⟩ := S
  obtain ⟨l1, l2, pl, l3, l4, l5⟩ := L
  have gp := l2 pc
  have nB : B ≠ D ∧ B ≠ sp ∧ D ≠ sp := by omega
  refine ok_75 ⟨s0, B, sB.1, sB.tg, sB.inn hpc (by omega), ?_⟩
  rw [jI_cln (by omega), l1 pc hpc, show (0 : Int64) = jL 0 from rfl, jL_eq (by omega) (by omega) (by omega) (by omega)]
  refine ⟨fun c => ⟨s0, B, sB.1, sB.tg, sB.inn hpc (by omega), sB.tg, sB.inn hpc (by omega), nm_r (e' := zuL h B pc (jL (G pc + p))) (by rw [jI_cln (by omega), l1 pc hpc, jL_add]) (kQ _ n (Fr.uL Fr.rf (Or.inl rfl)) ⟨fun i hi => ?_, fun i => ?_, pl, fun i hi => ⟨(l3 i hi).1, (l3 i hi).2.1, ?_⟩, l4, fun i hi gi => ?_⟩ h5)⟩, fun c => ?_⟩
  · dsimp only
    by_cases ci : i = pc
    · subst ci
      rw [zL_here, if_pos rfl]
    · rw [zL_offi ci, if_neg ci]
      exact l1 i hi
  · have := l2 i
    dsimp only
    split <;> omega
  · have := (l3 i hi).2.2
    dsimp only
    split <;> omega
  · refine l5 i hi ?_
    dsimp only at gi
    split at gi
    · next ci => subst ci; omega
    · exact gi
  · have c0 : G pc = 0 := Classical.not_not.mp c
    have ni : ∀ j, j < n → pl j ≠ pc := fun j hj e => by have := (l3 j hj).2.2; rw [e] at this; omega
    have hn : n + 1 ≤ 1323 := tp_pig 1323 (n + 1) (fun i => if i = n then pc else pl i) (fun i hi => by
      (try dsimp only)
      split
      · exact hpc
      · exact (l3 i (by omega)).1) (fun i j hi hj e => by
      (try dsimp only at e)
      split at e
      · split at e
        · omega
        · exact absurd e.symm (ni j (by omega))
      · split at e
        · exact absurd e (ni i (by omega))
        · exact l4 i j (by omega) (by omega) e)
    refine ⟨D, sD.1, sD.tg, by rw [h5]; exact sD.inn (by omega) (by omega), nm_r (e' := zuI h D n (jI (pc : Int))) (by rw [h5, jI_cln (by omega)]) (nm_r (e' := zuI (zuI h D n (jI (pc : Int))) sp 5 (jI ((n + 1 : Nat) : Int))) (by rw [zI_offa (by omega), h5, show (1 : Int32) = jI 1 from rfl, jI_add]; rfl) ⟨s0, B, sB.1, sB.tg, sB.inn hpc (by omega), sB.tg, sB.inn hpc (by omega), nm_r (e' := zuL (zuI (zuI h D n (jI (pc : Int))) sp 5 (jI ((n + 1 : Nat) : Int))) B pc (jL (G pc + p))) ?_ (kQ _ (n + 1) (Fr.uL (Fr.uI (Fr.uI Fr.rf (Or.inr (Or.inl rfl))) (Or.inr (Or.inr ⟨rfl, rfl⟩))) (Or.inl rfl)) ⟨fun i hi => ?_, fun i => ?_, (fun i => if i = n then pc else pl i), fun i hi => ?_, fun i j hi hj e => ?_, fun i hi gi => ?_⟩ ?_)⟩)⟩
    · rw [jI_cln (by omega)]
      show zuL _ B pc (zL h B pc + jL p) = _
      rw [l1 pc hpc, jL_add]
    · dsimp only
      by_cases ci : i = pc
      · subst ci
        rw [zL_here, if_pos rfl]
      · rw [zL_offi ci, if_neg ci]
        exact l1 i hi
    · have := l2 i
      dsimp only
      split <;> omega
    · show (if i = n then pc else pl i) < 1323 ∧ zI (zuI (zuI h D n (jI (pc : Int))) sp 5 (jI ((n + 1 : Nat) : Int))) D i = jI ((if i = n then pc else pl i : Nat) : Int) ∧ 0 < (if (if i = n then pc else pl i) = pc then G (if i = n then pc else pl i) + p else G (if i = n then pc else pl i))
      rw [zI_offa (by omega)]
      by_cases ci : i = n
      · subst ci
        rw [if_pos rfl, zI_here, if_pos rfl]
        exact ⟨hpc, rfl, by omega⟩
      · rw [if_neg ci, zI_offi ci, if_neg (ni i (by omega))]
        exact l3 i (by omega)
    · dsimp only at e
      split at e
      · split at e
        · omega
        · exact absurd e.symm (ni j (by omega))
      · split at e
        · exact absurd e (ni i (by omega))
        · exact l4 i j (by omega) (by omega) e
    · dsimp only at gi
      by_cases ci : i = pc
      · exact ⟨n, by omega, by dsimp only; rw [if_pos rfl]; exact ci.symm⟩
      · rw [if_neg ci] at gi
        obtain ⟨j, hj, ej⟩ := l5 i hi gi
        exact ⟨j, by omega, by dsimp only; rw [if_neg (by omega)]; exact ej⟩
    · show zI (zuI (zuI h D n (jI (pc : Int))) sp 5 (jI ((n + 1 : Nat) : Int))) sp 5 = _
      rw [zI_here]
end SPL
