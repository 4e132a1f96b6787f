/-! THE READER, as a machine on numbers: line (17 none), slot, term, told, terms -/
abbrev RdT : Type := Nat × Nat × Nat × (Nat → Bool) × (Nat → Nat)
def slN (l : Nat) : Nat := [1, 1, 1, 2, 1, 1, 1, 1, 1, 1, 0, 0, 1, 1, 2, 4, 1].getD l 0
def tmN (l : Nat) : Nat := [0, 1, 2, 3, 5, 6, 7, 8, 9, 10, 11, 12, 13, 14, 20, 30, 15].getD l 0
def loN (l : Nat) : Nat := [1, 1, 1, 0, 0, 1, 0, 0, 0, 0, 0, 0, 0, 0, 1, 0, 0].getD l 0
def hiN (l : Nat) : Nat := [4, 5, 16, 4, 100, 60, 100, 20, 0, 60, 0, 0, 0, 60, 60, 4, 2].getD l 0
def upt (t : Nat → Nat) (j v : Nat) : Nat → Nat := fun k => if k = j then v else t k
def mkd (f : Nat → Bool) (j : Nat) : Nat → Bool := fun k => if k = j then true else f k
def lwT (k : Nat) : Nat := [1, 1, 1, 0, 0, 0, 1].getD k 0
def hgT (k : Nat) : Nat := [4, 5, 16, 4, 4, 100, 60, 100, 20, 2, 60, 1, 1, 7, 60, 2, 0, 0, 0, 0, 60, 60, 60, 0, 0, 0, 0, 0, 0, 0, 4, 4, 4, 4, 4, 4, 4, 4, 4].getD k 0
theorem upt_e (t : Nat → Nat) (j v : Nat) : upt t j v j = v := by unfold upt; rw [if_pos rfl]
theorem upt_n {t : Nat → Nat} {j v k : Nat} (h : k ≠ j) : upt t j v k = t k := by unfold upt; rw [if_neg h]
/-- a name at a line's head -/
def stN (to : Nat → Bool) (t : Nat → Nat) (k : TkT) : Nat × RdT := if ¬ k.1 = 1 then (2, (17, 0, 0, to, t)) else if 17 ≤ k.2.1.toNat then (2, (17, 0, 0, to, t)) else if k.2.1.toNat = 12 ∨ k.2.1.toNat = 14 ∨ k.2.1.toNat = 15 then (0, (k.2.1.toNat, 0, tmN k.2.1.toNat, to, t)) else if to k.2.1.toNat = true then (4, (17, 0, 0, to, t)) else (0, (k.2.1.toNat, 0, tmN k.2.1.toNat, mkd to k.2.1.toNat, if slN k.2.1.toNat = 0 then upt t (tmN k.2.1.toNat) 1 else t))
/-- the line's end -/
def stE (sl tm : Nat) (to : Nat → Bool) (t : Nat → Nat) (k : TkT) : Nat × RdT := if ¬ k.1 = 3 then (2, (17, 0, 0, to, t)) else (0, (17, sl, tm, to, t))
def stM (sl tm : Nat) (to : Nat → Bool) (t : Nat → Nat) (k : TkT) : Nat × RdT := if ¬ (k.1 = 1 ∧ 17 ≤ k.2.1.toNat ∧ k.2.1.toNat < 19) then (2, (17, 0, 0, to, t)) else (0, (8, sl + 1, tm, to, upt t 9 (k.2.1.toNat - 16)))
def stF (sl tm : Nat) (to : Nat → Bool) (t : Nat → Nat) (k : TkT) : Nat × RdT := if ¬ (k.1 = 1 ∧ 19 ≤ k.2.1.toNat ∧ k.2.1.toNat < 22) then (2, (17, 0, 0, to, t)) else if to (4 + k.2.1.toNat) = true then (4, (17, 0, 0, to, t)) else (0, (12, sl + 1, tm, mkd to (4 + k.2.1.toNat), upt t 13 (t 13 + 2 ^ (k.2.1.toNat - 19))))
/-- which price, which chances -/
def stW (ln tm : Nat) (to : Nat → Bool) (t : Nat → Nat) (k : TkT) : Nat × RdT := if ¬ k.1 = 2 then (2, (17, 0, 0, to, t)) else if 2 < k.2.1.toNat then (3, (17, 0, 0, to, t)) else if to ((if ln = 14 then 17 else 20) + k.2.1.toNat) = true then (4, (17, 0, 0, to, t)) else (0, (ln, 1, tm + (if ln = 14 then 1 else 3) * k.2.1.toNat, mkd to ((if ln = 14 then 17 else 20) + k.2.1.toNat), t))
def stV (ln sl tm : Nat) (to : Nat → Bool) (t : Nat → Nat) (k : TkT) : Nat × RdT := if ¬ k.1 = 2 then (2, (17, 0, 0, to, t)) else if k.2.1.toNat < (if ln = 3 ∧ sl = 1 then t 3 else loN ln) ∨ hiN ln < k.2.1.toNat then (3, (17, 0, 0, to, t)) else if ln = 15 ∧ sl = 3 ∧ ¬ t (tm - 2) + t (tm - 1) + k.2.1.toNat = 4 then (3, (17, 0, 0, to, t)) else (0, (ln, sl + 1, tm + 1, to, upt t tm k.2.1.toNat))
def stp (S : RdT) (k : TkT) : Nat × RdT := if k.1 = 0 then (1, S) else if S.1 = 17 then stN S.2.2.2.1 S.2.2.2.2 k else if S.2.1 = slN S.1 then stE S.2.1 S.2.2.1 S.2.2.2.1 S.2.2.2.2 k else if S.1 = 8 then stM S.2.1 S.2.2.1 S.2.2.2.1 S.2.2.2.2 k else if S.1 = 12 then stF S.2.1 S.2.2.1 S.2.2.2.1 S.2.2.2.2 k else if S.2.1 = 0 ∧ (S.1 = 14 ∨ S.1 = 15) then stW S.1 S.2.2.1 S.2.2.2.1 S.2.2.2.2 k else stV S.1 S.2.1 S.2.2.1 S.2.2.2.1 S.2.2.2.2 k
def rdr (tb : Nat → Int32) (tn : Nat) : Nat → RdT → Nat → Nat → (Nat × Nat × Nat × RdT)
  | 0, S, _, n => (0, 0, n, S)
  | r + 1, S, p, n => if (tk tb tn p).1 = 4 ∧ S.1 = 17 then (0, 0, n, S) else if (stp S (tk tb tn p)).1 = 0 then rdr tb tn r (stp S (tk tb tn p)).2 (tk tb tn p).2.2.2 (n + if (tk tb tn p).1 = 3 then 1 else 0) else ((stp S (tk tb tn p)).1, (tk tb tn p).2.2.1, 0, S)
def rd0 : RdT := (17, 0, 0, fun _ => false, tp_t0)
/-! tokens: how far, how big -/
theorem rn_all (P : Nat → Bool) : ∀ r p i, p ≤ i → i < rn P r p → P i = true
  | 0, p, i, h1, h2 => by rw [rn] at h2; omega
  | r + 1, p, i, h1, h2 => by
    rw [rn] at h2
    split at h2
    · next c =>
      by_cases e : i = p
      · rw [e]; exact c
      · exact rn_all P r (p + 1) i (by omega) h2
    · omega
theorem rn_on (P : Nat → Bool) {r p : Nat} (c : P p = true) (hr : 0 < r) : p < rn P r p := by
  obtain ⟨r, rfl⟩ : ∃ n, r = n + 1 := ⟨r - 1, by omega⟩
  rw [rn, if_pos c]
  have := rn_in P r (p + 1)
  omega
theorem dg_b (tb : Nat → Int32) (q : Nat) : ∀ n, n ≤ 3 → (∀ i, q ≤ i → i < q + n → isD tb i = true) → 0 ≤ dg tb q n ∧ dg tb q n < 10 ^ n
  | 0, _, _ => by rw [dg]; omega
  | n + 1, h, a => by
    have i := dg_b tb q n (by omega) (fun i h1 h2 => a i h1 (by omega))
    have d := a (q + n) (by omega) (by omega)
    unfold isD at d
    rw [decide_eq_true_iff] at d
    rw [dg, if_neg (by omega), show (10 : Int) ^ (n + 1) = 10 * 10 ^ n by rw [Int.pow_succ]; omega]
    omega
def TkO (tn p : Nat) (k : TkT) : Prop := k.1 ≤ 4 ∧ (k.1 = 1 → 0 ≤ k.2.1 ∧ k.2.1 < 22) ∧ (k.1 = 2 → 0 ≤ k.2.1 ∧ k.2.1 < 1000) ∧ (¬ k.1 = 4 → p < k.2.2.2) ∧ p ≤ k.2.2.2 ∧ k.2.2.2 ≤ tn ∧ k.2.2.1 ≤ tn
theorem tk_o (tb : Nat → Int32) {tn p : Nat} (hp : p ≤ tn) : TkO tn p (tk tb tn p) := by
  have hs := rn_in (isS tb) (tn - p) p
  unfold tk tkS
  generalize rn (isS tb) (tn - p) p = q at hs
  unfold tkA TkO
  split
  · exact ⟨by omega, by omega, by omega, by omega, by dsimp only; omega, by dsimp only; omega, by dsimp only; omega⟩
  · next c =>
    split
    · next ca =>
      have i1 := rn_in (isA tb) (tn - q) q
      have i2 := rn_on (isA tb) ca (show 0 < tn - q by omega)
      have nb := nmw_b tb q (rn (isA tb) (tn - q) q - q)
      refine ⟨?_, fun h => ?_, fun h => ?_, fun _ => ?_, ?_, ?_, ?_⟩
      · dsimp only; split <;> omega
      · dsimp only at h ⊢
        by_cases e : nmw tb q (rn (isA tb) (tn - q) q - q) = -4
        · rw [if_pos e] at h; omega
        · omega
      · dsimp only at h
        split at h <;> omega
      all_goals dsimp only; omega
    · split
      · next cd =>
        have i1 := rn_in (isD tb) (tn - q) q
        have i2 := rn_on (isD tb) cd (show 0 < tn - q by omega)
        refine ⟨?_, fun h => ?_, fun h => ?_, fun _ => ?_, ?_, ?_, ?_⟩
        · dsimp only; split <;> omega
        · dsimp only at h
          split at h <;> omega
        · dsimp only at h ⊢
          by_cases e : rn (isD tb) (tn - q) q - q ≤ 3
          · have := dg_b tb q (rn (isD tb) (tn - q) q - q) e (fun i h1 h2 => rn_all (isD tb) (tn - q) q i h1 (by omega))
            generalize rn (isD tb) (tn - q) q - q = z at this e
            have : z = 0 ∨ z = 1 ∨ z = 2 ∨ z = 3 := by omega
            rcases this with rfl | rfl | rfl | rfl <;> omega
          · rw [if_neg e] at h; omega
        all_goals dsimp only; omega
      · refine ⟨?_, fun h => ?_, fun h => ?_, fun _ => ?_, ?_, ?_, ?_⟩
        · dsimp only; split <;> omega
        · dsimp only at h
          split at h <;> omega
        · dsimp only at h
          split at h <;> omega
        all_goals dsimp only; omega
/-! one step of the reading -/
section RDR
variable {tb : Nat → Int32} {tn p r n : Nat} {S : RdT}
theorem rdr_F (hr : tn < p + r) (hp : p ≤ tn) (c : ¬ ((tk tb tn p).1 = 4 ∧ S.1 = 17)) (e : ¬ (stp S (tk tb tn p)).1 = 0) : rdr tb tn r S p n = ((stp S (tk tb tn p)).1, (tk tb tn p).2.2.1, 0, S) := by
  obtain ⟨r, rfl⟩ : ∃ n, r = n + 1 := ⟨r - 1, by omega⟩
  rw [rdr, if_neg c, if_neg e]
theorem rdr_S (hr : tn < p + r) (hp : p ≤ tn) (c : ¬ (tk tb tn p).1 = 4) (e : (stp S (tk tb tn p)).1 = 0) : tn < (tk tb tn p).2.2.2 + (r - 1) ∧ rdr tb tn r S p n = rdr tb tn (r - 1) (stp S (tk tb tn p)).2 (tk tb tn p).2.2.2 (n + if (tk tb tn p).1 = 3 then 1 else 0) := by
  have o := tk_o tb hp
  have := o.2.2.2.1 c
  obtain ⟨r, rfl⟩ : ∃ n, r = n + 1 := ⟨r - 1, by omega⟩
  refine ⟨by omega, ?_⟩
  rw [rdr, if_neg (fun q => c q.1), if_pos e]
  rfl
theorem rdr_E (hr : tn < p + r) (hp : p ≤ tn) (c : (tk tb tn p).1 = 4) (c' : S.1 = 17) : rdr tb tn r S p n = (0, 0, n, S) := by
  obtain ⟨r, rfl⟩ : ∃ n, r = n + 1 := ⟨r - 1, by omega⟩
  rw [rdr, if_pos ⟨c, c'⟩]
theorem stp_0 (k : TkT) (e : k.1 = 0) : (stp S k).1 = 1 := by unfold stp; rw [if_pos e]
theorem stp_4 (k : TkT) (e : k.1 = 4) (c : ¬ S.1 = 17) : (stp S k).1 = 2 := by
  unfold stp
  rw [if_neg (by omega), if_neg c]
  unfold stE stM stF stW stV
  rw [if_pos (show ¬ k.1 = 3 by omega), if_pos (show ¬ (k.1 = 1 ∧ 17 ≤ k.2.1.toNat ∧ k.2.1.toNat < 19) by omega), if_pos (show ¬ (k.1 = 1 ∧ 19 ≤ k.2.1.toNat ∧ k.2.1.toNat < 22) by omega), if_pos (show ¬ k.1 = 2 by omega), if_pos (show ¬ k.1 = 2 by omega)]
  split
  · rfl
  · split
    · rfl
    · split
      · rfl
      · split <;> rfl
end RDR
