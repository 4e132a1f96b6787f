/-! THE MODEL'S WORTHS, in numbers -/
section MWN
variable {t u : Nat → Nat}
def tp_g1 (t u : Nat → Nat) (d c m k s x : Nat) : Int := 100 * (t (20 + s) : Int) * x - ((tp_nC t u d c m k x * tp_un t (t (20 + s)) 1 + tp_fl t u d c m k x : Nat) : Int) - ((100 * t 6 * tp_sh t u d c m k x : Nat) : Int)
def tp_Wm (t u : Nat → Nat) : Nat → Nat → Nat → Nat → Nat → Nat → Int
  | 0, _, _, _, _, _ => 0
  | n + 1, d, c, m, k, s => tp_mv (fun x => if t 12 = 0 then 4 ^ n * tp_g1 t u d c m k s x + (tp_ch t s 0 : Int) * tp_Wm t u n (d + 1) (tp_c2 t u d c m k x) (tp_m2 t u d c m k x) (tp_k2 t u d c m k x) 0 + (tp_ch t s 1 : Int) * tp_Wm t u n (d + 1) (tp_c2 t u d c m k x) (tp_m2 t u d c m k x) (tp_k2 t u d c m k x) 1 + (tp_ch t s 2 : Int) * tp_Wm t u n (d + 1) (tp_c2 t u d c m k x) (tp_m2 t u d c m k x) (tp_k2 t u d c m k x) 2
    else (tp_ch t s 0 : Int) * (4 ^ n * tp_g1 t u d c m k 0 x + tp_Wm t u n (d + 1) (tp_c2 t u d c m k x) (tp_m2 t u d c m k x) (tp_k2 t u d c m k x) 0) + (tp_ch t s 1 : Int) * (4 ^ n * tp_g1 t u d c m k 1 x + tp_Wm t u n (d + 1) (tp_c2 t u d c m k x) (tp_m2 t u d c m k x) (tp_k2 t u d c m k x) 1) + (tp_ch t s 2 : Int) * (4 ^ n * tp_g1 t u d c m k 2 x + tp_Wm t u n (d + 1) (tp_c2 t u d c m k x) (tp_m2 t u d c m k x) (tp_k2 t u d c m k x) 2)) (tp_lo t u d) (tp_hi t u d - tp_lo t u d)
def tp_Xm (t u : Nat → Nat) (n d c m k s x : Nat) : Int := if t 12 = 0 then 4 ^ n * tp_g1 t u d c m k s x + (tp_ch t s 0 : Int) * tp_Wm t u n (d + 1) (tp_c2 t u d c m k x) (tp_m2 t u d c m k x) (tp_k2 t u d c m k x) 0 + (tp_ch t s 1 : Int) * tp_Wm t u n (d + 1) (tp_c2 t u d c m k x) (tp_m2 t u d c m k x) (tp_k2 t u d c m k x) 1 + (tp_ch t s 2 : Int) * tp_Wm t u n (d + 1) (tp_c2 t u d c m k x) (tp_m2 t u d c m k x) (tp_k2 t u d c m k x) 2
    else (tp_ch t s 0 : Int) * (4 ^ n * tp_g1 t u d c m k 0 x + tp_Wm t u n (d + 1) (tp_c2 t u d c m k x) (tp_m2 t u d c m k x) (tp_k2 t u d c m k x) 0) + (tp_ch t s 1 : Int) * (4 ^ n * tp_g1 t u d c m k 1 x + tp_Wm t u n (d + 1) (tp_c2 t u d c m k x) (tp_m2 t u d c m k x) (tp_k2 t u d c m k x) 1) + (tp_ch t s 2 : Int) * (4 ^ n * tp_g1 t u d c m k 2 x + tp_Wm t u n (d + 1) (tp_c2 t u d c m k x) (tp_m2 t u d c m k x) (tp_k2 t u d c m k x) 2)
theorem tp_Wm_s (n d c m k s : Nat) : tp_Wm t u (n + 1) d c m k s = tp_mv (tp_Xm t u n d c m k s) (tp_lo t u d) (tp_hi t u d - tp_lo t u d) := rfl
/-- how many times the class's worths are the model's -/
def tp_f (t : Nat → Nat) : Int := if t 12 = 0 then 4 else 1
theorem tp_f_pos (t : Nat → Nat) : 0 < tp_f t := by
  unfold tp_f
  split <;> omega
theorem tp_g4_0 (h12 : t 12 = 0) (d c m k s x : Nat) : tp_g4 t u (tp_pr t) d c m k s x = 4 * tp_g1 t u d c m k s x := by
  have e : tp_pr t d s = 4 * t (20 + s) := by unfold tp_pr; rw [if_neg (by omega)]
  unfold tp_g4 tp_g1 tp_un
  rw [e]
  simp only [Int.natCast_add, Int.natCast_mul, Int.cast_ofNat_Int]
  generalize (tp_nC t u d c m k x : Int) = N
  generalize (tp_fl t u d c m k x : Int) = F
  generalize (tp_sh t u d c m k x : Int) = S
  generalize ((100 - t 7 : Nat) : Int) = I1
  generalize (t 7 : Int) = I2
  generalize (t 6 : Int) = B
  generalize (t (20 + s) : Int) = p
  generalize (x : Int) = X
  grind
theorem tp_g4_1 (ok : tp_Ok t) (h12 : t 12 = 1) (d c m k x : Nat) {s : Nat} (hs : s < 3) : tp_g4 t u (tp_pr t) d c m k s x = (tp_ch t s 0 : Int) * tp_g1 t u d c m k 0 x + (tp_ch t s 1 : Int) * tp_g1 t u d c m k 1 x + (tp_ch t s 2 : Int) * tp_g1 t u d c m k 2 x := by
  have e : tp_pr t d s = tp_ch t s 0 * t 20 + tp_ch t s 1 * t 21 + tp_ch t s 2 * t 22 := by unfold tp_pr; rw [if_pos h12]
  have hc := tp_ch_sum ok hs
  unfold tp_g4 tp_g1 tp_un
  rw [e]
  simp only [Int.natCast_add, Int.natCast_mul, Int.cast_ofNat_Int]
  show _ = (tp_ch t s 0 : Int) * (100 * (t 20 : Int) * (x : Int) - _ - _) + (tp_ch t s 1 : Int) * (100 * (t 21 : Int) * (x : Int) - _ - _) + (tp_ch t s 2 : Int) * (100 * (t 22 : Int) * (x : Int) - _ - _)
  have hc2 : (tp_ch t s 2 : Int) = 4 - (tp_ch t s 0 : Int) - (tp_ch t s 1 : Int) := by omega
  rw [hc2]
  generalize (tp_ch t s 0 : Int) = c0
  generalize (tp_ch t s 1 : Int) = c1
  generalize (tp_nC t u d c m k x : Int) = N
  generalize (tp_fl t u d c m k x : Int) = F
  generalize (tp_sh t u d c m k x : Int) = S
  generalize ((100 - t 7 : Nat) : Int) = I1
  generalize (t 7 : Int) = I2
  generalize (t 6 : Int) = B
  have q0 : (t (20 + 0) : Int) = t 20 := rfl
  have q1 : (t (20 + 1) : Int) = t 21 := rfl
  have q2 : (t (20 + 2) : Int) = t 22 := rfl
  rw [q0, q1, q2]
  generalize (t 20 : Int) = p0
  generalize (t 21 : Int) = p1
  generalize (t 22 : Int) = p2
  generalize (x : Int) = X
  grind
theorem tp_WX (ok : tp_Ok t) (u : Nat → Nat) : ∀ n, (∀ d c m k s, s < 3 → tp_W t u (tp_pr t) n d c m k s = tp_f t * tp_Wm t u n d c m k s) ∧ (∀ d c m k s x, s < 3 → tp_X t u (tp_pr t) n d c m k s x = tp_f t * tp_Xm t u n d c m k s x) := by
  have h12 : t 12 ≤ 1 := ok.2.2.2.2.2.2.2.2.2.2.2.1
  have key : ∀ n, (∀ d c m k s, s < 3 → tp_W t u (tp_pr t) n d c m k s = tp_f t * tp_Wm t u n d c m k s) → (∀ d c m k s x, s < 3 → tp_X t u (tp_pr t) n d c m k s x = tp_f t * tp_Xm t u n d c m k s x) := by
    intro n ih d c m k s x hs
    unfold tp_X tp_A tp_Xm
    rw [ih _ _ _ _ 0 (by omega), ih _ _ _ _ 1 (by omega), ih _ _ _ _ 2 (by omega)]
    unfold tp_f
    generalize (4 ^ n : Int) = P
    by_cases h0 : t 12 = 0
    · rw [if_pos h0, if_pos h0, tp_g4_0 h0]
      grind
    · rw [if_neg h0, if_neg h0, tp_g4_1 ok (by omega) d c m k x hs]
      grind
  intro n
  induction n with
  | zero =>
    have h0 : ∀ d c m k s, s < 3 → tp_W t u (tp_pr t) 0 d c m k s = tp_f t * tp_Wm t u 0 d c m k s := fun d c m k s _ => by simp [tp_W, tp_Wm]
    exact ⟨h0, key 0 h0⟩
  | succ n ih =>
    have h1 : ∀ d c m k s, s < 3 → tp_W t u (tp_pr t) (n + 1) d c m k s = tp_f t * tp_Wm t u (n + 1) d c m k s := fun d c m k s hs => by
      rw [tp_W_s, tp_Wm_s]
      exact (tp_mv_mul (tp_f_pos t) _ (fun i _ => ih.2 d c m k s _ hs)).1
    exact ⟨h1, key (n + 1) h1⟩
theorem tp_Bm (ok : tp_Ok t) (u : Nat → Nat) (n d c m k : Nat) {s : Nat} (hs : s < 3) : tp_B t u (tp_pr t) n d c m k s = tp_ma (tp_Xm t u n d c m k s) (tp_lo t u d) (tp_hi t u d - tp_lo t u d) := (tp_mv_mul (tp_f_pos t) _ (fun i _ => (tp_WX ok u n).2 d c m k s _ hs)).2
theorem tp_Xm_bd (ok : tp_Ok t) (u : Nat → Nat) {n : Nat} (hn : n ≤ 19) (d c m k : Nat) {s x : Nat} (hs : s < 3) (hx : x ≤ 4) : -2814749767106560000 ≤ tp_Xm t u n d c m k s x ∧ tp_Xm t u n d c m k s x ≤ 2814749767106560000 := by
  have h := tp_X_bd ok u (tp_pr_ok ok) hn d c m k hs hx
  rw [(tp_WX ok u n).2 d c m k s x hs] at h
  unfold tp_f at h
  split at h <;> omega
theorem tp_g1_bd (ok : tp_Ok t) (u : Nat → Nat) {d c m k s x : Nat} (hs : s < 3) (hx : x ≤ 9) : -288000 ≤ tp_g1 t u d c m k s x ∧ tp_g1 t u d c m k s x ≤ 288000 ∧ 0 ≤ 100 * (t (20 + s) : Int) * x ∧ 100 * (t (20 + s) : Int) * x ≤ 54000 ∧ tp_nC t u d c m k x * tp_un t (t (20 + s)) 1 + tp_fl t u d c m k x ≤ 126000 ∧ 100 * t 6 * tp_sh t u d c m k x ≤ 72000 := by
  have hp := ok.2.2.2.2.2.2.2.2.2.2.2.2.2.2.2.1 s hs
  have a1 : tp_nC t u d c m k x * tp_un t (t (20 + s)) 1 ≤ 9 * 6000 := Nat.mul_le_mul (Nat.le_trans (tp_nC_x _ _ _ _ _ _ _) hx) (tp_un_le ok (by omega))
  have a2 := tp_fl_le ok u d c m k hx
  have a3 := tp_ps_le ok u d c m k x
  have a4 : 100 * t (20 + s) * x ≤ 100 * 60 * 9 := Nat.mul_le_mul (Nat.mul_le_mul_left _ hp) hx
  have e1 : (100 * (t (20 + s) : Int) * x) = ((100 * t (20 + s) * x : Nat) : Int) := by simp only [Int.natCast_mul]; rfl
  unfold tp_g1
  rw [e1]
  omega
end MWN
