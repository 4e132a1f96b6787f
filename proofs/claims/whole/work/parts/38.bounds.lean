/-! BOUNDS OF WORTHS -/
section TPW
variable {t u : Nat → Nat} {pr : Nat → Nat → Nat}
def tp_Pr (pr : Nat → Nat → Nat) : Prop := ∀ d s, s < 3 → pr d s ≤ 240
theorem tp_pr_ok (ok : tp_Ok t) : tp_Pr (tp_pr t) := by
  intro d s hs
  unfold tp_pr
  have hp := ok.2.2.2.2.2.2.2.2.2.2.2.2.2.2.2.1
  split
  · have h0 : t 20 ≤ 60 := hp 0 (by omega)
    have h1 : t 21 ≤ 60 := hp 1 (by omega)
    have h2 : t 22 ≤ 60 := hp 2 (by omega)
    have hc := tp_ch_sum ok hs
    have a0 := Nat.mul_le_mul_left (tp_ch t s 0) h0
    have a1 := Nat.mul_le_mul_left (tp_ch t s 1) h1
    have a2 := Nat.mul_le_mul_left (tp_ch t s 2) h2
    omega
  · have := hp s hs
    omega
theorem tp_un_le (ok : tp_Ok t) {p n : Nat} (hp : p ≤ 60 * n) : tp_un t p n ≤ 6000 * n := by
  unfold tp_un
  have h6 := ok.2.2.2.2.2.1.2
  have h7 := ok.2.2.2.2.2.2.1
  have a1 : n * t 6 * (100 - t 7) ≤ n * 60 * (100 - t 7) := Nat.mul_le_mul_right _ (Nat.mul_le_mul_left _ h6)
  have a2 : p * t 7 ≤ 60 * n * t 7 := Nat.mul_le_mul_right _ hp
  have a3 : n * 60 * (100 - t 7) + 60 * n * t 7 = 6000 * n := by
    rw [Nat.mul_comm 60 n, ← Nat.mul_add]
    have : 100 - t 7 + t 7 = 100 := by omega
    rw [this]
    omega
  omega
/-- a day's taking, for at most 9 units: what is paid and what is gained -/
theorem tp_fl_le (ok : tp_Ok t) (u : Nat → Nat) (d c m k : Nat) {x X : Nat} (hx : x ≤ X) : tp_fl t u d c m k x ≤ 8000 * X := by
  unfold tp_fl
  have h8 := ok.2.2.2.2.2.2.2.1
  have h10 := ok.2.2.2.2.2.2.2.2.2.1
  have a1 : t 8 * tp_oV t u d c m k x ≤ 20 * X := Nat.mul_le_mul h8 (Nat.le_trans (tp_oV_x _ _ _ _ _ _ _) hx)
  have a2 : t 10 * tp_mU t u d c m k x ≤ 60 * X := Nat.mul_le_mul h10 (Nat.le_trans (tp_mU_x _ _ _ _ _ _ _) hx)
  omega
theorem tp_ps_le (ok : tp_Ok t) (u : Nat → Nat) (d c m k x : Nat) : 100 * t 6 * tp_sh t u d c m k x ≤ 72000 := by
  have h6 := ok.2.2.2.2.2.1.2
  have a1 : 100 * t 6 * tp_sh t u d c m k x ≤ 100 * 60 * 12 := Nat.mul_le_mul (Nat.mul_le_mul_left _ h6) (tp_sh_le _ _ _ _ _ _ _)
  omega
theorem tp_paid_le (ok : tp_Ok t) (u : Nat → Nat) (d c m k : Nat) {x p : Nat} (hx : x ≤ 4) (hp : p ≤ 240) : tp_nC t u d c m k x * tp_un t p 4 + 4 * (tp_fl t u d c m k x + 100 * t 6 * tp_sh t u d c m k x) ≤ 512000 := by
  have a1 : tp_nC t u d c m k x * tp_un t p 4 ≤ 4 * 24000 := Nat.mul_le_mul (Nat.le_trans (tp_nC_x _ _ _ _ _ _ _) hx) (tp_un_le ok (by omega))
  have a2 := tp_fl_le ok u d c m k hx
  have a3 := tp_ps_le ok u d c m k x
  omega
theorem tp_g4_bd (ok : tp_Ok t) (u : Nat → Nat) (hp : tp_Pr pr) {d c m k s x : Nat} (hs : s < 3) (hx : x ≤ 4) : -512000 ≤ tp_g4 t u pr d c m k s x ∧ tp_g4 t u pr d c m k s x ≤ 512000 := by
  have a1 := tp_paid_le ok u d c m k hx (hp d s hs)
  have a2 : 100 * pr d s * x ≤ 100 * 240 * 4 := Nat.mul_le_mul (Nat.mul_le_mul_left _ (hp d s hs)) hx
  unfold tp_g4
  have e1 : (100 * (pr d s : Int) * x) = ((100 * pr d s * x : Nat) : Int) := by simp only [Int.natCast_mul]; rfl
  have e2 : ((tp_nC t u d c m k x : Int) * tp_un t (pr d s) 4 + 4 * ((tp_fl t u d c m k x : Int) + (100 * t 6 * tp_sh t u d c m k x : Nat))) = ((tp_nC t u d c m k x * tp_un t (pr d s) 4 + 4 * (tp_fl t u d c m k x + 100 * t 6 * tp_sh t u d c m k x) : Nat) : Int) := by
    simp only [Int.natCast_mul, Int.natCast_add]; rfl
  rw [e1, e2]
  omega
theorem tp_comb {a b c w0 w1 w2 B : Int} (ha : 0 ≤ a) (hb : 0 ≤ b) (hc : 0 ≤ c) (hs : a + b + c = 4) (h0 : w0 ≤ B) (h1 : w1 ≤ B) (h2 : w2 ≤ B) : a * w0 + b * w1 + c * w2 ≤ 4 * B := by
  have e0 := Int.mul_le_mul_of_nonneg_left h0 ha
  have e1 := Int.mul_le_mul_of_nonneg_left h1 hb
  have e2 := Int.mul_le_mul_of_nonneg_left h2 hc
  have e3 : a * B + b * B + c * B = 4 * B := by rw [← Int.add_mul, ← Int.add_mul, hs]
  omega
theorem tp_combL {a b c w0 w1 w2 B : Int} (ha : 0 ≤ a) (hb : 0 ≤ b) (hc : 0 ≤ c) (hs : a + b + c = 4) (h0 : -B ≤ w0) (h1 : -B ≤ w1) (h2 : -B ≤ w2) : -(4 * B) ≤ a * w0 + b * w1 + c * w2 := by
  have e0 := Int.mul_le_mul_of_nonneg_left h0 ha
  have e1 := Int.mul_le_mul_of_nonneg_left h1 hb
  have e2 := Int.mul_le_mul_of_nonneg_left h2 hc
  have e3 : a * (-B) + b * (-B) + c * (-B) = 4 * (-B) := by rw [← Int.add_mul, ← Int.add_mul, hs]
  omega
theorem tp_mv_bd {f : Nat → Int} {lo : Nat} {A B : Int} : ∀ j, (∀ i, i ≤ j → A ≤ f (lo + i) ∧ f (lo + i) ≤ B) → A ≤ tp_mv f lo j ∧ tp_mv f lo j ≤ B
  | 0, h => h 0 (Nat.le_refl 0)
  | j + 1, h => by
    have h1 := tp_mv_bd j (fun i hi => h i (by omega))
    have h2 := h (j + 1) (Nat.le_refl _)
    unfold tp_mv
    split
    · exact h2
    · exact h1
/-- four to the power, times so many -/
def tp_bd (n : Nat) : Int := (n : Int) * 512000 * 4 ^ n
theorem tp_bd_s (n : Nat) : tp_bd (n + 1) = 4 * (512000 * 4 ^ n + tp_bd n) := by
  unfold tp_bd
  rw [Int.natCast_succ, Int.pow_succ]
  have : ∀ a q : Int, (a + 1) * 512000 * (q * 4) = 4 * (512000 * q + a * 512000 * q) := by intro a q; grind
  exact this _ _
theorem tp_W_bd (ok : tp_Ok t) (u : Nat → Nat) (hp : tp_Pr pr) : ∀ n d c m k s, s < 3 → -(tp_bd n) ≤ 4 * tp_W t u pr n d c m k s ∧ 4 * tp_W t u pr n d c m k s ≤ tp_bd n
  | 0, d, c, m, k, s, _ => by simp [tp_W, tp_bd]
  | n + 1, d, c, m, k, s, hs => by
    have hl := tp_lohi (u := u) ok d
    have hpow : (0 : Int) ≤ 4 ^ n := Int.pow_nonneg (by omega)
    have hX : ∀ x, x ≤ 4 → -(512000 * 4 ^ n + tp_bd n) ≤ tp_X t u pr n d c m k s x ∧ tp_X t u pr n d c m k s x ≤ 512000 * 4 ^ n + tp_bd n := by
      intro x hx
      have hg := tp_g4_bd ok u hp (d := d) (c := c) (m := m) (k := k) hs hx
      have w := fun v hv => tp_W_bd ok u hp n (d + 1) (tp_c2 t u d c m k x) (tp_m2 t u d c m k x) (tp_k2 t u d c m k x) v hv
      have w0 := w 0 (by omega)
      have w1 := w 1 (by omega)
      have w2 := w 2 (by omega)
      have hc := tp_ch_sum ok hs
      have g1 := Int.mul_le_mul_of_nonneg_right hg.1 hpow
      have g2 := Int.mul_le_mul_of_nonneg_right hg.2 hpow
      unfold tp_X tp_A
      generalize hW0 : tp_W t u pr n (d + 1) (tp_c2 t u d c m k x) (tp_m2 t u d c m k x) (tp_k2 t u d c m k x) 0 = W0 at *
      generalize hW1 : tp_W t u pr n (d + 1) (tp_c2 t u d c m k x) (tp_m2 t u d c m k x) (tp_k2 t u d c m k x) 1 = W1 at *
      generalize hW2 : tp_W t u pr n (d + 1) (tp_c2 t u d c m k x) (tp_m2 t u d c m k x) (tp_k2 t u d c m k x) 2 = W2 at *
      have s1 := tp_comb (a := (tp_ch t s 0 : Int)) (b := (tp_ch t s 1 : Int)) (c := (tp_ch t s 2 : Int)) (B := tp_bd n) (by omega) (by omega) (by omega) (by omega) w0.2 w1.2 w2.2
      have s2 := tp_combL (a := (tp_ch t s 0 : Int)) (b := (tp_ch t s 1 : Int)) (c := (tp_ch t s 2 : Int)) (B := tp_bd n) (by omega) (by omega) (by omega) (by omega) w0.1 w1.1 w2.1
      have r : (tp_ch t s 0 : Int) * (4 * W0) + (tp_ch t s 1 : Int) * (4 * W1) + (tp_ch t s 2 : Int) * (4 * W2) = 4 * ((tp_ch t s 0 : Int) * W0 + (tp_ch t s 1 : Int) * W1 + (tp_ch t s 2 : Int) * W2) := by grind
      rw [r] at s1 s2
      omega
    rw [tp_W_s, tp_bd_s]
    have hb := tp_mv_bd (f := tp_X t u pr n d c m k s) (lo := tp_lo t u d) (tp_hi t u d - tp_lo t u d) (fun i hi => hX _ (by omega))
    omega
theorem tp_bd_le {n : Nat} (h : n ≤ 20) : 0 ≤ tp_bd n ∧ tp_bd n ≤ 11258999068426240000 := by
  have : n = 0 ∨ n = 1 ∨ n = 2 ∨ n = 3 ∨ n = 4 ∨ n = 5 ∨ n = 6 ∨ n = 7 ∨ n = 8 ∨ n = 9 ∨ n = 10 ∨ n = 11 ∨ n = 12 ∨ n = 13 ∨ n = 14 ∨ n = 15 ∨ n = 16 ∨ n = 17 ∨ n = 18 ∨ n = 19 ∨ n = 20 := by omega
  unfold tp_bd
  rcases this with e | e | e | e | e | e | e | e | e | e | e | e | e | e | e | e | e | e | e | e | e <;> subst e <;> decide
/-- a worth fits -/
theorem tp_X_bd (ok : tp_Ok t) (u : Nat → Nat) (hp : tp_Pr pr) {n : Nat} (hn : n ≤ 19) (d c m k : Nat) {s x : Nat} (hs : s < 3) (hx : x ≤ 4) : -2814749767106560000 ≤ tp_X t u pr n d c m k s x ∧ tp_X t u pr n d c m k s x ≤ 2814749767106560000 := by
  have hpow : (0 : Int) ≤ 4 ^ n := Int.pow_nonneg (by omega)
  have hg := tp_g4_bd ok u hp (d := d) (c := c) (m := m) (k := k) hs hx
  have w := fun v hv => tp_W_bd ok u hp n (d + 1) (tp_c2 t u d c m k x) (tp_m2 t u d c m k x) (tp_k2 t u d c m k x) v hv
  have w0 := w 0 (by omega)
  have w1 := w 1 (by omega)
  have w2 := w 2 (by omega)
  have hc := tp_ch_sum ok hs
  have g1 := Int.mul_le_mul_of_nonneg_right hg.1 hpow
  have g2 := Int.mul_le_mul_of_nonneg_right hg.2 hpow
  have hb := tp_bd_le (show n + 1 ≤ 20 by omega)
  rw [tp_bd_s] at hb
  unfold tp_X tp_A
  generalize tp_W t u pr n (d + 1) (tp_c2 t u d c m k x) (tp_m2 t u d c m k x) (tp_k2 t u d c m k x) 0 = W0 at *
  generalize tp_W t u pr n (d + 1) (tp_c2 t u d c m k x) (tp_m2 t u d c m k x) (tp_k2 t u d c m k x) 1 = W1 at *
  generalize tp_W t u pr n (d + 1) (tp_c2 t u d c m k x) (tp_m2 t u d c m k x) (tp_k2 t u d c m k x) 2 = W2 at *
  have s1 := tp_comb (a := (tp_ch t s 0 : Int)) (b := (tp_ch t s 1 : Int)) (c := (tp_ch t s 2 : Int)) (B := tp_bd n) (by omega) (by omega) (by omega) (by omega) w0.2 w1.2 w2.2
  have s2 := tp_combL (a := (tp_ch t s 0 : Int)) (b := (tp_ch t s 1 : Int)) (c := (tp_ch t s 2 : Int)) (B := tp_bd n) (by omega) (by omega) (by omega) (by omega) w0.1 w1.1 w2.1
  have r : (tp_ch t s 0 : Int) * (4 * W0) + (tp_ch t s 1 : Int) * (4 * W1) + (tp_ch t s 2 : Int) * (4 * W2) = 4 * ((tp_ch t s 0 : Int) * W0 + (tp_ch t s 1 : Int) * W1 + (tp_ch t s 2 : Int) * W2) := by grind
  rw [r] at s1 s2
  omega
theorem tp_mX_bd (ok : tp_Ok t) (u : Nat → Nat) (hp : tp_Pr pr) {n : Nat} (hn : n ≤ 19) (d c m k : Nat) {s j : Nat} (hs : s < 3) (hj : tp_lo t u d + j ≤ 4) : -2814749767106560000 ≤ tp_mv (tp_X t u pr n d c m k s) (tp_lo t u d) j ∧ tp_mv (tp_X t u pr n d c m k s) (tp_lo t u d) j ≤ 2814749767106560000 := tp_mv_bd j (fun i hi => tp_X_bd ok u hp hn d c m k hs (by omega))
end TPW
