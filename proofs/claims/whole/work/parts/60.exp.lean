/-! WHAT IS EXPECTED, in numbers; sums over rows -/
section EXN
variable {t u : Nat → Nat}
/-- what a place adds of its own: 0 what is paid less the cost, 1 what is taken, 2 SHORT, 3 MADE UP -/
def tp_cb (t u : Nat → Nat) (j n d c m k s : Nat) : Int := match j with
  | 0 => 4 ^ n * ((tp_nC t u d c m k (tp_B t u (tp_pr t) n d c m k s) : Int) * tp_un t (tp_pr t d s) 4 + 4 * ((tp_fl t u d c m k (tp_B t u (tp_pr t) n d c m k s) : Int) + ((100 * t 6 * tp_sh t u d c m k (tp_B t u (tp_pr t) n d c m k s) : Nat) : Int) - 100 * (t 14 : Int) * (tp_B t u (tp_pr t) n d c m k s : Int)))
  | 1 => 4 ^ n * (4 * (tp_B t u (tp_pr t) n d c m k s : Int))
  | 2 => 4 ^ n * (4 * (tp_sh t u d c m k (tp_B t u (tp_pr t) n d c m k s) : Int))
  | _ => 4 ^ n * (4 * (tp_mU t u d c m k (tp_B t u (tp_pr t) n d c m k s) : Int))
def tp_F (t u : Nat → Nat) (j : Nat) : Nat → Nat → Nat → Nat → Nat → Nat → Int
  | 0, _, _, _, _, _ => 0
  | n + 1, d, c, m, k, s => tp_cb t u j n d c m k s + ((tp_ch t s 0 : Int) * tp_F t u j n (d + 1) (tp_c2 t u d c m k (tp_B t u (tp_pr t) n d c m k s)) (tp_m2 t u d c m k (tp_B t u (tp_pr t) n d c m k s)) (tp_k2 t u d c m k (tp_B t u (tp_pr t) n d c m k s)) 0 + (tp_ch t s 1 : Int) * tp_F t u j n (d + 1) (tp_c2 t u d c m k (tp_B t u (tp_pr t) n d c m k s)) (tp_m2 t u d c m k (tp_B t u (tp_pr t) n d c m k s)) (tp_k2 t u d c m k (tp_B t u (tp_pr t) n d c m k s)) 1 + (tp_ch t s 2 : Int) * tp_F t u j n (d + 1) (tp_c2 t u d c m k (tp_B t u (tp_pr t) n d c m k s)) (tp_m2 t u d c m k (tp_B t u (tp_pr t) n d c m k s)) (tp_k2 t u d c m k (tp_B t u (tp_pr t) n d c m k s)) 2)
theorem tp_F_s (j n d c m k s : Nat) : tp_F t u j (n + 1) d c m k s = tp_cb t u j n d c m k s + ((tp_ch t s 0 : Int) * tp_F t u j n (d + 1) (tp_c2 t u d c m k (tp_B t u (tp_pr t) n d c m k s)) (tp_m2 t u d c m k (tp_B t u (tp_pr t) n d c m k s)) (tp_k2 t u d c m k (tp_B t u (tp_pr t) n d c m k s)) 0 + (tp_ch t s 1 : Int) * tp_F t u j n (d + 1) (tp_c2 t u d c m k (tp_B t u (tp_pr t) n d c m k s)) (tp_m2 t u d c m k (tp_B t u (tp_pr t) n d c m k s)) (tp_k2 t u d c m k (tp_B t u (tp_pr t) n d c m k s)) 1 + (tp_ch t s 2 : Int) * tp_F t u j n (d + 1) (tp_c2 t u d c m k (tp_B t u (tp_pr t) n d c m k s)) (tp_m2 t u d c m k (tp_B t u (tp_pr t) n d c m k s)) (tp_k2 t u d c m k (tp_B t u (tp_pr t) n d c m k s)) 2) := rfl
/-- what one taking of a state adds, by the model's own reckoning -/
def tp_ad (t u : Nat → Nat) (j d c m k s x : Nat) : Int := match j with
  | 0 => ((tp_nC t u d c m k x * tp_un t (t (20 + s)) 1 + tp_fl t u d c m k x : Nat) : Int) + ((100 * t 6 * tp_sh t u d c m k x : Nat) : Int) - 100 * (t 14 : Int) * (x : Int)
  | 1 => (x : Int)
  | 2 => (tp_sh t u d c m k x : Int)
  | _ => (tp_mU t u d c m k x : Int)
theorem tp_cb_0 (h12 : t 12 = 0) (j n d c m k s : Nat) : tp_cb t u j n d c m k s = 4 ^ (n + 1) * tp_ad t u j d c m k s (tp_B t u (tp_pr t) n d c m k s) := by
  have e : tp_pr t d s = 4 * t (20 + s) := by unfold tp_pr; rw [if_neg (by omega)]
  unfold tp_cb tp_ad
  generalize tp_B t u (tp_pr t) n d c m k s = x
  rw [e, Int.pow_succ]
  generalize (4 ^ n : Int) = P
  match j with
  | 0 =>
    show P * _ = P * 4 * _
    unfold tp_un
    simp only [Int.natCast_add, Int.natCast_mul, Int.cast_ofNat_Int]
    generalize (tp_nC t u d c m k x : Int) = N
    generalize (tp_fl t u d c m k x : Int) = F
    generalize (tp_sh t u d c m k x : Int) = S
    generalize ((100 - t 7 : Nat) : Int) = I1
    generalize (t 7 : Int) = I2
    generalize (t 6 : Int) = B
    generalize (t 14 : Int) = C
    generalize (t (20 + s) : Int) = p
    generalize (x : Int) = X
    grind
  | 1 => show P * (4 * (x : Int)) = P * 4 * (x : Int); grind
  | 2 => show P * (4 * (tp_sh t u d c m k x : Int)) = P * 4 * (tp_sh t u d c m k x : Int); grind
  | j + 3 => show P * (4 * (tp_mU t u d c m k x : Int)) = P * 4 * (tp_mU t u d c m k x : Int); grind
theorem tp_cb_1 (ok : tp_Ok t) (h12 : t 12 = 1) (j n d c m k : Nat) {s : Nat} (hs : s < 3) : tp_cb t u j n d c m k s = (tp_ch t s 0 : Int) * 4 ^ n * tp_ad t u j d c m k 0 (tp_B t u (tp_pr t) n d c m k s) + (tp_ch t s 1 : Int) * 4 ^ n * tp_ad t u j d c m k 1 (tp_B t u (tp_pr t) n d c m k s) + (tp_ch t s 2 : Int) * 4 ^ n * tp_ad t u j d c m k 2 (tp_B t u (tp_pr t) n d c m k s) := by
  have e : tp_pr t d s = tp_ch t s 0 * t 20 + tp_ch t s 1 * t 21 + tp_ch t s 2 * t 22 := by unfold tp_pr; rw [if_pos h12]
  have hc := tp_ch_sum ok hs
  have hc2 : (tp_ch t s 2 : Int) = 4 - (tp_ch t s 0 : Int) - (tp_ch t s 1 : Int) := by omega
  unfold tp_cb tp_ad
  generalize tp_B t u (tp_pr t) n d c m k s = x
  rw [e]
  generalize (4 ^ n : Int) = P
  match j with
  | 0 =>
    show P * _ = _ * P * _ + _ * P * _ + _ * P * _
    unfold tp_un
    simp only [Int.natCast_add, Int.natCast_mul, Int.cast_ofNat_Int]
    rw [hc2]
    have q0 : (t (20 + 0) : Int) = t 20 := rfl
    have q1 : (t (20 + 1) : Int) = t 21 := rfl
    have q2 : (t (20 + 2) : Int) = t 22 := rfl
    rw [q0, q1, q2]
    generalize (tp_ch t s 0 : Int) = c0
    generalize (tp_ch t s 1 : Int) = c1
    generalize (tp_nC t u d c m k x : Int) = N
    generalize (tp_fl t u d c m k x : Int) = F
    generalize (tp_sh t u d c m k x : Int) = S
    generalize ((100 - t 7 : Nat) : Int) = I1
    generalize (t 7 : Int) = I2
    generalize (t 6 : Int) = B
    generalize (t 14 : Int) = C
    generalize (t 20 : Int) = p0
    generalize (t 21 : Int) = p1
    generalize (t 22 : Int) = p2
    generalize (x : Int) = X
    grind
  | 1 => show P * (4 * (x : Int)) = _ * P * (x : Int) + _ * P * (x : Int) + _ * P * (x : Int); rw [hc2]; grind
  | 2 => show P * (4 * (tp_sh t u d c m k x : Int)) = _ * P * (tp_sh t u d c m k x : Int) + _ * P * (tp_sh t u d c m k x : Int) + _ * P * (tp_sh t u d c m k x : Int); rw [hc2]; grind
  | j + 3 => show P * (4 * (tp_mU t u d c m k x : Int)) = _ * P * (tp_mU t u d c m k x : Int) + _ * P * (tp_mU t u d c m k x : Int) + _ * P * (tp_mU t u d c m k x : Int); rw [hc2]; grind
end EXN
/-! sums -/
def tp_sr (f : Nat → Int) (q : Nat) : Nat → Int
  | 0 => 0
  | r + 1 => f q + tp_sr f (q + 1) r
theorem tp_sr_ext {f g : Nat → Int} : ∀ r q, (∀ i, q ≤ i → i < q + r → f i = g i) → tp_sr f q r = tp_sr g q r
  | 0, _, _ => rfl
  | r + 1, q, h => by
    unfold tp_sr
    rw [h q (by omega) (by omega), tp_sr_ext r (q + 1) (fun i h1 h2 => h i (by omega) (by omega))]
theorem tp_sr_up {f g : Nat → Int} {a : Int} {p : Nat} : ∀ r q, q ≤ p → p < q + r → (∀ i, i ≠ p → g i = f i) → g p = f p + a → tp_sr g q r = tp_sr f q r + a
  | 0, q, h1, h2, _, _ => by omega
  | r + 1, q, h1, h2, h3, h4 => by
    unfold tp_sr
    by_cases c : q = p
    · subst c
      rw [h4, tp_sr_ext r (q + 1) (fun i a1 a2 => h3 i (by omega))]
      omega
    · rw [h3 q c, tp_sr_up r (q + 1) (by omega) (by omega) h3 h4]
      omega
theorem tp_sr_le {f : Nat → Int} {p : Nat} : ∀ r q, (∀ i, q ≤ i → i < q + r → 0 ≤ f i) → q ≤ p → p < q + r → f p ≤ tp_sr f q r
  | 0, q, _, h1, h2 => by omega
  | r + 1, q, h0, h1, h2 => by
    have nn : ∀ r q, (∀ i, q ≤ i → i < q + r → 0 ≤ f i) → 0 ≤ tp_sr f q r := by
      intro r
      induction r with
      | zero => intro q _; exact Int.le_refl 0
      | succ r ih =>
        intro q h
        have := ih (q + 1) (fun i a b => h i (by omega) (by omega))
        have := h q (by omega) (by omega)
        unfold tp_sr
        omega
    unfold tp_sr
    by_cases c : q = p
    · subst c
      have := nn r (q + 1) (fun i a b => h0 i (by omega) (by omega))
      omega
    · have := tp_sr_le r (q + 1) (fun i a b => h0 i (by omega) (by omega)) (by omega : q + 1 ≤ p) (by omega)
      have := h0 q (by omega) (by omega)
      omega
theorem tp_sr_mul {f : Nat → Int} {a : Int} : ∀ r q, tp_sr (fun i => f i * a) q r = tp_sr f q r * a
  | 0, q => by simp [tp_sr]
  | r + 1, q => by
    unfold tp_sr
    rw [tp_sr_mul r (q + 1), Int.add_mul]
theorem tp_sr_zero {f : Nat → Int} : ∀ r q, (∀ i, q ≤ i → i < q + r → f i = 0) → tp_sr f q r = 0
  | 0, _, _ => rfl
  | r + 1, q, h => by
    unfold tp_sr
    rw [h q (by omega) (by omega), tp_sr_zero r (q + 1) (fun i h1 h2 => h i (by omega) (by omega))]
    rfl
