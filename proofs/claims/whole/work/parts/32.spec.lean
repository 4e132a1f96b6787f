/-! THE PAGE IN NUMBERS: t the terms (as told() numbers them), u the days (3: open, else who shut it) -/
def tp_Ok (t : Nat → Nat) : Prop := (1 ≤ t 0 ∧ t 0 ≤ 4) ∧ (1 ≤ t 1 ∧ t 1 ≤ 5) ∧ (1 ≤ t 2 ∧ t 2 ≤ 16) ∧ (t 3 ≤ t 4 ∧ t 4 ≤ 4) ∧ t 5 ≤ 100 ∧ (1 ≤ t 6 ∧ t 6 ≤ 60) ∧ t 7 ≤ 100 ∧ t 8 ≤ 20 ∧ t 9 ≤ 2 ∧ t 10 ≤ 60 ∧ t 11 ≤ 1 ∧ t 12 ≤ 1 ∧ t 13 ≤ 7 ∧ t 14 ≤ 60 ∧ t 15 ≤ 2 ∧ (∀ s, s < 3 → t (20 + s) ≤ 60) ∧ (∀ s, s < 3 → t (30 + 3 * s) + t (31 + 3 * s) + t (32 + 3 * s) = 4)
def tp_Ou (u : Nat → Nat) : Prop := ∀ d, u d ≤ 3
def tp_T (t : Nat → Nat) : Nat := t 0 * t 1
def tp_uJ (w : Nat) : Int := if w = 3 then -4 else (w : Int)
def tp_fr (t : Nat → Nat) (w : Nat) : Bool := decide (t 13 / 2 ^ w % 2 = 1)
def tp_cnt (p : Nat → Bool) : Nat → Nat
  | 0 => 0
  | n + 1 => tp_cnt p n + (if p n = true then 1 else 0)
def tp_frN (t u : Nat → Nat) (y : Nat) : Nat := tp_cnt (fun i => decide (u (y * t 1 + i) ≠ 3) && tp_fr t (u (y * t 1 + i))) (t 1)
def tp_shN (t u : Nat → Nat) (y : Nat) : Nat := tp_cnt (fun i => decide (u (y * t 1 + i) ≠ 3)) (t 1)
def tp_ls (t : Nat → Nat) (v f : Nat) : Nat := v - v * f / t 1
def tp_top (t : Nat → Nat) : Nat := min 12 (t 2 * t 5 / 100)
def tp_qt (t u : Nat → Nat) (y : Nat) : Nat := tp_ls t (t 2) (tp_frN t u y)
def tp_tp (t u : Nat → Nat) (y : Nat) : Nat := tp_ls t (tp_top t) (tp_frN t u y)
def tp_lo (t u : Nat → Nat) (d : Nat) : Nat := if u d = 3 then t 3 else 0
def tp_hi (t u : Nat → Nat) (d : Nat) : Nat := if u d = 3 then t 4 else 0
/-! a day's taking -/
def tp_mU (t u : Nat → Nat) (d c m k x : Nat) : Nat := if t 9 = 0 then 0 else min (x - (if t 9 = 2 then min x (tp_tp t u (d / t 1) - k - c) else 0)) m
def tp_nC (t u : Nat → Nat) (d c m k x : Nat) : Nat := x - tp_mU t u d c m k x
def tp_oV (t u : Nat → Nat) (d c m k x : Nat) : Nat := min (tp_nC t u d c m k x) (c + tp_nC t u d c m k x - tp_qt t u (d / t 1))
def tp_fl (t u : Nat → Nat) (d c m k x : Nat) : Nat := 100 * (t 8 * tp_oV t u d c m k x + t 10 * tp_mU t u d c m k x)
def tp_c1 (t u : Nat → Nat) (d c m k x : Nat) : Nat := min 20 (c + tp_nC t u d c m k x)
def tp_m1 (t u : Nat → Nat) (d c m k x : Nat) : Nat := m - tp_mU t u d c m k x
/-! a year's end -/
def tp_lst (t : Nat → Nat) (d : Nat) : Prop := (d + 1) % t 1 = 0
def tp_sE (t u : Nat → Nat) (y c k : Nat) : Nat := tp_tp t u y - k - c
def tp_mE (t u : Nat → Nat) (y c k : Nat) : Nat := if t 9 = 0 then 0 else tp_sE t u y c k
def tp_kE (t u : Nat → Nat) (y c : Nat) : Nat := if t 11 = 1 then min 8 (c - tp_qt t u y) else 0
def tp_sh (t u : Nat → Nat) (d c m k x : Nat) : Nat := if (d + 1) % t 1 = 0 then tp_sE t u (d / t 1) (tp_c1 t u d c m k x) k else 0
def tp_c2 (t u : Nat → Nat) (d c m k x : Nat) : Nat := if (d + 1) % t 1 = 0 then 0 else tp_c1 t u d c m k x
def tp_m2 (t u : Nat → Nat) (d c m k x : Nat) : Nat := if (d + 1) % t 1 = 0 then tp_mE t u (d / t 1) (tp_c1 t u d c m k x) k else tp_m1 t u d c m k x
def tp_k2 (t u : Nat → Nat) (d c m k x : Nat) : Nat := if (d + 1) % t 1 = 0 then tp_kE t u (d / t 1) (tp_c1 t u d c m k x) else k
/-! worths: pr the price next door by day and state, four times -/
def tp_un (t : Nat → Nat) (p n : Nat) : Nat := n * t 6 * (100 - t 7) + p * t 7
def tp_g4 (t u : Nat → Nat) (pr : Nat → Nat → Nat) (d c m k s x : Nat) : Int := 100 * (pr d s : Int) * x - ((tp_nC t u d c m k x : Int) * tp_un t (pr d s) 4 + 4 * ((tp_fl t u d c m k x : Int) + (100 * t 6 * tp_sh t u d c m k x : Nat)))
def tp_mv (f : Nat → Int) (lo : Nat) : Nat → Int
  | 0 => f lo
  | j + 1 => if tp_mv f lo j < f (lo + (j + 1)) then f (lo + (j + 1)) else tp_mv f lo j
def tp_ma (f : Nat → Int) (lo : Nat) : Nat → Nat
  | 0 => lo
  | j + 1 => if tp_mv f lo j < f (lo + (j + 1)) then lo + (j + 1) else tp_ma f lo j
def tp_ch (t : Nat → Nat) (s v : Nat) : Nat := t (30 + 3 * s + v)
def tp_W (t u : Nat → Nat) (pr : Nat → Nat → Nat) : Nat → Nat → Nat → Nat → Nat → Nat → Int
  | 0, _, _, _, _, _ => 0
  | n + 1, d, c, m, k, s => tp_mv (fun x => tp_g4 t u pr d c m k s x * 4 ^ n + ((tp_ch t s 0 : Int) * tp_W t u pr n (d + 1) (tp_c2 t u d c m k x) (tp_m2 t u d c m k x) (tp_k2 t u d c m k x) 0 + (tp_ch t s 1 : Int) * tp_W t u pr n (d + 1) (tp_c2 t u d c m k x) (tp_m2 t u d c m k x) (tp_k2 t u d c m k x) 1 + (tp_ch t s 2 : Int) * tp_W t u pr n (d + 1) (tp_c2 t u d c m k x) (tp_m2 t u d c m k x) (tp_k2 t u d c m k x) 2)) (tp_lo t u d) (tp_hi t u d - tp_lo t u d)
/-- what is expected from day d on, behind a day of state s: n days are left -/
def tp_A (t u : Nat → Nat) (pr : Nat → Nat → Nat) (n d c m k s : Nat) : Int := (tp_ch t s 0 : Int) * tp_W t u pr n d c m k 0 + (tp_ch t s 1 : Int) * tp_W t u pr n d c m k 1 + (tp_ch t s 2 : Int) * tp_W t u pr n d c m k 2
/-- the worth of a taking, n days being left behind this one -/
def tp_X (t u : Nat → Nat) (pr : Nat → Nat → Nat) (n d c m k s x : Nat) : Int := tp_g4 t u pr d c m k s x * 4 ^ n + tp_A t u pr n (d + 1) (tp_c2 t u d c m k x) (tp_m2 t u d c m k x) (tp_k2 t u d c m k x) s
theorem tp_W_s (t u : Nat → Nat) (pr : Nat → Nat → Nat) (n d c m k s : Nat) : tp_W t u pr (n + 1) d c m k s = tp_mv (tp_X t u pr n d c m k s) (tp_lo t u d) (tp_hi t u d - tp_lo t u d) := rfl
def tp_B (t u : Nat → Nat) (pr : Nat → Nat → Nat) (n d c m k s : Nat) : Nat := tp_ma (tp_X t u pr n d c m k s) (tp_lo t u d) (tp_hi t u d - tp_lo t u d)
/-- what a buyer of this page knows of the price next door -/
def tp_pr (t : Nat → Nat) (_ s : Nat) : Nat := if t 12 = 1 then tp_ch t s 0 * t 20 + tp_ch t s 1 * t 21 + tp_ch t s 2 * t 22 else 4 * t (20 + s)
/-! bounds -/
section TPB
variable {t u : Nat → Nat} (ok : tp_Ok t)
theorem tp_cnt_le (p : Nat → Bool) : ∀ n, tp_cnt p n ≤ n
  | 0 => Nat.le_refl 0
  | n + 1 => by
    have := tp_cnt_le p n
    unfold tp_cnt
    split <;> omega
theorem tp_cnt_ext {p q : Nat → Bool} : ∀ n, (∀ i, i < n → p i = q i) → tp_cnt p n = tp_cnt q n
  | 0, _ => rfl
  | n + 1, h => by
    unfold tp_cnt
    rw [tp_cnt_ext n (fun i hi => h i (by omega)), h n (by omega)]
theorem tp_cnt_add (p : Nat → Bool) (a : Nat) : ∀ n, tp_cnt p (a + n) = tp_cnt p a + tp_cnt (fun i => p (a + i)) n
  | 0 => rfl
  | n + 1 => by
    show tp_cnt p (a + n) + (if p (a + n) = true then 1 else 0) = tp_cnt p a + (tp_cnt (fun i => p (a + i)) n + (if p (a + n) = true then 1 else 0))
    rw [tp_cnt_add p a n]
    omega
theorem tp_cnt_none (p : Nat → Bool) : ∀ n, (∀ i, i < n → p i = false) → tp_cnt p n = 0
  | 0, _ => rfl
  | n + 1, h => by
    unfold tp_cnt
    rw [tp_cnt_none p n (fun i hi => h i (by omega)), h n (by omega)]
    rfl
/-- the days of one year among all days -/
theorem tp_cnt_year (p : Nat → Bool) {D : Nat} (hD : 0 < D) (y : Nat) : ∀ Y, y < Y → tp_cnt (fun d => decide (d / D = y) && p d) (Y * D) = tp_cnt (fun i => p (y * D + i)) D
  | 0, h => by omega
  | Y + 1, h => by
    rw [Nat.succ_mul, tp_cnt_add]
    have hd : ∀ i, i < D → (Y * D + i) / D = Y := fun i hi => by
      rw [Nat.mul_comm, Nat.mul_add_div hD, Nat.div_eq_of_lt hi, Nat.add_zero]
    by_cases e : y = Y
    · subst e
      rw [tp_cnt_none, Nat.zero_add]
      · refine tp_cnt_ext _ (fun i hi => ?_)
        simp [hd i hi]
      · intro i hi
        have : ¬ i / D = y := by
          intro e
          have := Nat.div_lt_of_lt_mul (show i < D * y by rw [Nat.mul_comm]; exact hi)
          omega
        simp [this]
    · have h0 : tp_cnt (fun i => decide ((Y * D + i) / D = y) && p (Y * D + i)) D = 0 := by
        refine tp_cnt_none _ D (fun i hi => ?_)
        have : ¬ Y = y := fun e' => e e'.symm
        simp [hd i hi, this]
      rw [tp_cnt_year p hD y Y (by omega), h0, Nat.add_zero]
theorem tp_frN_le (t u : Nat → Nat) (y : Nat) : tp_frN t u y ≤ t 1 := tp_cnt_le _ _
theorem tp_shN_le (t u : Nat → Nat) (y : Nat) : tp_shN t u y ≤ t 1 := tp_cnt_le _ _
theorem tp_ls_le (t : Nat → Nat) (v f : Nat) : tp_ls t v f ≤ v := Nat.sub_le _ _
theorem tp_ls_mono {v w f : Nat} (h0 : 0 < t 1) (hf : f ≤ t 1) (h : v ≤ w) : tp_ls t v f ≤ tp_ls t w f := by
  unfold tp_ls
  have h1 : w * f ≤ v * f + (w - v) * t 1 := by
    have e : w * f = v * f + (w - v) * f := by rw [← Nat.add_mul]; congr 1; omega
    rw [e]
    exact Nat.add_le_add_left (Nat.mul_le_mul_left _ hf) _
  have h2 : w * f / t 1 ≤ v * f / t 1 + (w - v) := by
    refine Nat.le_trans (Nat.div_le_div_right h1) ?_
    rw [Nat.add_mul_div_right _ _ h0]
    exact Nat.le_refl _
  have h3 : v * f / t 1 ≤ v := by
    refine Nat.le_trans (Nat.div_le_div_right (Nat.mul_le_mul_left v hf)) ?_
    rw [Nat.mul_div_cancel _ h0]
    exact Nat.le_refl _
  omega
theorem tp_top_le (t : Nat → Nat) : tp_top t ≤ 12 := Nat.min_le_left _ _
theorem tp_top_q (ok : tp_Ok t) : tp_top t ≤ t 2 := by
  unfold tp_top
  have h5 : t 5 ≤ 100 := ok.2.2.2.2.1
  have h1 : t 2 * t 5 / 100 ≤ t 2 := by
    refine Nat.le_trans (Nat.div_le_div_right (Nat.mul_le_mul_left _ h5)) ?_
    rw [Nat.mul_div_cancel _ (by omega)]
    exact Nat.le_refl _
  omega
theorem tp_tp_le (t u : Nat → Nat) (y : Nat) : tp_tp t u y ≤ 12 := Nat.le_trans (tp_ls_le _ _ _) (tp_top_le t)
theorem tp_qt_le (ok : tp_Ok t) (u : Nat → Nat) (y : Nat) : tp_qt t u y ≤ 16 := Nat.le_trans (tp_ls_le _ _ _) ok.2.2.1.2
theorem tp_tq (ok : tp_Ok t) (u : Nat → Nat) (y : Nat) : tp_tp t u y ≤ tp_qt t u y := tp_ls_mono (by have := ok.2.1.1; omega) (tp_frN_le t u y) (tp_top_q ok)
theorem tp_mU_x (t u : Nat → Nat) (d c m k x : Nat) : tp_mU t u d c m k x ≤ x := by
  unfold tp_mU
  split <;> omega
theorem tp_mU_m (t u : Nat → Nat) (d c m k x : Nat) : tp_mU t u d c m k x ≤ m := by
  unfold tp_mU
  split <;> omega
theorem tp_nC_x (t u : Nat → Nat) (d c m k x : Nat) : tp_nC t u d c m k x ≤ x := Nat.sub_le _ _
theorem tp_oV_x (t u : Nat → Nat) (d c m k x : Nat) : tp_oV t u d c m k x ≤ x := Nat.le_trans (Nat.min_le_left _ _) (tp_nC_x _ _ _ _ _ _ _)
theorem tp_c1_le (t u : Nat → Nat) (d c m k x : Nat) : tp_c1 t u d c m k x ≤ 20 := Nat.min_le_left _ _
theorem tp_m1_le (t u : Nat → Nat) (d c m k x : Nat) : tp_m1 t u d c m k x ≤ m := Nat.sub_le _ _
theorem tp_sE_le (t u : Nat → Nat) (y c k : Nat) : tp_sE t u y c k ≤ 12 := by
  have := tp_tp_le t u y
  unfold tp_sE
  omega
theorem tp_mE_le (t u : Nat → Nat) (y c k : Nat) : tp_mE t u y c k ≤ 12 := by
  have := tp_sE_le t u y c k
  unfold tp_mE
  split <;> omega
theorem tp_kE_le (t u : Nat → Nat) (y c : Nat) : tp_kE t u y c ≤ 8 := by
  unfold tp_kE
  split <;> omega
theorem tp_sh_le (t u : Nat → Nat) (d c m k x : Nat) : tp_sh t u d c m k x ≤ 12 := by
  unfold tp_sh
  split
  · exact tp_sE_le _ _ _ _ _
  · omega
theorem tp_c2_le (t u : Nat → Nat) (d c m k x : Nat) : tp_c2 t u d c m k x ≤ 20 := by
  unfold tp_c2
  split
  · omega
  · exact tp_c1_le _ _ _ _ _ _ _
theorem tp_m2_le (t u : Nat → Nat) (d c k x : Nat) {m : Nat} (hm : m ≤ 12) : tp_m2 t u d c m k x ≤ 12 := by
  unfold tp_m2
  split
  · exact tp_mE_le _ _ _ _ _
  · exact Nat.le_trans (tp_m1_le _ _ _ _ _ _ _) hm
theorem tp_k2_le (t u : Nat → Nat) (d c m x : Nat) {k : Nat} (hk : k ≤ 8) : tp_k2 t u d c m k x ≤ 8 := by
  unfold tp_k2
  split
  · exact tp_kE_le _ _ _ _
  · exact hk
/-- a place without MADE or without CREDIT leads to such places alone -/
theorem tp_own (ok : tp_Ok t) (u : Nat → Nat) (d c x : Nat) {m k : Nat} (h : m = 0 ∨ k = 0) : tp_m2 t u d c m k x = 0 ∨ tp_k2 t u d c m k x = 0 := by
  unfold tp_m2 tp_k2
  split
  · have hq := tp_tq ok u (d / t 1)
    unfold tp_mE tp_kE tp_sE
    split
    · left; rfl
    · split
      · omega
      · right; rfl
  · rcases h with e | e
    · left
      have := tp_m1_le t u d c m k x
      omega
    · right; exact e
theorem tp_own2 (ok : tp_Ok t) (u : Nat → Nat) (d c m k x : Nat) : (tp_m2 t u d c m k x = 0 ∨ tp_k2 t u d c m k x = 0) ∨ tp_k2 t u d c m k x = k := by
  unfold tp_m2 tp_k2
  split
  · left
    have hq := tp_tq ok u (d / t 1)
    unfold tp_mE tp_kE tp_sE
    split
    · left; rfl
    · split
      · omega
      · right; rfl
  · right; rfl
end TPB
/-! the greatest of a row, and where it is first -/
section MXM
variable {f g : Nat → Int} {lo : Nat}
theorem tp_mv_ext : ∀ j, (∀ i, i ≤ j → f (lo + i) = g (lo + i)) → tp_mv f lo j = tp_mv g lo j
  | 0, h => h 0 (Nat.le_refl 0)
  | j + 1, h => by
    unfold tp_mv
    rw [tp_mv_ext j (fun i hi => h i (by omega)), h (j + 1) (Nat.le_refl _)]
theorem tp_ma_ext : ∀ j, (∀ i, i ≤ j → f (lo + i) = g (lo + i)) → tp_ma f lo j = tp_ma g lo j
  | 0, _ => rfl
  | j + 1, h => by
    unfold tp_ma
    rw [tp_ma_ext j (fun i hi => h i (by omega)), tp_mv_ext j (fun i hi => h i (by omega)), h (j + 1) (Nat.le_refl _)]
theorem tp_ma_in : ∀ j, lo ≤ tp_ma f lo j ∧ tp_ma f lo j ≤ lo + j
  | 0 => ⟨Nat.le_refl _, Nat.le_refl _⟩
  | j + 1 => by
    have := tp_ma_in j
    unfold tp_ma
    split <;> omega
theorem tp_mv_ma : ∀ j, tp_mv f lo j = f (tp_ma f lo j)
  | 0 => rfl
  | j + 1 => by
    unfold tp_mv tp_ma
    split
    · rfl
    · exact tp_mv_ma j
theorem tp_mv_le : ∀ j i, i ≤ j → f (lo + i) ≤ tp_mv f lo j
  | 0, i, h => by
    have : i = 0 := by omega
    subst this
    exact Int.le_refl _
  | j + 1, i, h => by
    unfold tp_mv
    by_cases e : i = j + 1
    · subst e
      split <;> omega
    · have := tp_mv_le j i (by omega)
      split <;> omega
theorem tp_mv_mul {a : Int} (ha : 0 < a) : ∀ j, (∀ i, i ≤ j → f (lo + i) = a * g (lo + i)) → tp_mv f lo j = a * tp_mv g lo j ∧ tp_ma f lo j = tp_ma g lo j
  | 0, h => ⟨h 0 (Nat.le_refl 0), rfl⟩
  | j + 1, h => by
    obtain ⟨e1, e2⟩ := tp_mv_mul ha j (fun i hi => h i (by omega))
    unfold tp_mv tp_ma
    rw [e1, e2, h (j + 1) (Nat.le_refl _)]
    have : (a * tp_mv g lo j < a * g (lo + (j + 1))) ↔ tp_mv g lo j < g (lo + (j + 1)) := Int.mul_lt_mul_left ha
    by_cases c : tp_mv g lo j < g (lo + (j + 1))
    · rw [if_pos (this.mpr c), if_pos c, if_pos (this.mpr c), if_pos c]
      exact ⟨rfl, rfl⟩
    · rw [if_neg (fun q => c (this.mp q)), if_neg c, if_neg (fun q => c (this.mp q)), if_neg c]
      exact ⟨rfl, rfl⟩
end MXM
