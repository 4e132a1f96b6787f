/-! THE MODEL: oneForward -/
section MF2
variable {E : Nat → Nat} {m : Nat} {t u : Nat → Nat}
def tp_Sf (m : Nat) : Nat → Nat → Prop := fun a i => tp_Sw m a i ∨ a = m + 13 ∨ a = m + 14 ∨ a = m + 15
def tp_Fq (t u : Nat → Nat) (j n d i : Nat) : Int := tp_F t u j n d (i / 351) (i / 27 % 13) (i / 3 % 9) (i % 3)
theorem tp_Fq_qi {j n d c mm k s : Nat} (hm : mm ≤ 12) (hk : k ≤ 8) (hs : s < 3) : tp_Fq t u j n d (tp_qi c mm k s) = tp_F t u j n d c mm k s := by
  have q1 : tp_qi c mm k s / 351 = c := by unfold tp_qi; omega
  have q2 : tp_qi c mm k s / 27 % 13 = mm := by unfold tp_qi; omega
  have q3 : tp_qi c mm k s / 3 % 9 = k := by unfold tp_qi; omega
  have q4 : tp_qi c mm k s % 3 = s := by unfold tp_qi; omega
  unfold tp_Fq
  rw [q1, q2, q3, q4]
/-- where things stand in the midst of a day: q places were gone through -/
def MFI (h0 : ZH) (m : Nat) (t u : Nat → Nat) (n dd : Nat) (e0 L : Nat → Int) (q r : Nat) (h1 : ZH) (e L' : Nat → Int) : Prop := Fr (tp_Sg m) h0 h1 ∧ MEx h1 m e ∧ MLk h1 (m + 14) L' ∧ (∀ i, 0 ≤ L' i) ∧ tp_sr L' 0 7371 + 4 * tp_sr L q r = 4 * tp_sr L 0 7371 ∧ ∀ j, j < 4 → e j + tp_sr (fun i => L' i * tp_Fq t u j n (dd + 1) i) 0 7371 + tp_sr (fun i => L i * tp_Fq t u j (n + 1) dd i) q r = e0 j + tp_sr (fun i => L i * tp_Fq t u j (n + 1) dd i) 0 7371
/-- one more at one place -/
theorem tp_up1 {L' G : Nat → Int} {F : Nat → Int} {p : Nat} {a : Int} (hp : p < 7371) (h1 : ∀ i, i ≠ p → G i = L' i) (h2 : G p = L' p + a) : tp_sr (fun i => G i * F i) 0 7371 = tp_sr (fun i => L' i * F i) 0 7371 + a * F p ∧ tp_sr G 0 7371 = tp_sr L' 0 7371 + a := by
  refine ⟨tp_sr_up 7371 0 (Nat.zero_le _) (by omega) (fun i hi => by (try dsimp only); rw [h1 i hi]) (by (try dsimp only); rw [h2, Int.add_mul]), tp_sr_up 7371 0 (Nat.zero_le _) (by omega) h1 h2⟩
/-- one place gone through, no notice -/
theorem tp_st0 {n dd q r : Nat} {e e' L L' G : Nat → Int} {x : Nat} (ok : tp_Ok t) (h12 : t 12 = 0) (hq : q < 7371) (hx : x = tp_B t u (tp_pr t) n dd (q / 351) (q / 27 % 13) (q / 3 % 9) (q % 3)) (he : ∀ j, j < 4 → e' j = e j + L q * ((1 : Nat) : Int) * 4 ^ (n + 1 - 0) * tp_ad t u j dd (q / 351) (q / 27 % 13) (q / 3 % 9) (q % 3) x) (hL0 : 0 ≤ L q) (hL' : ∀ i, 0 ≤ L' i)
    (hG : ∀ i, G i = if i = tp_qi (tp_c2 t u dd (q / 351) (q / 27 % 13) (q / 3 % 9) x) (tp_m2 t u dd (q / 351) (q / 27 % 13) (q / 3 % 9) x) (tp_k2 t u dd (q / 351) (q / 27 % 13) (q / 3 % 9) x) 0 then L' i + L q * (tp_ch t (q % 3) 0 : Int) else if i = tp_qi (tp_c2 t u dd (q / 351) (q / 27 % 13) (q / 3 % 9) x) (tp_m2 t u dd (q / 351) (q / 27 % 13) (q / 3 % 9) x) (tp_k2 t u dd (q / 351) (q / 27 % 13) (q / 3 % 9) x) 1 then L' i + L q * (tp_ch t (q % 3) 1 : Int) else if i = tp_qi (tp_c2 t u dd (q / 351) (q / 27 % 13) (q / 3 % 9) x) (tp_m2 t u dd (q / 351) (q / 27 % 13) (q / 3 % 9) x) (tp_k2 t u dd (q / 351) (q / 27 % 13) (q / 3 % 9) x) 2 then L' i + L q * (tp_ch t (q % 3) 2 : Int) else L' i) :
    (∀ i, 0 ≤ G i) ∧ (tp_sr G 0 7371 = tp_sr L' 0 7371 + 4 * L q) ∧ ∀ j, j < 4 → e' j + tp_sr (fun i => G i * tp_Fq t u j n (dd + 1) i) 0 7371 = e j + tp_sr (fun i => L' i * tp_Fq t u j n (dd + 1) i) 0 7371 + L q * tp_Fq t u j (n + 1) dd q := by
  have hsq : q % 3 < 3 := by omega
  have hch := tp_ch_sum ok hsq
  have hm2 := tp_m2_le t u dd (q / 351) (q / 3 % 9) x (show q / 27 % 13 ≤ 12 by omega)
  have hk2 := tp_k2_le t u dd (q / 351) (q / 27 % 13) x (show q / 3 % 9 ≤ 8 by omega)
  have hc2 := tp_c2_le t u dd (q / 351) (q / 27 % 13) (q / 3 % 9) x
  have FQ : ∀ j, tp_Fq t u j (n + 1) dd q = tp_cb t u j n dd (q / 351) (q / 27 % 13) (q / 3 % 9) (q % 3) + ((tp_ch t (q % 3) 0 : Int) * tp_F t u j n (dd + 1) (tp_c2 t u dd (q / 351) (q / 27 % 13) (q / 3 % 9) x) (tp_m2 t u dd (q / 351) (q / 27 % 13) (q / 3 % 9) x) (tp_k2 t u dd (q / 351) (q / 27 % 13) (q / 3 % 9) x) 0 + (tp_ch t (q % 3) 1 : Int) * tp_F t u j n (dd + 1) (tp_c2 t u dd (q / 351) (q / 27 % 13) (q / 3 % 9) x) (tp_m2 t u dd (q / 351) (q / 27 % 13) (q / 3 % 9) x) (tp_k2 t u dd (q / 351) (q / 27 % 13) (q / 3 % 9) x) 1 + (tp_ch t (q % 3) 2 : Int) * tp_F t u j n (dd + 1) (tp_c2 t u dd (q / 351) (q / 27 % 13) (q / 3 % 9) x) (tp_m2 t u dd (q / 351) (q / 27 % 13) (q / 3 % 9) x) (tp_k2 t u dd (q / 351) (q / 27 % 13) (q / 3 % 9) x) 2) := fun j => by
    rw [hx]
    exact tp_F_s j n dd _ _ _ _
  have CB : ∀ j, tp_cb t u j n dd (q / 351) (q / 27 % 13) (q / 3 % 9) (q % 3) = 4 ^ (n + 1) * tp_ad t u j dd (q / 351) (q / 27 % 13) (q / 3 % 9) (q % 3) x := fun j => by
    rw [hx]
    exact tp_cb_0 h12 j n dd _ _ _ _
  generalize tp_c2 t u dd (q / 351) (q / 27 % 13) (q / 3 % 9) x = C at *
  generalize tp_m2 t u dd (q / 351) (q / 27 % 13) (q / 3 % 9) x = M at *
  generalize tp_k2 t u dd (q / 351) (q / 27 % 13) (q / 3 % 9) x = K at *
  have n01 : tp_qi C M K 1 ≠ tp_qi C M K 0 := by unfold tp_qi; omega
  have n02 : tp_qi C M K 2 ≠ tp_qi C M K 0 := by unfold tp_qi; omega
  have n12 : tp_qi C M K 2 ≠ tp_qi C M K 1 := by unfold tp_qi; omega
  have b0 : tp_qi C M K 0 < 7371 := by unfold tp_qi; omega
  have b1 : tp_qi C M K 1 < 7371 := by unfold tp_qi; omega
  have b2 : tp_qi C M K 2 < 7371 := by unfold tp_qi; omega
  have p0 : 0 ≤ L q * (tp_ch t (q % 3) 0 : Int) := Int.mul_nonneg hL0 (by omega)
  have p1 : 0 ≤ L q * (tp_ch t (q % 3) 1 : Int) := Int.mul_nonneg hL0 (by omega)
  have p2 : 0 ≤ L q * (tp_ch t (q % 3) 2 : Int) := Int.mul_nonneg hL0 (by omega)
  -- one place behind the other
  have u0 := fun F => tp_up1 (L' := L') (G := fun i => if i = tp_qi C M K 0 then L' i + L q * (tp_ch t (q % 3) 0 : Int) else L' i) (F := F) (a := L q * (tp_ch t (q % 3) 0 : Int)) b0 (fun i hi => by (try dsimp only); rw [if_neg hi]) (by (try dsimp only); rw [if_pos rfl])
  have u1 := fun F => tp_up1 (L' := fun i => if i = tp_qi C M K 0 then L' i + L q * (tp_ch t (q % 3) 0 : Int) else L' i) (G := fun i => if i = tp_qi C M K 0 then L' i + L q * (tp_ch t (q % 3) 0 : Int) else if i = tp_qi C M K 1 then L' i + L q * (tp_ch t (q % 3) 1 : Int) else L' i) (F := F) (a := L q * (tp_ch t (q % 3) 1 : Int)) b1 (fun i hi => by (try dsimp only); rw [if_neg hi]) (by (try dsimp only); rw [if_neg n01, if_pos rfl, if_neg n01])
  have u2 := fun F => tp_up1 (L' := fun i => if i = tp_qi C M K 0 then L' i + L q * (tp_ch t (q % 3) 0 : Int) else if i = tp_qi C M K 1 then L' i + L q * (tp_ch t (q % 3) 1 : Int) else L' i) (G := G) (F := F) (a := L q * (tp_ch t (q % 3) 2 : Int)) b2 (fun i hi => by rw [hG]; (try dsimp only); rw [if_neg hi]) (by rw [hG]; (try dsimp only); rw [if_neg n02, if_neg n12, if_pos rfl, if_neg n02, if_neg n12])
  refine ⟨fun i => ?_, ?_, fun j hj => ?_⟩
  · have := hL' i
    rw [hG]
    split
    · omega
    · split
      · omega
      · split
        · omega
        · omega
  · have := (u0 (fun _ => 0)).2
    have := (u1 (fun _ => 0)).2
    have := (u2 (fun _ => 0)).2
    have hc : L q * (tp_ch t (q % 3) 0 : Int) + L q * (tp_ch t (q % 3) 1 : Int) + L q * (tp_ch t (q % 3) 2 : Int) = 4 * L q := by
      rw [← Int.mul_add, ← Int.mul_add, show ((tp_ch t (q % 3) 0 : Int) + (tp_ch t (q % 3) 1 : Int) + (tp_ch t (q % 3) 2 : Int)) = 4 by omega, Int.mul_comm]
    omega
  · have a0 := (u0 (tp_Fq t u j n (dd + 1))).1
    have a1 := (u1 (tp_Fq t u j n (dd + 1))).1
    have a2 := (u2 (tp_Fq t u j n (dd + 1))).1
    rw [tp_Fq_qi hm2 hk2 (by omega)] at a0 a1 a2
    rw [a2, a1, a0, he j hj, FQ j, CB j, Nat.sub_zero]
    generalize (4 ^ (n + 1) : Int) = P
    generalize tp_sr (fun i => L' i * tp_Fq t u j n (dd + 1) i) 0 7371 = S0
    simp only [Int.natCast_one]
    grind
end MF2
