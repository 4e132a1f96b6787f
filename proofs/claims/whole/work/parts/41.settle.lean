/-! THE CLASS'S BEST: settle -/
section BST
variable {E : Nat → Nat} {b p ac : Nat} {t u : Nat → Nat} {pr : Nat → Nat → Nat}
/-- what settling from day dd on may change -/
def tp_S10 (b dd : Nat) : Nat → Nat → Prop := fun a i => (a = b + 1 ∧ 2079 * dd ≤ i) ∨ (a = b + 2 ∧ 693 * dd ≤ i) ∨ (b + 7 + dd ≤ a ∧ a ≤ b + 26)
def tp_S10' (b dd : Nat) : Nat → Nat → Prop := fun a i => (a = b + 1 ∧ 2079 * (dd + 1) ≤ i) ∨ (a = b + 2 ∧ 693 * (dd + 1) ≤ i) ∨ (b + 7 + dd ≤ a ∧ a ≤ b + 26)
def BMn (h h' : ZH) (b ac : Nat) (t : Nat → Nat) : Prop := (∀ d c m k, d < tp_T t → tp_V ac c m k → BSd h b d c m k → BSd h' b d c m k) ∧ (zI h' b 7 = zI h b 7 ∧ zI h' b 8 = zI h b 8) ∧ ∀ i, zI h' (b + 2) i = zI h (b + 2) i ∨ zI h' (b + 2) i = zI h b 7 ∨ zI h' (b + 2) i = zI h b 8
theorem BMn.rf {h : ZH} : BMn h h b ac t := ⟨fun _ _ _ _ _ _ q => q, ⟨rfl, rfl⟩, fun _ => Or.inl rfl⟩
theorem BMn.tr {h h1 h2 : ZH} (x : BMn h h1 b ac t) (y : BMn h1 h2 b ac t) : BMn h h2 b ac t := ⟨fun d c m k hd hv q => y.1 d c m k hd hv (x.1 d c m k hd hv q), ⟨y.2.1.1.trans x.2.1.1, y.2.1.2.trans x.2.1.2⟩, fun i => by
  rcases y.2.2 i with q | q | q
  · rw [q]; exact x.2.2 i
  · right; left; rw [q]; exact x.2.1.1
  · right; right; rw [q]; exact x.2.1.2⟩
theorem tp_at_inj {d d' e e' : Nat} (h : e < 693) (h' : e' < 693) (q : d * 693 + e = d' * 693 + e') : d = d' ∧ e = e' := by omega
/-- a cell's worths and its stamp are written -/
theorem BFin {h1 : ZH} {dd c m k : Nat} {A : Nat → Int64} {st : Int32} (ok : tp_Ok t) (O : BOk h1 b t u pr ac) (hdd : dd < tp_T t) (V : tp_V ac c m k) (hst : st = if m = 0 ∨ k = 0 then zI h1 b 7 else zI h1 b 8) (hns : ¬ BSd h1 b dd c m k) (hA : ∀ s, s < 3 → A s = jL (tp_A t u pr (tp_T t - dd) dd c m k s)) (hN : dd + 1 < tp_T t → ∀ x, tp_lo t u dd ≤ x → x ≤ tp_hi t u dd → BSd h1 b (dd + 1) (tp_c2 t u dd c m k x) (tp_m2 t u dd c m k x) (tp_k2 t u dd c m k x)) : ∀ h', h' = zuI (zuL (zuL (zuL h1 (b + 1) (3 * (dd * 693 + tp_ce c m k) + 0) (A 0)) (b + 1) (3 * (dd * 693 + tp_ce c m k) + 1) (A 1)) (b + 1) (3 * (dd * 693 + tp_ce c m k) + 2) (A 2)) (b + 2) (dd * 693 + tp_ce c m k) st → Fr (tp_S10 b dd) h1 h' ∧ BOk h' b t u pr ac ∧ BMn h1 h' b ac t ∧ BSd h' b dd c m k := by
  intro h' eh
  have hce := (tp_ce_lt V.1 V.2.1 V.2.2.1).1
  have F : Fr (tp_S10 b dd) h1 h' := by
    rw [eh]
    exact Fr.uI (Fr.uL (Fr.uL (Fr.uL Fr.rf (by unfold tp_S10; omega)) (by unfold tp_S10; omega)) (by unfold tp_S10; omega)) (by unfold tp_S10; omega)
  have i7 : zI h' b 7 = zI h1 b 7 := F.I (by unfold tp_S10; omega)
  have i8 : zI h' b 8 = zI h1 b 8 := F.I (by unfold tp_S10; omega)
  have hv2 : zI h' (b + 2) (dd * 693 + tp_ce c m k) = st := by rw [eh, zI_here]
  have ho2 : ∀ j, j ≠ dd * 693 + tp_ce c m k → zI h' (b + 2) j = zI h1 (b + 2) j := fun j hj => by
    rw [eh, zI_offi hj]
    rfl
  have hv1 : ∀ s, s < 3 → zL h' (b + 1) (3 * (dd * 693 + tp_ce c m k) + s) = A s := fun s hs => by
    rw [eh]
    show zL (zuL (zuL (zuL h1 (b + 1) (3 * (dd * 693 + tp_ce c m k) + 0) (A 0)) (b + 1) (3 * (dd * 693 + tp_ce c m k) + 1) (A 1)) (b + 1) (3 * (dd * 693 + tp_ce c m k) + 2) (A 2)) (b + 1) (3 * (dd * 693 + tp_ce c m k) + s) = A s
    have : s = 0 ∨ s = 1 ∨ s = 2 := by omega
    rcases this with e | e | e <;> subst e
    · rw [zL_offi (by omega), zL_offi (by omega), zL_here]
    · rw [zL_offi (by omega), zL_here]
    · rw [zL_here]
  have ho1 : ∀ j, (j < 3 * (dd * 693 + tp_ce c m k) ∨ 3 * (dd * 693 + tp_ce c m k) + 3 ≤ j) → zL h' (b + 1) j = zL h1 (b + 1) j := fun j hj => by
    rw [eh]
    show zL (zuL (zuL (zuL h1 (b + 1) (3 * (dd * 693 + tp_ce c m k) + 0) (A 0)) (b + 1) (3 * (dd * 693 + tp_ce c m k) + 1) (A 1)) (b + 1) (3 * (dd * 693 + tp_ce c m k) + 2) (A 2)) (b + 1) j = _
    rw [zL_offi (by omega), zL_offi (by omega), zL_offi (by omega)]
  have D : BSd h' b dd c m k := by
    unfold BSd
    rw [hv2, i7, i8, hst]
  have Mn : BMn h1 h' b ac t := by
    refine ⟨?_, ⟨i7, i8⟩, fun i => ?_⟩
    rotate_left
    · by_cases e : i = dd * 693 + tp_ce c m k
      · subst e
        right
        rw [hv2, hst]
        split
        · left; rfl
        · right; rfl
      · left
        exact ho2 i e
    intro d' c' m' k' hd' V' q
    have hce' := (tp_ce_lt V'.1 V'.2.1 V'.2.2.1).1
    by_cases e : d' * 693 + tp_ce c' m' k' = dd * 693 + tp_ce c m k
    · obtain ⟨e1, e2⟩ := tp_at_inj hce' hce e
      obtain ⟨e3, e4, e5⟩ := tp_ce_inj V' V e2
      subst e1; subst e3; subst e4; subst e5
      exact D
    · unfold BSd at q ⊢
      rw [ho2 _ e, i7, i8]
      exact q
  refine ⟨F, ?_, Mn, D⟩
  intro d' c' m' k' hd' V' q
  have hce' := (tp_ce_lt V'.1 V'.2.1 V'.2.2.1).1
  by_cases e : d' * 693 + tp_ce c' m' k' = dd * 693 + tp_ce c m k
  · obtain ⟨e1, e2⟩ := tp_at_inj hce' hce e
    obtain ⟨e3, e4, e5⟩ := tp_ce_inj V' V e2
    subst e1; subst e3; subst e4; subst e5
    refine ⟨fun s hs => ?_, fun h2 x hx1 hx2 => Mn.1 _ _ _ _ h2 (tp_V_next ok u V) (hN h2 x hx1 hx2)⟩
    rw [hv1 s hs, hA s hs]
  · have q1 : BSd h1 b d' c' m' k' := by
      unfold BSd at q ⊢
      rw [ho2 _ e, i7, i8] at q
      exact q
    obtain ⟨o1, o2⟩ := O d' c' m' k' hd' V' q1
    refine ⟨fun s hs => ?_, fun h2 x hx1 hx2 => Mn.1 _ _ _ _ h2 (tp_V_next ok u V') (o2 h2 x hx1 hx2)⟩
    rw [ho1 _ (by omega)]
    exact o1 s hs
/-- the worth at hand in the midst of the takings -/
def tp_wj (f : Nat → Int) (lo j : Nat) : Int := match j with
  | 0 => 0
  | i + 1 => tp_mv f lo i
theorem tp_wj_s {f : Nat → Int} {lo j : Nat} {x a : Int} (hx : x = f (lo + j)) (ha : a = tp_wj f lo j) (b1 : -9000000000000000000 ≤ x) (b2 : x ≤ 9000000000000000000) (c1 : -9000000000000000000 ≤ a) (c2 : a ≤ 9000000000000000000) (hlo : lo + j < 1000) : (if jI ((lo + j : Nat) : Int) = jI (lo : Int) then jL x else if jL x ≤ jL a then jL a else jL x) = jL (tp_wj f lo (j + 1)) := by
  simp (disch := omega) only [jI_eqn, jL_le]
  cases j with
  | zero =>
    rw [if_pos (by omega), hx]
    rfl
  | succ i =>
    rw [if_neg (by omega)]
    show _ = jL (if tp_mv f lo i < f (lo + (i + 1)) then f (lo + (i + 1)) else tp_mv f lo i)
    have ha' : a = tp_mv f lo i := ha
    rw [hx, ha']
    by_cases q : tp_mv f lo i < f (lo + (i + 1))
    · rw [if_pos q, if_neg (by omega)]
    · rw [if_neg q, if_pos (by omega)]
theorem tp_wj_bd {ok : tp_Ok t} {hpr : tp_Pr pr} {n d c m k s j : Nat} (hn : n ≤ 19) (hs : s < 3) (hj : tp_lo t u d + j ≤ 5) : -2814749767106560000 ≤ tp_wj (tp_X t u pr n d c m k s) (tp_lo t u d) j ∧ tp_wj (tp_X t u pr n d c m k s) (tp_lo t u d) j ≤ 2814749767106560000 := by
  cases j with
  | zero => exact ⟨by show _ ≤ (0 : Int); omega, by show (0 : Int) ≤ _; omega⟩
  | succ i => exact tp_mX_bd ok u hpr hn d c m k hs (by omega)
end BST
