/-! THE CALLS: came -/
section OPL
variable {E : Nat → Nat} {h : ZH} {x m zs zt g tn N d : Nat} {t u rs rx : Nat → Nat} {ft to : Int32} {tb : Nat → Int32} {la sz : Nat → Int} {ce : Nat → Nat → Int32} {Q : Option Value → ZH → Prop}
def cm_g (t u rs : Nat → Nat) (d c m k x : Nat) : Int := 100 * (t (20 + rs d) : Int) * (x : Int) - ((tp_nC t u d c m k x * tp_un t (t (20 + rs d)) 1 + tp_fl t u d c m k x : Nat) : Int) - ((100 * t 6 * tp_sh t u d c m k x : Nat) : Int)
def tp_Cm (t u rs : Nat → Nat) : Nat → Nat → Nat → Nat → Nat → Int
  | 0, _, _, _, _ => 0
  | n + 1, d, c, m, k => tp_mv (fun x => cm_g t u rs d c m k x + tp_Cm t u rs n (d + 1) (tp_c2 t u d c m k x) (tp_m2 t u d c m k x) (tp_k2 t u d c m k x)) (tp_lo t u d) (tp_hi t u d - tp_lo t u d)
def tp_CX (t u rs : Nat → Nat) (n d c m k x : Nat) : Int := cm_g t u rs d c m k x + tp_Cm t u rs n (d + 1) (tp_c2 t u d c m k x) (tp_m2 t u d c m k x) (tp_k2 t u d c m k x)
theorem tp_Cm_s (n d c m k : Nat) : tp_Cm t u rs (n + 1) d c m k = tp_mv (tp_CX t u rs n d c m k) (tp_lo t u d) (tp_hi t u d - tp_lo t u d) := rfl
theorem tp_g4_k (d c m k s x : Nat) : tp_g4 t u (tp_prk t rs) d c m k s x = 4 * cm_g t u rs d c m k x := by
  unfold tp_g4 cm_g tp_un tp_prk
  simp only [Int.natCast_add, Int.natCast_mul, Int.cast_ofNat_Int]
  generalize (tp_nC t u d c m k x : Int) = N
  generalize (tp_fl t u d c m k x : Int) = F
  generalize (tp_sh t u d c m k x : Int) = S
  generalize ((100 - t 7 : Nat) : Int) = I1
  generalize (t 7 : Int) = I2
  generalize (t 6 : Int) = B
  generalize (t (20 + rs d) : Int) = p
  generalize (x : Int) = X
  grind
theorem tp_CW (ok : tp_Ok t) (u rs : Nat → Nat) : ∀ n, (∀ d c m k s, s < 3 → tp_W t u (tp_prk t rs) n d c m k s = 4 ^ n * tp_Cm t u rs n d c m k) ∧ (∀ d c m k s x, s < 3 → tp_X t u (tp_prk t rs) n d c m k s x = 4 ^ (n + 1) * tp_CX t u rs n d c m k x) := by
  have key : ∀ n, (∀ d c m k s, s < 3 → tp_W t u (tp_prk t rs) n d c m k s = 4 ^ n * tp_Cm t u rs n d c m k) → (∀ d c m k s x, s < 3 → tp_X t u (tp_prk t rs) n d c m k s x = 4 ^ (n + 1) * tp_CX t u rs n d c m k x) := by
    intro n ih d c m k s x hs
    have hc := tp_ch_sum ok hs
    unfold tp_X tp_A tp_CX
    rw [ih _ _ _ _ 0 (by omega), ih _ _ _ _ 1 (by omega), ih _ _ _ _ 2 (by omega), tp_g4_k, Int.pow_succ]
    generalize (4 ^ n : Int) = P
    have hc' : (tp_ch t s 0 : Int) + (tp_ch t s 1 : Int) + (tp_ch t s 2 : Int) = 4 := by omega
    generalize (tp_ch t s 0 : Int) = c0 at hc' ⊢
    generalize (tp_ch t s 1 : Int) = c1 at hc' ⊢
    generalize (tp_ch t s 2 : Int) = c2 at hc' ⊢
    have e : c2 = 4 - c0 - c1 := by omega
    subst e
    grind
  intro n
  induction n with
  | zero =>
    have h0 : ∀ d c m k s, s < 3 → tp_W t u (tp_prk t rs) 0 d c m k s = 4 ^ 0 * tp_Cm t u rs 0 d c m k := fun d c m k s _ => by simp [tp_W, tp_Cm]
    exact ⟨h0, key 0 h0⟩
  | succ n ih =>
    have h1 : ∀ d c m k s, s < 3 → tp_W t u (tp_prk t rs) (n + 1) d c m k s = 4 ^ (n + 1) * tp_Cm t u rs (n + 1) d c m k := fun d c m k s hs => by
      rw [tp_W_s, tp_Cm_s]
      exact (tp_mv_mul (Int.pow_pos (by omega)) _ (fun i _ => ih.2 d c m k s _ hs)).1
    exact ⟨h1, key (n + 1) h1⟩
theorem tp_CB (ok : tp_Ok t) (u rs : Nat → Nat) (n d c m k : Nat) : tp_B t u (tp_prk t rs) n d c m k 0 = tp_ma (tp_CX t u rs n d c m k) (tp_lo t u d) (tp_hi t u d - tp_lo t u d) := (tp_mv_mul (Int.pow_pos (by omega)) _ (fun i _ => (tp_CW ok u rs n).2 d c m k 0 _ (by omega))).2
theorem tp_Cm_bd (ok : tp_Ok t) (u : Nat → Nat) (hrs : ∀ d, rs d < 3) : ∀ (n d c m k : Nat), -(128000 * (n : Int)) ≤ tp_Cm t u rs n d c m k ∧ tp_Cm t u rs n d c m k ≤ 128000 * (n : Int)
  | 0, d, c, m, k => by simp [tp_Cm]
  | n + 1, d, c, m, k => by
    rw [tp_Cm_s]
    have hl := tp_lohi (u := u) ok d
    refine tp_mv_bd _ (fun i hi => ?_)
    have g1 := tp_g4_bd ok u (tp_prk_ok ok hrs) (d := d) (c := c) (m := m) (k := k) (s := 0) (x := tp_lo t u d + i) (by omega) (by omega)
    rw [tp_g4_k] at g1
    have ih := tp_Cm_bd ok u hrs n (d + 1) (tp_c2 t u d c m k (tp_lo t u d + i)) (tp_m2 t u d c m k (tp_lo t u d + i)) (tp_k2 t u d c m k (tp_lo t u d + i))
    unfold tp_CX
    omega
theorem tp_CX_bd (ok : tp_Ok t) (u : Nat → Nat) (hrs : ∀ d, rs d < 3) {n : Nat} (hn : n ≤ 20) (d c m k : Nat) {x : Nat} (hx : x ≤ 4) : -3000000 ≤ tp_CX t u rs n d c m k x ∧ tp_CX t u rs n d c m k x ≤ 3000000 := by
  have g1 := tp_g4_bd ok u (tp_prk_ok ok hrs) (d := d) (c := c) (m := m) (k := k) (s := 0) (x := x) (by omega) hx
  rw [tp_g4_k] at g1
  have ih := tp_Cm_bd ok u hrs n (d + 1) (tp_c2 t u d c m k x) (tp_m2 t u d c m k x) (tp_k2 t u d c m k x)
  unfold tp_CX
  omega
theorem tp_ma_first {f : Nat → Int} {lo : Nat} : ∀ j i, lo + i < tp_ma f lo j → f (lo + i) < tp_mv f lo j
  | 0, i, h => by
    unfold tp_ma at h
    omega
  | j + 1, i, h => by
    have hin := tp_ma_in (f := f) (lo := lo) j
    unfold tp_ma at h
    unfold tp_mv
    split
    · next c =>
      rw [if_pos c] at h
      have := tp_mv_le (f := f) (lo := lo) j i (by omega)
      omega
    · next c =>
      rw [if_neg c] at h
      exact tp_ma_first j i h
/-! the Model's table -/
def cm_at (d c m k : Nat) : Nat := 2457 * d + (117 * c + 9 * m + k)
theorem cm_at3 (d c m k : Nat) : tp_at d c m k 0 / 3 = cm_at d c m k := by unfold tp_at cm_at; omega
def CmT (h : ZH) (m : Nat) (t u rs : Nat → Nat) (d : Nat) : Prop := ∀ c n k, c ≤ 20 → n ≤ 12 → k ≤ 8 → zI h (m + 21) (cm_at d c n k) = jI (tp_Cm t u rs (tp_T t - d) d c n k)
theorem ct_210 {dd c n k y : Nat} (hd : 8 ≤ d) (ok : tp_Ok t) (ou : tp_Ou u) (hR : RwB rs rx) (P : MPg h m t u) (R : RwM h m N rs rx) (hN : N = tp_T t) (hdd : dd < tp_T t) (hc : c ≤ 20) (hn : n ≤ 12) (hk : k ≤ 8) (hy : y ≤ 4) (T : CmT h m t u rs (dd + 1)) (q : ∀ h', Fr (tp_Sw m) h h' → zI h' m 30 = jI (tp_at (dd + 1) (tp_c2 t u dd c n k y) (tp_m2 t u dd c n k y) (tp_k2 t u dd c n k y) 0 : Int) → Q (some (.int (jI (tp_CX t u rs (tp_T t - (dd + 1)) dd c n k y)))) h') : Ct E d 210 [.ref m, .int (jI (dd : Int)), .int (jI (c : Int)), .int (jI (n : Int)), .int (jI (k : Int)), .int (jI (y : Int))] h Q := by
  obtain ⟨d, rfl⟩ : ∃ n, d = n + 1 := ⟨d - 1, by omega⟩
  have hT := ok.T
  have S := P.1
  have rz := (R.2 dd (by omega)).1
  have rsd := (hR dd).1
  have V : tp_V k c n k := ⟨hc, hn, hk, Or.inr (Or.inr rfl)⟩
  obtain ⟨v1, v2, v3, -⟩ := tp_V_next (d := dd) (x := y) ok u V
  refine ok_210 ⟨S.1, m + 17, S.a37.1, S.a37.ti, S.a37.inn (by omega) (by omega), ?_⟩
  rw [jI_cln (by omega), rz]
  refine ct_167 (by omega) ok ou P hdd hc hn hk rsd (by omega) (fun h4 F4 K4 => ?_)
  have P4 : MPg h4 m t u := P.fr F4 (fun i => by unfold tp_Sm; omega) (fun i => by unfold tp_Sm; omega)
  have rz4 : zI h4 (m + 17) dd = jI (rs dd : Int) := by rw [F4.I (by unfold tp_Sm; omega)]; exact rz
  have S4 := P4.1
  refine ⟨rfl, S4.1, m + 17, S4.a37.1, S4.a37.ti, S4.a37.inn (by omega) (by omega), ?_⟩
  rw [rz4]
  refine ⟨by omega, sz168 P4 rsd, nm_r (e' := jI (100 * (t (20 + rs dd) : Int) * (y : Int) - ((tp_nC t u dd c n k y * tp_un t (t (20 + rs dd)) 1 + tp_fl t u dd c n k y : Nat) : Int))) (fz168 P4 rsd K4.2.2.1) (ct_178 (s := rs dd) (by omega) ok ou P4 hdd hc hn hk (by omega) K4 (fun h9 F9 i30 i31 _ => ?_))⟩
  have P9 : MPg h9 m t u := P4.fr F9 (fun i => by omega) (fun i => by omega)
  have S9 := P9.1
  have e3 : (zI h9 m 30 / 3 : Int32) = jI (cm_at (dd + 1) (tp_c2 t u dd c n k y) (tp_m2 t u dd c n k y) (tp_k2 t u dd c n k y) : Int) := by
    have lt := tp_at_lt (dd := dd + 1) (s := 0) (by omega) v1 v2 v3 (by omega)
    rw [i30, show (3 : Int32) = jI ((3 : Nat) : Int) from rfl, jI_div (by omega) (by omega) (by omega), cm_at3]
  have lt : cm_at (dd + 1) (tp_c2 t u dd c n k y) (tp_m2 t u dd c n k y) (tp_k2 t u dd c n k y) < 51597 := by unfold cm_at; omega
  refine ⟨rfl, S9.1, m + 21, S9.a47.1, S9.a47.ti, ?_, ?_⟩
  · rw [e3]; exact S9.a47.inn lt (by omega)
  · have tt : zI h9 (m + 21) (cm_at (dd + 1) (tp_c2 t u dd c n k y) (tp_m2 t u dd c n k y) (tp_k2 t u dd c n k y)) = jI (tp_Cm t u rs (tp_T t - (dd + 1)) (dd + 1) (tp_c2 t u dd c n k y) (tp_m2 t u dd c n k y) (tp_k2 t u dd c n k y)) := by
      rw [F9.I (by omega), F4.I (by unfold tp_Sm; omega)]
      exact T _ _ _ v1 v2 v3
    rw [e3, jI_cln (by omega), tt, i31, jI_sub, jI_add]
    exact q h9 ((F4.wd (fun a i e => by unfold tp_Sm at e; unfold tp_Sw; omega)).tr (F9.wd (fun a i e => by unfold tp_Sw; omega))) i30
def tp_Sq (m : Nat) : Nat → Nat → Prop := fun a i => tp_Sw m a i ∨ a = m + 21
theorem l211a {h0 : ZH} (hd : 1 ≤ d) (ok : tp_Ok t) (P0 : MPg h0 m t u) (q : ∀ h', Fr (fun a _ => a = m + 21) h0 h' → (∀ j, j < 2457 → zI h' (m + 21) (2457 * tp_T t + j) = 0) → wb_211_17 E d Q m h') : ∀ r i h1, i + r = 2457 → Fr (fun a _ => a = m + 21) h0 h1 → (∀ j, j < i → zI h1 (m + 21) (2457 * tp_T t + j) = 0) → wl_211_2 E d Q (r + 1) m (jI (i : Int)) h1
  | 0, i, h1, e, F1, I1 => by
    have ei : i = 2457 := by omega
    subst ei
    rw [wl_211_2]
    exact ⟨fun _ => q h1 F1 I1, fun c => absurd (by decide) c⟩
  | r + 1, i, h1, e, F1, I1 => by
    have hT := ok.T
    have P1 : MPg h1 m t u := P0.fr F1 (fun i => by omega) (fun i => by omega)
    have ei : (2457 * fz_152 E h1 m + jI (i : Int) : Int32) = jI ((2457 * tp_T t + i : Nat) : Int) := by
      rw [fz152 P1, show (2457 : Int32) = jI ((2457 : Nat) : Int) from rfl, jI_mul, jI_add]; rfl
    rw [wl_211_2]
    refine ⟨fun c => ?_, fun _ => ⟨P1.1.1, m + 21, P1.1.a47.1, hd, sz152 P1, P1.1.a47.tg, ?_, nm_r (e' := zuI h1 (m + 21) (2457 * tp_T t + i) 0) (by rw [ei, jI_cln (by omega)]) (nm_r (e' := jI ((i + 1 : Nat) : Int)) (by rw [show (1 : Int32) = jI 1 from rfl, jI_add]; rfl) (l211a hd ok P0 q r (i + 1) _ (by omega) (F1.uI rfl) (fun j hj => ?_)))⟩⟩
    · exfalso
      rw [show (2457 : Int32) = jI ((2457 : Nat) : Int) from rfl, jI_len (by omega) (by omega)] at c
      omega
    · rw [ei]; exact P1.1.a47.inn (by omega) (by omega)
    · by_cases cj : j = i
      · subst cj; rw [zI_here]
      · rw [zI_offi (by omega)]; exact I1 j (by omega)
/-- the best so far -/
def cm_b (f : Nat → Int) (lo hi y : Nat) : Int := if y ≤ lo then 0 else tp_mv f lo (min (y - 1) hi - lo)
theorem l211x {h0 : ZH} {dd c n k : Nat} {L22 : Nat → Int32 → ZH → Prop} {L26 : Nat → Int32 → Int32 → ZH → Prop} (hd : 10 ≤ d) (ok : tp_Ok t) (ou : tp_Ou u) (hR : RwB rs rx) (P0 : MPg h0 m t u) (R0 : RwM h0 m N rs rx) (hN : N = tp_T t) (hdd : dd < tp_T t) (hc : c ≤ 20) (hn : n ≤ 12) (hk : k ≤ 8) (T0 : CmT h0 m t u rs (dd + 1)) (q : ∀ h', Fr (tp_Sw m) h0 h' → wb_211_72 E d Q L22 L26 m (jI (dd : Int)) (jI ((117 * c + 9 * n + k : Nat) : Int)) (jI (tp_Cm t u rs (tp_T t - dd) dd c n k)) h') : ∀ r y h1, y + r = 5 → Fr (tp_Sw m) h0 h1 → wl_211_35 E d Q L22 L26 (r + 1) m (jI (dd : Int)) (jI ((117 * c + 9 * n + k : Nat) : Int)) (if y ≤ tp_lo t u dd then 0 else 1) (jI (cm_b (tp_CX t u rs (tp_T t - (dd + 1)) dd c n k) (tp_lo t u dd) (tp_hi t u dd) y)) (jI (y : Int)) h1
  | 0, y, h1, e, F1 => by
    have hT := ok.T
    have hl := tp_lohi (u := u) ok dd
    have ey : y = 5 := by omega
    subst ey
    rw [wl_211_35]
    refine ⟨fun _ => ?_, fun c => absurd (by decide) c⟩
    have := q h1 F1
    rw [show tp_T t - dd = tp_T t - (dd + 1) + 1 by omega, tp_Cm_s] at this
    unfold cm_b
    rw [if_neg (show ¬ 5 ≤ tp_lo t u dd by omega), show min (5 - 1) (tp_hi t u dd) = tp_hi t u dd by omega]
    exact this
  | r + 1, y, h1, e, F1 => by
    have hT := ok.T
    have hl := tp_lohi (u := u) ok dd
    have hrs : ∀ d, rs d < 3 := fun d => (hR d).1
    have P1 : MPg h1 m t u := P0.fr F1 (fun i => by unfold tp_Sw; omega) (fun i => by unfold tp_Sw; omega)
    have R1 : RwM h1 m N rs rx := ⟨by rw [F1.I (by unfold tp_Sw; omega)]; exact R0.1, fun k hk => by rw [F1.I (by unfold tp_Sw; omega), F1.I (by unfold tp_Sw; omega)]; exact R0.2 k hk⟩
    have T1 : CmT h1 m t u rs (dd + 1) := fun c n k a1 a2 a3 => by rw [F1.I (by unfold tp_Sw; omega)]; exact T0 c n k a1 a2 a3
    have d1 : (jI ((117 * c + 9 * n + k : Nat) : Int) / 117 : Int32) = jI (c : Int) := by
      rw [show (117 : Int32) = jI ((117 : Nat) : Int) from rfl, jI_div (by omega) (by omega) (by omega)]; congr 2; omega
    have d2 : (jI ((117 * c + 9 * n + k : Nat) : Int) / 9 - jI ((117 * c + 9 * n + k : Nat) : Int) / 9 / 13 * 13 : Int32) = jI (n : Int) := by
      rw [show (9 : Int32) = jI ((9 : Nat) : Int) from rfl, jI_div (by omega) (by omega) (by omega), show (13 : Int32) = jI ((13 : Nat) : Int) from rfl, jI_rem (by omega) (by omega) (by omega)]; congr 2; omega
    have d3 : (jI ((117 * c + 9 * n + k : Nat) : Int) - jI ((117 * c + 9 * n + k : Nat) : Int) / 9 * 9 : Int32) = jI (k : Int) := by
      rw [show (9 : Int32) = jI ((9 : Nat) : Int) from rfl, jI_rem (by omega) (by omega) (by omega)]; congr 2; omega
    have nxt : ∀ h2 f' v', Fr (tp_Sw m) h0 h2 → f' = (if y + 1 ≤ tp_lo t u dd then (0 : Int32) else 1) → v' = cm_b (tp_CX t u rs (tp_T t - (dd + 1)) dd c n k) (tp_lo t u dd) (tp_hi t u dd) (y + 1) → wb_211_70 E d Q L22 L26 (wl_211_35 E d Q L22 L26 (r + 1)) m (jI (dd : Int)) (jI ((117 * c + 9 * n + k : Nat) : Int)) f' (jI v') (jI (y : Int)) h2 := by
      rintro h2 f' v' F2 rfl rfl
      exact nm_r (e' := jI ((y + 1 : Nat) : Int)) (by rw [show (1 : Int32) = jI 1 from rfl, jI_add]; rfl) (l211x hd ok ou hR P0 R0 hN hdd hc hn hk T0 q r (y + 1) h2 (by omega) F2)
    rw [wl_211_35]
    refine ⟨fun c' => ?_, fun _ => ⟨P1.1.1, by omega, sz163 P1 (by omega), ?_⟩⟩
    · exfalso
      rw [show (5 : Int32) = jI ((5 : Nat) : Int) from rfl, jI_len (by omega) (by omega)] at c'
      omega
    rw [fz163 ok ou P1 (by omega) (by omega), j01, d1, d2, d3]
    refine ⟨fun cn => ?_, fun cn => ?_⟩
    · refine nxt h1 _ _ F1 ?_ ?_
      · by_cases c1 : y ≤ tp_lo t u dd
        · rw [if_pos c1, if_pos (by omega)]
        · rw [if_neg c1, if_neg (by omega)]
      · unfold cm_b
        by_cases c1 : y ≤ tp_lo t u dd
        · rw [if_pos c1, if_pos (by omega)]
        · rw [if_neg c1, if_neg (by omega), show min (y - 1) (tp_hi t u dd) = tp_hi t u dd by omega, show min (y + 1 - 1) (tp_hi t u dd) = tp_hi t u dd by omega]
    · rw [Classical.not_not] at cn
      refine ct_210 (by omega) ok ou hR P1 R1 hN hdd hc hn hk (by omega) T1 (fun h2 F2 _ => ⟨_, rfl, ?_⟩)
      have bx := tp_CX_bd ok u hrs (n := tp_T t - (dd + 1)) (by omega) dd c n k (x := y) (by omega)
      by_cases c1 : y ≤ tp_lo t u dd
      · have ey : y = tp_lo t u dd := by omega
        refine nm_r (e' := jI (tp_CX t u rs (tp_T t - (dd + 1)) dd c n k y)) (by rw [if_pos c1, if_pos rfl]) (nxt h2 1 _ (F1.tr F2) (by rw [if_neg (by omega)]) ?_)
        unfold cm_b
        rw [if_neg (by omega), show min (y + 1 - 1) (tp_hi t u dd) - tp_lo t u dd = 0 by omega]
        show _ = tp_CX t u rs (tp_T t - (dd + 1)) dd c n k (tp_lo t u dd)
        rw [ey]
      · have bb : -3000000 ≤ cm_b (tp_CX t u rs (tp_T t - (dd + 1)) dd c n k) (tp_lo t u dd) (tp_hi t u dd) y ∧ cm_b (tp_CX t u rs (tp_T t - (dd + 1)) dd c n k) (tp_lo t u dd) (tp_hi t u dd) y ≤ 3000000 := by
          unfold cm_b
          rw [if_neg c1]
          exact tp_mv_bd _ (fun i hi => tp_CX_bd ok u hrs (by omega) dd c n k (by omega))
        have es : cm_b (tp_CX t u rs (tp_T t - (dd + 1)) dd c n k) (tp_lo t u dd) (tp_hi t u dd) (y + 1) = if cm_b (tp_CX t u rs (tp_T t - (dd + 1)) dd c n k) (tp_lo t u dd) (tp_hi t u dd) y < tp_CX t u rs (tp_T t - (dd + 1)) dd c n k y then tp_CX t u rs (tp_T t - (dd + 1)) dd c n k y else cm_b (tp_CX t u rs (tp_T t - (dd + 1)) dd c n k) (tp_lo t u dd) (tp_hi t u dd) y := by
          unfold cm_b
          rw [if_neg (show ¬ y + 1 ≤ tp_lo t u dd by omega), if_neg c1, show min (y + 1 - 1) (tp_hi t u dd) - tp_lo t u dd = (min (y - 1) (tp_hi t u dd) - tp_lo t u dd) + 1 by omega]
          have e1 : tp_lo t u dd + (min (y - 1) (tp_hi t u dd) - tp_lo t u dd + 1) = y := by omega
          rw [tp_mv, e1]
        refine nm_r (e' := jI (cm_b (tp_CX t u rs (tp_T t - (dd + 1)) dd c n k) (tp_lo t u dd) (tp_hi t u dd) (y + 1))) ?_ (nxt h2 1 _ (F1.tr F2) (by rw [if_neg (by omega)]) rfl)
        rw [es, if_neg c1, if_neg (show ¬ (1 : Int32) = 0 by decide)]
        by_cases c2 : cm_b (tp_CX t u rs (tp_T t - (dd + 1)) dd c n k) (tp_lo t u dd) (tp_hi t u dd) y < tp_CX t u rs (tp_T t - (dd + 1)) dd c n k y
        · rw [if_pos c2, if_neg (by rw [jI_le (by omega) (by omega) (by omega) (by omega)]; omega)]
        · rw [if_neg c2, if_pos (by rw [jI_le (by omega) (by omega) (by omega) (by omega)]; omega)]
theorem l211q {h0 : ZH} {dd : Nat} {L22 : Nat → Int32 → ZH → Prop} (hd : 10 ≤ d) (ok : tp_Ok t) (ou : tp_Ou u) (hR : RwB rs rx) (P0 : MPg h0 m t u) (R0 : RwM h0 m N rs rx) (hN : N = tp_T t) (hdd : dd < tp_T t) (T0 : ∀ d', dd + 1 ≤ d' → d' ≤ tp_T t → CmT h0 m t u rs d') (q : ∀ h', Fr (tp_Sq m) h0 h' → (∀ d', dd ≤ d' → d' ≤ tp_T t → CmT h' m t u rs d') → wb_211_83 E d Q L22 m (jI (dd : Int)) h') : ∀ (r i : Nat) h1, i + r = 2457 → Fr (tp_Sq m) h0 h1 → (∀ d', dd + 1 ≤ d' → d' ≤ tp_T t → CmT h1 m t u rs d') → (∀ c n k, c ≤ 20 → n ≤ 12 → k ≤ 8 → 117 * c + 9 * n + k < i → zI h1 (m + 21) (cm_at dd c n k) = jI (tp_Cm t u rs (tp_T t - dd) dd c n k)) → wl_211_26 E d Q L22 (r + 1) m (jI (dd : Int)) (jI (i : Int)) h1
  | 0, i, h1, e, F1, T1, I1 => by
    have ei : i = 2457 := by omega
    subst ei
    rw [wl_211_26]
    refine ⟨fun _ => q h1 F1 (fun d' a b => ?_), fun c => absurd (by decide) c⟩
    by_cases cd : d' = dd
    · subst cd
      exact fun c n k a1 a2 a3 => I1 c n k a1 a2 a3 (by omega)
    · exact T1 d' (by omega) b
  | r + 1, i, h1, e, F1, T1, I1 => by
    have hT := ok.T
    have P1 : MPg h1 m t u := P0.fr F1 (fun i => by unfold tp_Sq tp_Sw; omega) (fun i => by unfold tp_Sq tp_Sw; omega)
    have R1 : RwM h1 m N rs rx := ⟨by rw [F1.I (by unfold tp_Sq tp_Sw; omega)]; exact R0.1, fun k hk => by rw [F1.I (by unfold tp_Sq tp_Sw; omega), F1.I (by unfold tp_Sq tp_Sw; omega)]; exact R0.2 k hk⟩
    rw [wl_211_26]
    refine ⟨fun c => ?_, fun _ => ⟨6, ?_⟩⟩
    · exfalso
      rw [show (2457 : Int32) = jI ((2457 : Nat) : Int) from rfl, jI_len (by omega) (by omega)] at c
      omega
    have ei : i = 117 * (i / 117) + 9 * (i / 9 % 13) + i % 9 := by omega
    have b1 : i / 117 ≤ 20 := by omega
    have b2 : i / 9 % 13 ≤ 12 := by omega
    have b3 : i % 9 ≤ 8 := by omega
    have main := l211x (E := E) (Q := Q) (L22 := L22) (L26 := wl_211_26 E d Q L22 (r + 1)) (m := m) (h0 := h1) (c := i / 117) (n := i / 9 % 13) (k := i % 9) hd ok ou hR P1 R1 hN hdd b1 b2 b3 (T1 (dd + 1) (by omega) (by omega)) (fun h2 F2 => ?_) 5 0 h1 (by omega) Fr.rf
    · rw [← ei] at main
      rw [if_pos (show 0 ≤ tp_lo t u dd by omega)] at main
      unfold cm_b at main
      rw [if_pos (show 0 ≤ tp_lo t u dd by omega)] at main
      exact main
    · rw [← ei]
      have P2 : MPg h2 m t u := P1.fr F2 (fun i => by unfold tp_Sw; omega) (fun i => by unfold tp_Sw; omega)
      have ex : (2457 * jI (dd : Int) + jI (i : Int) : Int32) = jI ((2457 * dd + i : Nat) : Int) := by rw [show (2457 : Int32) = jI ((2457 : Nat) : Int) from rfl, jI_mul, jI_add]; rfl
      refine ⟨P2.1.1, m + 21, P2.1.a47.1, P2.1.a47.tg, by rw [ex]; exact P2.1.a47.inn (by omega) (by omega), nm_r (e' := zuI h2 (m + 21) (2457 * dd + i) (jI (tp_Cm t u rs (tp_T t - dd) dd (i / 117) (i / 9 % 13) (i % 9)))) (by rw [ex, jI_cln (by omega)]) (nm_r (e' := jI ((i + 1 : Nat) : Int)) (by rw [show (1 : Int32) = jI 1 from rfl, jI_add]; rfl) (l211q hd ok ou hR P0 R0 hN hdd T0 q r (i + 1) _ (by omega) (Fr.uI (F1.tr (F2.wd (fun a i e => Or.inl e))) (Or.inr rfl)) (fun d' a b c n k a1 a2 a3 => ?_) (fun c n k a1 a2 a3 a4 => ?_)))⟩
      · rw [zI_offi (by unfold cm_at; omega), F2.I (by unfold tp_Sw; omega)]
        exact T1 d' a b c n k a1 a2 a3
      · by_cases ce : 117 * c + 9 * n + k = i
        · have ec : i / 117 = c := by omega
          have en : i / 9 % 13 = n := by omega
          have ek : i % 9 = k := by omega
          rw [ec, en, ek, show cm_at dd c n k = 2457 * dd + i by unfold cm_at; omega, zI_here]
        · rw [zI_offi (by unfold cm_at; omega), F2.I (by unfold tp_Sw; omega)]
          exact I1 c n k a1 a2 a3 (by omega)
theorem l211d {h0 : ZH} (hd : 10 ≤ d) (ok : tp_Ok t) (ou : tp_Ou u) (hR : RwB rs rx) (P0 : MPg h0 m t u) (R0 : RwM h0 m N rs rx) (hN : N = tp_T t) (q : ∀ h', Fr (tp_Sq m) h0 h' → (∀ d', d' ≤ tp_T t → CmT h' m t u rs d') → Q none h') : ∀ r h1, r ≤ tp_T t → Fr (tp_Sq m) h0 h1 → (∀ d', r ≤ d' → d' ≤ tp_T t → CmT h1 m t u rs d') → wl_211_22 E d Q (r + 1) m (jI ((r : Int) - 1)) h1
  | 0, h1, e, F1, T1 => by
    rw [wl_211_22]
    exact ⟨fun _ => q h1 F1 (fun d' a => T1 d' (by omega) a), fun c => absurd (by decide) c⟩
  | r + 1, h1, e, F1, T1 => by
    have hT := ok.T
    have P1 : MPg h1 m t u := P0.fr F1 (fun i => by unfold tp_Sq tp_Sw; omega) (fun i => by unfold tp_Sq tp_Sw; omega)
    have R1 : RwM h1 m N rs rx := ⟨by rw [F1.I (by unfold tp_Sq tp_Sw; omega)]; exact R0.1, fun k hk => by rw [F1.I (by unfold tp_Sq tp_Sw; omega), F1.I (by unfold tp_Sq tp_Sw; omega)]; exact R0.2 k hk⟩
    rw [wl_211_22, show ((r + 1 : Nat) : Int) - 1 = (r : Int) by omega]
    refine ⟨fun c => ?_, fun _ => ⟨2458, l211q hd ok ou hR P1 R1 hN (show r < tp_T t by omega) T1 (fun h2 F2 T2 => nm_r (e' := jI ((r : Int) - 1)) (by rw [show (-1 : Int32) = jI (-1) from rfl, jI_add]; rfl) (l211d hd ok ou hR P0 R0 hN q r h2 (by omega) (F1.tr F2) T2)) 2457 0 h1 (by omega) Fr.rf T1 (fun c n k _ _ _ a4 => by omega)⟩⟩
    exfalso
    rw [show (0 : Int32) = jI 0 from rfl, jI_lt (by omega) (by omega) (by omega) (by omega)] at c
    omega
theorem ct_211 (hd : 12 ≤ d) (ok : tp_Ok t) (ou : tp_Ou u) (hR : RwB rs rx) (P : MPg h m t u) (R : RwM h m N rs rx) (hN : N = tp_T t) (q : ∀ h', Fr (tp_Sq m) h h' → (∀ d', d' ≤ tp_T t → CmT h' m t u rs d') → Q none h') : Ct E d 211 [.ref m] h Q := by
  obtain ⟨d, rfl⟩ : ∃ n, d = n + 1 := ⟨d - 1, by omega⟩
  have hT := ok.T
  refine ok_211 ⟨2458, l211a (by omega) ok P (fun h1 F1 I1 => ?_) 2457 0 h (by omega) Fr.rf (fun j hj => by omega)⟩
  have P1 : MPg h1 m t u := P.fr F1 (fun i => by omega) (fun i => by omega)
  refine ⟨P1.1.1, by omega, sz152 P1, nm_r (e' := jI ((tp_T t : Int) - 1)) (by rw [fz152 P1, show (1 : Int32) = jI 1 from rfl, jI_sub]) ⟨tp_T t + 1, l211d (by omega) ok ou hR P R hN q (tp_T t) h1 (Nat.le_refl _) (F1.wd (fun a i e => Or.inr e)) (fun d' a b c n k a1 a2 a3 => ?_)⟩⟩
  have ed : d' = tp_T t := by omega
  subst ed
  rw [show cm_at (tp_T t) c n k = 2457 * tp_T t + (117 * c + 9 * n + k) from rfl, I1 _ (by omega), Nat.sub_self]
  rfl
end OPL
