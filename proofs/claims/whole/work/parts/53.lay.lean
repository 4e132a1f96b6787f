/-! THE MODEL: worthBy, layPlace, layAll -/
section MLY
variable {E : Nat → Nat} {m : Nat} {t u : Nat → Nat}
def tp_Sw (m : Nat) : Nat → Nat → Prop := fun a i => a = m ∧ ((21 ≤ i ∧ i ≤ 26) ∨ i = 30 ∨ i = 31)
def MTb (h : ZH) (m : Nat) (t u : Nat → Nat) (n dd : Nat) : Prop := ∀ c mm k s, c ≤ 20 → mm ≤ 12 → k ≤ 8 → s < 3 → zL h (m + 11) (tp_at dd c mm k s) = jL (tp_Wm t u n dd c mm k s)
theorem tp_at_lt {dd c mm k s : Nat} (hd : dd < 21) (hc : c ≤ 20) (hm : mm ≤ 12) (hk : k ≤ 8) (hs : s < 3) : tp_at dd c mm k s < 154791 := by
  unfold tp_at
  omega
set_option maxHeartbeats 4000000 in
theorem ct_179 {d n : Nat} {h : ZH} {dd c mm k s x : Nat} {Q : Option Value → ZH → Prop} (hd : 9 ≤ d) (ok : tp_Ok t) (ou : tp_Ou u) (P : MPg h m t u) (hn : dd + 1 + n = tp_T t) (hc : c ≤ 20) (hmm : mm ≤ 12) (hk : k ≤ 8) (hs : s < 3) (hx : x ≤ 4) (T : dd + 1 < tp_T t → MTb h m t u n (dd + 1)) (q : ∀ h', Fr (tp_Sw m) h h' → Q (some (.long (jL (tp_Xm t u n dd c mm k s x)))) h') : Ct E d 179 [.ref m, .int (jI (dd : Int)), .int (jI (c : Int)), .int (jI (mm : Int)), .int (jI (k : Int)), .int (jI (s : Int)), .int (jI (x : Int))] h Q := by
  obtain ⟨d, rfl⟩ : ∃ n, d = n + 1 := ⟨d - 1, by omega⟩
  have hT := ok.T
  have h12 : t 12 ≤ 1 := ok.2.2.2.2.2.2.2.2.2.2.2.1
  have hc2 := tp_c2_le t u dd c mm k x
  have hm2 := tp_m2_le t u dd c k x hmm
  have hk2 := tp_k2_le t u dd c mm x hk
  have en : (jI (dd : Int) + 1 : Int32) = jI ((dd + 1 : Nat) : Int) := by
    rw [show (1 : Int32) = jI 1 from rfl, jI_add]; rfl
  have esc : fz_176 E h ((fz_152 E h m - 1) - jI (dd : Int)) = jL (4 ^ n) := by
    rw [fz152 P, show (1 : Int32) = jI 1 from rfl, jI_sub, jI_sub, show ((tp_T t : Int) - 1 - (dd : Int)) = (n : Int) by omega, fz176 (by omega)]
  -- the fields that change
  have wdA : ∀ a i, tp_Sm m 21 24 a i → tp_Sw m a i := fun a i e => by unfold tp_Sm at e; unfold tp_Sw; omega
  have wdB : ∀ a i, (a = m ∧ (i = 25 ∨ i = 26 ∨ i = 30 ∨ i = 31)) → tp_Sw m a i := fun a i e => by unfold tp_Sw; omega
  have n8 : ∀ i, ¬ tp_Sw m (m + 8) i := fun i => by unfold tp_Sw; omega
  have n10 : ∀ i, ¬ tp_Sw m (m + 10) i := fun i => by unfold tp_Sw; omega
  have n11 : ∀ i, ¬ tp_Sw m (m + 11) i := fun i => by unfold tp_Sw; omega
  -- what is read of the day behind
  have rd : ∀ h1 v, Fr (tp_Sw m) h h1 → v < 3 → dd + 1 < tp_T t → zL h1 (m + 11) (tp_at (dd + 1) (tp_c2 t u dd c mm k x) (tp_m2 t u dd c mm k x) (tp_k2 t u dd c mm k x) v) = jL (tp_Wm t u n (dd + 1) (tp_c2 t u dd c mm k x) (tp_m2 t u dd c mm k x) (tp_k2 t u dd c mm k x) v) := fun h1 v F hv h2 => by
    rw [F.L (n11 _)]
    exact T h2 _ _ _ _ hc2 hm2 hk2 hv
  have eat : ∀ v : Nat, (jI (tp_at (dd + 1) (tp_c2 t u dd c mm k x) (tp_m2 t u dd c mm k x) (tp_k2 t u dd c mm k x) 0 : Int) + jI (v : Int) : Int32) = jI (tp_at (dd + 1) (tp_c2 t u dd c mm k x) (tp_m2 t u dd c mm k x) (tp_k2 t u dd c mm k x) v : Int) := fun v => by
    rw [jI_add]
    congr 1
  have hal : ∀ v, v < 3 → dd + 1 < tp_T t → tp_at (dd + 1) (tp_c2 t u dd c mm k x) (tp_m2 t u dd c mm k x) (tp_k2 t u dd c mm k x) v < 154791 := fun v hv h2 => tp_at_lt (by omega) hc2 hm2 hk2 hv
  have ech : ∀ (h1 : ZH) (v : Nat), MPg h1 m t u → v < 3 → zin ((19 + (3 * jI (s : Int))) + jI (v : Int)) (zlen h1 (m + 8)) = true ∧ zI h1 (m + 8) ((19 + (3 * jI (s : Int))) + jI (v : Int) : Int32).toNatClampNeg = jI (tp_ch t s v : Int) := fun h1 v P1 hv => by
    have e : ((19 + (3 * jI (s : Int))) + jI (v : Int) : Int32) = jI ((19 + (3 * s + v) : Nat) : Int) := by
      rw [show (19 : Int32) = jI 19 from rfl, show (3 : Int32) = jI 3 from rfl, jI_mul, jI_add, jI_add]
      congr 1
      omega
    rw [e, jI_cln (by omega)]
    refine ⟨P1.1.a15.inn (by omega) (by omega), ?_⟩
    rw [P1.2.2.2.1 (3 * s + v) (by omega)]
    unfold tp_ch
    congr 3
    omega
  have W0 : ¬ dd + 1 < tp_T t → ∀ c' m' k' v, tp_Wm t u n (dd + 1) c' m' k' v = 0 := fun h2 c' m' k' v => by
    have e0 : n = 0 := by omega
    subst e0
    rfl
  refine ok_179 ⟨P.1.1, by omega, sz152 P, by omega, trivial, nm_r esc ⟨m + 8, P.1.a15.1, P.1.a15.ti, P.1.a15.inc (by decide), ?_⟩⟩
  rw [P.2.1 12 (by omega), show (0 : Int32) = jI ((0 : Nat) : Int) from rfl, jI_eqn (by omega) (by omega)]
  refine ⟨fun c12 => ?_, fun c12 => ?_⟩
  · -- notice
    have st : ∀ (f v : Nat) (a : Int) (h1 : ZH), v < 3 → Fr (tp_Sw m) h h1 → (∀ h2, Fr (tp_Sw m) h h2 → wl_179_79 E d Q f m (jI (dd : Int)) (jI (c : Int)) (jI (mm : Int)) (jI (k : Int)) (jI (s : Int)) (jI (x : Int)) (jL (4 ^ n)) (jL (a + (tp_ch t s v : Int) * (4 ^ n * tp_g1 t u dd c mm k v x + tp_Wm t u n (dd + 1) (tp_c2 t u dd c mm k x) (tp_m2 t u dd c mm k x) (tp_k2 t u dd c mm k x) v))) (jI ((v + 1 : Nat) : Int)) h2) → wl_179_79 E d Q (f + 1) m (jI (dd : Int)) (jI (c : Int)) (jI (mm : Int)) (jI (k : Int)) (jI (s : Int)) (jI (x : Int)) (jL (4 ^ n)) (jL a) (jI (v : Int)) h1 := by
      intro f v a h1 hv F1 kk
      have P1 : MPg h1 m t u := P.fr F1 n8 n10
      rw [wl_179_79]
      refine ⟨fun q => ?_, fun _ => ⟨P1.1.1, ct_167 (by omega) ok ou P1 (by omega) hc hmm hk hv (by omega) (fun h6 F6 K6 => ?_)⟩⟩
      · exfalso
        rw [show (3 : Int32) = jI ((3 : Nat) : Int) from rfl, jI_len (by omega) (by omega)] at q
        omega
      · have F6' := F1.tr (F6.wd wdA)
        have P6 : MPg h6 m t u := P.fr F6' n8 n10
        have bd := tp_g1_bd (d := dd) (c := c) (m := mm) (k := k) ok u hv (show x ≤ 9 by omega)
        refine ⟨rfl, P6.1.1, by omega, sz168 P6 hv, nm_r (fz168 P6 hv K6.2.2.1) (ct_178 (by omega) ok ou P6 (by omega) hc hmm hk (by omega) K6 (fun h9 F9 i30 i31 _ => ?_))⟩
        have F9' := F6'.tr (F9.wd wdB)
        have P9 : MPg h9 m t u := P.fr F9' n8 n10
        have hle : (jI (tp_T t : Int) ≤ jI ((dd + 1 : Nat) : Int)) ↔ ¬ dd + 1 < tp_T t := by
          rw [jI_len (by omega) (by omega)]; omega
        refine ⟨rfl, P9.1.1, by omega, sz152 P9, ?_⟩
        rw [fz152 P9, en, i30, eat v, P9.1.a27.sub]
        refine ⟨⟨fun _ => trivial, fun q => ⟨P9.1.a27.ne, P9.1.a27.tg, P9.1.a27.inn (hal v hv (by
          by_cases q2 : dd + 1 < tp_T t
          · exact q2
          · exact absurd (hle.mpr q2) q)) (by omega), trivial⟩⟩, nm_r (e' := jL (tp_Wm t u n (dd + 1) (tp_c2 t u dd c mm k x) (tp_m2 t u dd c mm k x) (tp_k2 t u dd c mm k x) v)) ?_ ⟨m + 8, P9.1.a15.1, P9.1.a15.ti, (ech h9 v P9 hv).1, nm_r ?_ (nm_r (e' := jI ((v + 1 : Nat) : Int)) (by rw [show (1 : Int32) = jI 1 from rfl, jI_add]; rfl) (kk h9 F9'))⟩⟩
        · by_cases q2 : dd + 1 < tp_T t
          · rw [if_neg (fun q => (hle.mp q) q2), jI_cln (by have := hal v hv q2; omega)]
            exact rd h9 v F9' hv q2
          · rw [if_pos (hle.mpr q2), W0 q2]
            rfl
        · have c4 := tp_ch_le ok hs hv
          rw [(ech h9 v P9 hv).2, i31, jI_sub, jI_toL (by omega) (by omega), jI_toL (by omega) (by omega), jL_mul, jL_add, jL_mul, jL_add]
          rfl
    refine ⟨4, ?_⟩
    refine st 3 0 0 h (by omega) Fr.rf (fun h1 F1 => st 2 1 _ h1 (by omega) F1 (fun h2 F2 => st 1 2 _ h2 (by omega) F2 (fun h3 F3 => ?_)))
    rw [wl_179_79]
    refine ⟨fun _ => ?_, fun q => absurd (by decide) q⟩
    have := q h3 F3
    unfold tp_Xm at this
    rw [if_neg c12] at this
    refine ek_v (P := fun z => Q (some (.long z)) h3) ?_ this
    congr 1
    omega
  · -- no notice
    have c12' : t 12 = 0 := Classical.not_not.mp c12
    have bd := tp_g1_bd (d := dd) (c := c) (m := mm) (k := k) ok u hs (show x ≤ 9 by omega)
    refine ct_167 (by omega) ok ou P (by omega) hc hmm hk hs (by omega) (fun h6 F6 K6 => ?_)
    have F6' := F6.wd wdA
    have P6 : MPg h6 m t u := P.fr F6' n8 n10
    refine ⟨rfl, P6.1.1, by omega, sz168 P6 hs, nm_r (fz168 P6 hs K6.2.2.1) (ct_178 (by omega) ok ou P6 (by omega) hc hmm hk (by omega) K6 (fun h9 F9 i30 i31 _ => ?_))⟩
    have F9' := F6'.tr (F9.wd wdB)
    have P9 : MPg h9 m t u := P.fr F9' n8 n10
    have hle : (jI (tp_T t : Int) ≤ jI ((dd + 1 : Nat) : Int)) ↔ ¬ dd + 1 < tp_T t := by
      rw [jI_len (by omega) (by omega)]; omega
    have fin := q h9 F9'
    unfold tp_Xm at fin
    rw [if_pos c12'] at fin
    refine ⟨rfl, P9.1.1, nm_r (e' := jL (4 ^ n * tp_g1 t u dd c mm k s x)) ?_ ⟨4, ?_⟩⟩
    · rw [i31, jI_sub, jI_toL (by omega) (by omega), jL_mul]
      rfl
    · by_cases q2 : dd + 1 < tp_T t
      · have st : ∀ (f v : Nat) (a : Int), v < 3 → wl_179_42 E d Q f m (jI (dd : Int)) (jI (s : Int)) (jL (a + (tp_ch t s v : Int) * tp_Wm t u n (dd + 1) (tp_c2 t u dd c mm k x) (tp_m2 t u dd c mm k x) (tp_k2 t u dd c mm k x) v)) (jI ((v + 1 : Nat) : Int)) h9 → wl_179_42 E d Q (f + 1) m (jI (dd : Int)) (jI (s : Int)) (jL a) (jI (v : Int)) h9 := by
          intro f v a hv kk
          rw [wl_179_42]
          refine ⟨fun q => ?_, fun _ => ⟨P9.1.1, by omega, sz152 P9, ?_⟩⟩
          · exfalso
            rw [show (3 : Int32) = jI ((3 : Nat) : Int) from rfl, jI_len (by omega) (by omega)] at q
            omega
          · rw [fz152 P9, en, i30, eat v]
            refine ⟨fun q => absurd q2 (hle.mp q), fun _ => ⟨m + 8, P9.1.a15.1, P9.1.a15.ti, (ech h9 v P9 hv).1, m + 11, P9.1.a27.1, P9.1.a27.tg, P9.1.a27.inn (hal v hv q2) (by omega), nm_r ?_ (nm_r (e' := jI ((v + 1 : Nat) : Int)) (by rw [show (1 : Int32) = jI 1 from rfl, jI_add]; rfl) kk)⟩⟩
            have c4 := tp_ch_le ok hs hv
            rw [(ech h9 v P9 hv).2, jI_cln (by have := hal v hv q2; omega), rd h9 v F9' hv q2, jI_toL (by omega) (by omega), jL_mul, jL_add]
        refine st 3 0 _ (by omega) (st 2 1 _ (by omega) (st 1 2 _ (by omega) ?_))
        rw [wl_179_42]
        exact ⟨fun _ => fin, fun q => absurd (by decide) q⟩
      · rw [wl_179_42]
        refine ⟨fun q => absurd q (by decide), fun _ => ⟨P9.1.1, by omega, sz152 P9, fun _ => ?_, fun q => ?_⟩⟩
        · rw [W0 q2, W0 q2, W0 q2] at fin
          refine ek_v (P := fun z => Q (some (.long z)) h9) ?_ fin
          congr 1
          simp
        · exfalso
          apply q
          rw [fz152 P9, en]
          exact hle.mpr q2
end MLY
