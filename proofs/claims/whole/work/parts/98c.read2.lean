/-! THE CALLS: read, the Model's -/
section OPR
variable {E : Nat → Nat} {h : ZH} {x m zs zt g tn N d : Nat} {t u rs rx : Nat → Nat} {ft to : Int32} {tb : Nat → Int32} {la sz : Nat → Int} {ce : Nat → Nat → Int32} {Q : Option Value → ZH → Prop}
theorem l216b {h0 : ZH} {K cnt : Nat} {a tc : Int} (ok : tp_Ok t) (hK : K < 4) (hB : ShB la sz) (hcn : cnt ≤ 20) (hN : N + cnt ≤ tp_T t) (S0 : MSh h0 m) (C0 : ShM h0 m la sz ce) (hv : ∀ k, k < cnt → rd_in sz K a k ∧ rd_vs ce K a k) (q : ∀ h', Fr (fun a i => a = m + 17 ∨ a = m + 18 ∨ (a = m ∧ i = 36)) h0 h' → RwM h' m (N + cnt) (rd_r ce K a N 0 rs cnt) (rd_r ce K a N 1 rx cnt) → wb_216_170 E d Q m (jI tc) (jI (cnt : Int)) h') : ∀ (r i : Nat) h1, i + r = cnt → Fr (fun a i => a = m + 17 ∨ a = m + 18 ∨ (a = m ∧ i = 36)) h0 h1 → RwM h1 m (N + i) (rd_r ce K a N 0 rs i) (rd_r ce K a N 1 rx i) → wl_216_123 E d Q (r + 1) m (jI (K : Int)) (jI a) (jI tc) (jI (cnt : Int)) (jI (i : Int)) h1
  | 0, i, h1, e, F1, R1 => by
    have ei : i = cnt := by omega
    subst ei
    rw [wl_216_123]
    exact ⟨fun _ => q h1 F1 R1, fun c => absurd ((jI_len (by omega) (by omega)).mpr (Nat.le_refl _)) c⟩
  | r + 1, i, h1, e, F1, R1 => by
    have hT := ok.T
    have S := S0.fr F1
    obtain ⟨hin, hvs⟩ := hv i (by omega)
    obtain ⟨_, _, c3⟩ := C0 K hK
    have b0 := hB K
    have ex : (48 * jI (K : Int) + jI a + 2 * jI (i : Int) : Int32) = jI ((48 * K + (a + 2 * (i : Int)).toNat : Nat) : Int) := by
      rw [show (48 : Int32) = jI 48 from rfl, show (2 : Int32) = jI 2 from rfl, jI_mul, jI_mul, jI_add, jI_add]
      congr 1
      omega
    have ex1 : (48 * jI (K : Int) + jI a + 2 * jI (i : Int) + 1 : Int32) = jI ((48 * K + ((a + 2 * (i : Int)).toNat + 1) : Nat) : Int) := by
      rw [ex, show (1 : Int32) = jI 1 from rfl, jI_add]
      congr 1
    have r0 : zI h1 (m + 24) (48 * K + (a + 2 * (i : Int)).toNat) = jI ((rd_c ce K a i 0).toNat : Int) := by
      rw [F1.I (by omega), c3 _ (by omega), (jce (ce K ((a + 2 * (i : Int)).toNat))).1]
      congr 1
      have : rd_c ce K a i 0 = (ce K ((a + 2 * (i : Int)).toNat)).toInt := rfl
      omega
    have r1 : zI h1 (m + 24) (48 * K + ((a + 2 * (i : Int)).toNat + 1)) = jI ((rd_c ce K a i 1).toNat : Int) := by
      rw [F1.I (by omega), c3 _ (by omega), (jce (ce K ((a + 2 * (i : Int)).toNat + 1))).1]
      congr 1
      have : rd_c ce K a i 1 = (ce K ((a + 2 * (i : Int)).toNat + 1)).toInt := rfl
      omega
    rw [wl_216_123]
    refine ⟨fun c => ?_, fun _ => ⟨S.1, m + 17, S.a37.1, m + 24, S.a50.1, S.a50.ti, by rw [ex]; exact S.a50.inn (by omega) (by omega), S.a37.tg, ?_, nm_r (e' := zuI h1 (m + 17) (N + i) (jI ((rd_c ce K a i 0).toNat : Int))) ?_ ⟨m + 18, S.a38.1, by rw [ex1]; exact S.a50.inn (by omega) (by omega), S.a38.tg, ?_, nm_r (e' := zuI (zuI h1 (m + 17) (N + i) (jI ((rd_c ce K a i 0).toNat : Int))) (m + 18) (N + i) (jI ((rd_c ce K a i 1).toNat : Int))) ?_ (nm_r (e' := zuI (zuI (zuI h1 (m + 17) (N + i) (jI ((rd_c ce K a i 0).toNat : Int))) (m + 18) (N + i) (jI ((rd_c ce K a i 1).toNat : Int))) m 36 (jI ((N + (i + 1) : Nat) : Int))) ?_ (nm_r (e' := jI ((i + 1 : Nat) : Int)) (by rw [show (1 : Int32) = jI 1 from rfl, jI_add]; rfl) (l216b ok hK hB hcn hN S0 C0 hv q r (i + 1) _ (by omega) (Fr.uI (Fr.uI (Fr.uI F1 (by omega)) (by omega)) (by omega)) ⟨zI_here _ _ _ _, fun k hk => ?_⟩)))⟩⟩⟩
    · exfalso
      rw [jI_len (by omega) (by omega)] at c
      omega
    · rw [R1.1]; exact S.a37.inn (by omega) (by omega)
    · rw [R1.1, ex, jI_cln (by omega), jI_cln (by omega), r0]
    · rw [zI_offa (by omega), R1.1]; exact S.a38.inn (by omega) (by omega)
    · rw [zI_offa (by omega), R1.1, ex1, jI_cln (by omega), jI_cln (by omega), zI_offa (by omega), r1]
    · rw [zI_offa (by omega), zI_offa (by omega), R1.1, show (1 : Int32) = jI 1 from rfl, jI_add]; rfl
    · show zI _ (m + 17) k = jI ((rw_s (rd_r ce K a N 0 rs i) (N + i) (rd_c ce K a i 0).toNat k : Nat) : Int) ∧ zI _ (m + 18) k = jI ((rw_s (rd_r ce K a N 1 rx i) (N + i) (rd_c ce K a i 1).toNat k : Nat) : Int)
      unfold rw_s
      by_cases ck : k = N + i
      · rw [if_pos ck, if_pos ck, ck]
        exact ⟨by rw [zI_offa (by omega), zI_offa (by omega), zI_here], by rw [zI_offa (by omega), zI_here]⟩
      · rw [if_neg ck, if_neg ck]
        have rk := R1.2 k (by omega)
        exact ⟨by rw [zI_offa (by omega), zI_offa (by omega), zI_offi ck]; exact rk.1, by rw [zI_offa (by omega), zI_offi ck, zI_offa (by omega)]; exact rk.2⟩
/-- what the Model says of a place: 0 it can be read -/
theorem x216 {K j : Nat} {w a : Int} (hB : ShB la sz) (hK : K < 4) (S : MSh h m) (C : ShM h m la sz ce) (hw : 0 ≤ w ∧ w < 3) (ha : jb a) (hj : j ≤ 60) : (if ¬ (zI h (m + 22) (jI (K : Int)).toNatClampNeg : Int32) = ((-4) : Int32) then if (zI h (m + 22) (jI (K : Int)).toNatClampNeg : Int32) = jI w then if ¬ (fz_135 E h ((jI a).toInt64 + (jI (j : Int)).toInt64) 0 (((zI h (zR h m 49 - 1) (jI (K : Int)).toNatClampNeg) - 1 : Int32).toInt64) : Int32) = 0 then 0 else 2 else 3 else 1 : Int32) = if rd_l la K w = 0 then (if 0 ≤ a + (j : Int) ∧ a + (j : Int) < sz K then 0 else 2) else jI (rd_l la K w) := by
  obtain ⟨c1, c2, _⟩ := C K hK
  have b0 := hB K
  have e4 : jI (la K) = -4 ↔ la K = -4 := by rw [show (-4 : Int32) = jI (-4) from rfl, jI_eq (by omega) (by omega) (by omega) (by omega)]
  have ew : jI (la K) = jI w ↔ la K = w := jI_eq (by omega) (by omega) (by omega) (by omega)
  have g : fz_135 E h ((jI a).toInt64 + (jI (j : Int)).toInt64) 0 ((jI (sz K) - 1 : Int32).toInt64) = 0 ↔ ¬ (0 ≤ a + (j : Int) ∧ a + (j : Int) ≤ sz K - 1) := by
    rw [jI_toL ha.1 ha.2, jI_toL (by omega) (by omega), jL_add, show (1 : Int32) = jI 1 from rfl, jI_sub, jI_toL (by omega) (by omega), show (0 : Int64) = jL 0 from rfl, fz135 (by omega) (by omega) (by omega) (by omega) (by omega) (by omega)]
    exact j01
  rw [S.a49.sub, jI_cln (by omega), c1, c2]
  unfold rd_l
  by_cases d4 : la K = -4
  · rw [if_neg (fun q => q (e4.mpr d4)), if_pos d4]; rfl
  · rw [if_pos (fun q => d4 (e4.mp q)), if_neg d4]
    by_cases dw : la K = w
    · rw [if_pos (ew.mpr dw), if_pos dw, if_pos rfl]
      by_cases ci : 0 ≤ a + (j : Int) ∧ a + (j : Int) < sz K
      · rw [if_pos ci, if_pos (by rw [g]; omega)]
      · rw [if_neg ci, if_neg (by rw [g]; omega)]
    · rw [if_neg (fun q => dw (ew.mp q)), if_neg dw]; rfl
theorem e216 {c : Int} {a1 a2 a3 a4 a6 a7 : Int32} {f : Nat} (hc : jb c) (hc0 : c ≠ 0) (q : ∃ mm : Nat, wl_216_123 E d Q mm m a1 a3 (jI c) a6 0 h) : wl_216_26 E d Q (f + 1) m a1 a2 a3 a4 (jI c) a6 a7 h := by
  rw [wl_216_26]
  refine ⟨fun _ => q, fun _ => ⟨fun _ => q, fun c7 => ?_⟩⟩
  exfalso
  rw [show (0 : Int32) = jI 0 from rfl, jI_eq hc.1 hc.2 (by omega) (by omega), Classical.not_not] at c7
  omega
theorem l216 {K n : Nat} {w a : Int} {res : Int × Int × Nat} (hd : 5 ≤ d) (ok : tp_Ok t) (hK : K < 4) (hB : ShB la sz) (hw : 0 ≤ w ∧ w < 3) (ha : jb a) (hn : n ≤ 20) (P : MPg h m t u) (C : ShM h m la sz ce) (R : RwM h m N rs rx) (hN : N ≤ tp_T t) (hl : rd_l la K w = 0) (fin : res.2.1 = 0 → (∀ k, k < res.2.2 → rd_in sz K a k ∧ rd_vs ce K a k) → N + res.2.2 ≤ tp_T t → ∃ mm : Nat, wl_216_123 E d Q mm m (jI (K : Int)) (jI a) (jI res.1) (jI (res.2.2 : Int)) 0 h) (finE : res.2.1 ≠ 0 → Q (some (.int (jI res.2.1))) h) : ∀ (r i : Nat), i + r = n → (∀ k, k < i → rd_in sz K a k ∧ rd_vs ce K a k) → N + i ≤ tp_T t → rd_go sz ce K a (tp_T t) N r i = res → wl_216_26 E d Q (2 * r + 2) m (jI (K : Int)) (jI w) (jI a) (jI (n : Int)) 0 (jI (i : Int)) (jI ((2 * i : Nat) : Int)) h
  | 0, i, e, hv, hi, hr => by
    have ei : i = n := by omega
    subst ei
    rw [rd_go] at hr
    subst hr
    rw [wl_216_26]
    have e2 : (2 * jI (i : Int) : Int32) = jI ((2 * i : Nat) : Int) := by rw [show (2 : Int32) = jI 2 from rfl, jI_mul]; rfl
    refine ⟨fun _ => fin rfl hv hi, fun c => absurd ?_ c⟩
    rw [e2]
    exact (jI_len (by omega) (by omega)).mpr (Nat.le_refl _)
  | r + 1, i, e, hv, hi, hr => by
    have hT := ok.T
    have S := P.1
    have b0 := hB K
    obtain ⟨c1, c2, c3⟩ := C K hK
    have e2 : (2 * jI (n : Int) : Int32) = jI ((2 * n : Nat) : Int) := by rw [show (2 : Int32) = jI 2 from rfl, jI_mul]; rfl
    have sf : ∀ j : Nat, ((¬ (zI h (m + 22) (jI (K : Int)).toNatClampNeg : Int32) = ((-4) : Int32) → (zin (jI (K : Int)) (zlen h (m + 22)) = true ∧ ((((zI h (m + 22) (jI (K : Int)).toNatClampNeg : Int32) = jI w → (¬ zR h m 49 = 0 ∧ (ztag h (zR h m 49 - 1) = 13 ∨ ztag h (zR h m 49 - 1) = 19) ∧ zin (jI (K : Int)) (zlen h (zR h m 49 - 1)) = true ∧ 1 ≤ d ∧ sz_135 E h ((jI a).toInt64 + (jI (j : Int)).toInt64) 0 (((zI h (zR h m 49 - 1) (jI (K : Int)).toNatClampNeg) - 1 : Int32).toInt64) ∧ True)) ∧ (¬ ((zI h (m + 22) (jI (K : Int)).toNatClampNeg : Int32) = jI w) → (True))) ∧ True))) ∧ (¬ (¬ (zI h (m + 22) (jI (K : Int)).toNatClampNeg : Int32) = ((-4) : Int32)) → (True))) := fun j => by
      rw [S.a49.sub]
      exact ⟨fun _ => ⟨S.a48.inn (by omega) (by omega), ⟨fun _ => ⟨S.a49.ne, S.a49.ti, S.a49.inn (by omega) (by omega), by omega, trivial, trivial⟩, fun _ => trivial⟩, trivial⟩, fun _ => trivial⟩
    have torn : ¬ rd_in sz K a i → ∃ mm : Nat, wl_216_123 E d Q mm m (jI (K : Int)) (jI a) (jI 2) (jI (i : Int)) 0 h := fun cc => by
      rw [rd_go, if_neg cc] at hr
      subst hr
      exact fin rfl hv hi
    have tornL : ∀ (f : Nat) (y : Int32), ¬ rd_in sz K a i → wl_216_26 E d Q (f + 1) m (jI (K : Int)) (jI w) (jI a) (jI (n : Int)) 2 (jI (i : Int)) y h := fun f y cc => e216 (c := 2) (by omega) (by omega) (torn cc)
    rw [show 2 * (r + 1) + 2 = 2 * r + 3 + 1 by omega, wl_216_26]
    refine ⟨fun c => ?_, fun _ => ⟨fun c => absurd rfl c, fun _ => ⟨S.1, m + 22, S.a48.1, S.a48.ti, S.a48.inn (by omega) (by omega), sf _, fun x18 ex18 => ?_⟩⟩⟩
    · exfalso
      rw [e2, jI_len (by omega) (by omega)] at c
      omega
    rw [x216 hB hK S C hw ha (by omega), if_pos hl] at ex18
    have e1m : (jI ((2 * i : Nat) : Int) - jI ((2 * i : Nat) : Int) / 2 * 2 : Int32) = jI ((0 : Nat) : Int) := by
      rw [show (2 : Int32) = jI ((2 : Nat) : Int) from rfl, jI_rem (by omega) (by omega) (by omega)]; congr 2; omega
    by_cases ce0 : 0 ≤ a + ((2 * i : Nat) : Int) ∧ a + ((2 * i : Nat) : Int) < sz K
    · rw [if_pos ce0] at ex18
      subst ex18
      refine ⟨fun c => absurd rfl c, fun _ => ⟨fun _ => nm_r (e' := jI ((2 * i + 1 : Nat) : Int)) (by rw [show (1 : Int32) = jI 1 from rfl, jI_add]; rfl) ?_, fun c => absurd (by rw [e1m]; decide) c⟩⟩
      -- the second cell
      rw [show 2 * r + 3 = 2 * r + 2 + 1 by omega, wl_216_26]
      refine ⟨fun c => ?_, fun _ => ⟨fun c => absurd rfl c, fun _ => ⟨S.1, m + 22, S.a48.1, S.a48.ti, S.a48.inn (by omega) (by omega), sf _, fun x18 ex18 => ?_⟩⟩⟩
      · exfalso
        rw [e2, jI_len (by omega) (by omega)] at c
        omega
      rw [x216 hB hK S C hw ha (by omega), if_pos hl] at ex18
      have e1n : (jI ((2 * i + 1 : Nat) : Int) - jI ((2 * i + 1 : Nat) : Int) / 2 * 2 : Int32) = jI ((1 : Nat) : Int) := by
        rw [show (2 : Int32) = jI ((2 : Nat) : Int) from rfl, jI_rem (by omega) (by omega) (by omega)]; congr 2; omega
      by_cases ce1 : 0 ≤ a + ((2 * i + 1 : Nat) : Int) ∧ a + ((2 * i + 1 : Nat) : Int) < sz K
      · rw [if_pos ce1] at ex18
        subst ex18
        refine ⟨fun c => absurd rfl c, fun _ => ⟨fun c => absurd (by rw [e1n]; rfl) c, fun _ => nm_r (e' := jI ((48 * K + (a + 2 * (i : Int)).toNat : Nat) : Int)) ?_ ⟨m + 24, S.a50.1, S.a50.ti, S.a50.inn (by omega) (by omega), by omega, trivial, ?_⟩⟩⟩
        · rw [show (48 : Int32) = jI 48 from rfl, show (1 : Int32) = jI 1 from rfl, jI_mul, jI_add, jI_add, jI_sub]
          congr 1
          omega
        have cin : rd_in sz K a i := by unfold rd_in; omega
        obtain ⟨v0, w0⟩ := jce (ce K ((a + 2 * (i : Int)).toNat + 0))
        obtain ⟨v1, w1⟩ := jce (ce K ((a + 2 * (i : Int)).toNat + 1))
        have r0 : zI h (m + 24) (48 * K + (a + 2 * (i : Int)).toNat) = jI (rd_c ce K a i 0) := by
          rw [c3 _ (by omega)]
          exact v0
        have ex1 : (jI ((48 * K + (a + 2 * (i : Int)).toNat : Nat) : Int) + 1 : Int32) = jI ((48 * K + ((a + 2 * (i : Int)).toNat + 1) : Nat) : Int) := by
          rw [show (1 : Int32) = jI 1 from rfl, jI_add]; congr 1
        have r1 : zI h (m + 24) (48 * K + ((a + 2 * (i : Int)).toNat + 1)) = jI (rd_c ce K a i 1) := by
          rw [c3 _ (by omega)]
          exact v1
        have g0 : fz_135 E h (jI (rd_c ce K a i 0)).toInt64 0 2 = 0 ↔ ¬ (0 ≤ rd_c ce K a i 0 ∧ rd_c ce K a i 0 ≤ 2) := f135 (a := 0) (b := 2) w0.1 w0.2 (by omega) (by omega) (by omega) (by omega)
        have g1 : fz_135 E h (jI (rd_c ce K a i 1)).toInt64 0 9 = 0 ↔ ¬ (0 ≤ rd_c ce K a i 1 ∧ rd_c ce K a i 1 ≤ 9) := f135 (a := 0) (b := 9) w1.1 w1.2 (by omega) (by omega) (by omega) (by omega)
        rw [ex1, jI_cln (by omega), jI_cln (by omega), r0, r1]
        rw [rd_go, if_pos cin] at hr
        have bad : ¬ rd_vs ce K a i → Q (some (.int (-20 - jI (i : Int)))) h := fun cc => by
          rw [if_neg cc] at hr
          subst hr
          rw [show (-20 : Int32) = jI (-20) from rfl, jI_sub]
          exact finE (by show (-20 - (i : Int)) ≠ 0; omega)
        refine ⟨fun cb => bad ?_, fun cb => ⟨S.a50.inn (by omega) (by omega), by omega, trivial, fun cc => ⟨by omega, sz152 P, ?_⟩, fun cc => bad ?_⟩⟩
        · rw [g0] at cb; unfold rd_vs; omega
        · rw [g0, Classical.not_not] at cb
          rw [g1, Classical.not_not] at cc
          rw [if_pos (show rd_vs ce K a i by unfold rd_vs; omega)] at hr
          rw [R.1, fz152 P, jI_add, show (N : Int) + (i : Int) = ((N + i : Nat) : Int) from rfl, jI_eqn (by omega) (by omega)]
          refine ⟨fun cN => nm_r (e' := jI ((i + 1 : Nat) : Int)) (by rw [show (1 : Int32) = jI 1 from rfl, jI_add]; rfl) (nm_r (e' := jI ((2 * (i + 1) : Nat) : Int)) (by rw [show (1 : Int32) = jI 1 from rfl, jI_add]; rfl) ?_), fun cN => ?_⟩
          · rw [if_pos (by omega)] at hr
            refine l216 hd ok hK hB hw ha hn P C R hN hl fin finE r (i + 1) (by omega) (fun k hk => ?_) (by omega) hr
            by_cases ck : k = i
            · subst ck; exact ⟨cin, by unfold rd_vs; omega⟩
            · exact hv k (by omega)
          · rw [if_neg (by omega)] at hr
            subst hr
            exact finE (by show (-3 : Int) ≠ 0; omega)
        · rw [g1] at cc; unfold rd_vs; omega
      · rw [if_neg ce1] at ex18
        subst ex18
        refine ⟨fun _ => nm_e ?_, fun c => absurd (by decide) c⟩
        exact tornL (2 * r + 1) _ (by unfold rd_in; omega)
    · rw [if_neg ce0] at ex18
      subst ex18
      refine ⟨fun _ => nm_e ?_, fun c => absurd (by decide) c⟩
      exact tornL (2 * r + 2) _ (by unfold rd_in; omega)
theorem op_216 {k w a n : Int} (hd : 10 ≤ d) (ok : tp_Ok t) (hB : ShB la sz) (hN : N ≤ tp_T t) (J : JM h m t u ft tn tb N rs rx la sz ce to) (hk : jb k) (hw : jb w) (ha : jb a) (hn : jb n) (q1 : ¬ ((0 ≤ k ∧ k < 4) ∧ (0 ≤ w ∧ w < 3) ∧ (0 ≤ n ∧ n ≤ 20)) → Q (some (.int (-1))) h) (q2 : (0 ≤ k ∧ k < 4) → (0 ≤ w ∧ w < 3) → (0 ≤ n ∧ n ≤ 20) → (rd_all la sz ce k.toNat w a (tp_T t) N n.toNat).2.1 ≠ 0 → Q (some (.int (jI (rd_all la sz ce k.toNat w a (tp_T t) N n.toNat).2.1))) h) (q3 : (0 ≤ k ∧ k < 4) → (0 ≤ w ∧ w < 3) → (0 ≤ n ∧ n ≤ 20) → (rd_all la sz ce k.toNat w a (tp_T t) N n.toNat).2.1 = 0 → ∀ h', JM h' m t u ft tn tb (N + (rd_all la sz ce k.toNat w a (tp_T t) N n.toNat).2.2) (rd_r ce k.toNat a N 0 rs (rd_all la sz ce k.toNat w a (tp_T t) N n.toNat).2.2) (rd_r ce k.toNat a N 1 rx (rd_all la sz ce k.toNat w a (tp_T t) N n.toNat).2.2) la sz ce (jI (rd_all la sz ce k.toNat w a (tp_T t) N n.toNat).1) → MFr m h h' → Q (some (.int (jI ((rd_all la sz ce k.toNat w a (tp_T t) N n.toNat).2.2 : Int)))) h') : Ct E d 216 [.ref m, .int (jI k), .int (jI w), .int (jI a), .int (jI n)] h Q := by
  obtain ⟨d, rfl⟩ : ∃ n, d = n + 1 := ⟨d - 1, by omega⟩
  have hT := ok.T
  have g1 : fz_135 E h (jI k).toInt64 0 3 = 0 ↔ ¬ (0 ≤ k ∧ k ≤ 3) := f135 (a := 0) (b := 3) hk.1 hk.2 (by omega) (by omega) (by omega) (by omega)
  have g2 : fz_135 E h (jI w).toInt64 0 2 = 0 ↔ ¬ (0 ≤ w ∧ w ≤ 2) := f135 (a := 0) (b := 2) hw.1 hw.2 (by omega) (by omega) (by omega) (by omega)
  have g3 : fz_135 E h (jI n).toInt64 0 20 = 0 ↔ ¬ (0 ≤ n ∧ n ≤ 20) := f135 (a := 0) (b := 20) hn.1 hn.2 (by omega) (by omega) (by omega) (by omega)
  refine ok_216 ⟨by omega, trivial, fun c => q1 ?_, fun c => ⟨by omega, trivial, fun c2 => q1 ?_, fun c2 => ⟨by omega, trivial, fun c3 => ?_, fun c3 => q1 ?_⟩⟩⟩
  · rw [g1] at c; omega
  · rw [g2] at c2; omega
  · rw [g1, Classical.not_not] at c
    rw [g2, Classical.not_not] at c2
    rw [g3, Classical.not_not] at c3
    have q2 := q2 (by omega) (by omega) c3
    have q3 := q3 (by omega) (by omega) c3
    obtain ⟨K, rfl⟩ := Int.eq_ofNat_of_zero_le c.1
    obtain ⟨n, rfl⟩ := Int.eq_ofNat_of_zero_le c3.1
    simp only [Int.toNat_natCast] at q2 q3
    have hK : K < 4 := by omega
    have P := J.P
    have S := P.1
    -- the rows are laid
    have lay : ∀ tc : Int, ∀ cnt : Nat, cnt ≤ 20 → (∀ j, j < cnt → rd_in sz K a j ∧ rd_vs ce K a j) → N + cnt ≤ tp_T t → (∀ h', JM h' m t u ft tn tb (N + cnt) (rd_r ce K a N 0 rs cnt) (rd_r ce K a N 1 rx cnt) la sz ce (jI tc) → MFr m h h' → Q (some (.int (jI (cnt : Int)))) h') → ∃ mm : Nat, wl_216_123 E d Q mm m (jI (K : Int)) (jI a) (jI tc) (jI (cnt : Int)) 0 h := fun tc cnt hcn hv hc qq => by
      refine ⟨cnt + 1, l216b ok hK hB hcn hc S J.C hv (fun h1 F1 R1 => ⟨(S.fr F1).1, nm_e ?_⟩) cnt 0 h (by omega) Fr.rf J.R⟩
      have F2 : Fr (fun a i => a = m + 17 ∨ a = m + 18 ∨ (a = m ∧ (i = 36 ∨ i = 51))) h (zuI h1 m 51 (jI tc)) := Fr.uI (F1.wd (fun a i e => by omega)) (by omega)
      have R2 : RwM (zuI h1 m 51 (jI tc)) m (N + cnt) (rd_r ce K a N 0 rs cnt) (rd_r ce K a N 1 rx cnt) := ⟨by rw [zI_offi (by omega)]; exact R1.1, fun k hk => by rw [zI_offa (by omega), zI_offa (by omega)]; exact R1.2 k hk⟩
      have o2 : zI (zuI h1 m 51 (jI tc)) m 51 = jI tc := zI_here _ _ _ _
      generalize zuI h1 m 51 (jI tc) = h2 at F2 R2 o2 ⊢
      refine qq h2 ?_ (F2.mf (fun a i e => by omega))
      obtain ⟨P, f, ⟨T1, T2⟩, _, C, o, L, Kc⟩ := J
      refine ⟨P.fr F2 (fun i => by omega) (fun i => by omega), by rw [F2.I (by omega)]; exact f, ⟨by rw [F2.I (by omega)]; exact T1, fun i hi => by rw [F2.I (by omega)]; exact T2 i hi⟩, R2, fun k hk => ?_, o2, fun q => ?_, fun j j1 j2 i hi => by rw [F2.I (by omega)]; exact Kc j j1 j2 i hi⟩
      · obtain ⟨d1, d2, d3⟩ := C k hk
        exact ⟨by rw [F2.I (by omega)]; exact d1, by rw [F2.I (by omega)]; exact d2, fun i hi => by rw [F2.I (by omega)]; exact d3 i hi⟩
      · rw [F2.I (by omega)] at q
        exact (L q).fr F2 (fun i => by omega) (fun i => by omega)
    by_cases cz : n ≠ 0 ∧ rd_l la K w ≠ 0
    · have er : rd_all la sz ce K w a (tp_T t) N n = (rd_l la K w, 0, 0) := by unfold rd_all; rw [if_pos cz]
      rw [er] at q3
      have lb : rd_l la K w = 1 ∨ rd_l la K w = 3 := by
        have := cz.2
        unfold rd_l at this ⊢
        split
        · simp
        · split
          · next d4 dw => rw [if_neg d4, if_pos dw] at this; omega
          · simp
      refine ⟨2, ?_⟩
      rw [wl_216_26]
      have e2 : (2 * jI (n : Int) : Int32) = jI ((2 * n : Nat) : Int) := by rw [show (2 : Int32) = jI 2 from rfl, jI_mul]; rfl
      have sf : ((¬ (zI h (m + 22) (jI (K : Int)).toNatClampNeg : Int32) = ((-4) : Int32) → (zin (jI (K : Int)) (zlen h (m + 22)) = true ∧ ((((zI h (m + 22) (jI (K : Int)).toNatClampNeg : Int32) = jI w → (¬ zR h m 49 = 0 ∧ (ztag h (zR h m 49 - 1) = 13 ∨ ztag h (zR h m 49 - 1) = 19) ∧ zin (jI (K : Int)) (zlen h (zR h m 49 - 1)) = true ∧ 1 ≤ d ∧ sz_135 E h ((jI a).toInt64 + (0 : Int32).toInt64) 0 (((zI h (zR h m 49 - 1) (jI (K : Int)).toNatClampNeg) - 1 : Int32).toInt64) ∧ True)) ∧ (¬ ((zI h (m + 22) (jI (K : Int)).toNatClampNeg : Int32) = jI w) → (True))) ∧ True))) ∧ (¬ (¬ (zI h (m + 22) (jI (K : Int)).toNatClampNeg : Int32) = ((-4) : Int32)) → (True))) := by
        rw [S.a49.sub]
        exact ⟨fun _ => ⟨S.a48.inn (by omega) (by omega), ⟨fun _ => ⟨S.a49.ne, S.a49.ti, S.a49.inn (by omega) (by omega), by omega, trivial, trivial⟩, fun _ => trivial⟩, trivial⟩, fun _ => trivial⟩
      refine ⟨fun c' => ?_, fun _ => ⟨fun c' => absurd rfl c', fun _ => ⟨S.1, m + 22, S.a48.1, S.a48.ti, S.a48.inn (by omega) (by omega), sf, fun x18 ex18 => ?_⟩⟩⟩
      · exfalso
        rw [e2, show (0 : Int32) = jI ((0 : Nat) : Int) from rfl, jI_len (by omega) (by omega)] at c'
        omega
      have xx := x216 (E := E) (h := h) (m := m) (K := K) (j := 0) (w := w) (a := a) hB hK S J.C (by omega) ha (by omega)
      rw [if_neg cz.2] at xx
      have ex : x18 = jI (rd_l la K w) := ex18.trans xx
      subst ex
      refine ⟨fun _ => nm_e (e216 (by omega) cz.2 (lay _ 0 (by omega) (fun j hj => by omega) (by omega) (q3 rfl))), fun c' => ?_⟩
      exfalso
      rw [show (0 : Int32) = jI 0 from rfl, jI_eq (by omega) (by omega) (by omega) (by omega)] at c'
      omega
    · have er : rd_all la sz ce K w a (tp_T t) N n = rd_go sz ce K a (tp_T t) N n 0 := by unfold rd_all; rw [if_neg cz]
      have goB : ∀ r i, i + r ≤ 20 → (rd_go sz ce K a (tp_T t) N r i).2.2 ≤ 20 := by
        intro r
        induction r with
        | zero => intro i hi; show i ≤ 20; omega
        | succ r ih =>
          intro i hi
          rw [rd_go]
          split
          · split
            · split
              · exact ih (i + 1) (by omega)
              · show i ≤ 20; omega
            · show i ≤ 20; omega
          · show i ≤ 20; omega
      rw [er] at q2 q3
      by_cases cn : n = 0
      · subst cn
        refine ⟨1, ?_⟩
        rw [wl_216_26]
        refine ⟨fun _ => ?_, fun c => absurd (by decide) c⟩
        exact lay 0 0 (by omega) (fun j hj => by omega) (by omega) (q3 rfl)
      · have hl : rd_l la K w = 0 := by omega
        exact ⟨2 * n + 2, l216 (res := rd_go sz ce K a (tp_T t) N n 0) (by omega) ok hK hB (by omega) ha (by omega) P J.C J.R hN hl (fun e0 hv hc => lay _ _ (goB n 0 (by omega)) hv hc (q3 e0)) q2 n 0 (by omega) (fun k hk => by omega) (by omega) rfl⟩
  · rw [g3] at c3; omega
end OPR
