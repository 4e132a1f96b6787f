/-! THE CALLS: draw, the Model's -/
section OPO
variable {E : Nat → Nat} {h : ZH} {x m zs zt g tn N d : Nat} {t u rs rx : Nat → Nat} {ft to : Int32} {tb : Nat → Int32} {la sz : Nat → Int} {ce : Nat → Nat → Int32} {Q : Option Value → ZH → Prop}
theorem s207b {i : Nat} (ok : tp_Ok t) (P : MPg h m t u) (R : ∀ k, k ≤ i → zI h (m + 17) k = jI (rs k : Int)) (hi : i < tp_T t) : sz_207 E h m (jI (i : Int)) ∧ fz_207 E h m (jI (i : Int)) = jI (kn t rs i : Int) := by
  have hT := ok.T
  have S := P.1
  have h12 : t 12 ≤ 1 := ok.2.2.2.2.2.2.2.2.2.2.2.1
  have e0 : jI (i : Int) = 0 ↔ i = 0 := by rw [show (0 : Int32) = jI ((0 : Nat) : Int) from rfl, jI_eqn (by omega) (by omega)]
  have e12 : jI (t 12 : Int) = 0 ↔ t 12 = 0 := by rw [show (0 : Int32) = jI ((0 : Nat) : Int) from rfl, jI_eqn (by omega) (by omega)]
  have ei : i ≠ 0 → (jI (i : Int) - 1 : Int32) = jI ((i - 1 : Nat) : Int) := fun q => by rw [show (1 : Int32) = jI 1 from rfl, jI_sub]; congr 1; omega
  refine ⟨⟨S.1, m + 8, S.a15.1, S.a15.ti, S.a15.inc (by decide), ⟨fun _ => ⟨⟨fun c => ?_, fun _ => ⟨S.a15.inc (by decide), trivial⟩⟩, trivial⟩, fun _ => ?_⟩, trivial⟩, ?_⟩
  · rw [e0] at c
    rw [S.a37.sub, ei c]
    exact ⟨S.a37.ne, S.a37.ti, S.a37.inn (by omega) (by omega), trivial⟩
  · rw [S.a37.sub]
    exact ⟨S.a37.ne, S.a37.ti, S.a37.inn (by omega) (by omega), trivial⟩
  · show (if ¬ (zI h (zR h m 15 - 1) 12 : Int32) = 0 then if ¬ jI (i : Int) = 0 then zI h (zR h m 37 - 1) (jI (i : Int) - 1 : Int32).toNatClampNeg else zI h (zR h m 15 - 1) 15 else zI h (zR h m 37 - 1) (jI (i : Int)).toNatClampNeg) = _
    rw [S.a15.sub, S.a37.sub, P.2.1 12 (by omega), P.2.1 15 (by omega)]
    unfold kn
    by_cases c12 : t 12 = 0
    · rw [if_neg (fun q => q (e12.mpr c12)), if_pos c12, jI_cln (by omega)]
      exact R i (by omega)
    · rw [if_pos (fun q => c12 (e12.mp q)), if_neg c12]
      by_cases ci : i = 0
      · rw [if_neg (fun q => q (e0.mpr ci)), if_pos ci]
      · rw [if_pos (fun q => ci (e0.mp q)), if_neg ci, ei ci, jI_cln (by omega)]
        exact R (i - 1) (by omega)
theorem s208b {i : Nat} {z : WkT} (ok : tp_Ok t) (P : MPg h m t u) (L : MLd h m t u 0) (R : ∀ k, k ≤ i → zI h (m + 17) k = jI (rs k : Int)) (kl : kn t rs i < 3) (hi : i < tp_T t) (hz : wk_B z) (K : MkS h m z) : sz_208 E h m (jI (i : Int)) ∧ fz_208 E h m (jI (i : Int)) = jI (kn_f t u rs i z.1 z.2.1 z.2.2.1 : Int) := by
  have hT := ok.T
  have S := P.1
  obtain ⟨s7, f7⟩ := s207b (E := E) ok P R hi
  obtain ⟨z1, z2, z3⟩ := hz
  have lt := tp_at_lt (dd := i) (by omega) z1 z2 z3 kl
  have hL := (L i z.1 z.2.1 z.2.2.1 (kn t rs i) (by omega) (by omega) z1 z2 z3 kl).2
  have e : fz_175 E h (jI (i : Int)) (fz_164 E h (zI h m 41) 20) (zI h m 42) (zI h m 43) (fz_207 E h m (jI (i : Int))) = jI (tp_at i z.1 z.2.1 z.2.2.1 (kn t rs i) : Int) := by
    rw [f7, K.1, K.2.1, K.2.2.1, show (20 : Int32) = jI ((20 : Nat) : Int) from rfl, fz164 (by omega) (by omega), Nat.min_eq_left z1, fz175]
  refine ⟨⟨S.1, m + 12, S.a28.1, trivial, s7, trivial, S.a28.ti, ?_, trivial⟩, ?_⟩
  · rw [e]; exact S.a28.inn lt (by omega)
  · show zI h (zR h m 28 - 1) (fz_175 E h (jI (i : Int)) (fz_164 E h (zI h m 41) 20) (zI h m 42) (zI h m 43) (fz_207 E h m (jI (i : Int))) : Int32).toNatClampNeg = _
    rw [e, S.a28.sub, jI_cln (by omega), hL]
    rfl
theorem d213 {s v : Nat} {a2 a4 : Int32} {L : Nat → Int32 → Int32 → Int32 → ZH → Prop} (ok : tp_Ok t) (P : MPg h m t u) (hs : s < 3) (hv : v < 4) (q : wb_213_73 E d Q L m a2 (jI (tp_bh t s v : Int)) a4 h) : wl_213_44 E d Q L 3 m a2 (jI (s : Int)) a4 (jI (v : Int)) 0 h := by
  have cs := tp_ch_sum ok hs
  have S := P.1
  have ei : ∀ j : Nat, j < 3 → (19 + 3 * jI (s : Int) + jI (j : Int) : Int32) = jI ((19 + (3 * s + j) : Nat) : Int) := fun j hj => by
    rw [show (19 : Int32) = jI ((19 : Nat) : Int) from rfl, show (3 : Int32) = jI ((3 : Nat) : Int) from rfl, jI_mul, jI_add, jI_add]
    congr 1
    omega
  have ec : ∀ j, j < 3 → zI h (m + 8) (19 + (3 * s + j)) = jI (tp_ch t s j : Int) := fun j hj => by
    rw [P.2.2.2.1 (3 * s + j) (by omega)]
    unfold tp_ch
    rw [show 30 + (3 * s + j) = 30 + 3 * s + j by omega]
  have i0 := ei 0 (by omega)
  have i1 := ei 1 (by omega)
  have i2 := ei 2 (by omega)
  rw [show jI ((0 : Nat) : Int) = (0 : Int32) from rfl] at i0
  unfold tp_bh at q
  rw [wl_213_44]
  refine ⟨S.1, m + 8, S.a15.1, S.a15.ti, by rw [i0]; exact S.a15.inn (by omega) (by omega), ?_⟩
  rw [i0, jI_cln (by omega), ec 0 (by omega), jI_ltn (by omega) (by omega)]
  refine ⟨fun c => ?_, fun c => ⟨S.a15.inn (by omega) (by omega), nm_r (e' := jI ((v - tp_ch t s 0 : Nat) : Int)) (by rw [jI_sub]; congr 1; omega) (nm_r (e' := jI ((1 : Nat) : Int)) (by decide) ?_)⟩⟩
  · rw [if_pos c] at q
    exact q
  rw [if_neg c] at q
  rw [wl_213_44]
  refine ⟨S.1, m + 8, S.a15.1, S.a15.ti, by rw [i1]; exact S.a15.inn (by omega) (by omega), ?_⟩
  rw [i1, jI_cln (by omega), ec 1 (by omega), jI_ltn (by omega) (by omega)]
  refine ⟨fun c' => ?_, fun c' => ⟨S.a15.inn (by omega) (by omega), nm_r (e' := jI ((v - tp_ch t s 0 - tp_ch t s 1 : Nat) : Int)) (by rw [jI_sub]; congr 1; omega) (nm_r (e' := jI ((2 : Nat) : Int)) (by decide) ?_)⟩⟩
  · rw [if_pos (by omega)] at q
    exact q
  rw [if_neg (by omega)] at q
  rw [wl_213_44]
  refine ⟨S.1, m + 8, S.a15.1, S.a15.ti, by rw [i2]; exact S.a15.inn (by omega) (by omega), ?_⟩
  rw [i2, jI_cln (by omega), ec 2 (by omega), jI_ltn (by omega) (by omega)]
  exact ⟨fun c'' => q, fun c'' => absurd (by omega) c''⟩
def tp_Sd (m : Nat) : Nat → Nat → Prop := fun a i => tp_Sb m a i ∨ a = m + 17 ∨ a = m + 18
def DmL (h0 : ZH) (m : Nat) (t u : Nat → Nat) (sd : Int32) (i : Nat) (h1 : ZH) : Prop := Fr (tp_Sd m) h0 h1 ∧ MkS h1 m (kn_w t u (dr_s t sd) i) ∧ ∀ k, k < i → zI h1 (m + 17) k = jI (dr_s t sd k : Int) ∧ zI h1 (m + 18) k = jI (dr_x t u sd k : Int)
theorem w213 {h0 h1 : ZH} {i : Nat} {sd a2 : Int32} {L : Nat → Int32 → Int32 → Int32 → ZH → Prop} (hd : 9 ≤ d) (ok : tp_Ok t) (ou : tp_Ou u) (P0 : MPg h0 m t u) (L0 : MLd h0 m t u 0) (hi : i < tp_T t) (D : DmL h0 m t u sd i h1) (q : ∀ h2, DmL h0 m t u sd (i + 1) h2 → L m a2 (jI (dr_s t sd i : Int)) (jI ((i + 1 : Nat) : Int)) h2) : wb_213_73 E d Q L m a2 (jI (dr_s t sd i : Int)) (jI (i : Int)) h1 := by
  have hT := ok.T
  obtain ⟨F1, K1, I1⟩ := D
  have P1 : MPg h1 m t u := P0.fr F1 (fun i => by unfold tp_Sd tp_Sb; omega) (fun i => by unfold tp_Sd tp_Sb; omega)
  have L1 : MLd h1 m t u 0 := L0.fr F1 (fun i => by unfold tp_Sd tp_Sb; omega) (fun i => by unfold tp_Sd tp_Sb; omega)
  have S := P1.1
  have F2 : Fr (tp_Sd m) h1 (zuI h1 (m + 17) i (jI (dr_s t sd i : Int))) := Fr.uI Fr.rf (by unfold tp_Sd; omega)
  have R2 : ∀ k, k ≤ i → zI (zuI h1 (m + 17) i (jI (dr_s t sd i : Int))) (m + 17) k = jI (dr_s t sd k : Int) := fun k hk => by
    by_cases ck : k = i
    · subst ck; rw [zI_here]
    · rw [zI_offi ck]; exact (I1 k (by omega)).1
  have X2 : ∀ k, k < i → zI (zuI h1 (m + 17) i (jI (dr_s t sd i : Int))) (m + 18) k = jI (dr_x t u sd k : Int) := fun k hk => by rw [zI_offa (by omega)]; exact (I1 k hk).2
  have K2 : MkS (zuI h1 (m + 17) i (jI (dr_s t sd i : Int))) m (kn_w t u (dr_s t sd) i) := by
    have fI : ∀ j, zI (zuI h1 (m + 17) i (jI (dr_s t sd i : Int))) m j = zI h1 m j := fun j => zI_offa (by omega)
    unfold MkS
    rw [fI, fI, fI, fI, fI, fI]
    exact K1
  refine ⟨S.1, m + 17, S.a37.1, S.a37.tg, S.a37.inn (by omega) (by omega), nm_r (e' := zuI h1 (m + 17) i (jI (dr_s t sd i : Int))) (by rw [jI_cln (by omega)]) ?_⟩
  generalize zuI h1 (m + 17) i (jI (dr_s t sd i : Int)) = h2 at F2 R2 X2 K2 ⊢
  have P2 : MPg h2 m t u := P1.fr F2 (fun i => by unfold tp_Sd tp_Sb; omega) (fun i => by unfold tp_Sd tp_Sb; omega)
  have L2 : MLd h2 m t u 0 := L1.fr F2 (fun i => by unfold tp_Sd tp_Sb; omega) (fun i => by unfold tp_Sd tp_Sb; omega)
  have kl := kn_lt (rx := dr_x t u sd) ok (dr_B ok u sd) i
  obtain ⟨s8, f8⟩ := s208b (E := E) ok P2 L2 R2 kl hi (wk_bd t u _ _ i) K2
  have hB := tp_B_le ok u (tp_pr t) (tp_T t - (i + 1)) i (kn_w t u (dr_s t sd) i).1 (kn_w t u (dr_s t sd) i).2.1 (kn_w t u (dr_s t sd) i).2.2.1 (kn t (dr_s t sd) i)
  have S2 := P2.1
  refine ⟨m + 18, S2.a38.1, by omega, s8, S2.a38.tg, S2.a38.inn (by omega) (by omega), nm_r (e' := zuI h2 (m + 18) i (jI (dr_x t u sd i : Int))) (by rw [f8, jI_cln (by omega)]; rfl) ?_⟩
  have F3 : Fr (tp_Sd m) h2 (zuI h2 (m + 18) i (jI (dr_x t u sd i : Int))) := Fr.uI Fr.rf (by unfold tp_Sd; omega)
  have R3 : ∀ k, k < i + 1 → zI (zuI h2 (m + 18) i (jI (dr_x t u sd i : Int))) (m + 17) k = jI (dr_s t sd k : Int) ∧ zI (zuI h2 (m + 18) i (jI (dr_x t u sd i : Int))) (m + 18) k = jI (dr_x t u sd k : Int) := fun k hk => by
    refine ⟨by rw [zI_offa (by omega)]; exact R2 k (by omega), ?_⟩
    by_cases ck : k = i
    · subst ck; rw [zI_here]
    · rw [zI_offi ck]; exact X2 k (by omega)
  have K3 : MkS (zuI h2 (m + 18) i (jI (dr_x t u sd i : Int))) m (kn_w t u (dr_s t sd) i) := by
    have fI : ∀ j, zI (zuI h2 (m + 18) i (jI (dr_x t u sd i : Int))) m j = zI h2 m j := fun j => zI_offa (by omega)
    unfold MkS
    rw [fI, fI, fI, fI, fI, fI]
    exact K2
  generalize zuI h2 (m + 18) i (jI (dr_x t u sd i : Int)) = h3 at F3 R3 K3 ⊢
  have P3 : MPg h3 m t u := P2.fr F3 (fun i => by unfold tp_Sd tp_Sb; omega) (fun i => by unfold tp_Sd tp_Sb; omega)
  refine ⟨P3.1.a38.ti, P3.1.a38.inn (by omega) (by omega), ?_⟩
  rw [jI_cln (by omega), (R3 i (by omega)).2]
  refine ct_202 (by omega) ok ou P3 hi (dr_lt ok sd (i + 1)) (Nat.le_trans hB.2.2 (by omega)) (wk_bd t u _ _ i) K3 (fun h4 F4 K4 _ _ => ⟨rfl, nm_r (e' := jI ((i + 1 : Nat) : Int)) (by rw [show (1 : Int32) = jI 1 from rfl, jI_add]; rfl) (q h4 ⟨(F1.tr F2).tr (F3.tr (F4.wd (fun a i e => Or.inl e))), K4, fun k hk => ?_⟩)⟩)
  rw [F4.I (by unfold tp_Sb; omega), F4.I (by unfold tp_Sb; omega)]
  exact R3 k hk
theorem l213 {h0 : ZH} {sd : Int32} (hd : 12 ≤ d) (ok : tp_Ok t) (ou : tp_Ou u) (P0 : MPg h0 m t u) (L0 : MLd h0 m t u 0) (q : ∀ h', DmL h0 m t u sd (tp_T t) h' → wb_213_95 E d Q m h') : ∀ (r i : Nat) h1, i + r = tp_T t → DmL h0 m t u sd i h1 → wl_213_16 E d Q (r + 1) m (dr t sd i).1 (jI ((dr t sd i).2 : Int)) (jI (i : Int)) h1
  | 0, i, h1, e, D1 => by
    have hT := ok.T
    have P1 : MPg h1 m t u := P0.fr D1.1 (fun i => by unfold tp_Sd tp_Sb; omega) (fun i => by unfold tp_Sd tp_Sb; omega)
    have ei : i = tp_T t := by omega
    subst ei
    rw [wl_213_16]
    refine ⟨P1.1.1, by omega, sz152 P1, fun _ => q h1 D1, fun c => absurd ?_ c⟩
    rw [fz152 P1]
    exact (jI_len (by omega) (by omega)).mpr (Nat.le_refl _)
  | r + 1, i, h1, e, D1 => by
    have hT := ok.T
    have h12 : t 12 ≤ 1 := ok.2.2.2.2.2.2.2.2.2.2.2.1
    have P1 : MPg h1 m t u := P0.fr D1.1 (fun i => by unfold tp_Sd tp_Sb; omega) (fun i => by unfold tp_Sd tp_Sb; omega)
    have dl := dr_lt ok sd i
    have dv := dr_rv (dr t sd i).1
    have nxt : ∀ h2, DmL h0 m t u sd (i + 1) h2 → wl_213_16 E d Q (r + 1) m (dr t sd (i + 1)).1 (jI (dr_s t sd i : Int)) (jI ((i + 1 : Nat) : Int)) h2 := fun h2 D2 => l213 hd ok ou P0 L0 q r (i + 1) h2 (by omega) D2
    have w := w213 (E := E) (Q := Q) (d := d) (L := wl_213_16 E d Q (r + 1)) (by omega) ok ou P0 L0 (show i < tp_T t by omega) D1 nxt
    -- drawn
    have yes : (t 12 = 1 ∨ 0 < i) → ∀ x13 : Int32, x13 = ((dr t sd i).1 * 1103515245 + 12345) → ∀ x14 : Int32, x14 = (((x13 >>> ((16 : Int32) &&& 31)) &&& 32767) - ((x13 >>> ((16 : Int32) &&& 31)) &&& 32767) / 4 * 4) → (∃ mm : Nat, wl_213_44 E d Q (wl_213_16 E d Q (r + 1)) mm m x13 (jI ((dr t sd i).2 : Int)) (jI (i : Int)) x14 0 h1) := by
      rintro c x13 rfl x14 rfl
      have e1 : (dr t sd (i + 1)).1 = (dr t sd i).1 * 1103515245 + 12345 := by rw [dr, if_pos c]; rfl
      have e2 : dr_s t sd i = tp_bh t (dr t sd i).2 (dr_v (dr t sd i).1) := by unfold dr_s; rw [dr, if_pos c]
      refine ⟨3, ?_⟩
      have := d213 (E := E) (Q := Q) (d := d) (L := wl_213_16 E d Q (r + 1)) (a2 := (dr t sd i).1 * 1103515245 + 12345) (a4 := jI (i : Int)) ok P1 dl dv.2 (by rw [← e2, ← e1]; exact w)
      rw [← dv.1] at this
      exact this
    rw [wl_213_16]
    refine ⟨P1.1.1, by omega, sz152 P1, fun c => ?_, fun _ => ⟨fun c => yes (Or.inr ?_), fun c => ⟨m + 8, P1.1.a15.1, P1.1.a15.ti, P1.1.a15.inc (by decide), ?_⟩⟩⟩
    · exfalso
      rw [fz152 P1, jI_len (by omega) (by omega)] at c
      omega
    · rw [show (0 : Int32) = jI ((0 : Nat) : Int) from rfl, jI_ltn (by omega) (by omega)] at c
      exact c
    · rw [show (0 : Int32) = jI ((0 : Nat) : Int) from rfl, jI_ltn (by omega) (by omega)] at c
      rw [P1.2.1 12 (by omega), show (1 : Int32) = jI ((1 : Nat) : Int) from rfl, jI_eqn (by omega) (by omega)]
      refine ⟨fun c1 => ?_, fun c1 => yes (Or.inl (by omega))⟩
      have e1 : dr t sd (i + 1) = dr t sd i := by rw [dr, if_neg (by omega)]
      have e2 : dr_s t sd i = (dr t sd i).2 := by unfold dr_s; rw [e1]
      rw [e1, e2] at w
      exact w
theorem op_213 {sd : Int32} (hd : 20 ≤ d) (ok : tp_Ok t) (ou : tp_Ou u) (J : JM h m t u ft tn tb N rs rx la sz ce to) (q : ∀ h', JM h' m t u ft tn tb (tp_T t) (dr_s t sd) (dr_x t u sd) la sz ce to → MFr m h h' → Q (some (.int (jI (an_draw t u sd)))) h') : Ct E d 213 [.ref m, .int sd] h Q := by
  obtain ⟨d, rfl⟩ : ∃ n, d = n + 1 := ⟨d - 1, by omega⟩
  have hT := ok.T
  refine ok_213 ⟨J.P.1.1, ct_182 (by omega) ok ou J.P J.L (fun h2 F2 L2 n2 => ?_)⟩
  have J2 := J.ld F2 (fun a i e => by unfold tp_Sl tp_Sw at e; omega) L2
  refine ⟨rfl, J2.P.1.1, ct_201 (by omega) J2.P.1 (fun h4 F4 K4 => ?_)⟩
  have J4 := J2.fr F4 (fun a i e => by unfold tp_Sm at e; omega)
  have L4 : MLd h4 m t u 0 := L2.fr F4 (fun i => by unfold tp_Sm; omega) (fun i => by unfold tp_Sm; omega)
  refine ⟨rfl, J4.P.1.1, m + 8, J4.P.1.a15.1, J4.P.1.a15.ti, J4.P.1.a15.inc (by decide), nm_r (e' := jI (t 15 : Int)) (J4.P.2.1 15 (by omega)) (nm_e ⟨tp_T t + 1, ?_⟩)⟩
  have F5 : Fr (fun a i => a = m ∧ i = 36) h4 (zuI h4 m 36 0) := Fr.uI Fr.rf ⟨rfl, rfl⟩
  have K5 : MkS (zuI h4 m 36 0) m (0, 0, 0, 0, 0, 0) := by
    unfold MkS
    rw [zI_offi (by omega), zI_offi (by omega), zI_offi (by omega), zI_offi (by omega), zI_offi (by omega), zI_offi (by omega)]
    exact K4
  generalize zuI h4 m 36 0 = h5 at F5 K5 ⊢
  have P5 : MPg h5 m t u := J4.P.fr F5 (fun i => by omega) (fun i => by omega)
  have L5 : MLd h5 m t u 0 := L4.fr F5 (fun i => by omega) (fun i => by omega)
  refine l213 (h0 := h5) (sd := sd) (by omega) ok ou P5 L5 (fun h9 D9 => ?_) (tp_T t) 0 h5 (by omega) ⟨Fr.rf, K5, fun k hk => by omega⟩
  obtain ⟨F9, K9, I9⟩ := D9
  have P9 : MPg h9 m t u := P5.fr F9 (fun i => by unfold tp_Sd tp_Sb; omega) (fun i => by unfold tp_Sd tp_Sb; omega)
  refine ⟨P9.1.1, by omega, sz152 P9, nm_r (e' := zuI h9 m 36 (jI (tp_T t : Int))) (by rw [fz152 P9]) ?_⟩
  have i45 : zI (zuI h9 m 36 (jI (tp_T t : Int))) m 45 = jI (an_draw t u sd) := by rw [zI_offi (by omega)]; exact K9.2.2.2.2.1
  rw [i45]
  have FF : Fr (fun a i => (a = m ∧ ((21 ≤ i ∧ i ≤ 26) ∨ i = 36 ∨ (41 ≤ i ∧ i ≤ 46))) ∨ a = m + 17 ∨ a = m + 18) h4 (zuI h9 m 36 (jI (tp_T t : Int))) := Fr.uI ((F5.wd (fun a i e => by omega)).tr (F9.wd (fun a i e => by unfold tp_Sd tp_Sb at e; omega))) (by omega)
  have R10 : RwM (zuI h9 m 36 (jI (tp_T t : Int))) m (tp_T t) (dr_s t sd) (dr_x t u sd) := ⟨zI_here _ _ _ _, fun k hk => by rw [zI_offa (by omega), zI_offa (by omega)]; exact I9 k hk⟩
  generalize zuI h9 m 36 (jI (tp_T t : Int)) = h10 at FF R10 ⊢
  refine q h10 ?_ (((F2.mf (fun a i e => by unfold tp_Sl tp_Sw at e; omega)).tr (F4.mf (fun a i e => by unfold tp_Sm at e; omega))).tr (FF.mf (fun a i e => by omega)))
  obtain ⟨P, f, ⟨T1, T2⟩, _, C, o, L, K⟩ := J4
  refine ⟨P.fr FF (fun i => by omega) (fun i => by omega), by rw [FF.I (by omega)]; exact f, ⟨by rw [FF.I (by omega)]; exact T1, fun i hi => by rw [FF.I (by omega)]; exact T2 i hi⟩, R10, fun k hk => ?_, by rw [FF.I (by omega)]; exact o, fun _ => L4.fr FF (fun i => by omega) (fun i => by omega), fun j j1 j2 i hi => by rw [FF.I (by omega)]; exact K j j1 j2 i hi⟩
  obtain ⟨c1, c2, c3⟩ := C k hk
  exact ⟨by rw [FF.I (by omega)]; exact c1, by rw [FF.I (by omega)]; exact c2, fun i hi => by rw [FF.I (by omega)]; exact c3 i hi⟩
end OPO
