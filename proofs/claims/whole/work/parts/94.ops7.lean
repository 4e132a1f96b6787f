/-! THE CALLS: without, jumps -/
section OPG
variable {E : Nat → Nat} {h : ZH} {x m zs zt g tn N d : Nat} {t u rs rx : Nat → Nat} {ft to : Int32} {tb : Nat → Int32} {la sz : Nat → Int} {ce : Nat → Nat → Int32} {Q : Option Value → ZH → Prop}
/-- another page of the Model's, its tables not laid -/
theorem JM.pg {h1 : ZH} {S : Nat → Nat → Prop} {t' u' : Nat → Nat} (J : JM h m t u ft tn tb N rs rx la sz ce to) (y : Fr S h h1) (hS : ∀ a i, S a i → (a = m ∧ 3 ≤ i ∧ i ≤ 46 ∧ i ≠ 36) ∨ (m + 8 ≤ a ∧ a ≤ m + 16) ∨ (m + 19 ≤ a ∧ a ≤ m + 21)) (P : MPg h1 m t' u') (z29 : zI h1 m 29 = 0) : JM h1 m t' u' ft tn tb N rs rx la sz ce to := by
  obtain ⟨_, f, ⟨T1, T2⟩, ⟨R1, R2⟩, C, o, L, K⟩ := J
  have q0 : ∀ i, i = 1 ∨ i = 2 ∨ i = 36 ∨ i = 51 → zI h1 m i = zI h m i := fun i hi => y.I (fun q => by have := hS _ _ q; omega)
  have qa : ∀ j i, (1 ≤ j ∧ j ≤ 7) ∨ j = 17 ∨ j = 18 ∨ (22 ≤ j ∧ j ≤ 24) → zI h1 (m + j) i = zI h (m + j) i := fun j i hj => y.I (fun q => by have := hS _ _ q; omega)
  refine ⟨P, by rw [q0 2 (by omega)]; exact f, ⟨by rw [q0 1 (by omega)]; exact T1, fun i hi => by rw [qa 1 i (by omega)]; exact T2 i hi⟩, ⟨by rw [q0 36 (by omega)]; exact R1, fun k hk => ?_⟩, fun k hk => ?_, by rw [q0 51 (by omega)]; exact o, fun q => absurd z29 q, fun j j1 j2 i hi => by rw [qa j i (by omega)]; exact K j j1 j2 i hi⟩
  · rw [qa 17 k (by omega), qa 18 k (by omega)]; exact R2 k hk
  · obtain ⟨c1, c2, c3⟩ := C k hk
    exact ⟨by rw [qa 22 k (by omega)]; exact c1, by rw [qa 23 k (by omega)]; exact c2, fun i hi => by rw [qa 24 _ (by omega)]; exact c3 i hi⟩
theorem mp_set {k0 v : Nat} (P : MPg h m t u) (hk : k0 < 16) : MPg (zuI h (m + 8) k0 (jI (v : Int))) m (fun k => if k = k0 then v else t k) u := by
  obtain ⟨S, p1, p2, p3, p4⟩ := P
  refine ⟨S, fun k hk' => ?_, fun k hk' => ?_, fun k hk' => ?_, fun k hk' => ?_⟩
  · by_cases c : k = k0
    · subst c
      show _ = jI ((if k = k then v else t k : Nat) : Int)
      rw [zI_here, if_pos rfl]
    · show _ = jI ((if k = k0 then v else t k : Nat) : Int)
      rw [zI_offi c, if_neg c]; exact p1 k hk'
  · show _ = jI ((if 20 + k = k0 then v else t (20 + k) : Nat) : Int)
    rw [zI_offi (by omega), if_neg (by omega)]; exact p2 k hk'
  · show _ = jI ((if 30 + k = k0 then v else t (30 + k) : Nat) : Int)
    rw [zI_offi (by omega), if_neg (by omega)]; exact p3 k hk'
  · rw [zI_offa (by omega)]; exact p4 k hk'
theorem mp_29 {v : Int32} (P : MPg h m t u) : MPg (zuI h m 29 v) m t u := P.fr (S := fun a i => a = m ∧ i = 29) (Fr.uI Fr.rf ⟨rfl, rfl⟩) (fun i => by omega) (fun i => by omega)
def MKp (h : ZH) (m : Nat) (t : Nat → Nat) : Prop := (∀ k, k < 16 → zI h (m + 16) k = jI (t k : Int)) ∧ (∀ k, k < 3 → zI h (m + 16) (16 + k) = jI (t (20 + k) : Int)) ∧ ∀ k, k < 9 → zI h (m + 16) (19 + k) = jI (t (30 + k) : Int)
theorem MKp.fr {h1 : ZH} {S : Nat → Nat → Prop} (K : MKp h m t) (y : Fr S h h1) (hS : ∀ i, ¬ S (m + 16) i) : MKp h1 m t := ⟨fun k hk => by rw [y.I (hS _)]; exact K.1 k hk, fun k hk => by rw [y.I (hS _)]; exact K.2.1 k hk, fun k hk => by rw [y.I (hS _)]; exact K.2.2 k hk⟩
theorem l193 {h0 : ZH} (S0 : MSh h0 m) (kQ : ∀ h', Fr (fun a _ => a = m + 16) h0 h' → (∀ j, j < 28 → zI h' (m + 16) j = zI h0 (m + 8) j) → Q none h') : ∀ r i h1, i + r = 28 → Fr (fun a _ => a = m + 16) h0 h1 → (∀ j, j < i → zI h1 (m + 16) j = zI h0 (m + 8) j) → wl_193_2 E d Q (r + 1) m (jI (i : Int)) h1
  | 0, i, h1, e, F1, I1 => by
    have ei : i = 28 := by omega
    subst ei
    rw [wl_193_2]
    exact ⟨fun _ => kQ h1 F1 I1, fun c => absurd (by decide) c⟩
  | r + 1, i, h1, e, F1, I1 => by
    have S1 := S0.fr F1
    rw [wl_193_2]
    refine ⟨fun c => ?_, fun _ => ⟨S1.1, m + 16, S1.a35.1, m + 8, S1.a15.1, S1.a15.ti, S1.a15.inn (by omega) (by omega), S1.a35.tg, S1.a35.inn (by omega) (by omega), nm_r (e' := zuI h1 (m + 16) i (zI h0 (m + 8) i)) (by rw [jI_cln (by omega), F1.I (by omega)]) (nm_r (e' := jI ((i + 1 : Nat) : Int)) (by rw [show (1 : Int32) = jI 1 from rfl, jI_add]; rfl) (l193 S0 kQ r (i + 1) _ (by omega) (F1.uI rfl) (fun j hj => ?_)))⟩⟩
    · exfalso
      rw [show (28 : Int32) = jI ((28 : Nat) : Int) from rfl, jI_len (by omega) (by omega)] at c
      omega
    · by_cases cj : j = i
      · subst cj; rw [zI_here]
      · rw [zI_offi cj]; exact I1 j (by omega)
theorem ct_193 (hd : 1 ≤ d) (P : MPg h m t u) (kQ : ∀ h', Fr (fun a _ => a = m + 16) h h' → MKp h' m t → Q none h') : Ct E d 193 [.ref m] h Q := by
  obtain ⟨d, rfl⟩ : ∃ n, d = n + 1 := ⟨d - 1, by omega⟩
  refine ok_193 ⟨29, l193 P.1 (fun h' F' I' => kQ h' F' ⟨fun k hk => ?_, fun k hk => ?_, fun k hk => ?_⟩) 28 0 h (by omega) Fr.rf (fun j hj => by omega)⟩
  · rw [I' k (by omega)]; exact P.2.1 k hk
  · rw [I' _ (by omega)]; exact P.2.2.1 k hk
  · rw [I' _ (by omega)]; exact P.2.2.2.1 k hk
theorem l194 {h0 : ZH} (S0 : MSh h0 m) (kQ : ∀ h', Fr (fun a _ => a = m + 8) h0 h' → (∀ j, j < 28 → zI h' (m + 8) j = zI h0 (m + 16) j) → wb_194_15 E d Q m h') : ∀ r i h1, i + r = 28 → Fr (fun a _ => a = m + 8) h0 h1 → (∀ j, j < i → zI h1 (m + 8) j = zI h0 (m + 16) j) → wl_194_2 E d Q (r + 1) m (jI (i : Int)) h1
  | 0, i, h1, e, F1, I1 => by
    have ei : i = 28 := by omega
    subst ei
    rw [wl_194_2]
    exact ⟨fun _ => kQ h1 F1 I1, fun c => absurd (by decide) c⟩
  | r + 1, i, h1, e, F1, I1 => by
    have S1 := S0.fr F1
    rw [wl_194_2]
    refine ⟨fun c => ?_, fun _ => ⟨S1.1, m + 8, S1.a15.1, m + 16, S1.a35.1, S1.a35.ti, S1.a35.inn (by omega) (by omega), S1.a15.tg, S1.a15.inn (by omega) (by omega), nm_r (e' := zuI h1 (m + 8) i (zI h0 (m + 16) i)) (by rw [jI_cln (by omega), F1.I (by omega)]) (nm_r (e' := jI ((i + 1 : Nat) : Int)) (by rw [show (1 : Int32) = jI 1 from rfl, jI_add]; rfl) (l194 S0 kQ r (i + 1) _ (by omega) (F1.uI rfl) (fun j hj => ?_)))⟩⟩
    · exfalso
      rw [show (28 : Int32) = jI ((28 : Nat) : Int) from rfl, jI_len (by omega) (by omega)] at c
      omega
    · by_cases cj : j = i
      · subst cj; rw [zI_here]
      · rw [zI_offi cj]; exact I1 j (by omega)
theorem ct_194 {t' : Nat → Nat} (hd : 1 ≤ d) (P : MPg h m t' u) (K : MKp h m t) (kQ : ∀ h', Fr (fun a i => a = m + 8 ∨ (a = m ∧ i = 29)) h h' → MPg h' m t u → zI h' m 29 = 0 → Q none h') : Ct E d 194 [.ref m] h Q := by
  obtain ⟨d, rfl⟩ : ∃ n, d = n + 1 := ⟨d - 1, by omega⟩
  refine ok_194 ⟨29, l194 P.1 (fun h' F' I' => ⟨(P.1.fr F').1, nm_e (kQ _ (Fr.uI (F'.wd (fun a i e => Or.inl e)) (Or.inr ⟨rfl, rfl⟩)) (mp_29 ?_) (zI_here _ _ _ _))⟩) 28 0 h (by omega) Fr.rf (fun j hj => by omega)⟩
  refine ⟨P.1.fr F', fun k hk => ?_, fun k hk => ?_, fun k hk => ?_, fun k hk => ?_⟩
  · rw [I' k (by omega)]; exact K.1 k hk
  · rw [I' _ (by omega)]; exact K.2.1 k hk
  · rw [I' _ (by omega)]; exact K.2.2 k hk
  · rw [F'.I (by omega)]; exact P.2.2.2.2 k hk
theorem lo8_ne {w k0 : Nat} (hw : w ≠ 3) (e : tp_lw w = k0) : (fun k => if k = k0 then 0 else t k) = tp_lo8 t w := by
  funext k
  unfold tp_lo8
  rw [e]
  by_cases c : k = k0
  · rw [if_pos c, if_pos c]
  · rw [if_neg c, if_neg c, if_neg (fun q => hw q.1)]
theorem lo8_3 : (fun k => if k = 10 then 0 else (fun k => if k = 9 then 0 else t k) k) = tp_lo8 t 3 := by
  funext k
  unfold tp_lo8
  have e : tp_lw 3 = 9 := by decide
  rw [e]
  by_cases c : k = 9
  · subst c; simp
  · by_cases c2 : k = 10
    · subst c2; simp
    · simp [c, c2]
theorem ct_195 {w : Nat} (hd : 1 ≤ d) (P : MPg h m t u) (hw : w < 8) (kQ : ∀ h', Fr (fun a i => a = m + 8 ∨ (a = m ∧ i = 29)) h h' → MPg h' m (tp_lo8 t w) u → zI h' m 29 = 0 → Q none h') : Ct E d 195 [.ref m, .int (jI (w : Int))] h Q := by
  obtain ⟨d, rfl⟩ : ∃ n, d = n + 1 := ⟨d - 1, by omega⟩
  have one : ∀ k0, k0 < 16 → w ≠ 3 → tp_lw w = k0 → wb_195_54 E d Q m (zuI h (m + 8) k0 0) := fun k0 h0 h3 e => by
    have := mp_set (v := 0) P h0
    rw [lo8_ne h3 e] at this
    exact ⟨P.1.1, nm_e (kQ _ (Fr.uI (Fr.uI Fr.rf (Or.inl rfl)) (Or.inr ⟨rfl, rfl⟩)) (mp_29 this) (zI_here _ _ _ _))⟩
  have A := P.1.a15
  refine ok_195 ?_
  unfold w_195
  rw [jI_toInt (by omega) (by omega)]
  refine ⟨fun c => ⟨P.1.1, m + 8, A.1, A.tg, A.inc (by decide), nm_e (one 3 (by omega) (by omega) ?_)⟩, fun c => ⟨P.1.1, m + 8, A.1, A.tg, A.inc (by decide), nm_e (one 5 (by omega) (by omega) ?_)⟩, fun c => ⟨P.1.1, m + 8, A.1, A.tg, A.inc (by decide), nm_e (one 7 (by omega) (by omega) ?_)⟩, fun c => ⟨P.1.1, m + 8, A.1, A.tg, A.inc (by decide), nm_e (one 8 (by omega) (by omega) ?_)⟩, fun c => ⟨P.1.1, m + 8, A.1, A.tg, A.inc (by decide), nm_e ⟨A.inc (by decide), nm_e ?_⟩⟩, fun c => ⟨P.1.1, m + 8, A.1, A.tg, A.inc (by decide), nm_e (one 11 (by omega) (by omega) ?_)⟩, fun c => ⟨P.1.1, m + 8, A.1, A.tg, A.inc (by decide), nm_e (one 12 (by omega) (by omega) ?_)⟩, fun c => ⟨P.1.1, m + 8, A.1, A.tg, A.inc (by decide), nm_e (one 13 (by omega) (by omega) ?_)⟩⟩
  · have : w = 7 := by omega
    subst this; decide
  · have : w = 0 := by omega
    subst this; decide
  · have : w = 1 := by omega
    subst this; decide
  · have : w = 2 := by omega
    subst this; decide
  · have : w = 3 := by omega
    subst this
    have := mp_set (k0 := 10) (v := 0) (mp_set (k0 := 9) (v := 0) P (by omega)) (by omega)
    rw [lo8_3] at this
    exact ⟨P.1.1, nm_e (kQ _ (Fr.uI (Fr.uI (Fr.uI Fr.rf (Or.inl rfl)) (Or.inl rfl)) (Or.inr ⟨rfl, rfl⟩)) (mp_29 this) (zI_here _ _ _ _))⟩
  · have : w = 4 := by omega
    subst this; decide
  · have : w = 5 := by omega
    subst this; decide
  · have : w = 6 := by omega
    subst this; decide
def an_wout (t u : Nat → Nat) (y v w : Int) : Int64 := if (0 ≤ y ∧ y ≤ 7) ∧ (0 ≤ v ∧ v ≤ 1) ∧ (0 ≤ w ∧ w ≤ 1) then an_fr w (tp_T t) (tp_wh (tp_lo8 t y.toNat) u v.toNat - tp_wh t u v.toNat) else -9000000000000000001
theorem op_105 {y v w : Int} (hd : 50 ≤ d) (ok : tp_Ok t) (ou : tp_Ou u) (J : JC E h x zs zt g t u ft tn tb N rs rx la sz ce to) (hg : g + 9 < 1000000) (hy : jb y) (hv : jb v) (hw : jb w) (q : ∀ h', JC E h' x zs zt (g + 3) t u ft tn tb N rs rx la sz ce to → CFr x h h' → Q (some (.long (an_wout t u y v w))) h') : Ct E d 105 [.ref x, .int (jI y), .int (jI v), .int (jI w)] h Q := by
  obtain ⟨d, rfl⟩ : ∃ n, d = n + 1 := ⟨d - 1, by omega⟩
  have hT := ok.T
  have l0 := jlt hy 0 (by omega)
  have l1 : jI 8 ≤ jI y ↔ 8 ≤ y := jI_le (by omega) (by omega) hy.1 hy.2
  have l2 := jlt hv 0 (by omega)
  have l3 : jI 1 < jI v ↔ 1 < v := jI_lt (by omega) (by omega) hv.1 hv.2
  have no : ¬ ((0 ≤ y ∧ y ≤ 7) ∧ (0 ≤ v ∧ v ≤ 1) ∧ (0 ≤ w ∧ w ≤ 1)) → Q (some (.long (-9000000000000000001))) h := fun c => by
    have := q h (J.mono (by omega)) CFr.rf
    unfold an_wout at this
    rw [if_neg c] at this
    exact this
  refine ok_105 ⟨fun c => no ?_, fun c1 => ⟨fun c => no ?_, fun c2 => ⟨fun c => no ?_, fun c3 => ⟨fun c => no ?_, fun c4 => ⟨by omega, trivial, fun c5 => ?_, fun c5 => no ?_⟩⟩⟩⟩⟩
  · have := l0.mp c; omega
  · have := l1.mp c; omega
  · have := l2.mp c; omega
  · have := l3.mp c; omega
  · have c1 : ¬ y < 0 := fun r => c1 (l0.mpr r)
    have c2 : ¬ 8 ≤ y := fun r => c2 (l1.mpr r)
    have c3 : ¬ v < 0 := fun r => c3 (l2.mpr r)
    have c4 : ¬ 1 < v := fun r => c4 (l3.mpr r)
    rw [f123 hw, Classical.not_not] at c5
    unfold an_wout at q
    rw [if_pos ⟨by omega, by omega, c5⟩] at q
    obtain ⟨y, rfl⟩ := Int.eq_ofNat_of_zero_le (show 0 ≤ y by omega)
    obtain ⟨v, rfl⟩ := Int.eq_ofNat_of_zero_le (show 0 ≤ v by omega)
    simp only [Int.toNat_natCast] at q
    have e1 : (2 * jI (y : Int) + jI (v : Int) : Int32) = jI ((2 * y + v : Nat) : Int) := by
      rw [show (2 : Int32) = jI ((2 : Nat) : Int) from rfl, jI_mul, jI_add]; rfl
    refine ⟨J.X.t0, x + 24, J.X.r6, J.X.t24, ct_19 (by omega) (by omega) ok ou J.2.1.1 J.2.1.2 J.X J.P (by omega) J.F (fun h4 F4 V4 z0 z1 => ?_)⟩
    have J4 := J.fv V4 F4
    have b1 := tp_wh_bd ok u v
    have b2 := tp_wh_bd (tp_lo8_ok (w := y) ok (by omega)) u v
    refine ⟨rfl, J4.X.t0, x + 24, J4.X.r6, J4.X.t24, x + 35, J4.X.a13.1, J4.X.a13.tg, by rw [e1]; exact J4.X.a13.inn (by omega) (by omega), x + 1, J4.X.r0, J4.P.1.1.1, ?_⟩
    have ez : zL h4 (x + 35) (2 * y + v) = jL (tp_wh (tp_lo8 t y) u v - tp_wh t u v) := by
      have : v = 0 ∨ v = 1 := by omega
      rcases this with e | e <;> subst e
      · exact z0
      · exact z1
    rw [e1, jI_cln (by omega), ez, J4.P.2.2.2.2.2]
    exact ct_128' (by omega) c5 (by omega) (by omega) (by omega) ⟨_, rfl, q h4 J4 V4.cf⟩
  · rw [f123 hw] at c5; omega
theorem op_196 {y v w : Int} (hd : 20 ≤ d) (ok : tp_Ok t) (ou : tp_Ou u) (J : JM h m t u ft tn tb N rs rx la sz ce to) (hy : jb y) (hv : jb v) (hw : jb w) (q : ∀ h', JM h' m t u ft tn tb N rs rx la sz ce to → MFr m h h' → Q (some (.long (an_wout t u y v w))) h') : Ct E d 196 [.ref m, .int (jI y), .int (jI v), .int (jI w)] h Q := by
  obtain ⟨d, rfl⟩ : ∃ n, d = n + 1 := ⟨d - 1, by omega⟩
  have hT := ok.T
  have g1 : fz_135 E h (jI y).toInt64 0 7 = 0 ↔ ¬ (0 ≤ y ∧ y ≤ 7) := f135 (a := 0) (b := 7) hy.1 hy.2 (by omega) (by omega) (by omega) (by omega)
  have g2 : fz_135 E h (jI v).toInt64 0 1 = 0 ↔ ¬ (0 ≤ v ∧ v ≤ 1) := f135 (a := 0) (b := 1) hv.1 hv.2 (by omega) (by omega) (by omega) (by omega)
  have g3 : fz_135 E h (jI w).toInt64 0 1 = 0 ↔ ¬ (0 ≤ w ∧ w ≤ 1) := f135 (a := 0) (b := 1) hw.1 hw.2 (by omega) (by omega) (by omega) (by omega)
  have no : ¬ ((0 ≤ y ∧ y ≤ 7) ∧ (0 ≤ v ∧ v ≤ 1) ∧ (0 ≤ w ∧ w ≤ 1)) → Q (some (.long (-9000000000000000001))) h := fun c => by
    have := q h J MFr.rf
    unfold an_wout at this
    rw [if_neg c] at this
    exact this
  refine ok_196 ⟨by omega, trivial, fun c1 => no ?_, fun c1 => ⟨by omega, trivial, fun c2 => no ?_, fun c2 => ⟨by omega, trivial, fun c3 => ?_, fun c3 => no ?_⟩⟩⟩
  · rw [g1] at c1; omega
  · rw [g2] at c2; omega
  · rw [g1, Classical.not_not] at c1
    rw [g2, Classical.not_not] at c2
    rw [g3, Classical.not_not] at c3
    unfold an_wout at q
    rw [if_pos ⟨c1, c2, c3⟩] at q
    obtain ⟨y, rfl⟩ := Int.eq_ofNat_of_zero_le c1.1
    obtain ⟨v, rfl⟩ := Int.eq_ofNat_of_zero_le c2.1
    simp only [Int.toNat_natCast] at q
    have ok' := tp_lo8_ok (w := y) ok (by omega)
    refine ⟨J.P.1.1, ct_190 (by omega) (by omega) ok ou J.P J.L (fun h2 F2 L2 n2 X2 => ?_)⟩
    have J2 := J.ld F2 (fun a i e => by unfold tp_Se tp_Sw at e; omega) L2
    refine ⟨_, rfl, J2.P.1.1, ct_193 (by omega) J2.P (fun h5 F5 K5 => ?_)⟩
    have J5 := J2.fr F5 (fun a i e => by omega)
    refine ⟨rfl, J5.P.1.1, ct_195 (by omega) J5.P (by omega) (fun h7 F7 P7 n7 => ?_)⟩
    have J7 := J5.pg F7 (fun a i e => by omega) P7 n7
    have K7 := K5.fr F7 (fun i e => by omega)
    refine ⟨rfl, J7.P.1.1, ct_190 (by omega) (by omega) ok' ou J7.P J7.L (fun h9 F9 L9 n9 X9 => ?_)⟩
    have J9 := J7.ld F9 (fun a i e => by unfold tp_Se tp_Sw at e; omega) L9
    have K9 := K7.fr F9 (fun i e => by unfold tp_Se tp_Sw at e; omega)
    refine ⟨_, rfl, J9.P.1.1, ct_194 (by omega) J9.P K9 (fun h12 F12 P12 n12 => ?_)⟩
    have J12 := J9.pg F12 (fun a i e => by omega) P12 n12
    have b1 := tp_wh_bd ok u v
    have b2 := tp_wh_bd ok' u v
    refine ⟨rfl, J12.P.1.1, by omega, sz152 J12.P, by omega, trivial, ?_⟩
    rw [f176T ok J12.P, jL_sub]
    refine ct_184' (by omega) c3 (by omega) (by omega) (by omega) ⟨_, rfl, q h12 J12 ?_⟩
    exact (((F2.mf (fun a i e => by unfold tp_Se tp_Sw at e; omega)).tr (F5.mf (fun a i e => by omega))).tr ((F7.mf (fun a i e => by omega)).tr (F9.mf (fun a i e => by unfold tp_Se tp_Sw at e; omega)))).tr (F12.mf (fun a i e => by omega))
  · rw [g3] at c3; omega
end OPG
