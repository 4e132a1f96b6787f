/-! THE CALLS: torn, count, lay -/
section OPP
variable {E : Nat → Nat} {h : ZH} {x m zs zt g tn N d : Nat} {t u rs rx : Nat → Nat} {ft to : Int32} {tb : Nat → Int32} {la sz : Nat → Int} {ce : Nat → Nat → Int32} {Q : Option Value → ZH → Prop}
theorem op_118 (hd : 1 ≤ d) (J : JC E h x zs zt g t u ft tn tb N rs rx la sz ce to) (q : Q (some (.int to)) h) : Ct E d 118 [.ref x] h Q := by
  obtain ⟨d, rfl⟩ : ∃ n, d = n + 1 := ⟨d - 1, by omega⟩
  refine ok_118 ⟨J.X.t0, ?_⟩
  rw [J.2.2.2.2.2.2.2.1]
  exact q
theorem op_217 (hd : 1 ≤ d) (J : JM h m t u ft tn tb N rs rx la sz ce to) (q : Q (some (.int to)) h) : Ct E d 217 [.ref m] h Q := by
  obtain ⟨d, rfl⟩ : ∃ n, d = n + 1 := ⟨d - 1, by omega⟩
  refine ok_217 ⟨J.P.1.1, ?_⟩
  rw [J.2.2.2.2.2.1]
  exact q
theorem XSh.sh {k : Nat} (X : XSh h x) (hk : k < 4) : zR h (x + 36) k = x + 37 + 2 * k + 1 ∧ SSh h (x + 37 + 2 * k) := X.2.1 k hk
def an_count (t u : Nat → Nat) (N tn : Nat) (la sz : Nat → Int) (w : Int) : Int := if w = 0 then (tp_T t : Int) else if w = 1 then (tp_cnt (fun d => decide (u d ≠ 3)) (tp_T t) : Int) else if w = 2 then (N : Int) else if w = 3 then (tn : Int) else if w = 4 then (if la 0 = -4 then -4 else sz 0) else -1
theorem op_119 {w : Int} (hd : 5 ≤ d) (ok : tp_Ok t) (ou : tp_Ou u) (hB : ShB la sz) (J : JC E h x zs zt g t u ft tn tb N rs rx la sz ce to) (hw : jb w) (q : Q (some (.int (jI (an_count t u N tn la sz w)))) h) : Ct E d 119 [.ref x, .int (jI w)] h Q := by
  obtain ⟨d, rfl⟩ : ∃ n, d = n + 1 := ⟨d - 1, by omega⟩
  have P := J.P
  unfold an_count at q
  refine ok_119 ?_
  unfold w_119
  rw [jI_toInt hw.1 hw.2]
  refine ⟨fun c => ?_, fun c => ⟨J.X.t0, x + 1, J.X.r0, P.1.1.1, ?_⟩, fun c => ⟨J.X.t0, x + 1, J.X.r0, P.1.1.1, ?_⟩, fun c => ⟨J.X.t0, x + 18, J.X.r3, J.X.s18.1, ?_⟩, fun c => ⟨J.X.t0, x + 8, J.X.r1, J.X.2.2.2.1.1, ?_⟩, fun c => ?_⟩
  · rw [if_neg (by omega), if_neg (by omega), if_neg (by omega), if_neg (by omega), if_neg (by omega)] at q
    exact q
  · rw [if_pos c] at q
    rw [P.2.2.2.2.2]; exact q
  · rw [if_neg (by omega), if_pos c] at q
    exact ct_43 (by omega) ok ou P.Y ⟨_, rfl, q⟩
  · rw [if_neg (by omega), if_neg (by omega), if_pos c] at q
    rw [J.R.2.1]; exact q
  · rw [if_neg (by omega), if_neg (by omega), if_neg (by omega), if_pos c] at q
    rw [J.2.2.2.2.1.1]; exact q
  · rw [if_neg (by omega), if_neg (by omega), if_neg (by omega), if_neg (by omega), if_pos c] at q
    obtain ⟨c1, c2, -⟩ := J.C 0 (by omega)
    obtain ⟨s1, s2⟩ := J.X.sh (k := 0) (by omega)
    have b0 := hB 0
    have A := J.X.r7
    have e0 : zR h (x + 36) 0 - 1 = x + 37 + 2 * 0 := by rw [s1]; rfl
    have e4 : jI (la 0) = -4 ↔ la 0 = -4 := by rw [show (-4 : Int32) = jI (-4) from rfl, jI_eq (by omega) (by omega) (by omega) (by omega)]
    refine ⟨J.X.t0, x + 36, A.1, Or.inr A.tg, A.inc (by decide), x + 37 + 2 * 0, s1, s2.1, ?_⟩
    rw [e0, c1, c2]
    refine ⟨⟨fun _ => ⟨A.inc (by decide), by rw [s1]; omega, s2.1, trivial⟩, fun _ => trivial⟩, ?_⟩
    by_cases cl : la 0 = -4
    · rw [if_pos cl] at q
      rw [if_neg (fun q => q (e4.mpr cl))]
      exact q
    · rw [if_neg cl] at q
      rw [if_pos (fun q => cl (e4.mp q))]
      exact q
theorem l218 {w : Int} (hd : 1 ≤ d) (ok : tp_Ok t) (ou : tp_Ou u) (P : MPg h m t u) (q : wb_218_22 E d Q m (jI w) (jI (tp_cnt (fun d => decide (u d ≠ 3)) (tp_T t) : Int)) h) : ∀ (r i : Nat), i + r = tp_T t → wl_218_4 E d Q (r + 1) m (jI w) (jI (tp_cnt (fun d => decide (u d ≠ 3)) i : Int)) (jI (i : Int)) h
  | 0, i, e => by
    have hT := ok.T
    have ei : i = tp_T t := by omega
    subst ei
    rw [wl_218_4]
    refine ⟨P.1.1, hd, sz152 P, fun _ => q, fun c => absurd ?_ c⟩
    rw [fz152 P]
    exact (jI_len (by omega) (by omega)).mpr (Nat.le_refl _)
  | r + 1, i, e => by
    have hT := ok.T
    have hub := tp_uJ_b ou i
    have ih := l218 hd ok ou P q r (i + 1) (by omega)
    rw [wl_218_4]
    refine ⟨P.1.1, hd, sz152 P, fun c => ?_, fun _ => ⟨m + 10, P.1.a20.1, P.1.a20.ti, P.1.a20.inn (by omega) (by omega), nm_r (e' := jI ((tp_cnt (fun d => decide (u d ≠ 3)) (i + 1) : Nat) : Int)) ?_ (nm_r (e' := jI ((i + 1 : Nat) : Int)) (by rw [show (1 : Int32) = jI 1 from rfl, jI_add]; rfl) ih)⟩⟩
    · exfalso
      rw [fz152 P, jI_len (by omega) (by omega)] at c
      omega
    · rw [jI_cln (by omega), P.2.2.2.2 i (by omega)]
      show _ = jI ((tp_cnt (fun d => decide (u d ≠ 3)) i + (if (decide (u i ≠ 3)) = true then 1 else 0) : Nat) : Int)
      have iff4 : jI (tp_uJ (u i)) = (-4 : Int32) ↔ u i = 3 := by
        rw [show (-4 : Int32) = jI (-4) from rfl, jI_eq (by omega) (by omega) (by omega) (by omega), tp_uJ_n]
      by_cases c : u i = 3
      · rw [if_neg (fun q => q (iff4.mpr c)), if_neg (by simp [c]), show (0 : Int32) = jI 0 from rfl, jI_add]; rfl
      · rw [if_pos (fun q => c (iff4.mp q)), if_pos (by simp [c]), show (1 : Int32) = jI 1 from rfl, jI_add]; rfl
theorem op_218 {w : Int} (hd : 5 ≤ d) (ok : tp_Ok t) (ou : tp_Ou u) (hB : ShB la sz) (J : JM h m t u ft tn tb N rs rx la sz ce to) (hw : jb w) (q : Q (some (.int (jI (an_count t u N tn la sz w)))) h) : Ct E d 218 [.ref m, .int (jI w)] h Q := by
  obtain ⟨d, rfl⟩ : ∃ n, d = n + 1 := ⟨d - 1, by omega⟩
  have P := J.P
  have S := P.1
  unfold an_count at q
  refine ok_218 ⟨tp_T t + 1, l218 (by omega) ok ou P ?_ (tp_T t) 0 (by omega)⟩
  unfold wb_218_22
  rw [jI_toInt hw.1 hw.2]
  refine ⟨fun c => ?_, fun c => ⟨S.1, by omega, sz152 P, ?_⟩, fun c => ?_, fun c => ⟨S.1, ?_⟩, fun c => ⟨S.1, ?_⟩, fun c => ?_⟩
  · rw [if_neg (by omega), if_neg (by omega), if_neg (by omega), if_neg (by omega), if_neg (by omega)] at q
    exact q
  · rw [if_pos c] at q
    rw [fz152 P]; exact q
  · rw [if_neg (by omega), if_pos c] at q
    exact q
  · rw [if_neg (by omega), if_neg (by omega), if_pos c] at q
    rw [J.R.1]; exact q
  · rw [if_neg (by omega), if_neg (by omega), if_neg (by omega), if_pos c] at q
    rw [J.2.2.1.1]; exact q
  · rw [if_neg (by omega), if_neg (by omega), if_neg (by omega), if_neg (by omega), if_pos c] at q
    obtain ⟨c1, c2, -⟩ := J.C 0 (by omega)
    have b0 := hB 0
    have e4 : jI (la 0) = -4 ↔ la 0 = -4 := by rw [show (-4 : Int32) = jI (-4) from rfl, jI_eq (by omega) (by omega) (by omega) (by omega)]
    refine ⟨S.1, m + 22, S.a48.1, S.a48.ti, S.a48.inc (by decide), ?_⟩
    rw [S.a49.sub, c1, c2]
    refine ⟨⟨fun _ => ⟨S.a49.ne, S.a49.ti, S.a49.inc (by decide), trivial⟩, fun _ => trivial⟩, ?_⟩
    by_cases cl : la 0 = -4
    · rw [if_pos cl] at q
      rw [if_neg (fun q => q (e4.mpr cl))]
      exact q
    · rw [if_neg cl] at q
      rw [if_pos (fun q => cl (e4.mp q))]
      exact q
/-! lay -/
theorem JC.sh {h1 : ZH} {la' sz' : Nat → Int} {ce' : Nat → Nat → Int32} (J : JC E h x zs zt g t u ft tn tb N rs rx la sz ce to) (y : Fr (tp_Sx x) h h1) (C : ShC h1 x la' sz' ce') : JC E h1 x zs zt g t u ft tn tb N rs rx la' sz' ce' to := by
  obtain ⟨X, ⟨Sc, hE⟩, P, f, ⟨T1, T2⟩, R, _, o, F⟩ := J
  have yl : Ag (fun a => a < x + 37 ∨ x + 45 ≤ a) h h1 := y.ag (fun a i ha => by unfold tp_Sx; omega)
  exact ⟨X.fr y, ⟨Sc.ag (yl.wk (fun a ha => by omega)), hE⟩, P.ag (yl.wk (fun a ha => by unfold Rg at ha; omega)), by rw [yl.I (by omega)]; exact f, ⟨by rw [yl.I (by omega)]; exact T1, fun i hi => by rw [yl.I (by omega)]; exact T2 i hi⟩, R.ag (yl.wk (fun a ha => by unfold Rg at ha; omega)), C, by rw [yl.I (by omega)]; exact o, F.ag (yl.wk (fun a ha => by omega)) y.sz (by unfold ztot; rw [y.1])⟩
theorem JM.sh {h1 : ZH} {la' sz' : Nat → Int} {ce' : Nat → Nat → Int32} (J : JM h m t u ft tn tb N rs rx la sz ce to) (y : Fr (tp_Sy m) h h1) (C : ShM h1 m la' sz' ce') : JM h1 m t u ft tn tb N rs rx la' sz' ce' to := by
  obtain ⟨P, f, ⟨T1, T2⟩, ⟨R1, R2⟩, _, o, L, K⟩ := J
  have yI : ∀ a i, a < m + 22 → zI h1 a i = zI h a i := fun a i ha => y.I (by unfold tp_Sy; omega)
  refine ⟨P.fr y (fun i => by unfold tp_Sy; omega) (fun i => by unfold tp_Sy; omega), by rw [yI _ _ (by omega)]; exact f, ⟨by rw [yI _ _ (by omega)]; exact T1, fun i hi => by rw [yI _ _ (by omega)]; exact T2 i hi⟩, ⟨by rw [yI _ _ (by omega)]; exact R1, fun k hk => by rw [yI _ _ (by omega), yI _ _ (by omega)]; exact R2 k hk⟩, C, by rw [yI _ _ (by omega)]; exact o, fun q => ?_, fun j j1 j2 i hi => by rw [yI _ _ (by omega)]; exact K j j1 j2 i hi⟩
  rw [yI _ _ (by omega)] at q
  exact (L q).fr y (fun i => by unfold tp_Sy; omega) (fun i => by unfold tp_Sy; omega)
theorem op_116 {k i : Int} {v : Int32} (hd : 3 ≤ d) (hB : ShB la sz) (J : JC E h x zs zt g t u ft tn tb N rs rx la sz ce to) (hk : jb k) (hi : jb i) (q1 : ¬ (0 ≤ k ∧ k < 4) → Q (some (.int (-1))) h) (q2 : (0 ≤ k ∧ k < 4) → la k.toNat = -4 → Q (some (.int (-11))) h) (q3 : (0 ≤ k ∧ k < 4) → la k.toNat ≠ -4 → ¬ (0 ≤ i ∧ i < sz k.toNat) → Q (some (.int (-12))) h) (q4 : (0 ≤ k ∧ k < 4) → la k.toNat ≠ -4 → (0 ≤ i ∧ i < sz k.toNat) → ∀ h', JC E h' x zs zt g t u ft tn tb N rs rx la sz (sh_c1 ce k.toNat i.toNat (sh_nar (la k.toNat) v)) to → CFr x h h' → Q (some (.int 1)) h') : Ct E d 116 [.ref x, .int (jI k), .int (jI i), .int v] h Q := by
  obtain ⟨d, rfl⟩ : ∃ n, d = n + 1 := ⟨d - 1, by omega⟩
  obtain ⟨d, rfl⟩ : ∃ n, d = n + 1 := ⟨d - 1, by omega⟩
  have f : fz_124 E h (jI k) = 0 ↔ ¬ (0 ≤ k ∧ k < 4) := by rw [fz124 hk.1 hk.2]; exact j01
  refine ok_116 ⟨by omega, trivial, fun c => ?_, fun c => q1 ?_⟩
  · rw [f, Classical.not_not] at c
    have q2 := q2 c
    have q3 := q3 c
    have q4 := q4 c
    obtain ⟨k, rfl⟩ := Int.eq_ofNat_of_zero_le c.1
    simp only [Int.toNat_natCast] at q2 q3 q4
    have hk4 : k < 4 := by omega
    obtain ⟨c1, c2, c3⟩ := J.C k hk4
    obtain ⟨s1, s2⟩ := J.X.sh hk4
    have b0 := hB k
    have A := J.X.r7
    have e4 : jI (la k) = -4 ↔ la k = -4 := by rw [show (-4 : Int32) = jI (-4) from rfl, jI_eq (by omega) (by omega) (by omega) (by omega)]
    have f69 : fz_69 E h (x + 37 + 2 * k) (jI i) = 0 ↔ ¬ (0 ≤ i ∧ i < sz k) := by
      show (if jI i < jI 0 then (0 : Int32) else if zI h (x + 37 + 2 * k) 2 ≤ jI i then 0 else 1) = 0 ↔ _
      rw [c2, jif3 hi.1 hi.2 (by omega) (by omega) (by omega) (by omega)]
      exact j01
    refine ⟨J.X.t0, x + 36, A.1, Or.inr A.tg, A.inn (by omega) (by omega), x + 37 + 2 * k, by rw [jI_cln (by omega)]; exact s1, s2.1, ?_⟩
    rw [c1, e4]
    refine ⟨fun cl => ⟨A.inn (by omega) (by omega), x + 37 + 2 * k, by rw [jI_cln (by omega)]; exact s1, s2.1, by omega, ⟨⟨fun _ => trivial, fun _ => ⟨s2.1, trivial⟩⟩, trivial⟩, fun ci => ⟨A.inn (by omega) (by omega), x + 37 + 2 * k, by rw [jI_cln (by omega)]; exact s1, s2.1, ?_⟩, fun ci => q3 cl ?_⟩, fun cl => q2 (by omega)⟩
    · rw [f69, Classical.not_not] at ci
      have q4 := q4 cl ci
      obtain ⟨i, rfl⟩ := Int.eq_ofNat_of_zero_le ci.1
      simp only [Int.toNat_natCast] at q4
      have e0 : jI (la k) = 0 ↔ la k = 0 := by rw [show (0 : Int32) = jI 0 from rfl, jI_eq (by omega) (by omega) (by omega) (by omega)]
      have e1 : jI (la k) = 1 ↔ la k = 1 := by rw [show (1 : Int32) = jI 1 from rfl, jI_eq (by omega) (by omega) (by omega) (by omega)]
      refine ok_70 ⟨s2.1, x + 37 + 2 * k + 1, s2.2.1, s2.2.tg, s2.2.inn (by omega) (by omega), nm_r (e' := zuI h (x + 38 + 2 * k) i (sh_nar (la k) v)) ?_ ⟨rfl, ?_⟩⟩
      · rw [c1, jI_cln (by omega), show x + 37 + 2 * k + 1 = x + 38 + 2 * k by omega]
        unfold sh_nar
        by_cases d0 : la k = 0
        · rw [if_neg (fun q => q (e0.mpr d0)), if_pos d0]
        · rw [if_pos (fun q => d0 (e0.mp q)), if_neg d0]
          by_cases d1 : la k = 1
          · rw [if_neg (fun q => q (e1.mpr d1)), if_pos d1]
          · rw [if_pos (fun q => d1 (e1.mp q)), if_neg d1]
      · have F : Fr (tp_Sx x) h (zuI h (x + 38 + 2 * k) i (sh_nar (la k) v)) := Fr.uI Fr.rf (by unfold tp_Sx; omega)
        refine q4 _ (J.sh F (fun j hj => ?_)) (F.cf (fun a i e => by unfold tp_Sx at e; omega))
        obtain ⟨d1, d2, d3⟩ := J.C j hj
        refine ⟨by rw [zI_offa (by omega)]; exact d1, by rw [zI_offa (by omega)]; exact d2, fun i' hi' => ?_⟩
        unfold sh_c1
        by_cases cj : j = k
        · subst cj
          by_cases cii : i' = i
          · subst cii; rw [zI_here, if_pos ⟨rfl, rfl⟩]
          · rw [zI_offi cii, if_neg (fun q => cii q.2)]; exact d3 i' hi'
        · rw [zI_offa (by omega), if_neg (fun q => cj q.1)]; exact d3 i' hi'
    · rw [f69, Classical.not_not] at ci; exact ci
  · rw [f] at c; omega
theorem op_215 {k i : Int} {v : Int32} (hd : 3 ≤ d) (hB : ShB la sz) (J : JM h m t u ft tn tb N rs rx la sz ce to) (hk : jb k) (hi : jb i) (q1 : ¬ (0 ≤ k ∧ k < 4) → Q (some (.int (-1))) h) (q2 : (0 ≤ k ∧ k < 4) → la k.toNat = -4 → Q (some (.int (-11))) h) (q3 : (0 ≤ k ∧ k < 4) → la k.toNat ≠ -4 → ¬ (0 ≤ i ∧ i < sz k.toNat) → Q (some (.int (-12))) h) (q4 : (0 ≤ k ∧ k < 4) → la k.toNat ≠ -4 → (0 ≤ i ∧ i < sz k.toNat) → ∀ h', JM h' m t u ft tn tb N rs rx la sz (sh_c1 ce k.toNat i.toNat (sh_nar (la k.toNat) v)) to → MFr m h h' → Q (some (.int 1)) h') : Ct E d 215 [.ref m, .int (jI k), .int (jI i), .int v] h Q := by
  obtain ⟨d, rfl⟩ : ∃ n, d = n + 1 := ⟨d - 1, by omega⟩
  have g1 : fz_135 E h (jI k).toInt64 0 3 = 0 ↔ ¬ (0 ≤ k ∧ k ≤ 3) := f135 (a := 0) (b := 3) hk.1 hk.2 (by omega) (by omega) (by omega) (by omega)
  have S := J.P.1
  refine ok_215 ⟨by omega, trivial, fun c => ?_, fun c => q1 ?_⟩
  · rw [g1, Classical.not_not] at c
    have q2 := q2 (by omega)
    have q3 := q3 (by omega)
    have q4 := q4 (by omega)
    obtain ⟨k, rfl⟩ := Int.eq_ofNat_of_zero_le c.1
    simp only [Int.toNat_natCast] at q2 q3 q4
    have hk4 : k < 4 := by omega
    obtain ⟨c1, c2, c3⟩ := J.C k hk4
    have b0 := hB k
    have e4 : jI (la k) = -4 ↔ la k = -4 := by rw [show (-4 : Int32) = jI (-4) from rfl, jI_eq (by omega) (by omega) (by omega) (by omega)]
    have g2 : fz_135 E h (jI i).toInt64 0 ((jI (sz k) - 1 : Int32).toInt64) = 0 ↔ ¬ (0 ≤ i ∧ i ≤ sz k - 1) := by
      rw [show (1 : Int32) = jI 1 from rfl, jI_sub]
      have := fz135i (E := E) (h := h) (a := i) (b := 0) (c := sz k - 1) hi.1 hi.2 (by omega) (by omega) (by omega) (by omega)
      rw [show (0 : Int64) = jL 0 from rfl, this]
      exact j01
    have e0 : jI (la k) = 0 ↔ la k = 0 := by rw [show (0 : Int32) = jI 0 from rfl, jI_eq (by omega) (by omega) (by omega) (by omega)]
    have e1 : jI (la k) = 1 ↔ la k = 1 := by rw [show (1 : Int32) = jI 1 from rfl, jI_eq (by omega) (by omega) (by omega) (by omega)]
    refine ⟨S.1, m + 22, S.a48.1, S.a48.ti, S.a48.inn (by omega) (by omega), ?_⟩
    rw [jI_cln (by omega), c1, e4]
    refine ⟨fun cl => ⟨m + 23, S.a49.1, S.a49.ti, S.a49.inn (by omega) (by omega), by omega, trivial, ?_⟩, fun cl => q2 (by omega)⟩
    rw [c2]
    refine ⟨fun ci => ⟨m + 24, S.a50.1, S.a48.inn (by omega) (by omega), ⟨fun _ => ⟨S.a48.inn (by omega) (by omega), trivial⟩, fun _ => trivial⟩, S.a50.tg, ?_⟩, fun ci => q3 cl ?_⟩
    · rw [g2, Classical.not_not] at ci
      have q4 := q4 cl (by omega)
      obtain ⟨i, rfl⟩ := Int.eq_ofNat_of_zero_le ci.1
      simp only [Int.toNat_natCast] at q4
      have ex : (48 * jI (k : Int) + jI (i : Int) : Int32) = jI ((48 * k + i : Nat) : Int) := by rw [show (48 : Int32) = jI ((48 : Nat) : Int) from rfl, jI_mul, jI_add]; rfl
      rw [ex]
      refine ⟨S.a50.inn (by omega) (by omega), nm_r (e' := zuI h (m + 24) (48 * k + i) (sh_nar (la k) v)) ?_ ?_⟩
      · rw [jI_cln (by omega)]
        have j16 : (v <<< (16 &&& 31)) >>> (16 &&& 31) = v.toInt16.toInt32 := jsh16 v
        have j24 : (v <<< (24 &&& 31)) >>> (24 &&& 31) = v.toInt8.toInt32 := jsh24 v
        rw [j16, j24]
        unfold sh_nar
        by_cases d0 : la k = 0
        · rw [if_neg (fun q => q (e0.mpr d0)), if_pos d0]
        · rw [if_pos (fun q => d0 (e0.mp q)), if_neg d0]
          by_cases d1 : la k = 1
          · rw [if_neg (fun q => q (e1.mpr d1)), if_pos d1]
          · rw [if_pos (fun q => d1 (e1.mp q)), if_neg d1]
      · have F : Fr (tp_Sy m) h (zuI h (m + 24) (48 * k + i) (sh_nar (la k) v)) := Fr.uI Fr.rf (by unfold tp_Sy; omega)
        refine q4 _ (J.sh F (fun j hj => ?_)) (F.mf (fun a i e => by unfold tp_Sy at e; omega))
        obtain ⟨d1, d2, d3⟩ := J.C j hj
        refine ⟨by rw [zI_offa (by omega)]; exact d1, by rw [zI_offa (by omega)]; exact d2, fun i' hi' => ?_⟩
        unfold sh_c1
        by_cases cj : j = k ∧ i' = i
        · obtain ⟨rfl, rfl⟩ := cj
          rw [zI_here, if_pos ⟨rfl, rfl⟩]
        · rw [zI_offi (by omega), if_neg cj]; exact d3 i' hi'
    · rw [g2] at ci; omega
  · rw [g1] at c; omega
/-! sheet, feed, end: as calls on both sides -/
theorem op_115 {k l n : Int} (hd : 3 ≤ d) (J : JC E h x zs zt g t u ft tn tb N rs rx la sz ce to) (hk : jb k) (hl : jb l) (hn : jb n) (q1 : ¬ ((0 ≤ k ∧ k < 4) ∧ (0 ≤ l ∧ l < 3) ∧ n ≤ 48) → Q (some (.int (-1))) h) (q2 : (0 ≤ k ∧ k < 4) → (0 ≤ l ∧ l < 3) → n < 0 → Q (some (.int (-14))) h) (q3 : (0 ≤ k ∧ k < 4) → (0 ≤ l ∧ l < 3) → 0 ≤ n → n ≤ 48 → ∀ h', JC E h' x zs zt g t u ft tn tb N rs rx (sh_la la k.toNat l) (sh_la sz k.toNat n) (sh_c0 ce k.toNat) to → CFr x h h' → Q (some (.int 1)) h') : Ct E d 115 [.ref x, .int (jI k), .int (jI l), .int (jI n)] h Q := ct_115 hd J.X J.C hk hl hn q1 q2 (fun a b c e h' F C => q3 a b c e h' (J.sh F C) (F.cf (fun a i e => by unfold tp_Sx at e; omega)))
theorem op_214 {k l n : Int} (hd : 3 ≤ d) (J : JM h m t u ft tn tb N rs rx la sz ce to) (hk : jb k) (hl : jb l) (hn : jb n) (q1 : ¬ ((0 ≤ k ∧ k < 4) ∧ (0 ≤ l ∧ l < 3) ∧ n ≤ 48) → Q (some (.int (-1))) h) (q2 : (0 ≤ k ∧ k < 4) → (0 ≤ l ∧ l < 3) → n < 0 → Q (some (.int (-14))) h) (q3 : (0 ≤ k ∧ k < 4) → (0 ≤ l ∧ l < 3) → 0 ≤ n → n ≤ 48 → ∀ h', JM h' m t u ft tn tb N rs rx (sh_la la k.toNat l) (sh_la sz k.toNat n) (sh_c0 ce k.toNat) to → MFr m h h' → Q (some (.int 1)) h') : Ct E d 214 [.ref m, .int (jI k), .int (jI l), .int (jI n)] h Q := ct_214 hd J.P.1 J.C hk hl hn q1 q2 (fun a b c e h' F C => q3 a b c e h' (J.sh F C) (F.mf (fun a i e => by unfold tp_Sy at e; omega)))
theorem sh_B {k : Nat} {l n : Int} (hB : ShB la sz) (hl : 0 ≤ l ∧ l < 3) (hn : 0 ≤ n ∧ n ≤ 48) : ShB (sh_la la k l) (sh_la sz k n) := fun j => by
  have := hB j
  unfold sh_la
  split <;> omega
theorem JC.tp {h1 : ZH} {tn' : Nat} {tb' : Nat → Int32} (J : JC E h x zs zt g t u ft tn tb N rs rx la sz ce to) (y : Fr (fun a i => a = x + 9 ∨ (a = x + 8 ∧ i = 1)) h h1) (T : TpC h1 x tn' tb') : JC E h1 x zs zt g t u ft tn' tb' N rs rx la sz ce to := by
  obtain ⟨X, ⟨Sc, hE⟩, P, f, _, R, C, o, F⟩ := J
  have yl : Ag (fun a => a < x + 8 ∨ x + 10 ≤ a) h h1 := y.ag (fun a i ha => by omega)
  refine ⟨X.fr y, ⟨Sc.ag (yl.wk (fun a ha => by omega)), hE⟩, P.ag (yl.wk (fun a ha => by unfold Rg at ha; omega)), by rw [yl.I (by omega)]; exact f, T, R.ag (yl.wk (fun a ha => by unfold Rg at ha; omega)), fun k hk => ?_, by rw [yl.I (by omega)]; exact o, F.ag (yl.wk (fun a ha => by omega)) y.sz (by unfold ztot; rw [y.1])⟩
  obtain ⟨c1, c2, c3⟩ := C k hk
  exact ⟨by rw [yl.I (by omega)]; exact c1, by rw [yl.I (by omega)]; exact c2, fun i hi => by rw [yl.I (by omega)]; exact c3 i hi⟩
theorem JM.tp {h1 : ZH} {tn' : Nat} {tb' : Nat → Int32} (J : JM h m t u ft tn tb N rs rx la sz ce to) (y : Fr (fun a i => a = m + 1 ∨ (a = m ∧ i = 1)) h h1) (T : TpM h1 m tn' tb') : JM h1 m t u ft tn' tb' N rs rx la sz ce to := by
  obtain ⟨P, f, _, ⟨R1, R2⟩, C, o, L, K⟩ := J
  refine ⟨P.fr y (fun i => by omega) (fun i => by omega), by rw [y.I (by omega)]; exact f, T, ⟨by rw [y.I (by omega)]; exact R1, fun k hk => by rw [y.I (by omega), y.I (by omega)]; exact R2 k hk⟩, fun k hk => ?_, by rw [y.I (by omega)]; exact o, fun q => ?_, fun j j1 j2 i hi => by rw [y.I (by omega)]; exact K j j1 j2 i hi⟩
  · obtain ⟨c1, c2, c3⟩ := C k hk
    exact ⟨by rw [y.I (by omega)]; exact c1, by rw [y.I (by omega)]; exact c2, fun i hi => by rw [y.I (by omega)]; exact c3 i hi⟩
  · rw [y.I (by omega)] at q
    exact (L q).fr y (fun i => by omega) (fun i => by omega)
end OPP
