/-! THE PAGE: both sides read the same -/
theorem rdr_ok {tb : Nat → Int32} {tn : Nat} : ∀ (r : Nat) (S : RdT) (p n : Nat), RdK S → p ≤ tn → tn < p + r → (rdr tb tn r S p n).1 = 0 → RdK (rdr tb tn r S p n).2.2.2 ∧ (rdr tb tn r S p n).2.2.2.1 = 17
  | 0, S, p, n, K, hp, hr, e => by omega
  | r + 1, S, p, n, K, hp, hr, e => by
    have O := tk_o tb hp
    by_cases c : (tk tb tn p).1 = 4 ∧ S.1 = 17
    · rw [rdr, if_pos c]
      exact ⟨K, c.2⟩
    · rw [rdr, if_neg c] at e ⊢
      by_cases c0 : (stp S (tk tb tn p)).1 = 0
      · rw [if_pos c0] at e ⊢
        have c4 : ¬ (tk tb tn p).1 = 4 := fun z => by
          have := stp_4 (S := S) (tk tb tn p) z (fun w => c ⟨z, w⟩)
          omega
        exact rdr_ok r _ _ _ (stp_ok K c0) O.2.2.2.2.2.1 (by have := O.2.2.2.1 c4; omega) e
      · rw [if_neg c0] at e
        exact absurd e c0
section PGJ
variable {E : Nat → Nat} {h : ZH} {x m zs zt g tn N d : Nat} {t u rs rx : Nat → Nat} {ft to : Int32} {tb : Nat → Int32} {la sz : Nat → Int} {ce : Nat → Nat → Int32} {A : Nat × Nat × Nat × RdT} {Q : Option Value → ZH → Prop}
/-- no page: only the tape and the fault -/
theorem JC.ff {h1 : ZH} {ft' : Int32} (J : JC E h x zs zt g t u ft tn tb N rs rx la sz ce to) (y : Fr (fun a i => (a = x + 8 ∧ 1 ≤ i) ∨ (a = x + 10 ∧ 2 ≤ i ∧ i ≤ 7) ∨ a = x + 12) h h1) (f : zI h1 (x + 10) 3 = ft') (z : zI h1 (x + 8) 1 = 0) : JC E h1 x zs zt g t u ft' 0 tb N rs rx la sz ce to := by
  obtain ⟨X, ⟨Sc, hE⟩, P, _, _, R, C, o, F⟩ := J
  have yl : Ag (fun a => a < x + 8 ∨ x + 13 ≤ a) h h1 := y.ag (fun a i ha q => by omega)
  refine ⟨X.fr y, ⟨Sc.ag (yl.wk (fun a ha => by omega)), hE⟩, P.ag (yl.wk (fun a ha => by unfold Rg at ha; omega)), f, ⟨z, fun i hi => by omega⟩, R.ag (yl.wk (fun a ha => by unfold Rg at ha; omega)), fun k hk => ?_, by rw [yl.I (by omega)]; exact o, F.ag (yl.wk (fun a ha => by omega)) y.sz (by unfold ztot; rw [y.1])⟩
  obtain ⟨c1, c2, c3⟩ := C k hk
  exact ⟨by rw [yl.I (by omega)]; exact c1, by rw [yl.I (by omega)]; exact c2, fun i hi => by rw [yl.I (by omega)]; exact c3 i hi⟩
/-- a page -/
theorem JC.ss {h1 : ZH} {t' u' : Nat → Nat} (J : JC E h x zs zt g t u ft tn tb N rs rx la sz ce to) (y : Fr (fun a i => (x + 1 ≤ a ∧ a ≤ x + 20) ∨ (a = x + 24 ∧ 7 ≤ i ∧ i ≤ 10) ∨ a = x + 33) h h1) (P : PgR h1 (x + 1) t' u') (f : zI h1 (x + 10) 3 = 0) (z : zI h1 (x + 8) 1 = 0) (z18 : zI h1 (x + 18) 2 = 0) (F : Fg h1 x zs zt g t' u' rs) : JC E h1 x zs zt g t' u' 0 0 tb 0 rs rx la sz ce to := by
  obtain ⟨X, ⟨Sc, hE⟩, _, _, _, R, C, o, _⟩ := J
  have yl : Ag (fun a => a ≤ x ∨ (x + 36 ≤ a ∧ a ≤ x + 44)) h h1 := y.ag (fun a i ha q => by omega)
  refine ⟨X.fr y, ⟨Sc.ag (yl.wk (fun a ha => by omega)), hE⟩, P, f, ⟨z, fun i hi => by omega⟩, ⟨R.1.fr y, z18, fun k hk => by omega⟩, fun k hk => ?_, by rw [yl.I (by omega)]; exact o, F⟩
  obtain ⟨c1, c2, c3⟩ := C k hk
  exact ⟨by rw [yl.I (by omega)]; exact c1, by rw [yl.I (by omega)]; exact c2, fun i hi => by rw [yl.I (by omega)]; exact c3 i hi⟩
theorem JM.ff {h1 : ZH} {ft' : Int32} (J : JM h m t u ft tn tb N rs rx la sz ce to) (y : Fr (pf_S m) h h1) (z : zI h1 m 1 = 0) (f : zI h1 m 2 = ft') : JM h1 m t u ft' 0 tb N rs rx la sz ce to := by
  obtain ⟨P, _, _, ⟨R1, R2⟩, C, o, L, K⟩ := J
  have q0 : ∀ i, i = 29 ∨ i = 36 ∨ i = 51 → zI h1 m i = zI h m i := fun i hi => y.I (fun q => by unfold pf_S at q; omega)
  have qa : ∀ j i, (1 ≤ j ∧ j ≤ 8) ∨ (10 ≤ j ∧ j ≤ 24) → zI h1 (m + j) i = zI h (m + j) i := fun j i hj => y.I (fun q => by unfold pf_S at q; omega)
  refine ⟨P.fr y (fun i q => by unfold pf_S at q; omega) (fun i q => by unfold pf_S at q; omega), f, ⟨z, fun i hi => by omega⟩, ⟨by rw [q0 36 (by omega)]; exact R1, fun k hk => ?_⟩, fun k hk => ?_, by rw [q0 51 (by omega)]; exact o, fun q => ?_, fun j j1 j2 i hi => by rw [qa j i (by omega)]; exact K j j1 j2 i hi⟩
  · rw [qa 17 k (by omega), qa 18 k (by omega)]; exact R2 k hk
  · obtain ⟨c1, c2, c3⟩ := C k hk
    exact ⟨by rw [qa 22 k (by omega)]; exact c1, by rw [qa 23 k (by omega)]; exact c2, fun i hi => by rw [qa 24 _ (by omega)]; exact c3 i hi⟩
  · rw [q0 29 (by omega)] at q
    exact (L q).fr y (fun i q => by unfold pf_S at q; omega) (fun i q => by unfold pf_S at q; omega)
theorem JM.ss {h1 : ZH} {t' : Nat → Nat} (J : JM h m t u ft tn tb N rs rx la sz ce to) (y : Fr (pg_S m) h h1) (z1 : zI h1 m 1 = 0) (z2 : zI h1 m 2 = 0) (z29 : zI h1 m 29 = 0) (z36 : zI h1 m 36 = 0) (D : ∀ k, okT k → zI h1 (m + 8) (rxN k) = jI (t' k : Int)) (U : ∀ k, k < 20 → zI h1 (m + 10) k = -4) : JM h1 m t' (fun _ => 3) 0 0 tb 0 rs rx la sz ce to := by
  obtain ⟨P, _, _, _, C, o, L, K⟩ := J
  have q0 : zI h1 m 51 = zI h m 51 := y.I (fun q => by unfold pg_S at q; omega)
  have qa : ∀ j i, (1 ≤ j ∧ j ≤ 7) ∨ (11 ≤ j ∧ j ≤ 24) → zI h1 (m + j) i = zI h (m + j) i := fun j i hj => y.I (fun q => by unfold pg_S at q; omega)
  have rx1 : ∀ k, k < 16 → rxN k = k := fun k hk => rx_16 hk
  have rx2 : ∀ k, k < 3 → rxN (20 + k) = 16 + k := fun k hk => by unfold rxN; rw [if_neg (by omega), if_pos (by omega)]; omega
  have rx3 : ∀ k, k < 9 → rxN (30 + k) = 19 + k := fun k hk => by unfold rxN; rw [if_neg (by omega), if_neg (by omega)]; omega
  refine ⟨⟨P.1.fr y, fun k hk => ?_, fun k hk => ?_, fun k hk => ?_, fun k hk => U k hk⟩, z2, ⟨z1, fun i hi => by omega⟩, ⟨z36, fun k hk => by omega⟩, fun k hk => ?_, by rw [q0]; exact o, fun q => absurd z29 q, fun j j1 j2 i hi => by rw [qa j i (by omega)]; exact K j j1 j2 i hi⟩
  · have := D k (by unfold okT; omega)
    rw [rx1 k hk] at this
    exact this
  · have := D (20 + k) (by unfold okT; omega)
    rw [rx2 k hk] at this
    exact this
  · have := D (30 + k) (by unfold okT; omega)
    rw [rx3 k hk] at this
    exact this
  · obtain ⟨c1, c2, c3⟩ := C k hk
    exact ⟨by rw [qa 22 k (by omega)]; exact c1, by rw [qa 23 k (by omega)]; exact c2, fun i hi => by rw [qa 24 _ (by omega)]; exact c3 i hi⟩
theorem op_92 (hd : 12 ≤ d) (B : TpB tb) (hn : tn ≤ 320) (J : JC E h x zs zt g t u ft tn tb N rs rx la sz ce to) (eA : rdr tb tn (tn + 1) rd0 0 0 = A) (qF : ¬ A.1 = 0 → ∀ h', JC E h' x zs zt g t u (jI (A.1 : Int)) 0 tb N rs rx la sz ce to → CFr x h h' → Q (some (.int (-10 - jI (A.2.1 : Int)))) h') (qS : A.1 = 0 → ∀ h', JC E h' x zs zt g A.2.2.2.2.2.2.2 (fun _ => 3) 0 0 tb 0 rs rx la sz ce to → CFr x h h' → Q (some (.int (jI (A.2.2.1 : Int)))) h') : Ct E d 92 [.ref x] h Q := by
  obtain ⟨d, rfl⟩ : ∃ n, d = n + 1 := ⟨d - 1, by omega⟩
  have X := J.X
  have Sc := J.2.1.1
  have hE := J.2.1.2
  have T : TpD h x tn tb := ⟨X.t8, J.2.2.2.2.1.1, fun i hi => by rw [J.2.2.2.2.1.2 i hi]; exact (cb_of B i).1⟩
  have cA : A.1 ≤ 4 ∨ True := Or.inr trivial
  refine ok_92 ⟨X.t0, x + 10, X.r2, X.t10, ct_53 (by omega) X Sc hE B T hn eA (fun h1 v F1 En => ?_)⟩
  have X1 := X.fr F1
  have F2 : Fr (fun a i => (a = x + 8 ∧ 1 ≤ i) ∨ (a = x + 10 ∧ 2 ≤ i ∧ i ≤ 7) ∨ a = x + 12) h (zuI h1 (x + 8) 1 0) := Fr.uI (F1.wd (fun a i z => by unfold rk_S at z; omega)) (by omega)
  have f3 : zI (zuI h1 (x + 8) 1 0) (x + 10) 3 = jI (A.1 : Int) := by rw [zI_offa (by omega)]; exact En.1
  have z81 : zI (zuI h1 (x + 8) 1 0) (x + 8) 1 = 0 := zI_here _ _ _ _
  have X2 := X.fr F2
  have e4 : ¬ A.1 = 0 → zI (zuI h1 (x + 8) 1 0) (x + 10) 4 = jI (A.2.1 : Int) := fun c => by rw [zI_offa (by omega)]; exact En.2.1 c
  have e0 : A.1 = 0 → v = jI (A.2.2.1 : Int) ∧ ∀ k, k < 39 → zI (zuI h1 (x + 8) 1 0) (x + 12) k = jI (A.2.2.2.2.2.2.2 k : Int) := fun c => ⟨(En.2.2 c).1, fun k hk => by rw [zI_offa (by omega)]; exact (En.2.2 c).2 k hk⟩
  refine ⟨v, rfl, X1.t0, x + 8, X1.r1, X1.t8.1, nm_e ⟨x + 10, X1.r2, X1.t10, ?_⟩⟩
  generalize zuI h1 (x + 8) 1 0 = h2 at F2 f3 z81 X2 e4 e0 ⊢
  have c4 : A.1 ≤ 4 := by
    rw [← eA]
    have : ∀ (r : Nat) (S : RdT) (p n : Nat), (rdr tb tn r S p n).1 ≤ 4 := fun r => by
      induction r with
      | zero => intro S p n; exact Nat.zero_le _
      | succ r ih =>
        intro S p n
        rw [rdr]
        split
        · exact Nat.zero_le _
        · split
          · exact ih _ _ _
          · exact stp_c _ _
    exact this _ _ _ _
  have i0 : (zI h2 (x + 10) 3 = 0 ↔ A.1 = 0) := by rw [f3]; exact jI_eqn (b := 0) (by omega) (by omega)
  rw [i0]
  refine ⟨fun c => ?_, fun c => ?_⟩
  · have ok : RdK A.2.2.2 ∧ A.2.2.2.1 = 17 := by
      have := rdr_ok (tb := tb) (tn := tn) (tn + 1) rd0 0 0 rdo_0 (by omega) (by omega)
      rw [eA] at this
      exact this c
    have tok : tp_Ok A.2.2.2.2.2.2.2 := by
      have k := ok.1
      unfold RdK at k
      rw [ok.2] at k
      exact rdo_ok k
    obtain ⟨ev, eD⟩ := e0 c
    refine ⟨x + 1, X2.r0, x + 11, X2.rg, X2.s1.1, ct_31 (by omega) X2.s1 X2.s11 eD (fun h3 F3 D3 => ?_)⟩
    have X3 := X2.fr F3
    refine ⟨rfl, X3.t0, x + 1, X3.r0, X3.s1.1, ct_33 (by omega) tok X3.s1 D3 (fun h4 P4 F4 => ?_)⟩
    have X4 := X3.fr F4
    have F4' : Fr (fun a i => (x + 1 ≤ a ∧ a ≤ x + 20) ∨ (a = x + 24 ∧ 7 ≤ i ∧ i ≤ 10) ∨ a = x + 33) h h4 := ((F2.wd (fun a i z => by omega)).tr (F3.wd (fun a i z => by omega))).tr (F4.wd (fun a i z => by unfold tp_S33 at z; omega))
    have F5 : Fr (fun a i => (x + 1 ≤ a ∧ a ≤ x + 20) ∨ (a = x + 24 ∧ 7 ≤ i ∧ i ≤ 10) ∨ a = x + 33) h (zuI h4 (x + 18) 2 0) := Fr.uI F4' (by omega)
    have X5 := X.fr F5
    have P5 : PgR (zuI h4 (x + 18) 2 0) (x + 1) A.2.2.2.2.2.2.2 (fun _ => 3) := P4.fr (Fr.uI (S := fun a _ => a = x + 18) Fr.rf rfl) (fun a i h1 h2 => by omega)
    have F5a : Ag (fun a => a = x + 24 ∨ (x + 33 ≤ a ∧ a ≤ x + 35) ∨ x + 70 ≤ a) h (zuI h4 (x + 18) 2 0) := by
      have y : Fr (fun a i => (x + 1 ≤ a ∧ a ≤ x + 20)) h (zuI h4 (x + 18) 2 0) := Fr.uI (((F2.wd (fun a i z => by omega)).tr (F3.wd (fun a i z => by omega))).tr (F4.wd (fun a i z => by unfold tp_S33 at z; omega))) (by omega)
      exact y.ag (fun a i ha q => by omega)
    have G5 : Fg (zuI h4 (x + 18) 2 0) x zs zt g t u rs := J.F.ag F5a F5.sz (by unfold ztot; rw [F5.1])
    have s18 : zI (zuI h4 (x + 18) 2 0) (x + 18) 2 = 0 := zI_here _ _ _ _
    have s3 : zI (zuI h4 (x + 18) 2 0) (x + 10) 3 = 0 := by
      rw [zI_offa (by omega), F4.I (by unfold tp_S33; omega), F3.I (by omega)]
      exact i0.mpr c
    have s1 : zI (zuI h4 (x + 18) 2 0) (x + 8) 1 = 0 := by
      rw [zI_offa (by omega), F4.I (by unfold tp_S33; omega), F3.I (by omega)]
      exact z81
    refine ⟨rfl, X4.t0, x + 18, X4.r3, X4.s18.1, nm_e ⟨x + 24, X5.r6, X5.t24, ?_⟩⟩
    generalize zuI h4 (x + 18) 2 0 = h5 at F5 X5 P5 G5 s18 s3 s1 ⊢
    refine ct_14 (t' := A.2.2.2.2.2.2.2) (u' := fun _ => 3) (rs' := rs) (by omega) X5 G5 (fun h6 F6 G6 => ⟨rfl, ?_⟩)
    rw [ev]
    have F7 := F5.tr (F6.wd (fun a i z => by omega))
    exact qS c h6 (J.ss F7 (P5.fr F6 (fun a i h1 h2 => by omega)) (by rw [F6.I (by omega)]; exact s3) (by rw [F6.I (by omega)]; exact s1) (by rw [F6.I (by omega)]; exact s18) G6) (F7.cf (fun a i z => by omega))
  · rw [e4 c]
    exact qF c h2 (J.ff F2 f3 z81) (F2.cf (fun a i z => by omega))
theorem op_149 (hd : 7 ≤ d) (B : TpB tb) (hn : tn ≤ 320) (J : JM h m t u ft tn tb N rs rx la sz ce to) (eA : rdr tb tn (tn + 1) rd0 0 0 = A) (qF : ¬ A.1 = 0 → ∀ h', JM h' m t u (jI (A.1 : Int)) 0 tb N rs rx la sz ce to → MFr m h h' → Q (some (.int (-10 - jI (A.2.1 : Int)))) h') (qS : A.1 = 0 → tp_Ok A.2.2.2.2.2.2.2 → ∀ h', JM h' m A.2.2.2.2.2.2.2 (fun _ => 3) 0 0 tb 0 rs rx la sz ce to → MFr m h h' → Q (some (.int (jI (A.2.2.1 : Int)))) h') : Ct E d 149 [.ref m] h Q := by
  have M : MTp h m tn tb := ⟨J.P.1, J.2.2.1.1, J.2.2.1.2, J.2.2.2.2.2.2.2⟩
  refine ct_149 hd B hn M eA (fun c h' F z1 z2 => qF c h' (J.ff F z1 z2) (F.mf (fun a i z => by unfold pf_S at z; omega))) (fun c K s17 h' F z1 z2 z29 z36 D U => qS c ?_ h' (J.ss F z1 z2 z29 z36 D U) (F.mf (fun a i z => by unfold pg_S at z; omega)))
  unfold RdK at K
  rw [s17] at K
  exact rdo_ok K
theorem pgj (hd : 12 ≤ d) : PgJ E d x zs zt := by
  intro h g t u ft tn tb N rs rx la sz ce to hg js jc jm I i0 iC iM R k
  obtain ⟨ok, ou, B, hn, hN, rb, sb⟩ := js
  generalize eA : rdr tb tn (tn + 1) rd0 0 0 = A
  refine op_92 hd B hn jc eA (fun c h1 J1 C1 => ?_) (fun c h1 J1 C1 => ?_)
  · have M1 := jm.cf C1
    refine ⟨_, rfl, M1.P.1.1, op_149 (by omega) B hn M1 eA (fun _ h2 M2 C2 => ⟨_, rfl, rfl, ?_⟩) (fun c' => absurd c' c)⟩
    exact k h2 g t u _ 0 tb N rs rx la sz ce to (by omega) ⟨ok, ou, B, by omega, hN, rb, sb⟩ (J1.mf C2) M2 (iM _ _ (iC _ _ i0 C1) C2)
  · have M1 := jm.cf C1
    refine ⟨_, rfl, M1.P.1.1, op_149 (by omega) B hn M1 eA (fun c' => absurd c c') (fun _ tok h2 M2 C2 => ⟨_, rfl, rfl, ?_⟩)⟩
    exact k h2 g _ _ _ 0 tb 0 rs rx la sz ce to (by omega) ⟨tok, fun d => Nat.le_refl 3, B, by omega, Nat.zero_le _, rb, sb⟩ (J1.mf C2) M2 (iM _ _ (iC _ _ i0 C1) C2)
theorem law_all {d : Nat} {hs : ZH} {b L : Nat} {xs : Nat → Int32} (hd : 101 ≤ d) (Z : zSt E hs b L xs) (hL : L ≤ 4096) : Ct E d 219 [.ref b] hs (fun v h' => v = some (.int 1) ∧ zsz h' - zsz hs ≤ 600000 ∧ ztot h' - ztot hs ≤ 7302250) := law_run hd Z hL (fun zs zt => pgj (by omega))
end PGJ
