/-! THE CALLS: day, back, row, rowOf -/
section OPJ
variable {E : Nat → Nat} {h : ZH} {x m zs zt g tn N d : Nat} {t u rs rx : Nat → Nat} {ft to : Int32} {tb : Nat → Int32} {la sz : Nat → Int} {ce : Nat → Nat → Int32} {Q : Option Value → ZH → Prop}
/-- another row of the class's -/
theorem JC.rw {h1 : ZH} {N' : Nat} {rs' rx' : Nat → Nat} (J : JC E h x zs zt g t u ft tn tb N rs rx la sz ce to) (y : Ag (fun a => a < x + 18 ∨ (x + 21 ≤ a ∧ a ≤ x + 23) ∨ (x + 36 ≤ a ∧ a < x + 70)) h h1) (X : XSh h1 x) (R : RwC h1 (x + 18) N' rs' rx') (F : Fg h1 x zs zt g t u rs') : JC E h1 x zs zt g t u ft tn tb N' rs' rx' la sz ce to := by
  obtain ⟨_, ⟨Sc, hE⟩, P, f, ⟨T1, T2⟩, _, C, o, _⟩ := J
  refine ⟨X, ⟨Sc.ag (y.wk (fun a ha => by omega)), hE⟩, P.ag (y.wk (fun a ha => by unfold Rg at ha; omega)), by rw [y.I (by omega)]; exact f, ⟨by rw [y.I (by omega)]; exact T1, fun i hi => by rw [y.I (by omega)]; exact T2 i hi⟩, R, fun k hk => ?_, by rw [y.I (by omega)]; exact o, F⟩
  obtain ⟨c1, c2, c3⟩ := C k hk
  exact ⟨by rw [y.I (by omega)]; exact c1, by rw [y.I (by omega)]; exact c2, fun i hi => by rw [y.I (by omega)]; exact c3 i hi⟩
def rw_s (rs : Nat → Nat) (N v : Nat) : Nat → Nat := fun k => if k = N then v else rs k
theorem rw_sB {s v : Nat} (hR : RwB rs rx) (hs : s < 3) (hv : v ≤ 9) : RwB (rw_s rs N s) (rw_s rx N v) := fun k => by
  have := hR k
  unfold rw_s
  split <;> omega
theorem op_108 {s v : Int} (hd : 3 ≤ d) (ok : tp_Ok t) (hN : N ≤ tp_T t) (J : JC E h x zs zt g t u ft tn tb N rs rx la sz ce to) (hs : jb s) (hv : jb v) (q1 : ¬ ((0 ≤ s ∧ s < 3) ∧ (0 ≤ v ∧ v ≤ 9)) → Q (some (.int (-1))) h) (q2 : (0 ≤ s ∧ s < 3) → (0 ≤ v ∧ v ≤ 9) → ¬ N < tp_T t → Q (some (.int (-3))) h) (q3 : (0 ≤ s ∧ s < 3) → (0 ≤ v ∧ v ≤ 9) → N < tp_T t → ∀ h', JC E h' x zs zt g t u ft tn tb (N + 1) (rw_s rs N s.toNat) (rw_s rx N v.toNat) la sz ce to → CFr x h h' → Q (some (.int (jI ((N + 1 : Nat) : Int)))) h') : Ct E d 108 [.ref x, .int (jI s), .int (jI v)] h Q := by
  obtain ⟨d, rfl⟩ : ∃ n, d = n + 1 := ⟨d - 1, by omega⟩
  obtain ⟨d, rfl⟩ : ∃ n, d = n + 1 := ⟨d - 1, by omega⟩
  have hT := ok.T
  have f : fz_126 E h (jI s) (jI v) = 0 ↔ ¬ ((0 ≤ s ∧ s < 3) ∧ (0 ≤ v ∧ v ≤ 9)) := by
    show (if (fz_120 E h (jI s) : Int32) = 0 then (0 : Int32) else if jI v < jI 0 then 0 else if jI 9 < jI v then 0 else 1) = 0 ↔ _
    simp only [j0c, f120 hs, j10, or_false, jlt hv 0 (by omega), jI_lt (show (-2147483648 : Int) ≤ 9 by omega) (by omega) hv.1 hv.2]
    omega
  have R := J.R
  refine ok_108 ⟨by omega, ⟨trivial, trivial⟩, fun c => ?_, fun c => q1 ?_⟩
  · rw [f, Classical.not_not] at c
    refine ⟨J.X.t0, x + 18, J.X.r3, J.X.s18.1, x + 1, J.X.r0, J.P.1.1.1, ?_⟩
    rw [R.2.1, J.P.2.2.2.2.2, jI_ltn (by omega) (by omega)]
    refine ⟨fun cN => ?_, fun cN => q2 c.1 c.2 cN⟩
    obtain ⟨s, rfl⟩ := Int.eq_ofNat_of_zero_le c.1.1
    obtain ⟨v, rfl⟩ := Int.eq_ofNat_of_zero_le c.2.1
    have q3 := q3 c.1 c.2 cN
    simp only [Int.toNat_natCast] at q3
    have A0 := R.1.2.1
    have A1 := R.1.2.2
    refine ok_66 ⟨R.1.1, ?_⟩
    rw [R.2.1]
    refine ⟨fun c20 => ?_, fun _ => ⟨x + 18 + 1, A0.1, A0.tg, A0.inn (by omega) (by omega), nm_r (e' := zuI h (x + 18 + 1) N (jI (s : Int))) (by rw [jI_cln (by omega)]) ⟨x + 18 + 2, A1.1, A1.tg, ?_, nm_r (e' := zuI (zuI h (x + 18 + 1) N (jI (s : Int))) (x + 18 + 2) N (jI (v : Int))) ?_ (nm_r (e' := zuI (zuI (zuI h (x + 18 + 1) N (jI (s : Int))) (x + 18 + 2) N (jI (v : Int))) (x + 18) 2 (jI ((N + 1 : Nat) : Int))) ?_ ⟨rfl, ?_⟩)⟩⟩⟩
    · exfalso
      rw [show (20 : Int32) = jI ((20 : Nat) : Int) from rfl, jI_len (by omega) (by omega)] at c20
      omega
    · rw [zI_offa (by omega), R.2.1]; exact A1.inn (by omega) (by omega)
    · rw [zI_offa (by omega), R.2.1, jI_cln (by omega)]
    · rw [zI_offa (by omega), zI_offa (by omega), R.2.1, show (1 : Int32) = jI 1 from rfl, jI_add]; rfl
    have F6 : Fr (fun a _ => x + 18 ≤ a ∧ a ≤ x + 20) h (zuI (zuI (zuI h (x + 18 + 1) N (jI (s : Int))) (x + 18 + 2) N (jI (v : Int))) (x + 18) 2 (jI ((N + 1 : Nat) : Int))) := Fr.uI (Fr.uI (Fr.uI Fr.rf (by omega)) (by omega)) (by omega)
    have R6 : RwC (zuI (zuI (zuI h (x + 18 + 1) N (jI (s : Int))) (x + 18 + 2) N (jI (v : Int))) (x + 18) 2 (jI ((N + 1 : Nat) : Int))) (x + 18) (N + 1) (rw_s rs N s) (rw_s rx N v) := by
      refine ⟨R.1.fr F6, zI_here _ _ _ _, fun k hk => ?_⟩
      unfold rw_s
      by_cases ck : k = N
      · subst ck
        rw [if_pos rfl, if_pos rfl]
        exact ⟨by rw [zI_offa (by omega), zI_offa (by omega), zI_here], by rw [zI_offa (by omega), zI_here]⟩
      · rw [if_neg ck, if_neg ck]
        have rk := R.2.2 k (by omega)
        exact ⟨by rw [zI_offa (by omega), zI_offa (by omega), zI_offi ck]; exact rk.1, by rw [zI_offa (by omega), zI_offi ck, zI_offa (by omega)]; exact rk.2⟩
    generalize zuI (zuI (zuI h (x + 18 + 1) N (jI (s : Int))) (x + 18 + 2) N (jI (v : Int))) (x + 18) 2 (jI ((N + 1 : Nat) : Int)) = h6 at F6 R6 ⊢
    have X6 := J.X.fr F6
    refine ⟨X6.t0, x + 24, X6.r6, X6.t24, ct_15 (by omega) X6.t24 (fun h10 F10 z10 => ?_)⟩
    have X10 := X6.fr F10
    have FF : Fr (fun a i => (x + 18 ≤ a ∧ a ≤ x + 20) ∨ (a = x + 24 ∧ i = 10)) h h10 := (F6.wd (fun a i e => Or.inl e)).tr (F10.wd (fun a i e => Or.inr e))
    have R10 : RwC h10 (x + 18) (N + 1) (rw_s rs N s) (rw_s rx N v) := R6.ag (F10.ag (fun a i ha => by unfold Rg at ha; omega))
    refine ⟨rfl, X10.t0, x + 18, X10.r3, X10.s18.1, ?_⟩
    rw [R10.2.1]
    exact q3 h10 (J.rw (FF.ag (fun a i ha => by omega)) X10 R10 (J.F.row FF (fun a i ha => by omega) z10)) (FF.cf (fun a i e => by omega))
  · rw [f] at c
    exact fun r => c (fun r' => r' r)
theorem op_199 {s v : Int} (hd : 3 ≤ d) (ok : tp_Ok t) (hN : N ≤ tp_T t) (J : JM h m t u ft tn tb N rs rx la sz ce to) (hs : jb s) (hv : jb v) (q1 : ¬ ((0 ≤ s ∧ s < 3) ∧ (0 ≤ v ∧ v ≤ 9)) → Q (some (.int (-1))) h) (q2 : (0 ≤ s ∧ s < 3) → (0 ≤ v ∧ v ≤ 9) → ¬ N < tp_T t → Q (some (.int (-3))) h) (q3 : (0 ≤ s ∧ s < 3) → (0 ≤ v ∧ v ≤ 9) → N < tp_T t → ∀ h', JM h' m t u ft tn tb (N + 1) (rw_s rs N s.toNat) (rw_s rx N v.toNat) la sz ce to → MFr m h h' → Q (some (.int (jI ((N + 1 : Nat) : Int)))) h') : Ct E d 199 [.ref m, .int (jI s), .int (jI v)] h Q := by
  obtain ⟨d, rfl⟩ : ∃ n, d = n + 1 := ⟨d - 1, by omega⟩
  have hT := ok.T
  have g1 : fz_135 E h (jI s).toInt64 0 2 = 0 ↔ ¬ (0 ≤ s ∧ s ≤ 2) := f135 (a := 0) (b := 2) hs.1 hs.2 (by omega) (by omega) (by omega) (by omega)
  have g2 : fz_135 E h (jI v).toInt64 0 9 = 0 ↔ ¬ (0 ≤ v ∧ v ≤ 9) := f135 (a := 0) (b := 9) hv.1 hv.2 (by omega) (by omega) (by omega) (by omega)
  have R := J.R
  have S := J.P.1
  refine ok_199 ⟨by omega, trivial, fun c => q1 ?_, fun c => ⟨by omega, trivial, fun c2 => ?_, fun c2 => q1 ?_⟩⟩
  · rw [g1] at c; omega
  · rw [g1, Classical.not_not] at c
    rw [g2, Classical.not_not] at c2
    refine ⟨S.1, by omega, sz152 J.P, ?_⟩
    rw [R.1, fz152 J.P, jI_eqn (by omega) (by omega)]
    refine ⟨fun cN => ?_, fun cN => q2 (by omega) c2 (by omega)⟩
    obtain ⟨s, rfl⟩ := Int.eq_ofNat_of_zero_le c.1
    obtain ⟨v, rfl⟩ := Int.eq_ofNat_of_zero_le c2.1
    have q3 := q3 (by omega) c2 (by omega)
    simp only [Int.toNat_natCast] at q3
    refine ⟨m + 17, S.a37.1, S.a37.tg, S.a37.inn (by omega) (by omega), nm_r (e' := zuI h (m + 17) N (jI (s : Int))) (by rw [jI_cln (by omega)]) ⟨m + 18, S.a38.1, S.a38.tg, ?_, nm_r (e' := zuI (zuI h (m + 17) N (jI (s : Int))) (m + 18) N (jI (v : Int))) ?_ (nm_r (e' := zuI (zuI (zuI h (m + 17) N (jI (s : Int))) (m + 18) N (jI (v : Int))) m 36 (jI ((N + 1 : Nat) : Int))) ?_ ?_)⟩⟩
    · rw [zI_offa (by omega), R.1]; exact S.a38.inn (by omega) (by omega)
    · rw [zI_offa (by omega), R.1, jI_cln (by omega)]
    · rw [zI_offa (by omega), zI_offa (by omega), R.1, show (1 : Int32) = jI 1 from rfl, jI_add]; rfl
    have F6 : Fr (fun a i => a = m + 17 ∨ a = m + 18 ∨ (a = m ∧ i = 36)) h (zuI (zuI (zuI h (m + 17) N (jI (s : Int))) (m + 18) N (jI (v : Int))) m 36 (jI ((N + 1 : Nat) : Int))) := Fr.uI (Fr.uI (Fr.uI Fr.rf (by omega)) (by omega)) (by omega)
    have R6 : RwM (zuI (zuI (zuI h (m + 17) N (jI (s : Int))) (m + 18) N (jI (v : Int))) m 36 (jI ((N + 1 : Nat) : Int))) m (N + 1) (rw_s rs N s) (rw_s rx N v) := by
      refine ⟨zI_here _ _ _ _, fun k hk => ?_⟩
      unfold rw_s
      by_cases ck : k = N
      · subst ck
        rw [if_pos rfl, if_pos rfl]
        exact ⟨by rw [zI_offa (by omega), zI_offa (by omega), zI_here], by rw [zI_offa (by omega), zI_here]⟩
      · rw [if_neg ck, if_neg ck]
        have rk := R.2 k (by omega)
        exact ⟨by rw [zI_offa (by omega), zI_offa (by omega), zI_offi ck]; exact rk.1, by rw [zI_offa (by omega), zI_offi ck, zI_offa (by omega)]; exact rk.2⟩
    generalize zuI (zuI (zuI h (m + 17) N (jI (s : Int))) (m + 18) N (jI (v : Int))) m 36 (jI ((N + 1 : Nat) : Int)) = h6 at F6 R6 ⊢
    rw [R6.1]
    refine q3 h6 ?_ (F6.mf (fun a i e => by omega))
    obtain ⟨P, f, ⟨T1, T2⟩, _, C, o, L, K⟩ := J
    refine ⟨P.fr F6 (fun i => by omega) (fun i => by omega), by rw [F6.I (by omega)]; exact f, ⟨by rw [F6.I (by omega)]; exact T1, fun i hi => by rw [F6.I (by omega)]; exact T2 i hi⟩, R6, fun k hk => ?_, by rw [F6.I (by omega)]; exact o, fun q => ?_, fun j j1 j2 i hi => by rw [F6.I (by omega)]; exact K j j1 j2 i hi⟩
    · obtain ⟨c1, c2, c3⟩ := C k hk
      exact ⟨by rw [F6.I (by omega)]; exact c1, by rw [F6.I (by omega)]; exact c2, fun i hi => by rw [F6.I (by omega)]; exact c3 i hi⟩
    · rw [F6.I (by omega)] at q
      exact (L q).fr F6 (fun i => by omega) (fun i => by omega)
  · rw [g2] at c2; omega
theorem op_109 (hd : 3 ≤ d) (ok : tp_Ok t) (hN : N ≤ tp_T t) (J : JC E h x zs zt g t u ft tn tb N rs rx la sz ce to) (q1 : N = 0 → Q (some (.int (-4))) h) (q2 : N ≠ 0 → ∀ h', JC E h' x zs zt g t u ft tn tb (N - 1) rs rx la sz ce to → CFr x h h' → Q (some (.int (jI ((N - 1 : Nat) : Int)))) h') : Ct E d 109 [.ref x] h Q := by
  obtain ⟨d, rfl⟩ : ∃ n, d = n + 1 := ⟨d - 1, by omega⟩
  have hT := ok.T
  have R := J.R
  refine ok_109 ⟨J.X.t0, x + 18, J.X.r3, J.X.s18.1, ?_⟩
  rw [R.2.1, show (0 : Int32) = jI ((0 : Nat) : Int) from rfl, jI_eqn (by omega) (by omega)]
  refine ⟨fun c => nm_r (e' := zuI h (x + 18) 2 (jI ((N - 1 : Nat) : Int))) (by rw [show (1 : Int32) = jI 1 from rfl, jI_sub]; congr 2; omega) ?_, fun c => q1 (by omega)⟩
  have F6 : Fr (fun a _ => x + 18 ≤ a ∧ a ≤ x + 20) h (zuI h (x + 18) 2 (jI ((N - 1 : Nat) : Int))) := Fr.uI Fr.rf (by omega)
  have R6 : RwC (zuI h (x + 18) 2 (jI ((N - 1 : Nat) : Int))) (x + 18) (N - 1) rs rx := ⟨R.1.fr F6, zI_here _ _ _ _, fun k hk => by rw [zI_offa (by omega), zI_offa (by omega)]; exact R.2.2 k (by omega)⟩
  generalize zuI h (x + 18) 2 (jI ((N - 1 : Nat) : Int)) = h6 at F6 R6 ⊢
  have X6 := J.X.fr F6
  refine ⟨x + 24, X6.r6, X6.t24, ct_15 (by omega) X6.t24 (fun h10 F10 z10 => ?_)⟩
  have X10 := X6.fr F10
  have FF : Fr (fun a i => (x + 18 ≤ a ∧ a ≤ x + 20) ∨ (a = x + 24 ∧ i = 10)) h h10 := (F6.wd (fun a i e => Or.inl e)).tr (F10.wd (fun a i e => Or.inr e))
  have R10 : RwC h10 (x + 18) (N - 1) rs rx := R6.ag (F10.ag (fun a i ha => by unfold Rg at ha; omega))
  refine ⟨rfl, X10.t0, x + 18, X10.r3, X10.s18.1, ?_⟩
  rw [R10.2.1]
  exact q2 (by omega) h10 (J.rw (FF.ag (fun a i ha => by omega)) X10 R10 (J.F.row FF (fun a i ha => by omega) z10)) (FF.cf (fun a i e => by omega))
theorem op_200 (hd : 3 ≤ d) (ok : tp_Ok t) (hN : N ≤ tp_T t) (J : JM h m t u ft tn tb N rs rx la sz ce to) (q1 : N = 0 → Q (some (.int (-4))) h) (q2 : N ≠ 0 → ∀ h', JM h' m t u ft tn tb (N - 1) rs rx la sz ce to → MFr m h h' → Q (some (.int (jI ((N - 1 : Nat) : Int)))) h') : Ct E d 200 [.ref m] h Q := by
  obtain ⟨d, rfl⟩ : ∃ n, d = n + 1 := ⟨d - 1, by omega⟩
  have hT := ok.T
  have R := J.R
  refine ok_200 ⟨J.P.1.1, ?_⟩
  rw [R.1, show (0 : Int32) = jI ((0 : Nat) : Int) from rfl, jI_eqn (by omega) (by omega)]
  refine ⟨fun c => nm_r (e' := zuI h m 36 (jI ((N - 1 : Nat) : Int))) (by rw [show (1 : Int32) = jI 1 from rfl, jI_sub]; congr 2; omega) ?_, fun c => q1 (by omega)⟩
  have F6 : Fr (fun a i => a = m ∧ i = 36) h (zuI h m 36 (jI ((N - 1 : Nat) : Int))) := Fr.uI Fr.rf ⟨rfl, rfl⟩
  have R6 : RwM (zuI h m 36 (jI ((N - 1 : Nat) : Int))) m (N - 1) rs rx := ⟨zI_here _ _ _ _, fun k hk => by rw [zI_offa (by omega), zI_offa (by omega)]; exact R.2 k (by omega)⟩
  generalize zuI h m 36 (jI ((N - 1 : Nat) : Int)) = h6 at F6 R6 ⊢
  rw [R6.1]
  refine q2 (by omega) h6 ?_ (F6.mf (fun a i e => by omega))
  obtain ⟨P, f, ⟨T1, T2⟩, _, C, o, L, K⟩ := J
  refine ⟨P.fr F6 (fun i => by omega) (fun i => by omega), by rw [F6.I (by omega)]; exact f, ⟨by rw [F6.I (by omega)]; exact T1, fun i hi => by rw [F6.I (by omega)]; exact T2 i hi⟩, R6, fun k hk => ?_, by rw [F6.I (by omega)]; exact o, fun q => ?_, fun j j1 j2 i hi => by rw [F6.I (by omega)]; exact K j j1 j2 i hi⟩
  · obtain ⟨c1, c2, c3⟩ := C k hk
    exact ⟨by rw [F6.I (by omega)]; exact c1, by rw [F6.I (by omega)]; exact c2, fun i hi => by rw [F6.I (by omega)]; exact c3 i hi⟩
  · rw [F6.I (by omega)] at q
    exact (L q).fr F6 (fun i => by omega) (fun i => by omega)
/-! row, rowOf -/
def wk_r (t u rs rx : Nat → Nat) (N : Nat) : WkT := wk t u (fun d _ _ _ => rx d) rs N
def an_row (t u rs rx : Nat → Nat) (N : Nat) (w : Int) : Int := if 0 ≤ w ∧ w ≤ 7 then (if w = 0 then (N : Int) else if w = 1 then wk_fw t u rx N else if w = 2 then ((wk_r t u rs rx N).1 : Int) else if w = 3 then ((wk_r t u rs rx N).2.1 : Int) else if w = 4 then ((wk_r t u rs rx N).2.2.1 : Int) else if w = 5 then (wk_r t u rs rx N).2.2.2.1 else if w = 6 then (wk_r t u rs rx N).2.2.2.2.1 else (wk_r t u rs rx N).2.2.2.2.2) else -1000000
theorem op_110 {w : Int} (hd : 20 ≤ d) (ok : tp_Ok t) (ou : tp_Ou u) (hR : RwB rs rx) (hN : N ≤ tp_T t) (J : JC E h x zs zt g t u ft tn tb N rs rx la sz ce to) (hw : jb w) (q : ∀ h', JC E h' x zs zt g t u ft tn tb N rs rx la sz ce to → CFr x h h' → Q (some (.int (jI (an_row t u rs rx N w)))) h') : Ct E d 110 [.ref x, .int (jI w)] h Q := by
  obtain ⟨d, rfl⟩ : ∃ n, d = n + 1 := ⟨d - 1, by omega⟩
  have l0 := jlt hw 0 (by omega)
  have l1 : jI w ≤ jI 7 ↔ w ≤ 7 := jI_le hw.1 hw.2 (by omega) (by omega)
  have R := J.R
  unfold an_row at q
  refine ok_110 ⟨fun c => ?_, fun c => ⟨fun c1 => ?_, fun c1 => ?_⟩⟩
  · have c := l0.mp c
    rw [if_neg (by omega)] at q
    exact q h J CFr.rf
  · have c : ¬ w < 0 := fun r => c (l0.mpr r)
    have c1 := l1.mp c1
    rw [if_pos (by omega)] at q
    refine ⟨J.X.t0, x + 18, J.X.r3, J.X.s18.1, ?_⟩
    rw [R.2.1]
    refine ct_131 (by omega) ok ou hR J.X J.P R (Nat.le_refl _) hN (fun h4 F4 W4 _ => ⟨rfl, ?_⟩)
    have J4 := J.mv F4 (fun a i e => by omega)
    have q := q h4 J4 (F4.cf (fun a i e => by omega))
    have X4 := J4.X
    have t4 : ztag h4 (x + 21) = 9 := X4.w21.1
    obtain ⟨w1, w2, w3, w4, w5, w6, w7, w8⟩ := W4
    rw [jI_toInt hw.1 hw.2]
    refine ⟨fun cw => ⟨X4.t0, x + 21, X4.r4, t4, ?_⟩, fun cw => ⟨X4.t0, x + 18, X4.r3, X4.s18.1, ?_⟩, fun cw => ⟨X4.t0, x + 21, X4.r4, t4, ?_⟩, fun cw => ⟨X4.t0, x + 21, X4.r4, t4, ?_⟩, fun cw => ⟨X4.t0, x + 21, X4.r4, t4, ?_⟩, fun cw => ⟨X4.t0, x + 21, X4.r4, t4, ?_⟩, fun cw => ⟨X4.t0, x + 21, X4.r4, t4, ?_⟩, fun cw => ⟨X4.t0, x + 21, X4.r4, t4, ?_⟩⟩
    · rw [if_neg (by omega), if_neg (by omega), if_neg (by omega), if_neg (by omega), if_neg (by omega), if_neg (by omega), if_neg (by omega)] at q
      rw [w8]; exact q
    · rw [if_pos cw] at q
      rw [J4.R.2.1]; exact q
    · rw [if_neg (by omega), if_pos cw] at q
      rw [w2]; exact q
    · rw [if_neg (by omega), if_neg (by omega), if_pos cw] at q
      rw [w3]; exact q
    · rw [if_neg (by omega), if_neg (by omega), if_neg (by omega), if_pos cw] at q
      rw [w4]; exact q
    · rw [if_neg (by omega), if_neg (by omega), if_neg (by omega), if_neg (by omega), if_pos cw] at q
      rw [w5]; exact q
    · rw [if_neg (by omega), if_neg (by omega), if_neg (by omega), if_neg (by omega), if_neg (by omega), if_pos cw] at q
      rw [w6]; exact q
    · rw [if_neg (by omega), if_neg (by omega), if_neg (by omega), if_neg (by omega), if_neg (by omega), if_neg (by omega), if_pos cw] at q
      rw [w7]; exact q
  · have c1 : ¬ w ≤ 7 := fun r => c1 (l1.mpr r)
    rw [if_neg (by omega)] at q
    exact q h J CFr.rf
theorem op_205 {w : Int} (hd : 20 ≤ d) (ok : tp_Ok t) (ou : tp_Ou u) (hR : RwB rs rx) (hN : N ≤ tp_T t) (J : JM h m t u ft tn tb N rs rx la sz ce to) (hw : jb w) (q : ∀ h', JM h' m t u ft tn tb N rs rx la sz ce to → MFr m h h' → Q (some (.int (jI (an_row t u rs rx N w)))) h') : Ct E d 205 [.ref m, .int (jI w)] h Q := by
  obtain ⟨d, rfl⟩ : ∃ n, d = n + 1 := ⟨d - 1, by omega⟩
  unfold an_row at q
  refine ok_205 ⟨J.P.1.1, ct_203 (by omega) ok ou hR J.P J.R hN (fun h2 F2 K2 _ => ⟨rfl, ?_⟩)⟩
  have J2 := J.fr F2 (fun a i e => by unfold tp_Sr tp_Sb at e; omega)
  have q := q h2 J2 (F2.mf (fun a i e => by unfold tp_Sr tp_Sb at e; omega))
  have t2 := J2.P.1.1
  obtain ⟨k1, k2, k3, k4, k5, k6⟩ := K2
  rw [jI_toInt hw.1 hw.2]
  refine ⟨fun cw => ?_, fun cw => ⟨t2, ?_⟩, fun cw => ⟨t2, ?_⟩, fun cw => ⟨t2, ?_⟩, fun cw => ⟨t2, ?_⟩, fun cw => ⟨t2, ?_⟩, fun cw => ⟨t2, ?_⟩, fun cw => ⟨t2, ?_⟩, fun cw => ⟨t2, ?_⟩⟩
  · rw [if_neg (by omega)] at q
    exact q
  all_goals rw [if_pos (show 0 ≤ w ∧ w ≤ 7 by omega)] at q
  · rw [if_pos cw] at q
    rw [J2.R.1]; exact q
  · rw [if_neg (by omega), if_pos cw] at q
    exact ct_204 (by omega) ok ou hR J2.P J2.R hN ⟨_, rfl, q⟩
  · rw [if_neg (by omega), if_neg (by omega), if_pos cw] at q
    rw [k1]; exact q
  · rw [if_neg (by omega), if_neg (by omega), if_neg (by omega), if_pos cw] at q
    rw [k2]; exact q
  · rw [if_neg (by omega), if_neg (by omega), if_neg (by omega), if_neg (by omega), if_pos cw] at q
    rw [k3]; exact q
  · rw [if_neg (by omega), if_neg (by omega), if_neg (by omega), if_neg (by omega), if_neg (by omega), if_pos cw] at q
    rw [k4]; exact q
  · rw [if_neg (by omega), if_neg (by omega), if_neg (by omega), if_neg (by omega), if_neg (by omega), if_neg (by omega), if_pos cw] at q
    rw [k5]; exact q
  · rw [if_neg (by omega), if_neg (by omega), if_neg (by omega), if_neg (by omega), if_neg (by omega), if_neg (by omega), if_neg (by omega)] at q
    rw [k6]; exact q
def an_rowOf (t u rs rx : Nat → Nat) (N : Nat) (z w : Int) : Int := if (0 ≤ z ∧ z < N) ∧ (0 ≤ w ∧ w ≤ 3) then (if w = 0 then (rs z.toNat : Int) else if w = 1 then (rx z.toNat : Int) else if w = 2 then (wk_pd t u rs rx z.toNat : Int) else (wk_mu t u rs rx z.toNat : Int)) else -1
theorem op_111 {z w : Int} (hd : 20 ≤ d) (ok : tp_Ok t) (ou : tp_Ou u) (hR : RwB rs rx) (hN : N ≤ tp_T t) (J : JC E h x zs zt g t u ft tn tb N rs rx la sz ce to) (hz : jb z) (hw : jb w) (q : ∀ h', JC E h' x zs zt g t u ft tn tb N rs rx la sz ce to → CFr x h h' → Q (some (.int (jI (an_rowOf t u rs rx N z w)))) h') : Ct E d 111 [.ref x, .int (jI z), .int (jI w)] h Q := by
  obtain ⟨d, rfl⟩ : ∃ n, d = n + 1 := ⟨d - 1, by omega⟩
  have hT := ok.T
  have l0 := jlt hz 0 (by omega)
  have l2 := jlt hw 0 (by omega)
  have l3 : jI w ≤ jI 3 ↔ w ≤ 3 := jI_le hw.1 hw.2 (by omega) (by omega)
  have e0 : jI w = 0 ↔ w = 0 := by rw [show (0 : Int32) = jI 0 from rfl, jI_eq hw.1 hw.2 (by omega) (by omega)]
  have e1 : jI w = 1 ↔ w = 1 := by rw [show (1 : Int32) = jI 1 from rfl, jI_eq hw.1 hw.2 (by omega) (by omega)]
  have e2 : jI w = 2 ↔ w = 2 := by rw [show (2 : Int32) = jI 2 from rfl, jI_eq hw.1 hw.2 (by omega) (by omega)]
  have R := J.R
  have no : ¬ ((0 ≤ z ∧ z < N) ∧ (0 ≤ w ∧ w ≤ 3)) → Q (some (.int (-1))) h := fun c => by
    have := q h J CFr.rf
    unfold an_rowOf at this
    rw [if_neg c] at this
    exact this
  refine ok_111 ⟨fun c => no ?_, fun c => ⟨J.X.t0, x + 18, J.X.r3, J.X.s18.1, ?_⟩⟩
  · have := l0.mp c; omega
  have c : ¬ z < 0 := fun r => c (l0.mpr r)
  rw [R.2.1, jI_le (by omega) (by omega) hz.1 hz.2]
  refine ⟨fun c1 => no (by omega), fun c1 => ⟨fun c2 => no ?_, fun c2 => ⟨fun c3 => ?_, fun c3 => no ?_⟩⟩⟩
  · have := l2.mp c2; omega
  · have c2 : ¬ w < 0 := fun r => c2 (l2.mpr r)
    have c3 := l3.mp c3
    unfold an_rowOf at q
    rw [if_pos (by omega)] at q
    obtain ⟨z, rfl⟩ := Int.eq_ofNat_of_zero_le (show 0 ≤ z by omega)
    simp only [Int.toNat_natCast] at q
    have A0 := R.1.2.1
    have A1 := R.1.2.2
    have rz := R.2.2 z (by omega)
    refine ⟨fun d0 => ⟨fun d1 => ?_, fun d1 => ?_⟩, fun d0 => ?_⟩
    · rw [e0] at d0
      rw [e1] at d1
      rw [if_neg d0, if_neg d1] at q
      rw [show (1 : Int32) = jI 1 from rfl, jI_add, show (z : Int) + 1 = ((z + 1 : Nat) : Int) from rfl]
      refine ct_131 (n := z + 1) (by omega) ok ou hR J.X J.P R (by omega) hN (fun h4 F4 _ W4 => ⟨rfl, ?_⟩)
      have J4 := J.mv F4 (fun a i e => by omega)
      have q := q h4 J4 (F4.cf (fun a i e => by omega))
      obtain ⟨w9, w10⟩ := W4 (by omega)
      rw [show z + 1 - 1 = z from rfl] at w9 w10
      have s4 : zR h4 x 4 - 1 = x + 21 := by rw [J4.X.r4]; rfl
      have n4 : ¬ zR h4 x 4 = 0 := by rw [J4.X.r4]; omega
      rw [s4, w9, w10]
      refine ⟨⟨fun _ => ⟨J4.X.t0, n4, J4.X.w21.1, trivial⟩, fun _ => ⟨J4.X.t0, n4, J4.X.w21.1, trivial⟩⟩, ?_⟩
      by_cases d2 : w = 2
      · rw [if_pos d2] at q
        rw [if_neg (fun q => q (e2.mpr d2))]
        exact q
      · rw [if_neg d2] at q
        rw [if_pos (fun q => d2 (e2.mp q))]
        exact q
    · rw [e0] at d0
      rw [e1, Classical.not_not] at d1
      rw [if_neg d0, if_pos d1] at q
      refine ⟨x + 18 + 2, A1.1, A1.ti, A1.inn (by omega) (by omega), ?_⟩
      rw [jI_cln (by omega), rz.2]
      exact q h J CFr.rf
    · rw [e0, Classical.not_not] at d0
      rw [if_pos d0] at q
      refine ⟨x + 18 + 1, A0.1, A0.ti, A0.inn (by omega) (by omega), ?_⟩
      rw [jI_cln (by omega), rz.1]
      exact q h J CFr.rf
  · have c3 : ¬ w ≤ 3 := fun r => c3 (l3.mpr r)
    omega
theorem op_206 {z w : Int} (hd : 20 ≤ d) (ok : tp_Ok t) (ou : tp_Ou u) (hR : RwB rs rx) (hN : N ≤ tp_T t) (J : JM h m t u ft tn tb N rs rx la sz ce to) (hz : jb z) (hw : jb w) (q : ∀ h', JM h' m t u ft tn tb N rs rx la sz ce to → MFr m h h' → Q (some (.int (jI (an_rowOf t u rs rx N z w)))) h') : Ct E d 206 [.ref m, .int (jI z), .int (jI w)] h Q := by
  obtain ⟨d, rfl⟩ : ∃ n, d = n + 1 := ⟨d - 1, by omega⟩
  have hT := ok.T
  have g1 : fz_135 E h (jI z).toInt64 0 (((zI h m 36) - 1 : Int32).toInt64) = 0 ↔ ¬ (0 ≤ z ∧ z ≤ (N : Int) - 1) := by
    rw [J.R.1, show (1 : Int32) = jI 1 from rfl, jI_sub]
    have := fz135i (E := E) (h := h) (a := z) (b := 0) (c := (N : Int) - 1) hz.1 hz.2 (by omega) (by omega) (by omega) (by omega)
    rw [show (0 : Int64) = jL 0 from rfl, this]
    exact j01
  have g2 : fz_135 E h (jI w).toInt64 0 3 = 0 ↔ ¬ (0 ≤ w ∧ w ≤ 3) := f135 (a := 0) (b := 3) hw.1 hw.2 (by omega) (by omega) (by omega) (by omega)
  have no : ¬ ((0 ≤ z ∧ z < N) ∧ (0 ≤ w ∧ w ≤ 3)) → Q (some (.int (-1))) h := fun c => by
    have := q h J MFr.rf
    unfold an_rowOf at this
    rw [if_neg c] at this
    exact this
  refine ok_206 ⟨J.P.1.1, by omega, trivial, fun c => no ?_, fun c => ⟨by omega, trivial, fun c2 => ?_, fun c2 => no ?_⟩⟩
  · rw [g1] at c; omega
  · rw [g1, Classical.not_not] at c
    rw [g2, Classical.not_not] at c2
    unfold an_rowOf at q
    rw [if_pos (by omega)] at q
    obtain ⟨z, rfl⟩ := Int.eq_ofNat_of_zero_le c.1
    simp only [Int.toNat_natCast] at q
    refine ct_203 (by omega) ok ou hR J.P J.R hN (fun h2 F2 K2 W2 => ⟨rfl, ?_⟩)
    have J2 := J.fr F2 (fun a i e => by unfold tp_Sr tp_Sb at e; omega)
    have q := q h2 J2 (F2.mf (fun a i e => by unfold tp_Sr tp_Sb at e; omega))
    have S2 := J2.P.1
    have rz := J2.R.2 z (by omega)
    have wz := W2 z (by omega)
    rw [S2.a40.sub, S2.a39.sub, S2.a38.sub, S2.a37.sub, jI_cln (by omega), rz.1, rz.2, wz.1, wz.2]
    refine ⟨⟨fun _ => ⟨⟨fun _ => ⟨⟨fun _ => ⟨S2.1, S2.a40.ne, S2.a40.ti, S2.a40.inn (by omega) (by omega), trivial⟩, fun _ => ⟨S2.1, S2.a39.ne, S2.a39.ti, S2.a39.inn (by omega) (by omega), trivial⟩⟩, trivial⟩, fun _ => ⟨S2.1, S2.a38.ne, S2.a38.ti, S2.a38.inn (by omega) (by omega), trivial⟩⟩, trivial⟩, fun _ => ⟨S2.1, S2.a37.ne, S2.a37.ti, S2.a37.inn (by omega) (by omega), trivial⟩⟩, ?_⟩
    have e0 : jI w = 0 ↔ w = 0 := by rw [show (0 : Int32) = jI 0 from rfl, jI_eq hw.1 hw.2 (by omega) (by omega)]
    have e1 : jI w = 1 ↔ w = 1 := by rw [show (1 : Int32) = jI 1 from rfl, jI_eq hw.1 hw.2 (by omega) (by omega)]
    have e2 : jI w = 2 ↔ w = 2 := by rw [show (2 : Int32) = jI 2 from rfl, jI_eq hw.1 hw.2 (by omega) (by omega)]
    by_cases d0 : w = 0
    · rw [if_pos d0] at q
      rw [if_neg (fun q => q (e0.mpr d0))]
      exact q
    · rw [if_neg d0] at q
      rw [if_pos (fun q => d0 (e0.mp q))]
      by_cases d1 : w = 1
      · rw [if_pos d1] at q
        rw [if_neg (fun q => q (e1.mpr d1))]
        exact q
      · rw [if_neg d1] at q
        rw [if_pos (fun q => d1 (e1.mp q))]
        by_cases d2 : w = 2
        · rw [if_pos d2] at q
          rw [if_neg (fun q => q (e2.mpr d2))]
          exact q
        · rw [if_neg d2] at q
          rw [if_pos (fun q => d2 (e2.mp q))]
          exact q
  · rw [g2] at c2; omega
end OPJ
