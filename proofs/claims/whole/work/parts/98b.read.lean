/-! THE CALLS: read, the class's -/
section OPQ
variable {E : Nat → Nat} {h : ZH} {x m zs zt g tn N d : Nat} {t u rs rx : Nat → Nat} {ft to : Int32} {tb : Nat → Int32} {la sz : Nat → Int} {ce : Nat → Nat → Int32} {Q : Option Value → ZH → Prop}
def rd_c (ce : Nat → Nat → Int32) (K : Nat) (a : Int) (i j : Nat) : Int := (ce K ((a + 2 * (i : Int)).toNat + j)).toInt
abbrev rd_in (sz : Nat → Int) (K : Nat) (a : Int) (i : Nat) : Prop := 0 ≤ a + 2 * (i : Int) ∧ a + 2 * (i : Int) + 1 < sz K
abbrev rd_vs (ce : Nat → Nat → Int32) (K : Nat) (a : Int) (i : Nat) : Prop := (0 ≤ rd_c ce K a i 0 ∧ rd_c ce K a i 0 < 3) ∧ (0 ≤ rd_c ce K a i 1 ∧ rd_c ce K a i 1 ≤ 9)
def rd_go (sz : Nat → Int) (ce : Nat → Nat → Int32) (K : Nat) (a : Int) (T N : Nat) : Nat → Nat → Int × Int × Nat
  | 0, i => (0, 0, i)
  | r + 1, i => if rd_in sz K a i then (if rd_vs ce K a i then (if N + i < T then rd_go sz ce K a T N r (i + 1) else (0, -3, i)) else (0, -20 - (i : Int), i)) else (2, 0, i)
def rd_l (la : Nat → Int) (K : Nat) (w : Int) : Int := if la K = -4 then 1 else if la K = w then 0 else 3
def rd_all (la sz : Nat → Int) (ce : Nat → Nat → Int32) (K : Nat) (w a : Int) (T N n : Nat) : Int × Int × Nat := if n ≠ 0 ∧ rd_l la K w ≠ 0 then (rd_l la K w, 0, 0) else rd_go sz ce K a T N n 0
def rd_r (ce : Nat → Nat → Int32) (K : Nat) (a : Int) (N j : Nat) (f : Nat → Nat) : Nat → Nat → Nat
  | 0 => f
  | i + 1 => rw_s (rd_r ce K a N j f i) (N + i) (rd_c ce K a i j).toNat
theorem rd_r_lt (K : Nat) (a : Int) (N j : Nat) (f : Nat → Nat) : ∀ i k, k < N → rd_r ce K a N j f i k = f k
  | 0, k, _ => rfl
  | i + 1, k, hk => by
    show rw_s (rd_r ce K a N j f i) (N + i) (rd_c ce K a i j).toNat k = f k
    unfold rw_s
    rw [if_neg (by omega)]
    exact rd_r_lt K a N j f i k hk
theorem rd_r_B {K : Nat} {a : Int} (hR : RwB rs rx) : ∀ i, (∀ k, k < i → rd_vs ce K a k) → RwB (rd_r ce K a N 0 rs i) (rd_r ce K a N 1 rx i)
  | 0, _ => hR
  | i + 1, hv => by
    have v := hv i (by omega)
    exact rw_sB (rd_r_B hR i (fun k hk => hv k (by omega))) (by omega) (by omega)
theorem ct_133 {s v : Int} {n i : Nat} (hd : 3 ≤ d) (ok : tp_Ok t) (X : XSh h x) (P : PgR h (x + 1) t u) (R : RwC h (x + 18) n rs rx) (hn : n ≤ tp_T t) (hs : jb s) (hv : jb v) (q1 : ¬ ((0 ≤ s ∧ s < 3) ∧ (0 ≤ v ∧ v ≤ 9)) → Q (some (.int (jI (-20 - (i : Int))))) h) (q2 : (0 ≤ s ∧ s < 3) ∧ (0 ≤ v ∧ v ≤ 9) → ¬ n < tp_T t → Q (some (.int (jI (-3)))) h) (q3 : (0 ≤ s ∧ s < 3) ∧ (0 ≤ v ∧ v ≤ 9) → n < tp_T t → ∀ h', Fr (fun a _ => x + 18 ≤ a ∧ a ≤ x + 18 + 2) h h' → RwC h' (x + 18) (n + 1) (rw_s rs n s.toNat) (rw_s rx n v.toNat) → Q (some (.int (jI 0))) h') : Ct E d 133 [.ref x, .int (jI s), .int (jI v), .int (jI (i : Int))] h Q := by
  obtain ⟨d, rfl⟩ : ∃ n, d = n + 1 := ⟨d - 1, by omega⟩
  have hT := ok.T
  have f : fz_126 E h (jI s) (jI v) = 0 ↔ ¬ ((0 ≤ s ∧ s < 3) ∧ (0 ≤ v ∧ v ≤ 9)) := by
    show (if (fz_120 E h (jI s) : Int32) = 0 then (0 : Int32) else if jI v < jI 0 then 0 else if jI 9 < jI v then 0 else 1) = 0 ↔ _
    simp only [j0c, f120 hs, j10, or_false, jlt hv 0 (by omega), jI_lt (show (-2147483648 : Int) ≤ 9 by omega) (by omega) hv.1 hv.2]
    omega
  refine ok_133 ⟨by omega, ⟨trivial, trivial⟩, fun c => ?_, fun c => ?_⟩
  · rw [f, Classical.not_not] at c
    refine ⟨X.t0, x + 18, X.r3, X.s18.1, x + 1, X.r0, P.1.1.1, ?_⟩
    rw [R.2.1, P.2.2.2.2.2, jI_ltn (by omega) (by omega)]
    refine ⟨fun cN => ?_, fun cN => q2 c cN⟩
    have q3 := q3 c cN
    obtain ⟨s, rfl⟩ := Int.eq_ofNat_of_zero_le c.1.1
    obtain ⟨v, rfl⟩ := Int.eq_ofNat_of_zero_le c.2.1
    simp only [Int.toNat_natCast] at q3
    exact ct_66 (by omega) R (by omega) (fun h6 F6 R6 => ⟨rfl, q3 h6 F6 R6⟩)
  · rw [f] at c
    rw [show (-20 : Int32) = jI (-20) from rfl, jI_sub]
    exact q1 (by omega)
theorem e117 {c e : Int} {a3 a4 a6 a9 : Int32} {s f : Nat} (hc : jb c) (he : jb e) (hce : c ≠ 0 ∨ e ≠ 0) (q : wb_117_76 E d Q x a6 (jI c) (jI e) h) : wl_117_34 E d Q (f + 1) x a3 a4 s a6 (jI c) (jI e) a9 h := by
  rw [wl_117_34]
  refine ⟨fun _ => q, fun _ => ⟨fun _ => q, fun c7 => ⟨fun _ => q, fun c8 => ?_⟩⟩⟩
  exfalso
  rw [show (0 : Int32) = jI 0 from rfl, jI_eq hc.1 hc.2 (by omega) (by omega), Classical.not_not] at c7
  rw [show (0 : Int32) = jI 0 from rfl, jI_eq he.1 he.2 (by omega) (by omega), Classical.not_not] at c8
  omega
theorem jce (v : Int32) : v = jI v.toInt ∧ jb v.toInt := by
  refine ⟨(Int32.ofInt_toInt v).symm, ?_⟩
  obtain ⟨z, z1, z2, rfl⟩ := jI_of v
  rw [jI_toInt z1 z2]
  exact ⟨z1, z2⟩
theorem l117 {h0 : ZH} {K n : Nat} {a : Int} {res : Int × Int × Nat} (hd : 5 ≤ d) (ok : tp_Ok t) (hK : K < 4) (hB : ShB la sz) (ha : jb a) (hn : n ≤ 20) (hN : N ≤ tp_T t) (X0 : XSh h0 x) (P0 : PgR h0 (x + 1) t u) (C0 : ShC h0 x la sz ce) (fin : ∀ h', RwC h' (x + 18) (N + res.2.2) (rd_r ce K a N 0 rs res.2.2) (rd_r ce K a N 1 rx res.2.2) → Fr (fun a _ => x + 18 ≤ a ∧ a ≤ x + 20) h0 h' → (∀ k, k < res.2.2 → rd_vs ce K a k) → N + res.2.2 ≤ tp_T t → wb_117_76 E d Q x (jI (N : Int)) (jI res.1) (jI res.2.1) h') : ∀ (r i : Nat) h1, i + r = n → (∀ k, k < i → rd_vs ce K a k) → N + i ≤ tp_T t → RwC h1 (x + 18) (N + i) (rd_r ce K a N 0 rs i) (rd_r ce K a N 1 rx i) → Fr (fun a _ => x + 18 ≤ a ∧ a ≤ x + 20) h0 h1 → rd_go sz ce K a (tp_T t) N r i = res → wl_117_34 E d Q (r + 1) x (jI a) (jI (n : Int)) (x + 37 + 2 * K) (jI (N : Int)) 0 0 (jI (i : Int)) h1
  | 0, i, h1, e, hv, hi, R1, F1, hr => by
    have ei : i = n := by omega
    subst ei
    rw [rd_go] at hr
    subst hr
    rw [wl_117_34]
    refine ⟨fun _ => fin h1 R1 F1 hv hi, fun c => absurd ?_ c⟩
    exact (jI_len (by omega) (by omega)).mpr (Nat.le_refl _)
  | r + 1, i, h1, e, hv, hi, R1, F1, hr => by
    have hT := ok.T
    have X1 := X0.fr F1
    have y1 : Ag (fun a => a < x + 18 ∨ x + 20 < a) h0 h1 := F1.ag (fun a j ha => by omega)
    have P1 : PgR h1 (x + 1) t u := P0.ag (y1.wk (fun a ha => by unfold Rg at ha; omega))
    obtain ⟨s1, s2⟩ := X1.sh hK
    obtain ⟨c1, c2, c3⟩ := C0 K hK
    have b0 := hB K
    have sz1 : zI h1 (x + 37 + 2 * K) 2 = jI (sz K) := by rw [y1.I (by omega)]; exact c2
    have nxt : ∀ h2 (c' e' : Int), jb c' → jb e' → (c' ≠ 0 ∨ e' ≠ 0) → wb_117_76 E d Q x (jI (N : Int)) (jI c') (jI e') h2 → wb_117_74 E d Q (wl_117_34 E d Q (r + 1)) x (jI a) (jI (n : Int)) (x + 37 + 2 * K) (jI (N : Int)) (jI c') (jI e') (jI (i : Int)) h2 := fun h2 c' e' b1 b2 b3 w => nm_e (e117 b1 b2 b3 w)
    have f69 : ∀ z, jb z → (fz_69 E h1 (x + 37 + 2 * K) (jI z) = 0 ↔ ¬ (0 ≤ z ∧ z < sz K)) := fun z hz => by
      show (if jI z < jI 0 then (0 : Int32) else if zI h1 (x + 37 + 2 * K) 2 ≤ jI z then 0 else 1) = 0 ↔ _
      rw [sz1, jif3 hz.1 hz.2 (by omega) (by omega) (by omega) (by omega)]
      exact j01
    have s69 : ∀ z : Int32, sz_69 E h1 (x + 37 + 2 * K) z := fun z => ⟨⟨fun _ => trivial, fun _ => ⟨s2.1, trivial⟩⟩, trivial⟩
    rw [rd_go] at hr
    rw [wl_117_34]
    refine ⟨fun c => ?_, fun _ => ⟨fun c => absurd rfl c, fun _ => ⟨fun c => absurd rfl c, fun _ => nm_r (e' := jI (a + 2 * (i : Int))) (by rw [show (2 : Int32) = jI 2 from rfl, jI_mul, jI_add]) ⟨s2.1, by omega, s69 _, ?_⟩⟩⟩⟩
    · exfalso
      rw [jI_len (by omega) (by omega)] at c
      omega
    -- the place may lie beyond an int: then it is negative there
    by_cases big : a + 2 * (i : Int) < 2147483648
    · rw [f69 _ ⟨by omega, big⟩]
      have torn : ¬ rd_in sz K a i → wb_117_74 E d Q (wl_117_34 E d Q (r + 1)) x (jI a) (jI (n : Int)) (x + 37 + 2 * K) (jI (N : Int)) 2 0 (jI (i : Int)) h1 := fun cc => by
        rw [if_neg cc] at hr
        subst hr
        exact nxt h1 2 0 (by omega) (by omega) (by omega) (fin h1 R1 F1 hv hi)
      refine ⟨fun cp => torn (by unfold rd_in; omega), fun cp => ⟨by omega, s69 _, ?_⟩⟩
      rw [Classical.not_not] at cp
      rw [show (1 : Int32) = jI 1 from rfl, jI_add, f69 _ ⟨by omega, by omega⟩]
      refine ⟨fun cq => ?_, fun cq => torn (by unfold rd_in; omega)⟩
      rw [Classical.not_not] at cq
      have cin : rd_in sz K a i := by unfold rd_in; omega
      rw [if_pos cin] at hr
      obtain ⟨v0, w0⟩ := jce (ce K ((a + 2 * (i : Int)).toNat + 0))
      obtain ⟨v1, w1⟩ := jce (ce K ((a + 2 * (i : Int)).toNat + 1))
      have r0 : zI h1 (x + 38 + 2 * K) (a + 2 * (i : Int)).toNat = jI (rd_c ce K a i 0) := by
        rw [y1.I (by omega), c3 _ (by omega)]
        exact v0
      have r1 : zI h1 (x + 38 + 2 * K) ((a + 2 * (i : Int)).toNat + 1) = jI (rd_c ce K a i 1) := by
        rw [y1.I (by omega), c3 _ (by omega)]
        exact v1
      refine ⟨x + 37 + 2 * K + 1, s2.2.1, s2.2.ti, s2.2.inb (by omega) (by omega) (by omega), s2.2.inb (by omega) (by omega) (by omega), X1.t0, ?_⟩
      rw [jI_cl (by omega) (by omega), jI_cl (by omega) (by omega), show x + 37 + 2 * K + 1 = x + 38 + 2 * K by omega, show (a + 2 * (i : Int) + 1).toNat = (a + 2 * (i : Int)).toNat + 1 by omega, r0, r1]
      refine ct_133 (by omega) ok X1 P1 R1 hi w0 w1 (fun cv => ?_) (fun cv cN => ?_) (fun cv cN h2 F2 R2 => ?_)
      · rw [if_neg (show ¬ rd_vs ce K a i from cv)] at hr
        subst hr
        exact ⟨_, rfl, nxt h1 0 (-20 - (i : Int)) (by omega) (by omega) (by omega) (fin h1 R1 F1 hv hi)⟩
      · rw [if_pos (show rd_vs ce K a i from cv), if_neg cN] at hr
        subst hr
        exact ⟨_, rfl, nxt h1 0 (-3) (by omega) (by omega) (by omega) (fin h1 R1 F1 hv hi)⟩
      · rw [if_pos (show rd_vs ce K a i from cv), if_pos cN] at hr
        refine ⟨_, rfl, nm_r (e' := jI ((i + 1 : Nat) : Int)) (by rw [show (1 : Int32) = jI 1 from rfl, jI_add]; rfl) (l117 (by omega) ok hK hB ha hn hN X0 P0 C0 fin r (i + 1) h2 (by omega) (fun k hk => ?_) (by omega) R2 (F1.tr (F2.wd (fun a j e => by omega))) hr)⟩
        by_cases ck : k = i
        · subst ck; exact cv
        · exact hv k (by omega)
    · have en : jI (a + 2 * (i : Int)) = jI (a + 2 * (i : Int) - 4294967296) := by
        unfold jI
        rw [Int32.ofInt_sub]
        have : Int32.ofInt 4294967296 = 0 := by decide
        rw [this]
        simp
      rw [en, f69 _ (by omega)]
      refine ⟨fun _ => ?_, fun cp => absurd (by omega) cp⟩
      rw [if_neg (by unfold rd_in; omega)] at hr
      subst hr
      exact nxt h1 2 0 (by omega) (by omega) (by omega) (fin h1 R1 F1 hv hi)
theorem op_117 {k w a n : Int} (hd : 10 ≤ d) (ok : tp_Ok t) (hB : ShB la sz) (hR : RwB rs rx) (hN : N ≤ tp_T t) (J : JC E h x zs zt g t u ft tn tb N rs rx la sz ce to) (hk : jb k) (hw : jb w) (ha : jb a) (hn : jb n) (q1 : ¬ ((0 ≤ k ∧ k < 4) ∧ (0 ≤ w ∧ w < 3) ∧ (0 ≤ n ∧ n ≤ 20)) → Q (some (.int (-1))) h) (q2 : (0 ≤ k ∧ k < 4) → (0 ≤ w ∧ w < 3) → (0 ≤ n ∧ n ≤ 20) → (rd_all la sz ce k.toNat w a (tp_T t) N n.toNat).2.1 ≠ 0 → ∀ h', JC E h' x zs zt g t u ft tn tb N rs rx la sz ce to → CFr x h h' → Q (some (.int (jI (rd_all la sz ce k.toNat w a (tp_T t) N n.toNat).2.1))) h') (q3 : (0 ≤ k ∧ k < 4) → (0 ≤ w ∧ w < 3) → (0 ≤ n ∧ n ≤ 20) → (rd_all la sz ce k.toNat w a (tp_T t) N n.toNat).2.1 = 0 → (∀ j, j < (rd_all la sz ce k.toNat w a (tp_T t) N n.toNat).2.2 → rd_vs ce k.toNat a j) → N + (rd_all la sz ce k.toNat w a (tp_T t) N n.toNat).2.2 ≤ tp_T t → ∀ h', JC E h' x zs zt g t u ft tn tb (N + (rd_all la sz ce k.toNat w a (tp_T t) N n.toNat).2.2) (rd_r ce k.toNat a N 0 rs (rd_all la sz ce k.toNat w a (tp_T t) N n.toNat).2.2) (rd_r ce k.toNat a N 1 rx (rd_all la sz ce k.toNat w a (tp_T t) N n.toNat).2.2) la sz ce (jI (rd_all la sz ce k.toNat w a (tp_T t) N n.toNat).1) → CFr x h h' → Q (some (.int (jI ((rd_all la sz ce k.toNat w a (tp_T t) N n.toNat).2.2 : Int)))) h') : Ct E d 117 [.ref x, .int (jI k), .int (jI w), .int (jI a), .int (jI n)] h Q := by
  obtain ⟨d, rfl⟩ : ∃ n, d = n + 1 := ⟨d - 1, by omega⟩
  have hT := ok.T
  have f1 : fz_124 E h (jI k) = 0 ↔ ¬ (0 ≤ k ∧ k < 4) := by rw [fz124 hk.1 hk.2]; exact j01
  have f2 : fz_125 E h (jI w) = 0 ↔ ¬ (0 ≤ w ∧ w < 3) := by rw [fz125 hw.1 hw.2]; exact j01
  have l0 := jlt hn 0 (by omega)
  have l1 : jI n ≤ jI 20 ↔ n ≤ 20 := jI_le hn.1 hn.2 (by omega) (by omega)
  refine ok_117 ⟨by omega, trivial, fun c => q1 ?_, fun c => ⟨by omega, trivial, fun c2 => q1 ?_, fun c2 => ⟨fun c3 => q1 ?_, fun c3 => ⟨fun c4 => ?_, fun c4 => q1 ?_⟩⟩⟩⟩
  · rw [f1] at c; omega
  · rw [f2] at c2; omega
  · have := l0.mp c3; omega
  · rw [f1, Classical.not_not] at c
    rw [f2, Classical.not_not] at c2
    have c3 : ¬ n < 0 := fun r => c3 (l0.mpr r)
    have c4 := l1.mp c4
    have q2 := q2 c c2 (by omega)
    have q3 := q3 c c2 (by omega)
    obtain ⟨K, rfl⟩ := Int.eq_ofNat_of_zero_le c.1
    obtain ⟨n, rfl⟩ := Int.eq_ofNat_of_zero_le (show 0 ≤ n by omega)
    simp only [Int.toNat_natCast] at q2 q3
    have hK : K < 4 := by omega
    obtain ⟨c1, _, _⟩ := J.C K hK
    obtain ⟨s1, s2⟩ := J.X.sh hK
    have b0 := hB K
    have A := J.X.r7
    have e0 : jI (n : Int) = 0 ↔ n = 0 := by rw [show (0 : Int32) = jI ((0 : Nat) : Int) from rfl, jI_eqn (by omega) (by omega)]
    have e4 : jI (la K) = -4 ↔ la K = -4 := by rw [show (-4 : Int32) = jI (-4) from rfl, jI_eq (by omega) (by omega) (by omega) (by omega)]
    have ew : jI (la K) = jI w ↔ la K = w := jI_eq (by omega) (by omega) (by omega) (by omega)
    have f71 : fz_71 E h (x + 37 + 2 * K) (jI w) = jI (rd_l la K w) := by
      show (if ¬ (zI h (x + 37 + 2 * K) 1 : Int32) = ((-4) : Int32) then (if ¬ (zI h (x + 37 + 2 * K) 1 : Int32) = jI w then 3 else 0) else (1)) = _
      rw [c1]
      unfold rd_l
      by_cases d4 : la K = -4
      · rw [if_neg (fun q => q (e4.mpr d4)), if_pos d4]; rfl
      · rw [if_pos (fun q => d4 (e4.mp q)), if_neg d4]
        by_cases dw : la K = w
        · rw [if_neg (fun q => q (ew.mpr dw)), if_pos dw]; rfl
        · rw [if_pos (fun q => dw (ew.mp q)), if_neg dw]; rfl
    have lb : rd_l la K w = 0 ∨ rd_l la K w = 1 ∨ rd_l la K w = 3 := by
      unfold rd_l
      split
      · simp
      · split <;> simp
    -- behind the loop
    have fin : ∀ h', RwC h' (x + 18) (N + (rd_all la sz ce K w a (tp_T t) N n).2.2) (rd_r ce K a N 0 rs (rd_all la sz ce K w a (tp_T t) N n).2.2) (rd_r ce K a N 1 rx (rd_all la sz ce K w a (tp_T t) N n).2.2) → Fr (fun a _ => x + 18 ≤ a ∧ a ≤ x + 20) h h' → (∀ k, k < (rd_all la sz ce K w a (tp_T t) N n).2.2 → rd_vs ce K a k) → N + (rd_all la sz ce K w a (tp_T t) N n).2.2 ≤ tp_T t → jb (rd_all la sz ce K w a (tp_T t) N n).2.1 → wb_117_76 E d Q x (jI (N : Int)) (jI (rd_all la sz ce K w a (tp_T t) N n).1) (jI (rd_all la sz ce K w a (tp_T t) N n).2.1) h' := by
      generalize rd_all la sz ce K w a (tp_T t) N n = res at q2 q3 ⊢
      obtain ⟨tc, er, cn⟩ := res
      intro h1 R1 F1 hv hc he
      have X1 := J.X.fr F1
      have ee : jI er = 0 ↔ er = 0 := by rw [show (0 : Int32) = jI 0 from rfl, jI_eq he.1 he.2 (by omega) (by omega)]
      have y1 : Ag (fun a => a < x + 18 ∨ x + 20 < a) h h1 := F1.ag (fun a j ha => by omega)
      refine ⟨fun ce0 => ⟨X1.t0, x + 24, X1.r6, X1.t24, ct_15 (by omega) X1.t24 (fun h2 F2 z2 => ?_)⟩, fun ce0 => ⟨X1.t0, x + 18, X1.r3, X1.s18.1, nm_e ?_⟩⟩
      · rw [ee] at ce0
        have X2 := X1.fr F2
        refine ⟨rfl, X2.t0, nm_e ?_⟩
        have F3 : Fr (fun a i => (x + 18 ≤ a ∧ a ≤ x + 20) ∨ (a = x + 24 ∧ i = 10) ∨ (a = x ∧ i = 8)) h (zuI h2 x 8 (jI tc)) := Fr.uI ((F1.wd (fun a j e => Or.inl e)).tr (F2.wd (fun a j e => Or.inr (Or.inl e)))) (Or.inr (Or.inr ⟨rfl, rfl⟩))
        have z3 : zI (zuI h2 x 8 (jI tc)) (x + 24) 10 = 0 := by rw [zI_offa (by omega)]; exact z2
        have o3 : zI (zuI h2 x 8 (jI tc)) x 8 = jI tc := zI_here _ _ _ _
        have R3 : RwC (zuI h2 x 8 (jI tc)) (x + 18) (N + cn) (rd_r ce K a N 0 rs cn) (rd_r ce K a N 1 rx cn) := (R1.ag (F2.ag (fun a j ha => by unfold Rg at ha; omega))).ag (Ag.uI Ag.rf (fun ha => by unfold Rg at ha; omega))
        generalize zuI h2 x 8 (jI tc) = h3 at F3 z3 o3 R3 ⊢
        have X3 := J.X.fr F3
        refine ⟨x + 18, X3.r3, X3.s18.1, ?_⟩
        rw [R3.2.1, jI_sub, show ((N + cn : Nat) : Int) - (N : Int) = (cn : Int) by omega]
        refine q3 ce0 hv hc h3 ?_ (F3.cf (fun a i e => by omega))
        obtain ⟨_, ⟨Sc, hE⟩, P, f, ⟨T1, T2⟩, _, C, o, F⟩ := J
        have yl : Ag (fun a => a < x ∨ (x < a ∧ a < x + 18) ∨ (x + 36 ≤ a ∧ a < x + 70)) h h3 := F3.ag (fun a i ha => by omega)
        refine ⟨X3, ⟨Sc.ag (yl.wk (fun a ha => by omega)), hE⟩, P.ag (yl.wk (fun a ha => by unfold Rg at ha; omega)), by rw [yl.I (by omega)]; exact f, ⟨by rw [yl.I (by omega)]; exact T1, fun i hi => by rw [yl.I (by omega)]; exact T2 i hi⟩, R3, fun k hk => ?_, o3, F.row F3 (fun a i ha => by omega) z3⟩
        obtain ⟨d1, d2, d3⟩ := C k hk
        exact ⟨by rw [yl.I (by omega)]; exact d1, by rw [yl.I (by omega)]; exact d2, fun i hi => by rw [yl.I (by omega)]; exact d3 i hi⟩
      · rw [ee] at ce0
        have F3 : Fr (fun a _ => x + 18 ≤ a ∧ a ≤ x + 20) h (zuI h1 (x + 18) 2 (jI (N : Int))) := Fr.uI F1 (by omega)
        have R3 : RwC (zuI h1 (x + 18) 2 (jI (N : Int))) (x + 18) N rs rx := by
          refine ⟨J.R.1.fr F3, zI_here _ _ _ _, fun k hk => ?_⟩
          have := R1.2.2 k (by omega)
          rw [rd_r_lt K a N 0 rs cn k hk, rd_r_lt K a N 1 rx cn k hk] at this
          rw [zI_offa (by omega), zI_offa (by omega)]
          exact this
        generalize zuI h1 (x + 18) 2 (jI (N : Int)) = h3 at F3 R3 ⊢
        have yl : Ag (fun a => a < x + 18 ∨ x + 20 < a) h h3 := F3.ag (fun a i ha => by omega)
        exact q2 ce0 h3 (J.rw2 (yl.wk (fun a ha => by omega)) (J.X.fr F3) R3 (J.F.ag (yl.wk (fun a ha => by omega)) F3.sz (by unfold ztot; rw [F3.1]))) (F3.cf (fun a i e => by omega))
    refine ⟨J.X.t0, x + 36, A.1, Or.inr A.tg, A.inn (by omega) (by omega), x + 37 + 2 * K, by rw [jI_cln (by omega)]; exact s1, x + 18, J.X.r3, J.X.s18.1, nm_r (e' := jI (N : Int)) J.R.2.1 ⟨⟨fun _ => ⟨s2.1, by omega, ⟨s2.1, fun _ => trivial, fun _ => trivial⟩, trivial⟩, fun _ => trivial⟩, ?_⟩⟩
    have goB : ∀ r i, i + r ≤ 20 → jb (rd_go sz ce K a (tp_T t) N r i).2.1 := by
      intro r
      induction r with
      | zero => intro i hi; show jb 0; omega
      | succ r ih =>
        intro i hi
        rw [rd_go]
        split
        · split
          · split
            · exact ih (i + 1) (by omega)
            · show jb (-3); omega
          · show jb (-20 - (i : Int)); omega
        · show jb 0; omega
    by_cases cz : n ≠ 0 ∧ rd_l la K w ≠ 0
    · have er : rd_all la sz ce K w a (tp_T t) N n = (rd_l la K w, 0, 0) := by unfold rd_all; rw [if_pos cz]
      rw [er] at fin
      refine nm_r (e' := jI (rd_l la K w)) (by rw [if_pos (fun q => cz.1 (e0.mp q)), f71]) ⟨1, e117 (e := 0) (by omega) (by omega) (by omega) (fin h J.R Fr.rf (fun k hk => absurd hk (Nat.not_lt_zero k)) (by show N + 0 ≤ _; omega) (by show jb 0; omega))⟩
    · have er : rd_all la sz ce K w a (tp_T t) N n = rd_go sz ce K a (tp_T t) N n 0 := by unfold rd_all; rw [if_neg cz]
      refine nm_r (e' := 0) ?_ ⟨n + 1, l117 (h0 := h) (by omega) ok hK hB ha (by omega) hN J.X J.P J.C (fun h' R' F' v' c' => fin h' R' F' v' c' (by rw [er]; exact goB n 0 (by omega))) n 0 h (by omega) (fun k hk => by omega) (by omega) J.R Fr.rf er.symm⟩
      by_cases cn : n = 0
      · rw [if_neg (fun q => q (e0.mpr cn))]
      · rw [if_pos (fun q => cn (e0.mp q)), f71, show rd_l la K w = 0 by omega]; rfl
  · have c4 : ¬ n ≤ 20 := fun r => c4 (l1.mpr r)
    omega
end OPQ
