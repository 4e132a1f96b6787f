/-! THE CALLS: takes, ends, best -/
section OPD
variable {E : Nat → Nat} {h : ZH} {x m zs zt g tn N d : Nat} {t u rs rx : Nat → Nat} {ft to : Int32} {tb : Nat → Int32} {la sz : Nat → Int} {ce : Nat → Nat → Int32} {Q : Option Value → ZH → Prop}
def tk_pd (t u : Nat → Nat) (z c n k s y : Nat) : Int := ((tp_nC t u z c n k y * tp_un t (t (20 + s)) 1 + tp_fl t u z c n k y : Nat) : Int)
def an_takes (t u : Nat → Nat) (z c n k s y w : Int) : Int := if tp_pl t z c n k s ∧ (0 ≤ y ∧ y ≤ 4) ∧ (0 ≤ w ∧ w ≤ 3) then (if tp_lo t u z.toNat ≤ y.toNat ∧ y.toNat ≤ tp_hi t u z.toNat then (if w = 0 then (tp_c1 t u z.toNat c.toNat n.toNat k.toNat y.toNat : Int) else if w = 1 then (tp_m1 t u z.toNat c.toNat n.toNat k.toNat y.toNat : Int) else if w = 2 then tk_pd t u z.toNat c.toNat n.toNat k.toNat s.toNat y.toNat else 100 * (t (20 + s.toNat) : Int) * y - tk_pd t u z.toNat c.toNat n.toNat k.toNat s.toNat y.toNat) else -1000002) else -1000000
theorem s27 {mv p s : Nat} (ht : ztag h mv = 2) (P : PgC h p t u) (hs : s < 3) : sz_27 E h mv p (jI (s : Int)) := by
  have e : (20 + jI (s : Int) : Int32) = jI ((20 + s : Nat) : Int) := by rw [show (20 : Int32) = jI 20 from rfl, jI_add]; rfl
  refine ⟨ht, P.1.1, p + 1, P.1.2.1.1, P.1.2.1.ti, ?_, sz47 P, trivial⟩
  rw [e]
  exact P.1.2.1.inn (by omega) (by omega)
theorem f27 {mv p s z c n k y : Nat} (ok : tp_Ok t) (P : PgC h p t u) (hs : s < 3) (h2 : zI h mv 2 = jI (tp_nC t u z c n k y : Int)) (h7 : zI h mv 7 = jI (tp_fl t u z c n k y : Int)) : fz_27 E h mv p (jI (s : Int)) = jI (tk_pd t u z c n k s y) := by
  have e : (20 + jI (s : Int) : Int32) = jI ((20 + s : Nat) : Int) := by rw [show (20 : Int32) = jI 20 from rfl, jI_add]; rfl
  show (zI h mv 2 * fz_47 E h p (zI h (zR h p 0 - 1) (20 + jI (s : Int) : Int32).toNatClampNeg) (jI ((1 : Nat) : Int)) + zI h mv 7 : Int32) = _
  rw [e, jI_cln (by omega), P.1.2.1.sub, P.2.1 _ (by omega), fz47 ok P, h2, h7, jI_mul, jI_add]
  unfold tk_pd
  rw [Int.natCast_add, Int.natCast_mul]
theorem op_98 {z c n k s y w : Int} (hd : 8 ≤ d) (ok : tp_Ok t) (ou : tp_Ou u) (J : JC E h x zs zt g t u ft tn tb N rs rx la sz ce to) (hz : jb z) (hc : jb c) (hn : jb n) (hk : jb k) (hs : jb s) (hy : jb y) (hw : jb w) (q : ∀ h', JC E h' x zs zt g t u ft tn tb N rs rx la sz ce to → CFr x h h' → Q (some (.int (jI (an_takes t u z c n k s y w)))) h') : Ct E d 98 [.ref x, .int (jI z), .int (jI c), .int (jI n), .int (jI k), .int (jI s), .int (jI y), .int (jI w)] h Q := by
  obtain ⟨d, rfl⟩ : ∃ n, d = n + 1 := ⟨d - 1, by omega⟩
  have P := J.P
  have hT := ok.T
  have f := f127 (E := E) ok J.X P hz hc hn hk hs
  refine ok_98 (fun x1 ex1 => ?_)
  have g1 : x1 = 0 ↔ ¬ ((0 ≤ y ∧ y ≤ 4) ∧ (0 ≤ w ∧ w ≤ 3)) := by
    rw [ex1, show (0 : Int32) = jI 0 from rfl, show (4 : Int32) = jI 4 from rfl, show (3 : Int32) = jI 3 from rfl]
    show (if jI y < jI 0 then (0 : Int32) else if jI 4 < jI y then 0 else if jI w < jI 0 then 0 else if jI 3 < jI w then 0 else 1) = 0 ↔ _
    simp only [j0c, j10, or_false, jlt hy 0 (by omega), jlt hw 0 (by omega), jI_lt (show (-2147483648 : Int) ≤ 4 by omega) (by omega) hy.1 hy.2, jI_lt (show (-2147483648 : Int) ≤ 3 by omega) (by omega) hw.1 hw.2]
    omega
  unfold an_takes at q
  refine ⟨fun c1 => ?_, fun c1 => ⟨J.X.t0, by omega, s127 (a1 := 0) J.X P, fun c2 => ?_, fun c2 => ?_⟩⟩
  · rw [g1] at c1
    rw [if_neg (fun q => c1 q.2)] at q
    exact q h J CFr.rf
  · rw [g1, Classical.not_not] at c1
    rw [f, Classical.not_not] at c2
    rw [if_pos ⟨c2, c1⟩] at q
    obtain ⟨z, c, n, k, s, rfl, rfl, rfl, rfl, rfl, b1, b2, b3, b4, b5⟩ := pl_nat c2
    obtain ⟨y, rfl⟩ := Int.eq_ofNat_of_zero_le c1.1.1
    simp only [Int.toNat_natCast] at q
    refine ⟨x + 1, J.X.r0, P.1.1.1, by omega, sz46 P.1 (by omega), ?_⟩
    rw [fz46 ok ou P.1 (by omega) (by omega), j01]
    refine ⟨fun c3 => ?_, fun c3 => ?_⟩
    · rw [Classical.not_not] at c3
      rw [if_pos c3] at q
      refine ⟨x + 23, J.X.r5, J.X.t23, Ct.mono (ct_25 (by omega) ok P J.X.t23 b1 b2 b3 b4 (by omega)) ?_⟩
      rintro v h7 ⟨rfl, F7, M7⟩
      have J7 := J.mv F7 (fun a i e => by omega)
      have X7 := J7.X
      have P7 := J7.P
      have q := q h7 J7 (F7.cf (fun a i e => by omega))
      rw [jI_toInt hw.1 hw.2]
      refine ⟨rfl, fun cw => ⟨X7.t0, x + 23, X7.r5, x + 1, X7.r0, X7.t23, by omega, ?_, ?_⟩, fun cw => ⟨X7.t0, x + 23, X7.r5, X7.t23, ?_⟩, fun cw => ⟨X7.t0, x + 23, X7.r5, X7.t23, ?_⟩, fun cw => ⟨X7.t0, x + 23, X7.r5, x + 1, X7.r0, X7.t23, by omega, s27 X7.t23 P7.1 b5, ?_⟩⟩
      · have e : (20 + jI (s : Int) : Int32) = jI ((20 + s : Nat) : Int) := by rw [show (20 : Int32) = jI 20 from rfl, jI_add]; rfl
        refine ⟨P7.1.1.1, x + 1 + 1, P7.1.1.2.1.1, P7.1.1.2.1.ti, ?_, X7.t23, s27 X7.t23 P7.1 b5, trivial⟩
        rw [e]
        exact P7.1.1.2.1.inn (by omega) (by omega)
      · rw [if_neg (by omega), if_neg (by omega), if_neg (by omega)] at q
        have e : (20 + jI (s : Int) : Int32) = jI ((20 + s : Nat) : Int) := by rw [show (20 : Int32) = jI 20 from rfl, jI_add]; rfl
        have : fz_28 E h7 (x + 23) (x + 1) (jI (s : Int)) = jI (100 * (t (20 + s) : Int) * y - tk_pd t u z c n k s y) := by
          show (100 * zI h7 (zR h7 (x + 1) 0 - 1) (20 + jI (s : Int) : Int32).toNatClampNeg * zI h7 (x + 23) 0 - fz_27 E h7 (x + 23) (x + 1) (jI (s : Int)) : Int32) = _
          rw [f27 ok P7.1 b5 M7.2.2.1 M7.2.2.2.2.2.2.2.1, M7.1, e, jI_cln (by omega), P7.1.1.2.1.sub, P7.1.2.1 _ (by omega), show (100 : Int32) = jI 100 from rfl, jI_mul, jI_mul, jI_sub]
        rw [this]
        exact q
      · rw [if_pos cw] at q
        rw [M7.2.2.2.1]
        exact q
      · rw [if_neg (by omega), if_pos cw] at q
        rw [M7.2.2.2.2.1]
        exact q
      · rw [if_neg (by omega), if_neg (by omega), if_pos cw] at q
        rw [f27 ok P7.1 b5 M7.2.2.1 M7.2.2.2.2.2.2.2.1]
        exact q
    · rw [Classical.not_not] at c3
      rw [if_neg c3] at q
      exact q h J CFr.rf
  · rw [f] at c2
    rw [if_neg (fun q => c2 (fun r => r q.1))] at q
    exact q h J CFr.rf
theorem op_170 {z c n k s y w : Int} (hd : 8 ≤ d) (ok : tp_Ok t) (ou : tp_Ou u) (J : JM h m t u ft tn tb N rs rx la sz ce to) (hz : jb z) (hc : jb c) (hn : jb n) (hk : jb k) (hs : jb s) (hy : jb y) (hw : jb w) (q : ∀ h', JM h' m t u ft tn tb N rs rx la sz ce to → MFr m h h' → Q (some (.int (jI (an_takes t u z c n k s y w)))) h') : Ct E d 170 [.ref m, .int (jI z), .int (jI c), .int (jI n), .int (jI k), .int (jI s), .int (jI y), .int (jI w)] h Q := by
  obtain ⟨d, rfl⟩ : ∃ n, d = n + 1 := ⟨d - 1, by omega⟩
  have P := J.P
  have hT := ok.T
  have f := f169 (E := E) ok P hz hc hn hk hs
  have g1 : fz_135 E h (jI y).toInt64 0 4 = 0 ↔ ¬ (0 ≤ y ∧ y ≤ 4) := f135 (a := 0) (b := 4) hy.1 hy.2 (by omega) (by omega) (by omega) (by omega)
  have g2 : fz_135 E h (jI w).toInt64 0 3 = 0 ↔ ¬ (0 ≤ w ∧ w ≤ 3) := f135 (a := 0) (b := 3) hw.1 hw.2 (by omega) (by omega) (by omega) (by omega)
  unfold an_takes at q
  refine ok_170 ⟨P.1.1, by omega, s169 P, fun c1 => ?_, fun c1 => ⟨by omega, trivial, fun c2 => ?_, fun c2 => ⟨by omega, trivial, fun c3 => ?_, fun c3 => ?_⟩⟩⟩
  · rw [f] at c1
    rw [if_neg (fun q => c1 q.1)] at q
    exact q h J MFr.rf
  · rw [g1] at c2
    rw [if_neg (fun q => c2 q.2.1)] at q
    exact q h J MFr.rf
  · rw [f, Classical.not_not] at c1
    rw [g1, Classical.not_not] at c2
    rw [g2, Classical.not_not] at c3
    rw [if_pos ⟨c1, c2, c3⟩] at q
    obtain ⟨z, c, n, k, s, rfl, rfl, rfl, rfl, rfl, b1, b2, b3, b4, b5⟩ := pl_nat c1
    obtain ⟨y, rfl⟩ := Int.eq_ofNat_of_zero_le c2.1
    simp only [Int.toNat_natCast] at q
    refine ⟨by omega, sz163 P (by omega), ?_⟩
    rw [fz163 ok ou P (by omega) (by omega), j01]
    refine ⟨fun c4 => ?_, fun c4 => ?_⟩
    · rw [Classical.not_not] at c4
      rw [if_pos c4] at q
      refine ct_167 (by omega) ok ou P b1 b2 b3 b4 b5 (by omega) (fun h2 F2 K2 => ?_)
      have J2 := J.fr F2 (fun a i e => by unfold tp_Sm at e; omega)
      have q := q h2 J2 (F2.mf (fun a i e => by unfold tp_Sm at e; omega))
      have e0 : jI w = 0 ↔ w = 0 := by rw [show (0 : Int32) = jI 0 from rfl, jI_eq hw.1 hw.2 (by omega) (by omega)]
      have e1 : jI w = 1 ↔ w = 1 := by rw [show (1 : Int32) = jI 1 from rfl, jI_eq hw.1 hw.2 (by omega) (by omega)]
      have e2 : jI w = 2 ↔ w = 2 := by rw [show (2 : Int32) = jI 2 from rfl, jI_eq hw.1 hw.2 (by omega) (by omega)]
      refine ⟨rfl, ⟨fun _ => ⟨⟨fun _ => ⟨⟨fun _ => ⟨J2.P.1.1, by omega, sz168 J2.P b5, trivial⟩, fun _ => ⟨J2.P.1.1, trivial⟩⟩, trivial⟩, fun _ => ⟨J2.P.1.1, trivial⟩⟩, trivial⟩, fun _ => ⟨J2.P.1.1, by omega, trivial, trivial⟩⟩, ?_⟩
      have hC : tp_nC t u z c n k y ≤ y := by unfold tp_nC; omega
      have : (if ¬ jI w = 0 then if ¬ jI w = 1 then if ¬ jI w = 2 then fz_168 E h2 m (jI (s : Int)) (jI (y : Int)) else zI h2 m 23 else zI h2 m 22 else fz_164 E h2 (zI h2 m 21) 20 : Int32) = jI (if w = 0 then (tp_c1 t u z c n k y : Int) else if w = 1 then (tp_m1 t u z c n k y : Int) else if w = 2 then tk_pd t u z c n k s y else 100 * (t (20 + s) : Int) * y - tk_pd t u z c n k s y) := by
        by_cases d0 : w = 0
        · rw [if_neg (fun q => q (e0.mpr d0)), if_pos d0, K2.1, show (20 : Int32) = jI ((20 : Nat) : Int) from rfl, fz164 (by omega) (by omega)]
          unfold tp_c1
          rw [Nat.min_comm]
        · rw [if_pos (fun q => d0 (e0.mp q)), if_neg d0]
          by_cases d1 : w = 1
          · rw [if_neg (fun q => q (e1.mpr d1)), if_pos d1, K2.2.1]
          · rw [if_pos (fun q => d1 (e1.mp q)), if_neg d1]
            by_cases d2 : w = 2
            · rw [if_neg (fun q => q (e2.mpr d2)), if_pos d2, K2.2.2.1]
              rfl
            · rw [if_pos (fun q => d2 (e2.mp q)), if_neg d2, fz168 J2.P b5 K2.2.2.1]
              rfl
      rw [this]
      exact q
    · rw [Classical.not_not] at c4
      rw [if_neg c4] at q
      exact q h J MFr.rf
  · rw [g2] at c3
    rw [if_neg (fun q => c3 (fun r => r q.2.2))] at q
    exact q h J MFr.rf
def an_ends (t u : Nat → Nat) (z c k w : Int) : Int := if (0 ≤ z ∧ z < t 0) ∧ (0 ≤ c ∧ c ≤ 20) ∧ (0 ≤ k ∧ k ≤ 8) ∧ (0 ≤ w ∧ w ≤ 3) then (if w = 0 then (tp_sE t u z.toNat c.toNat k.toNat : Int) else if w = 1 then ((100 * t 6 * tp_sE t u z.toNat c.toNat k.toNat : Nat) : Int) else if w = 2 then (tp_mE t u z.toNat c.toNat k.toNat : Int) else (tp_kE t u z.toNat c.toNat : Int)) else -1
theorem op_99 {z c k w : Int} (hd : 8 ≤ d) (ok : tp_Ok t) (ou : tp_Ou u) (J : JC E h x zs zt g t u ft tn tb N rs rx la sz ce to) (hz : jb z) (hc : jb c) (hk : jb k) (hw : jb w) (q : ∀ h', JC E h' x zs zt g t u ft tn tb N rs rx la sz ce to → CFr x h h' → Q (some (.int (jI (an_ends t u z c k w)))) h') : Ct E d 99 [.ref x, .int (jI z), .int (jI c), .int (jI k), .int (jI w)] h Q := by
  obtain ⟨d, rfl⟩ : ∃ n, d = n + 1 := ⟨d - 1, by omega⟩
  have P := J.P
  have hT := ok.T
  have f36 : fz_36 E h (x + 1) (jI z) = 0 ↔ ¬ (0 ≤ z ∧ z < t 0) := by rw [fz36 ok P.1 hz.1 hz.2]; exact j01
  refine ok_99 ⟨by omega, trivial, ⟨fun _ => trivial, fun _ => ⟨by omega, trivial, trivial⟩⟩, fun x1 ex1 => ?_⟩
  have g1 : x1 = 0 ↔ ¬ ((0 ≤ c ∧ c ≤ 20) ∧ (0 ≤ k ∧ k ≤ 8) ∧ (0 ≤ w ∧ w ≤ 3)) := by
    rw [ex1]
    show (if (fz_121 E h (jI c) : Int32) = 0 then (0 : Int32) else if (fz_122 E h (jI k) : Int32) = 0 then 0 else if jI w < jI 0 then 0 else if jI 3 < jI w then 0 else 1) = 0 ↔ _
    simp only [j0c, j10, or_false, f121 hc, f122 hk, jlt hw 0 (by omega), jI_lt (show (-2147483648 : Int) ≤ 3 by omega) (by omega) hw.1 hw.2]
    omega
  unfold an_ends at q
  refine ⟨fun c1 => ?_, fun c1 => ⟨J.X.t0, x + 1, J.X.r0, P.1.1.1, by omega, sz36 P.1, fun c2 => ?_, fun c2 => ?_⟩⟩
  · rw [g1] at c1
    rw [if_neg (fun q => c1 q.2)] at q
    exact q h J CFr.rf
  · rw [g1, Classical.not_not] at c1
    rw [f36, Classical.not_not] at c2
    rw [if_pos ⟨c2, c1⟩] at q
    obtain ⟨z, rfl⟩ := Int.eq_ofNat_of_zero_le c2.1
    obtain ⟨c, rfl⟩ := Int.eq_ofNat_of_zero_le c1.1.1
    obtain ⟨k, rfl⟩ := Int.eq_ofNat_of_zero_le c1.2.1.1
    simp only [Int.toNat_natCast] at q
    have o1 := ok.2.1
    have hr := jrow (t 1) (show z < t 0 by omega)
    refine ⟨x + 23, J.X.r5, J.X.t23, ct_24 (by omega) J.X.t23 ⟨rfl, ?_⟩⟩
    have F7 : Fr (fun a _ => a = x + 23) h (zuI (zuI (zuI h (x + 23) 3 (jI (c : Int))) (x + 23) 4 0) (x + 23) 5 (jI (k : Int))) := Fr.uI (Fr.uI (Fr.uI Fr.rf rfl) rfl) rfl
    have m3 : zI (zuI (zuI (zuI h (x + 23) 3 (jI (c : Int))) (x + 23) 4 0) (x + 23) 5 (jI (k : Int))) (x + 23) 3 = jI (c : Int) := by rw [zI_offi (by omega), zI_offi (by omega), zI_here]
    have m5 : zI (zuI (zuI (zuI h (x + 23) 3 (jI (c : Int))) (x + 23) 4 0) (x + 23) 5 (jI (k : Int))) (x + 23) 5 = jI (k : Int) := by rw [zI_here]
    generalize zuI (zuI (zuI h (x + 23) 3 (jI (c : Int))) (x + 23) 4 0) (x + 23) 5 (jI (k : Int)) = h7 at F7 m3 m5 ⊢
    have J7 := J.mv F7 (fun a i e => by omega)
    have e37 : fz_37 E h7 (x + 1) (jI (z : Int)) = jI ((z * t 1 + t 1 - 1 : Nat) : Int) := by
      rw [fz37 J7.P.1]
      congr 1
      have : ((z : Int) + 1) * (t 1 : Int) = ((z * t 1 + t 1 : Nat) : Int) := by rw [Int.add_mul, Int.one_mul]; simp
      omega
    have ed : z * t 1 + t 1 - 1 + 1 = z * t 1 + t 1 := by omega
    have e1 : (z * t 1 + t 1 - 1 + 1) % t 1 = 0 := by rw [ed, ← Nat.succ_mul]; exact Nat.mul_mod_left _ _
    have e2 : (z * t 1 + t 1 - 1) / t 1 = z := by
      rw [show z * t 1 + t 1 - 1 = t 1 * z + (t 1 - 1) by rw [Nat.mul_comm]; omega, Nat.mul_add_div (by omega), Nat.div_eq_of_lt (by omega)]
      rfl
    refine ⟨J7.X.t0, x + 23, J7.X.r5, x + 1, J7.X.r0, J7.P.1.1.1, by omega, sz37 J7.P.1, J7.X.t23, ?_⟩
    rw [e37]
    refine Ct.mono (ct_26 (m := 0) (c := c) (k := k) (by omega) ok J7.P J7.X.t23 (by unfold tp_T; omega) (by omega) (by omega) m3 m5) ?_
    rintro v h13 ⟨rfl, F13, -, M13⟩
    obtain ⟨-, n4, n5, n6, n8⟩ := M13 e1
    rw [e2] at n4 n5 n6 n8
    have J13 := J7.mv F13 (fun a i e => by omega)
    have q := q h13 J13 ((F7.cf (fun a i e => by omega)).tr (F13.cf (fun a i e => by omega)))
    have X13 := J13.X
    rw [jI_toInt hw.1 hw.2]
    refine ⟨rfl, fun cw => ⟨X13.t0, x + 23, X13.r5, X13.t23, ?_⟩, fun cw => ⟨X13.t0, x + 23, X13.r5, X13.t23, ?_⟩, fun cw => ⟨X13.t0, x + 23, X13.r5, X13.t23, ?_⟩, fun cw => ⟨X13.t0, x + 23, X13.r5, X13.t23, ?_⟩⟩
    · rw [if_neg (by omega), if_neg (by omega), if_neg (by omega)] at q
      rw [n5]; exact q
    · rw [if_pos cw] at q
      rw [n6]; exact q
    · rw [if_neg (by omega), if_pos cw] at q
      rw [n8]; exact q
    · rw [if_neg (by omega), if_neg (by omega), if_pos cw] at q
      rw [n4]; exact q
  · rw [f36] at c2
    rw [if_neg (fun q => c2 (fun r => r q.1))] at q
    exact q h J CFr.rf
theorem op_174 {z c k w : Int} (hd : 8 ≤ d) (ok : tp_Ok t) (ou : tp_Ou u) (J : JM h m t u ft tn tb N rs rx la sz ce to) (hz : jb z) (hc : jb c) (hk : jb k) (hw : jb w) (q : ∀ h', JM h' m t u ft tn tb N rs rx la sz ce to → MFr m h h' → Q (some (.int (jI (an_ends t u z c k w)))) h') : Ct E d 174 [.ref m, .int (jI z), .int (jI c), .int (jI k), .int (jI w)] h Q := by
  obtain ⟨d, rfl⟩ : ∃ n, d = n + 1 := ⟨d - 1, by omega⟩
  have P := J.P
  have f : fz_160 E h m (jI z) = 0 ↔ ¬ (0 ≤ z ∧ z < t 0) := by rw [fz160 ok P hz.1 hz.2]; exact j01
  have g1 : fz_135 E h (jI c).toInt64 0 20 = 0 ↔ ¬ (0 ≤ c ∧ c ≤ 20) := f135 (a := 0) (b := 20) hc.1 hc.2 (by omega) (by omega) (by omega) (by omega)
  have g2 : fz_135 E h (jI k).toInt64 0 8 = 0 ↔ ¬ (0 ≤ k ∧ k ≤ 8) := f135 (a := 0) (b := 8) hk.1 hk.2 (by omega) (by omega) (by omega) (by omega)
  have g3 : fz_135 E h (jI w).toInt64 0 3 = 0 ↔ ¬ (0 ≤ w ∧ w ≤ 3) := f135 (a := 0) (b := 3) hw.1 hw.2 (by omega) (by omega) (by omega) (by omega)
  unfold an_ends at q
  refine ok_174 ⟨P.1.1, by omega, sz160 P, fun c1 => ?_, fun c1 => ⟨by omega, trivial, fun c2 => ?_, fun c2 => ⟨by omega, trivial, fun c3 => ?_, fun c3 => ⟨by omega, trivial, fun c4 => ?_, fun c4 => ?_⟩⟩⟩⟩
  · rw [f] at c1
    rw [if_neg (fun q => c1 q.1)] at q
    exact q h J MFr.rf
  · rw [g1] at c2
    rw [if_neg (fun q => c2 q.2.1)] at q
    exact q h J MFr.rf
  · rw [g2] at c3
    rw [if_neg (fun q => c3 q.2.2.1)] at q
    exact q h J MFr.rf
  · rw [f, Classical.not_not] at c1
    rw [g1, Classical.not_not] at c2
    rw [g2, Classical.not_not] at c3
    rw [g3, Classical.not_not] at c4
    rw [if_pos ⟨c1, c2, c3, c4⟩] at q
    obtain ⟨z, rfl⟩ := Int.eq_ofNat_of_zero_le c1.1
    obtain ⟨c, rfl⟩ := Int.eq_ofNat_of_zero_le c2.1
    obtain ⟨k, rfl⟩ := Int.eq_ofNat_of_zero_le c3.1
    simp only [Int.toNat_natCast] at q
    refine ct_171 (by omega) ok ou P (by omega) (by omega) (by omega) (fun h2 e2 => ?_)
    have F2 : Fr (tp_Sm m 25 26) h h2 := by rw [e2]; exact Fr.uI (Fr.uI Fr.rf (by unfold tp_Sm; omega)) (by unfold tp_Sm; omega)
    have i25 : zI h2 m 25 = jI (tp_sE t u z c k : Int) := by rw [e2, zI_offi (by omega), zI_here]
    have i26 : zI h2 m 26 = jI (tp_kE t u z c : Int) := by rw [e2, zI_here]
    have J2 := J.fr F2 (fun a i e => by unfold tp_Sm at e; omega)
    have q := q h2 J2 (F2.mf (fun a i e => by unfold tp_Sm at e; omega))
    have e0 : jI w = 0 ↔ w = 0 := by rw [show (0 : Int32) = jI 0 from rfl, jI_eq hw.1 hw.2 (by omega) (by omega)]
    have e1 : jI w = 1 ↔ w = 1 := by rw [show (1 : Int32) = jI 1 from rfl, jI_eq hw.1 hw.2 (by omega) (by omega)]
    have e3 : jI w = 2 ↔ w = 2 := by rw [show (2 : Int32) = jI 2 from rfl, jI_eq hw.1 hw.2 (by omega) (by omega)]
    refine ⟨rfl, ⟨fun _ => ⟨⟨fun _ => ⟨⟨fun _ => ⟨J2.P.1.1, trivial⟩, fun _ => ⟨J2.P.1.1, by omega, sz173 J2.P, trivial⟩⟩, trivial⟩, fun _ => ⟨J2.P.1.1, by omega, sz172 J2.P, trivial⟩⟩, trivial⟩, fun _ => ⟨J2.P.1.1, trivial⟩⟩, ?_⟩
    have : (if ¬ jI w = 0 then if ¬ jI w = 1 then if ¬ jI w = 2 then zI h2 m 26 else fz_173 E h2 m else fz_172 E h2 m else zI h2 m 25 : Int32) = jI (if w = 0 then (tp_sE t u z c k : Int) else if w = 1 then ((100 * t 6 * tp_sE t u z c k : Nat) : Int) else if w = 2 then (tp_mE t u z c k : Int) else (tp_kE t u z c : Int)) := by
      by_cases d0 : w = 0
      · rw [if_neg (fun q => q (e0.mpr d0)), if_pos d0, i25]
      · rw [if_pos (fun q => d0 (e0.mp q)), if_neg d0]
        by_cases d1 : w = 1
        · rw [if_neg (fun q => q (e1.mpr d1)), if_pos d1, fz172 J2.P i25]
        · rw [if_pos (fun q => d1 (e1.mp q)), if_neg d1]
          by_cases d2 : w = 2
          · rw [if_neg (fun q => q (e3.mpr d2)), if_pos d2, fz173 ok J2.P i25]
            rfl
          · rw [if_pos (fun q => d2 (e3.mp q)), if_neg d2, i26]
    rw [this]
    exact q
  · rw [g3] at c4
    rw [if_neg (fun q => c4 (fun r => r q.2.2.2))] at q
    exact q h J MFr.rf
end OPD
