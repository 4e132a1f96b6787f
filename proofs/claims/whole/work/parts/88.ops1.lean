/-! THE CALLS: fault, told, shut, year, whose -/
theorem jif2 {z a b : Int} (h1 : -2147483648 ≤ z) (h2 : z < 2147483648) (h3 : -2147483648 ≤ a) (h4 : a < 2147483648) (h5 : -2147483648 ≤ b) (h6 : b < 2147483648) : (if jI z < jI a then (0 : Int32) else if jI b < jI z then 0 else 1) = if a ≤ z ∧ z ≤ b then 1 else 0 := by
  by_cases c1 : z < a
  · rw [if_pos ((jI_lt h1 h2 h3 h4).mpr c1), if_neg (by omega)]
  · rw [if_neg (fun q => c1 ((jI_lt h1 h2 h3 h4).mp q))]
    by_cases c2 : b < z
    · rw [if_pos ((jI_lt h5 h6 h1 h2).mpr c2), if_neg (by omega)]
    · rw [if_neg (fun q => c2 ((jI_lt h5 h6 h1 h2).mp q)), if_pos (by omega)]
theorem jif3 {z a b : Int} (h1 : -2147483648 ≤ z) (h2 : z < 2147483648) (h3 : -2147483648 ≤ a) (h4 : a < 2147483648) (h5 : -2147483648 ≤ b) (h6 : b < 2147483648) : (if jI z < jI a then (0 : Int32) else if jI b ≤ jI z then 0 else 1) = if a ≤ z ∧ z < b then 1 else 0 := by
  by_cases c1 : z < a
  · rw [if_pos ((jI_lt h1 h2 h3 h4).mpr c1), if_neg (by omega)]
  · rw [if_neg (fun q => c1 ((jI_lt h1 h2 h3 h4).mp q))]
    by_cases c2 : b ≤ z
    · rw [if_pos ((jI_le h5 h6 h1 h2).mpr c2), if_neg (by omega)]
    · rw [if_neg (fun q => c2 ((jI_le h5 h6 h1 h2).mp q)), if_pos (by omega)]
theorem j01 {p : Prop} [Decidable p] : (if p then (1 : Int32) else 0) = 0 ↔ ¬ p := by
  split
  · next c => exact ⟨fun q => absurd q (by decide), fun q => absurd c q⟩
  · next c => exact ⟨fun _ => c, fun _ => rfl⟩
section OPA
variable {E : Nat → Nat} {h : ZH} {x m zs zt g tn N d : Nat} {t u rs rx : Nat → Nat} {ft to : Int32} {tb : Nat → Int32} {la sz : Nat → Int} {ce : Nat → Nat → Int32} {Q : Option Value → ZH → Prop}
theorem XSh.t0 (X : XSh h x) : ztag h x = 10 := X.1.1
theorem XSh.r0 (X : XSh h x) : zR h x 0 = x + 1 + 1 := X.1.2.1
theorem XSh.r1 (X : XSh h x) : zR h x 1 = x + 8 + 1 := X.1.2.2.1
theorem XSh.r2 (X : XSh h x) : zR h x 2 = x + 10 + 1 := X.1.2.2.2.1
theorem XSh.r3 (X : XSh h x) : zR h x 3 = x + 18 + 1 := X.1.2.2.2.2.1
theorem XSh.r4 (X : XSh h x) : zR h x 4 = x + 21 + 1 := X.1.2.2.2.2.2.1
theorem XSh.r5 (X : XSh h x) : zR h x 5 = x + 23 + 1 := X.1.2.2.2.2.2.2.1
theorem XSh.r6 (X : XSh h x) : zR h x 6 = x + 24 + 1 := X.1.2.2.2.2.2.2.2.1
theorem XSh.r7 (X : XSh h x) : zAr h x 7 (x + 36) 17 4 := X.1.2.2.2.2.2.2.2.2
theorem XSh.t10 (X : XSh h x) : ztag h (x + 10) = 4 := X.2.2.2.2.1.1
theorem XSh.w21 (X : XSh h x) : WSh h (x + 21) := X.2.2.2.2.2.2.2.1
theorem XSh.t23 (X : XSh h x) : ztag h (x + 23) = 2 := X.2.2.2.2.2.2.2.2.1
theorem JC.X (J : JC E h x zs zt g t u ft tn tb N rs rx la sz ce to) : XSh h x := J.1
theorem JC.P (J : JC E h x zs zt g t u ft tn tb N rs rx la sz ce to) : PgR h (x + 1) t u := J.2.2.1
theorem JC.F (J : JC E h x zs zt g t u ft tn tb N rs rx la sz ce to) : Fg h x zs zt g t u rs := J.2.2.2.2.2.2.2.2
theorem JC.R (J : JC E h x zs zt g t u ft tn tb N rs rx la sz ce to) : RwC h (x + 18) N rs rx := J.2.2.2.2.2.1
theorem JC.C (J : JC E h x zs zt g t u ft tn tb N rs rx la sz ce to) : ShC h x la sz ce := J.2.2.2.2.2.2.1
theorem JM.P (J : JM h m t u ft tn tb N rs rx la sz ce to) : MPg h m t u := J.1
theorem JM.L (J : JM h m t u ft tn tb N rs rx la sz ce to) : ¬ zI h m 29 = 0 → MLd h m t u 0 := J.2.2.2.2.2.2.1
theorem JM.R (J : JM h m t u ft tn tb N rs rx la sz ce to) : RwM h m N rs rx := J.2.2.2.1
theorem JM.C (J : JM h m t u ft tn tb N rs rx la sz ce to) : ShM h m la sz ce := J.2.2.2.2.1
theorem op_93 (hd : 1 ≤ d) (J : JC E h x zs zt g t u ft tn tb N rs rx la sz ce to) (q : Q (some (.int ft)) h) : Ct E d 93 [.ref x] h Q := by
  obtain ⟨d, rfl⟩ : ∃ n, d = n + 1 := ⟨d - 1, by omega⟩
  refine ok_93 ⟨J.X.t0, x + 10, J.X.r2, J.X.t10, ?_⟩
  rw [J.2.2.2.1]
  exact q
theorem op_150 (hd : 1 ≤ d) (J : JM h m t u ft tn tb N rs rx la sz ce to) (q : Q (some (.int ft)) h) : Ct E d 150 [.ref m] h Q := by
  obtain ⟨d, rfl⟩ : ∃ n, d = n + 1 := ⟨d - 1, by omega⟩
  refine ok_150 ⟨J.P.1.1, ?_⟩
  rw [J.2.1]
  exact q
def an_told (t : Nat → Nat) (z : Int) : Int := if (0 ≤ z ∧ z ≤ 15) ∨ (20 ≤ z ∧ z < 23) ∨ (30 ≤ z ∧ z < 39) then (t z.toNat : Int) else -1
theorem op_94 {z : Int} (hd : 1 ≤ d) (J : JC E h x zs zt g t u ft tn tb N rs rx la sz ce to) (h1 : -2147483648 ≤ z) (h2 : z < 2147483648) (q : Q (some (.int (jI (an_told t z)))) h) : Ct E d 94 [.ref x, .int (jI z)] h Q := by
  obtain ⟨d, rfl⟩ : ∃ n, d = n + 1 := ⟨d - 1, by omega⟩
  have P := J.P.1
  have e0 : zR h x 0 - 1 = x + 1 := by rw [J.X.r0]; rfl
  have e1 : zR h (x + 1) 0 - 1 = x + 1 + 1 := by rw [P.1.2.1.1]; rfl
  have n0 : ¬ zR h x 0 = 0 := by rw [J.X.r0]; omega
  have n1 : ¬ zR h (x + 1) 0 = 0 := by rw [P.1.2.1.1]; omega
  have rd : 0 ≤ z → z < 39 → zI h (x + 1 + 1) (jI z).toNatClampNeg = jI (t z.toNat : Int) := fun a b => by
    rw [jI_cl h1 h2]
    exact P.2.1 z.toNat (by omega)
  have sf : 0 ≤ z → z < 39 → (ztag h x = 10 ∧ ¬ zR h x 0 = 0 ∧ ztag h (zR h x 0 - 1) = 3 ∧ ¬ zR h (zR h x 0 - 1) 0 = 0 ∧ (ztag h (zR h (zR h x 0 - 1) 0 - 1) = 13 ∨ ztag h (zR h (zR h x 0 - 1) 0 - 1) = 19) ∧ zin (jI z) (zlen h (zR h (zR h x 0 - 1) 0 - 1)) = true ∧ True) := fun a b => by
    rw [e0, e1]
    exact ⟨J.X.t0, n0, P.1.1, n1, P.1.2.1.ti, P.1.2.1.inb a (by omega) (by omega), trivial⟩
  refine ok_94 (fun x1 ex1 x2 ex2 x3 ex3 => ?_)
  have f1 : x1 = if 0 ≤ z ∧ z ≤ 15 then 1 else 0 := ex1.trans (jif2 (a := 0) (b := 15) h1 h2 (by omega) (by omega) (by omega) (by omega))
  have f2 : x2 = if 20 ≤ z ∧ z < 23 then 1 else 0 := ex2.trans (jif3 (a := 20) (b := 23) h1 h2 (by omega) (by omega) (by omega) (by omega))
  have f3 : x3 = if 30 ≤ z ∧ z < 39 then 1 else 0 := ex3.trans (jif3 (a := 30) (b := 39) h1 h2 (by omega) (by omega) (by omega) (by omega))
  have g1 : x1 = 0 ↔ ¬ (0 ≤ z ∧ z ≤ 15) := by rw [f1]; exact j01
  have g2 : x2 = 0 ↔ ¬ (20 ≤ z ∧ z < 23) := by rw [f2]; exact j01
  have g3 : x3 = 0 ↔ ¬ (30 ≤ z ∧ z < 39) := by rw [f3]; exact j01
  refine ⟨⟨fun c => ?_, fun c => ⟨⟨fun c' => ?_, fun c' => ⟨⟨fun _ => trivial, fun c'' => ?_⟩, trivial⟩⟩, trivial⟩⟩, ?_⟩
  · rw [g1] at c; exact sf (by omega) (by omega)
  · rw [g2] at c'; exact sf (by omega) (by omega)
  · rw [g3] at c''; exact sf (by omega) (by omega)
  · have e : (if ¬ x1 = 0 then zI h (zR h (zR h x 0 - 1) 0 - 1) (jI z).toNatClampNeg else if ¬ x2 = 0 then zI h (zR h (zR h x 0 - 1) 0 - 1) (jI z).toNatClampNeg else if x3 = 0 then (-1) else zI h (zR h (zR h x 0 - 1) 0 - 1) (jI z).toNatClampNeg : Int32) = jI (an_told t z) := by
      rw [e0, e1]
      unfold an_told
      by_cases c1 : 0 ≤ z ∧ z ≤ 15
      · rw [if_pos (by rw [g1]; omega), if_pos (by omega), rd (by omega) (by omega)]
      · rw [if_neg (by rw [g1]; omega)]
        by_cases c2 : 20 ≤ z ∧ z < 23
        · rw [if_pos (by rw [g2]; omega), if_pos (by omega), rd (by omega) (by omega)]
        · rw [if_neg (by rw [g2]; omega)]
          by_cases c3 : 30 ≤ z ∧ z < 39
          · rw [if_neg (by rw [g3]; omega), if_pos (by omega), rd (by omega) (by omega)]
          · rw [if_pos (by rw [g3]; omega), if_neg (by omega)]; rfl
    show Q (some (.int _)) h
    rw [e]
    exact q
theorem f135 {z a b : Int} (h1 : -2147483648 ≤ z) (h2 : z < 2147483648) (h3 : -2147483648 ≤ a) (h4 : a < 2147483648) (h5 : -2147483648 ≤ b) (h6 : b < 2147483648) : fz_135 E h (jI z).toInt64 (jL a) (jL b) = 0 ↔ ¬ (a ≤ z ∧ z ≤ b) := by
  rw [fz135l h1 h2 h3 h4 h5 h6]
  exact j01
theorem op_151 {z : Int} (hd : 2 ≤ d) (J : JM h m t u ft tn tb N rs rx la sz ce to) (h1 : -2147483648 ≤ z) (h2 : z < 2147483648) (q : Q (some (.int (jI (an_told t z)))) h) : Ct E d 151 [.ref m, .int (jI z)] h Q := by
  obtain ⟨d, rfl⟩ : ∃ n, d = n + 1 := ⟨d - 1, by omega⟩
  have P := J.P
  have n1 : ¬ zR h m 15 = 0 := P.1.a15.ne
  have e1 : zR h m 15 - 1 = m + 8 := P.1.a15.sub
  have g1 : fz_135 E h (jI z).toInt64 0 15 = 0 ↔ ¬ (0 ≤ z ∧ z ≤ 15) := f135 (a := 0) (b := 15) h1 h2 (by omega) (by omega) (by omega) (by omega)
  have g2 : fz_135 E h (jI z).toInt64 20 22 = 0 ↔ ¬ (20 ≤ z ∧ z ≤ 22) := f135 (a := 20) (b := 22) h1 h2 (by omega) (by omega) (by omega) (by omega)
  have g3 : fz_135 E h (jI z).toInt64 30 38 = 0 ↔ ¬ (30 ≤ z ∧ z ≤ 38) := f135 (a := 30) (b := 38) h1 h2 (by omega) (by omega) (by omega) (by omega)
  have k2 : (16 + jI z - 20 : Int32) = jI (z - 4) := by rw [show (16 : Int32) = jI 16 from rfl, show (20 : Int32) = jI 20 from rfl, jI_add, jI_sub]; congr 1; omega
  have k3 : (19 + jI z - 30 : Int32) = jI (z - 11) := by rw [show (19 : Int32) = jI 19 from rfl, show (30 : Int32) = jI 30 from rfl, jI_add, jI_sub]; congr 1; omega
  refine ok_151 ⟨by omega, trivial, fun c1 => ⟨by omega, trivial, ⟨fun c2 => ⟨by omega, trivial, ⟨fun _ => trivial, fun c3 => ?_⟩, trivial⟩, fun c2 => ?_⟩, ?_⟩, fun c1 => ?_⟩
  · rw [g3] at c3
    rw [k3, e1]
    exact ⟨P.1.1, n1, P.1.a15.ti, P.1.a15.inb (by omega) (by omega) (by omega), trivial⟩
  · rw [g2] at c2
    rw [k2, e1]
    exact ⟨P.1.1, n1, P.1.a15.ti, P.1.a15.inb (by omega) (by omega) (by omega), trivial⟩
  · have e : (if (fz_135 E h (jI z).toInt64 20 22 : Int32) = 0 then if (fz_135 E h (jI z).toInt64 30 38 : Int32) = 0 then (-1) else zI h (zR h m 15 - 1) ((19 + jI z) - 30 : Int32).toNatClampNeg else zI h (zR h m 15 - 1) ((16 + jI z) - 20 : Int32).toNatClampNeg : Int32) = jI (an_told t z) := by
      rw [g1] at c1
      rw [e1, k2, k3]
      unfold an_told
      by_cases c2 : 20 ≤ z ∧ z ≤ 22
      · rw [if_neg (by rw [g2]; omega), if_pos (by omega), jI_cl (by omega) (by omega)]
        have := P.2.2.1 (z - 20).toNat (by omega)
        rw [show (z - 4).toNat = 16 + (z - 20).toNat by omega, this, show 20 + (z - 20).toNat = z.toNat by omega]
      · rw [if_pos (by rw [g2]; omega)]
        by_cases c3 : 30 ≤ z ∧ z ≤ 38
        · rw [if_neg (by rw [g3]; omega), if_pos (by omega), jI_cl (by omega) (by omega)]
          have := P.2.2.2.1 (z - 30).toNat (by omega)
          rw [show (z - 11).toNat = 19 + (z - 30).toNat by omega, this, show 30 + (z - 30).toNat = z.toNat by omega]
        · rw [if_pos (by rw [g3]; omega), if_neg (by omega)]; rfl
    show Q (some (.int _)) h
    rw [e]
    exact q
  · rw [g1] at c1
    refine ⟨P.1.1, m + 8, P.1.a15.1, P.1.a15.ti, P.1.a15.inb (by omega) (by omega) (by omega), ?_⟩
    rw [jI_cl h1 h2, P.2.1 z.toNat (by omega)]
    unfold an_told at q
    rw [if_pos (by omega)] at q
    exact q
end OPA
