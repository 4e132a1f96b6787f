/-! THE LAW'S LOOP -/
section LOO
variable {E : Nat → Nat} {h : ZH} {x m zs zt g tn N d : Nat} {t u rs rx : Nat → Nat} {ft to : Int32} {tb : Nat → Int32} {la sz : Nat → Int} {ce : Nat → Nat → Int32} {Q : Option Value → ZH → Prop}
theorem f93 (J : JC E h x zs zt g t u ft tn tb N rs rx la sz ce to) : sz_93 E h x ∧ fz_93 E h x = ft := by
  refine ⟨⟨J.X.t0, x + 10, J.X.r2, J.X.t10, trivial⟩, ?_⟩
  show zI h (zR h x 2 - 1) 3 = ft
  rw [J.X.r2]
  exact J.2.2.2.1
theorem f150 (J : JM h m t u ft tn tb N rs rx la sz ce to) : sz_150 E h m ∧ fz_150 E h m = ft := ⟨⟨J.P.1.1, trivial⟩, J.2.1⟩
theorem f118 (J : JC E h x zs zt g t u ft tn tb N rs rx la sz ce to) : sz_118 E h x ∧ fz_118 E h x = to := ⟨⟨J.X.t0, trivial⟩, J.2.2.2.2.2.2.2.1⟩
theorem f217 (J : JM h m t u ft tn tb N rs rx la sz ce to) : sz_217 E h m ∧ fz_217 E h m = to := ⟨⟨J.P.1.1, trivial⟩, J.2.2.2.2.2.1⟩
theorem f94 {z : Int} (J : JC E h x zs zt g t u ft tn tb N rs rx la sz ce to) (hz : jb z) : sz_94 E h x (jI z) ∧ fz_94 E h x (jI z) = jI (an_told t z) := by
  have P := J.P.1
  have h1 := hz.1
  have h2 := hz.2
  have e0 : zR h x 0 - 1 = x + 1 := by rw [J.X.r0]; rfl
  have e1 : zR h (x + 1) 0 - 1 = x + 1 + 1 := by rw [P.1.2.1.1]; rfl
  have n0 : ¬ zR h x 0 = 0 := by rw [J.X.r0]; omega
  have n1 : ¬ zR h (x + 1) 0 = 0 := by rw [P.1.2.1.1]; omega
  have rd : 0 ≤ z → z < 39 → zI h (x + 1 + 1) (jI z).toNatClampNeg = jI (t z.toNat : Int) := fun a b => by
    rw [jI_cl h1 h2]
    exact P.2.1 z.toNat (by omega)
  have sf : 0 ≤ z → z < 39 → (ztag h x = 10 ∧ ¬ zR h x 0 = 0 ∧ ztag h (zR h x 0 - 1) = 3 ∧ ¬ zR h (zR h x 0 - 1) 0 = 0 ∧ (ztag h (zR h (zR h x 0 - 1) 0 - 1) = 13 ∨ ztag h (zR h (zR h x 0 - 1) 0 - 1) = 19) ∧ zin (jI z) (zlen h (zR h (zR h x 0 - 1) 0 - 1)) = true ∧ True) := fun a b => by
    rw [e0, e1]
    exact ⟨J.X.t0, n0, P.1.1, n1, P.1.2.1.ti, P.1.2.1.inb a (by omega) (by omega), trivial⟩
  have k1 : (if jI z < 0 then (0 : Int32) else if 15 < jI z then 0 else 1) = if 0 ≤ z ∧ z ≤ 15 then 1 else 0 := jif2 (a := 0) (b := 15) h1 h2 (by omega) (by omega) (by omega) (by omega)
  have k2 : (if jI z < 20 then (0 : Int32) else if 23 ≤ jI z then 0 else 1) = if 20 ≤ z ∧ z < 23 then 1 else 0 := jif3 (a := 20) (b := 23) h1 h2 (by omega) (by omega) (by omega) (by omega)
  have k3 : (if jI z < 30 then (0 : Int32) else if 39 ≤ jI z then 0 else 1) = if 30 ≤ z ∧ z < 39 then 1 else 0 := jif3 (a := 30) (b := 39) h1 h2 (by omega) (by omega) (by omega) (by omega)
  constructor
  · intro x1 ex1 x2 ex2 x3 ex3
    have g1 : x1 = 0 ↔ ¬ (0 ≤ z ∧ z ≤ 15) := by rw [ex1, k1]; exact j01
    have g2 : x2 = 0 ↔ ¬ (20 ≤ z ∧ z < 23) := by rw [ex2, k2]; exact j01
    have g3 : x3 = 0 ↔ ¬ (30 ≤ z ∧ z < 39) := by rw [ex3, k3]; exact j01
    refine ⟨⟨fun c => ?_, fun c => ⟨⟨fun c' => ?_, fun c' => ⟨⟨fun _ => trivial, fun c'' => ?_⟩, trivial⟩⟩, trivial⟩⟩, trivial⟩
    · rw [g1] at c; exact sf (by omega) (by omega)
    · rw [g2] at c'; exact sf (by omega) (by omega)
    · rw [g3] at c''; exact sf (by omega) (by omega)
  · show (if ¬ (if jI z < 0 then (0 : Int32) else if 15 < jI z then 0 else 1) = 0 then zI h (zR h (zR h x 0 - 1) 0 - 1) (jI z).toNatClampNeg else if ¬ (if jI z < 20 then (0 : Int32) else if 23 ≤ jI z then 0 else 1) = 0 then zI h (zR h (zR h x 0 - 1) 0 - 1) (jI z).toNatClampNeg else if (if jI z < 30 then (0 : Int32) else if 39 ≤ jI z then 0 else 1) = 0 then (-1) else zI h (zR h (zR h x 0 - 1) 0 - 1) (jI z).toNatClampNeg) = _
    rw [k1, k2, k3, e0, e1]
    simp only [j01]
    unfold an_told
    by_cases c1 : 0 ≤ z ∧ z ≤ 15
    · rw [if_pos (fun q => q c1), if_pos (by omega), rd (by omega) (by omega)]
    · rw [if_neg (fun q => q c1)]
      by_cases c2 : 20 ≤ z ∧ z < 23
      · rw [if_pos (fun q => q c2), if_pos (by omega), rd (by omega) (by omega)]
      · rw [if_neg (fun q => q c2)]
        by_cases c3 : 30 ≤ z ∧ z < 39
        · rw [if_neg (fun q => q c3), if_pos (by omega), rd (by omega) (by omega)]
        · rw [if_pos c3, if_neg (by omega)]; rfl
theorem f151 {z : Int} (J : JM h m t u ft tn tb N rs rx la sz ce to) (hz : jb z) : sz_151 E h m (jI z) ∧ fz_151 E h m (jI z) = jI (an_told t z) := by
  have P := J.P
  have h1 := hz.1
  have h2 := hz.2
  have n1 : ¬ zR h m 15 = 0 := P.1.a15.ne
  have e1 : zR h m 15 - 1 = m + 8 := P.1.a15.sub
  have g1 : fz_135 E h (jI z).toInt64 0 15 = 0 ↔ ¬ (0 ≤ z ∧ z ≤ 15) := f135 (a := 0) (b := 15) h1 h2 (by omega) (by omega) (by omega) (by omega)
  have g2 : fz_135 E h (jI z).toInt64 20 22 = 0 ↔ ¬ (20 ≤ z ∧ z ≤ 22) := f135 (a := 20) (b := 22) h1 h2 (by omega) (by omega) (by omega) (by omega)
  have g3 : fz_135 E h (jI z).toInt64 30 38 = 0 ↔ ¬ (30 ≤ z ∧ z ≤ 38) := f135 (a := 30) (b := 38) h1 h2 (by omega) (by omega) (by omega) (by omega)
  have k2 : (16 + jI z - 20 : Int32) = jI (z - 4) := by rw [show (16 : Int32) = jI 16 from rfl, show (20 : Int32) = jI 20 from rfl, jI_add, jI_sub]; congr 1; omega
  have k3 : (19 + jI z - 30 : Int32) = jI (z - 11) := by rw [show (19 : Int32) = jI 19 from rfl, show (30 : Int32) = jI 30 from rfl, jI_add, jI_sub]; congr 1; omega
  constructor
  · refine ⟨trivial, fun c1 => ⟨trivial, ⟨fun c2 => ⟨trivial, ⟨fun _ => trivial, fun c3 => ?_⟩, trivial⟩, fun c2 => ?_⟩, trivial⟩, fun c1 => ?_⟩
    · rw [g3] at c3
      rw [k3, e1]
      exact ⟨P.1.1, n1, P.1.a15.ti, P.1.a15.inb (by omega) (by omega) (by omega), trivial⟩
    · rw [g2] at c2
      rw [k2, e1]
      exact ⟨P.1.1, n1, P.1.a15.ti, P.1.a15.inb (by omega) (by omega) (by omega), trivial⟩
    · rw [g1] at c1
      exact ⟨P.1.1, m + 8, P.1.a15.1, P.1.a15.ti, P.1.a15.inb (by omega) (by omega) (by omega), trivial⟩
  · show (if (fz_135 E h (jI z).toInt64 0 15 : Int32) = 0 then (if (fz_135 E h (jI z).toInt64 20 22 : Int32) = 0 then if (fz_135 E h (jI z).toInt64 30 38 : Int32) = 0 then (-1) else zI h (zR h m 15 - 1) ((19 + jI z) - 30 : Int32).toNatClampNeg else zI h (zR h m 15 - 1) ((16 + jI z) - 20 : Int32).toNatClampNeg) else (zI h (zR h m 15 - 1) (jI z).toNatClampNeg)) = _
    rw [e1, k2, k3]
    simp only [g1, g2, g3]
    unfold an_told
    by_cases c1 : 0 ≤ z ∧ z ≤ 15
    · rw [if_neg (fun q => q c1), if_pos (by omega), jI_cl h1 h2, P.2.1 z.toNat (by omega)]
    · rw [if_pos c1]
      by_cases c2 : 20 ≤ z ∧ z ≤ 22
      · rw [if_neg (fun q => q c2), if_pos (by omega), jI_cl (by omega) (by omega)]
        have := P.2.2.1 (z - 20).toNat (by omega)
        rw [show (z - 4).toNat = 16 + (z - 20).toNat by omega, this, show 20 + (z - 20).toNat = z.toNat by omega]
      · rw [if_pos c2]
        by_cases c3 : 30 ≤ z ∧ z ≤ 38
        · rw [if_neg (fun q => q c3), if_pos (by omega), jI_cl (by omega) (by omega)]
          have := P.2.2.2.1 (z - 30).toNat (by omega)
          rw [show (z - 11).toNat = 19 + (z - 30).toNat by omega, this, show 30 + (z - 30).toNat = z.toNat by omega]
        · rw [if_pos c3, if_neg (by omega)]; rfl
/-- both sides stand alike -/
def LJ (E : Nat → Nat) (x zs zt G : Nat) (h : ZH) : Prop := ∃ (g : Nat) (t u : Nat → Nat) (ft : Int32) (tn : Nat) (tb : Nat → Int32) (N : Nat) (rs rx : Nat → Nat) (la sz : Nat → Int) (ce : Nat → Nat → Int32) (to : Int32), g ≤ G ∧ JS t u tn tb N rs rx la sz ∧ JC E h x zs zt g t u ft tn tb N rs rx la sz ce to ∧ JM h (x + 45) t u ft tn tb N rs rx la sz ce to
/-- the script -/
def SxS (h : ZH) (b L : Nat) (xs : Nat → Int32) : Prop := ztag h b = 19 ∧ zlen h b = L ∧ ∀ j, j < L → zI h b j = xs j
theorem SxS.cf {b L : Nat} {xs : Nat → Int32} {h1 : ZH} (S : SxS h b L xs) (hb : b < x) (y : CFr x h h1) : SxS h1 b L xs := by
  have yy : Ag (fun a => a = b) h h1 := Ag.wk y (fun a ha => by omega)
  exact ⟨by rw [yy.T rfl]; exact S.1, by rw [yy.N rfl]; exact S.2.1, fun j hj => by rw [yy.I rfl]; exact S.2.2 j hj⟩
theorem SxS.mf {b L : Nat} {xs : Nat → Int32} {h1 : ZH} (S : SxS h b L xs) (hb : b < m) (y : MFr m h h1) : SxS h1 b L xs := ⟨by rw [Fr.tg y]; exact S.1, by rw [Fr.ln y]; exact S.2.1, fun j hj => by rw [Fr.I y (by omega)]; exact S.2.2 j hj⟩
theorem SxS.z {b L i j : Nat} {xs : Nat → Int32} (S : SxS h b L xs) (hL : L ≤ 4096) (hi : 8 * i + 8 ≤ L) (hj : j < 8) : zin (jI ((8 * i : Nat) : Int) + jI (j : Int)) (zlen h b) = true ∧ zI h b (jI ((8 * i : Nat) : Int) + jI (j : Int) : Int32).toNatClampNeg = jI (xs (8 * i + j)).toInt := by
  have e : (jI ((8 * i : Nat) : Int) + jI (j : Int) : Int32) = jI ((8 * i + j : Nat) : Int) := by rw [jI_add]; rfl
  rw [e, jI_cln (by omega), S.2.2 _ (by omega)]
  refine ⟨?_, (jce _).1⟩
  rw [S.2.1]
  unfold zin
  rw [Bool.and_eq_true]
  exact ⟨decide_eq_true ((jI_len (a := 0) (by omega) (by omega)).mpr (by omega)), decide_eq_true (by rw [jI_cln (by omega)]; omega)⟩
theorem SxS.z1 {b L i : Nat} {xs : Nat → Int32} (S : SxS h b L xs) (hL : L ≤ 4096) (hi : 8 * i + 8 ≤ L) : zin (jI ((8 * i : Nat) : Int) + 1) (zlen h b) = true ∧ zI h b (jI ((8 * i : Nat) : Int) + 1 : Int32).toNatClampNeg = jI (xs (8 * i + 1)).toInt := by
  have := S.z (j := 1) hL hi (by omega)
  rw [show jI ((1 : Nat) : Int) = (1 : Int32) from rfl] at this
  exact this
theorem SxS.z2 {b L i : Nat} {xs : Nat → Int32} (S : SxS h b L xs) (hL : L ≤ 4096) (hi : 8 * i + 8 ≤ L) : zin (jI ((8 * i : Nat) : Int) + 2) (zlen h b) = true ∧ zI h b (jI ((8 * i : Nat) : Int) + 2 : Int32).toNatClampNeg = jI (xs (8 * i + 2)).toInt := by
  have := S.z (j := 2) hL hi (by omega)
  rw [show jI ((2 : Nat) : Int) = (2 : Int32) from rfl] at this
  exact this
theorem SxS.z3 {b L i : Nat} {xs : Nat → Int32} (S : SxS h b L xs) (hL : L ≤ 4096) (hi : 8 * i + 8 ≤ L) : zin (jI ((8 * i : Nat) : Int) + 3) (zlen h b) = true ∧ zI h b (jI ((8 * i : Nat) : Int) + 3 : Int32).toNatClampNeg = jI (xs (8 * i + 3)).toInt := by
  have := S.z (j := 3) hL hi (by omega)
  rw [show jI ((3 : Nat) : Int) = (3 : Int32) from rfl] at this
  exact this
theorem SxS.z4 {b L i : Nat} {xs : Nat → Int32} (S : SxS h b L xs) (hL : L ≤ 4096) (hi : 8 * i + 8 ≤ L) : zin (jI ((8 * i : Nat) : Int) + 4) (zlen h b) = true ∧ zI h b (jI ((8 * i : Nat) : Int) + 4 : Int32).toNatClampNeg = jI (xs (8 * i + 4)).toInt := by
  have := S.z (j := 4) hL hi (by omega)
  rw [show jI ((4 : Nat) : Int) = (4 : Int32) from rfl] at this
  exact this
theorem SxS.z5 {b L i : Nat} {xs : Nat → Int32} (S : SxS h b L xs) (hL : L ≤ 4096) (hi : 8 * i + 8 ≤ L) : zin (jI ((8 * i : Nat) : Int) + 5) (zlen h b) = true ∧ zI h b (jI ((8 * i : Nat) : Int) + 5 : Int32).toNatClampNeg = jI (xs (8 * i + 5)).toInt := by
  have := S.z (j := 5) hL hi (by omega)
  rw [show jI ((5 : Nat) : Int) = (5 : Int32) from rfl] at this
  exact this
theorem SxS.z6 {b L i : Nat} {xs : Nat → Int32} (S : SxS h b L xs) (hL : L ≤ 4096) (hi : 8 * i + 8 ≤ L) : zin (jI ((8 * i : Nat) : Int) + 6) (zlen h b) = true ∧ zI h b (jI ((8 * i : Nat) : Int) + 6 : Int32).toNatClampNeg = jI (xs (8 * i + 6)).toInt := by
  have := S.z (j := 6) hL hi (by omega)
  rw [show jI ((6 : Nat) : Int) = (6 : Int32) from rfl] at this
  exact this
theorem SxS.z7 {b L i : Nat} {xs : Nat → Int32} (S : SxS h b L xs) (hL : L ≤ 4096) (hi : 8 * i + 8 ≤ L) : zin (jI ((8 * i : Nat) : Int) + 7) (zlen h b) = true ∧ zI h b (jI ((8 * i : Nat) : Int) + 7 : Int32).toNatClampNeg = jI (xs (8 * i + 7)).toInt := by
  have := S.z (j := 7) hL hi (by omega)
  rw [show jI ((7 : Nat) : Int) = (7 : Int32) from rfl] at this
  exact this
/-- page, on both sides at once -/
def PgJ (E : Nat → Nat) (d x zs zt : Nat) : Prop := ∀ (h : ZH) (g : Nat) (t u : Nat → Nat) (ft : Int32) (tn : Nat) (tb : Nat → Int32) (N : Nat) (rs rx : Nat → Nat) (la sz : Nat → Int) (ce : Nat → Nat → Int32) (to : Int32), g + 100 < 1000000 → JS t u tn tb N rs rx la sz → JC E h x zs zt g t u ft tn tb N rs rx la sz ce to → JM h (x + 45) t u ft tn tb N rs rx la sz ce to → ∀ I : ZH → Prop, I h → (∀ h1 h2, I h1 → CFr x h1 h2 → I h2) → (∀ h1 h2, I h1 → MFr (x + 45) h1 h2 → I h2) → ∀ R : ZH → Prop, (∀ h2 g' t' u' ft' tn' tb' N' rs' rx' la' sz' ce' to', g' ≤ g + 60 → JS t' u' tn' tb' N' rs' rx' la' sz' → JC E h2 x zs zt g' t' u' ft' tn' tb' N' rs' rx' la' sz' ce' to' → JM h2 (x + 45) t' u' ft' tn' tb' N' rs' rx' la' sz' ce' to' → I h2 → R h2) → Ct E d 92 [.ref x] h (fun v h28 => ∃ x29 : Int32, v = some (.int x29) ∧ ztag h28 (x + 45) = 11 ∧ Ct E d 149 [.ref (x + 45)] h28 (fun v h31 => ∃ x32 : Int32, v = some (.int x32) ∧ x29 = x32 ∧ R h31))
theorem op_90 {v : Int64} (hd : 2 ≤ d) (J : JC E h x zs zt g t u ft tn tb N rs rx la sz ce to) (htn : tn ≤ 320) (q1 : 320 < tn + 8 → Q (some (.int (-3))) h) (q2 : tn + 8 ≤ 320 → ∀ h', JC E h' x zs zt g t u ft (tn + 8) (fd_t tb tn v) N rs rx la sz ce to → CFr x h h' → Q (some (.int (jI ((tn + 8 : Nat) : Int)))) h') : Ct E d 90 [.ref x, .long v] h Q := ct_90 hd J.X J.2.2.2.2.1 htn q1 (fun a h' F T => q2 a h' (J.tp F T) (F.cf (fun a i e => by omega)))
theorem op_136 {v : Int64} (hd : 1 ≤ d) (J : JM h m t u ft tn tb N rs rx la sz ce to) (htn : tn ≤ 320) (q1 : 320 < tn + 8 → Q (some (.int (-3))) h) (q2 : tn + 8 ≤ 320 → ∀ h', JM h' m t u ft (tn + 8) (fd_t tb tn v) N rs rx la sz ce to → MFr m h h' → Q (some (.int (jI ((tn + 8 : Nat) : Int)))) h') : Ct E d 136 [.ref m, .long v] h Q := ct_136 hd J.P.1 J.2.2.1 htn q1 (fun a h' F T => q2 a h' (J.tp F T) (F.mf (fun a i e => by omega)))
theorem op_91 {n : Int} (hd : 1 ≤ d) (J : JC E h x zs zt g t u ft tn tb N rs rx la sz ce to) (htn : tn ≤ 320) (hn : jb n) (q1 : ¬ (0 ≤ n ∧ n ≤ tn) → Q (some (.int (-1))) h) (q2 : 0 ≤ n → n ≤ tn → ∀ h', JC E h' x zs zt g t u ft n.toNat tb N rs rx la sz ce to → CFr x h h' → Q (some (.int (jI (tn : Int)))) h') : Ct E d 91 [.ref x, .int (jI n)] h Q := ct_91 hd J.X J.2.2.2.2.1 htn hn q1 (fun a b h' F T => q2 a b h' (J.tp (F.wd (fun a i e => Or.inr e)) T) (F.cf (fun a i e => by omega)))
theorem op_137 {n : Int} (hd : 2 ≤ d) (J : JM h m t u ft tn tb N rs rx la sz ce to) (htn : tn ≤ 320) (hn : jb n) (q1 : ¬ (0 ≤ n ∧ n ≤ tn) → Q (some (.int (-1))) h) (q2 : 0 ≤ n → n ≤ tn → ∀ h', JM h' m t u ft n.toNat tb N rs rx la sz ce to → MFr m h h' → Q (some (.int (jI (tn : Int)))) h') : Ct E d 137 [.ref m, .int (jI n)] h Q := ct_137 hd J.P.1 J.2.2.1 htn hn q1 (fun a b h' F T => q2 a b h' (J.tp (F.wd (fun a i e => Or.inr e)) T) (F.mf (fun a i e => by omega)))
set_option maxHeartbeats 16000000 in
theorem l219 {b L : Nat} {xs : Nat → Int32} (hd : 100 ≤ d) (hb : b < x) (hL : L ≤ 4096) (hpg : PgJ E d x zs zt) (q : ∀ h', LJ E x zs zt 40000 h' → Q (some (.int 1)) h') : ∀ (r i : Nat) h, i + r = 513 → LJ E x zs zt (64 * i) h → SxS h b L xs → wl_219_10 E d Q (r + 1) b x (x + 45) (jI ((8 * i : Nat) : Int)) h := by
  intro r
  induction r with
  | zero =>
    intro i h e LL S
    have ei : i = 513 := by omega
    subst ei
    rw [wl_219_10]
    have et : ztag h b = 19 := S.1
    refine ⟨by rw [et]; omega, fun _ => ?_, fun c => ?_⟩
    · obtain ⟨g, t, u, ft, tn, tb, N, rs, rx, la, sz, ce, to, hg, w⟩ := LL
      exact q h ⟨g, t, u, ft, tn, tb, N, rs, rx, la, sz, ce, to, by omega, w⟩
    · exfalso
      apply c
      rw [S.2.1, show Int32.ofNat L = jI (L : Int) from jI_n L, show (8 : Int32) = jI 8 from rfl, jI_sub, jI_lt (by omega) (by omega) (by omega) (by omega)]
      omega
  | succ r ih =>
    intro i h e LL S
    have et : ztag h b = 19 := S.1
    have K : ∀ h2, LJ E x zs zt (64 * (i + 1)) h2 → SxS h2 b L xs → ∀ x10 : Int32, x10 = (jI ((8 * i : Nat) : Int) + 8) → wl_219_10 E d Q (r + 1) b x (x + 45) x10 h2 := by
      rintro h2 L2 S2 x10 rfl
      have e8 : (jI ((8 * i : Nat) : Int) + 8 : Int32) = jI ((8 * (i + 1) : Nat) : Int) := by rw [show (8 : Int32) = jI 8 from rfl, jI_add]; congr 1
      rw [e8]
      exact ih (i + 1) h2 (by omega) L2 S2
    obtain ⟨g, t, u, ft, tn, tb, N, rs, rx, la, sz, ce, to, hg, js, J, M⟩ := LL
    have js' := js
    obtain ⟨ok, ou, hTb, htn, hN, hR, hB⟩ := js'
    have B : ∀ j, jb (xs (8 * i + j)).toInt := fun j => (jce _).2
    have cond : ((Int32.ofNat (zlen h b)) - 8 : Int32) < jI ((8 * i : Nat) : Int) ↔ (L : Int) - 8 < ((8 * i : Nat) : Int) := by
      rw [S.2.1, show Int32.ofNat L = jI (L : Int) from jI_n L, show (8 : Int32) = jI 8 from rfl, jI_sub, jI_lt (by omega) (by omega) (by omega) (by omega)]
    rw [wl_219_10]
    refine ⟨by rw [et]; omega, fun _ => q h ⟨g, t, u, ft, tn, tb, N, rs, rx, la, sz, ce, to, by omega, js, J, M⟩, fun c0 => ?_⟩
    rw [cond] at c0
    have hi8 : 8 * i + 8 ≤ L := by omega
    have z0 := (S.z (j := 0) hL hi8 (by omega)).1
    rw [show (jI ((8 * i : Nat) : Int) + jI ((0 : Nat) : Int) : Int32) = jI ((8 * i : Nat) : Int) by rw [jI_add]; congr 1] at z0
    refine ⟨Or.inr S.1, z0, fun _ => K h ⟨g, t, u, ft, tn, tb, N, rs, rx, la, sz, ce, to, by omega, js, J, M⟩ S, fun _ => ?_, fun _ => ?_, fun _ => ?_, fun _ => ?_, fun _ => ?_, fun _ => ?_, fun _ => ?_, fun _ => ?_, fun _ => ?_, fun _ => ?_, fun _ => ?_, fun _ => ?_, fun _ => ?_, fun _ => ?_, fun _ => ?_, fun _ => ?_, fun _ => ?_, fun _ => ?_, fun _ => ?_, fun _ => ?_, fun _ => ?_, fun _ => ?_, fun _ => ?_, fun _ => ?_, fun _ => ?_, fun _ => ?_, fun _ => ?_, fun _ => ?_, fun _ => ?_, fun _ => ?_⟩
    · -- 0
      refine ⟨(S.z1 hL hi8).1, (S.z2 hL hi8).1, J.X.t0, ?_⟩
      rw [(S.z1 hL hi8).2, (S.z2 hL hi8).2]
      refine op_90 (by omega) J htn (fun c => ?_) (fun a h1 J1 C1 => ?_)
      · refine ⟨_, rfl, Or.inr S.1, (S.z1 hL hi8).1, (S.z2 hL hi8).1, M.P.1.1, ?_⟩
        rw [(S.z1 hL hi8).2, (S.z2 hL hi8).2]
        exact op_136 (by omega) M htn (fun _ => ⟨_, rfl, fun _ => K h ⟨g, t, u, ft, tn, tb, N, rs, rx, la, sz, ce, to, by omega, js, J, M⟩ S, fun c => absurd rfl c⟩) (fun a _ _ _ => absurd c (by omega))
      · have S1 := S.cf hb C1
        have M1 := M.cf C1
        refine ⟨_, rfl, Or.inr S1.1, (S1.z1 hL hi8).1, (S1.z2 hL hi8).1, M1.P.1.1, ?_⟩
        rw [(S1.z1 hL hi8).2, (S1.z2 hL hi8).2]
        exact op_136 (by omega) M1 htn (fun c => absurd a (by omega)) (fun _ h2 M2 F2 => ⟨_, rfl, fun _ => K h2 ⟨g, t, u, ft, tn + 8, _, N, rs, rx, la, sz, ce, to, by omega, ⟨ok, ou, fd_B hTb, a, hN, hR, hB⟩, J1.mf F2, M2⟩ (S1.mf (by omega) F2), fun c => absurd rfl c⟩)
    · -- 1
      refine ⟨(S.z1 hL hi8).1, J.X.t0, ?_⟩
      rw [(S.z1 hL hi8).2]
      refine op_91 (by omega) J htn (B 1) (fun c => ?_) (fun a b h1 J1 C1 => ?_)
      · have S1 := S
        have M1 := M
        refine ⟨_, rfl, Or.inr S1.1, (S1.z1 hL hi8).1, M1.P.1.1, ?_⟩
        rw [(S1.z1 hL hi8).2]
        exact op_137 (by omega) M1 htn (B 1) (fun _ => ⟨_, rfl, fun _ => K _ ⟨g, t, u, ft, tn, tb, N, rs, rx, la, sz, ce, to, by omega, js, J, M1⟩ S1, fun c => absurd rfl c⟩) (fun a b _ _ _ => absurd ⟨a, b⟩ c)
      · have S1 := S.cf hb C1
        have M1 := M.cf C1
        refine ⟨_, rfl, Or.inr S1.1, (S1.z1 hL hi8).1, M1.P.1.1, ?_⟩
        rw [(S1.z1 hL hi8).2]
        exact op_137 (by omega) M1 htn (B 1) (fun c => absurd ⟨a, b⟩ c) (fun _ _ h2 M2 F2 => ⟨_, rfl, fun _ => K h2 ⟨g, t, u, ft, ((xs (8 * i + 1)).toInt.toNat), tb, N, rs, rx, la, sz, ce, to, by omega, ⟨ok, ou, hTb, by omega, hN, hR, hB⟩, J1.mf F2, M2⟩ (S1.mf (by omega) F2), fun c => absurd rfl c⟩)
    · -- 2
      refine ⟨J.X.t0, Ct.mono (hpg h g t u ft tn tb N rs rx la sz ce to (by omega) js J M (fun h1 => SxS h1 b L xs) S (fun h1 h2 hh y => SxS.cf hh hb y) (fun h1 h2 hh y => SxS.mf hh (by omega) y) (fun h2 => LJ E x zs zt (64 * (i + 1)) h2 ∧ SxS h2 b L xs) (fun h2 g' t' u' ft' tn' tb' N' rs' rx' la' sz' ce' to' e1 js' J' M' S2 => ⟨⟨g', t', u', ft', tn', tb', N', rs', rx', la', sz', ce', to', by omega, js', J', M'⟩, S2⟩)) ?_⟩
      rintro v h1 ⟨x29, e1, e2, e3⟩
      refine ⟨x29, e1, e2, Ct.mono e3 ?_⟩
      rintro v h2 ⟨x32, e4, e5, LJ2, S2⟩
      exact ⟨x32, e4, fun _ => K h2 LJ2 S2, fun c => absurd e5 c⟩
    · -- 3
      obtain ⟨s1, e1⟩ := f93 J
      obtain ⟨s2, e2⟩ := f150 (E := E) M
      refine ⟨J.X.t0, by omega, s1, M.P.1.1, by omega, s2, ?_⟩
      rw [e1, e2]
      exact ⟨fun _ => K h ⟨g, t, u, ft, tn, tb, N, rs, rx, la, sz, ce, to, by omega, js, J, M⟩ S, fun c => absurd rfl c⟩
    · -- 4
      refine ⟨(S.z1 hL hi8).1, J.X.t0, ?_⟩
      rw [(S.z1 hL hi8).2]
      obtain ⟨s1, e1⟩ := f94 J (B 1)
      obtain ⟨s2, e2⟩ := f151 (E := E) M (B 1)
      refine ⟨by omega, s1, (S.z1 hL hi8).1, M.P.1.1, by omega, s2, ?_⟩
      rw [e1, e2]
      exact ⟨fun _ => K h ⟨g, t, u, ft, tn, tb, N, rs, rx, la, sz, ce, to, by omega, js, J, M⟩ S, fun c => absurd rfl c⟩
    · -- 5
      refine ⟨(S.z1 hL hi8).1, (S.z2 hL hi8).1, J.X.t0, ?_⟩
      rw [(S.z1 hL hi8).2, (S.z2 hL hi8).2]
      refine op_95 (by omega) ok ou J (B 1).1 (B 1).2 (B 2).1 (B 2).2 (fun c => ?_) (fun a b e h1 J1 C1 => ?_)
      · have S1 := S
        have M1 := M
        refine ⟨_, rfl, Or.inr S1.1, (S1.z1 hL hi8).1, (S1.z2 hL hi8).1, M1.P.1.1, ?_⟩
        rw [(S1.z1 hL hi8).2, (S1.z2 hL hi8).2]
        exact op_154 (by omega) ok ou M1 (B 1).1 (B 1).2 (B 2).1 (B 2).2 (fun _ => ⟨_, rfl, fun _ => K _ ⟨g, t, u, ft, tn, tb, N, rs, rx, la, sz, ce, to, by omega, js, J, M1⟩ S1, fun c => absurd rfl c⟩) (fun a b e _ _ _ => absurd ⟨⟨a, b⟩, e⟩ c)
      · have S1 := S.cf hb C1
        have M1 := M.cf C1
        refine ⟨_, rfl, Or.inr S1.1, (S1.z1 hL hi8).1, (S1.z2 hL hi8).1, M1.P.1.1, ?_⟩
        rw [(S1.z1 hL hi8).2, (S1.z2 hL hi8).2]
        exact op_154 (by omega) ok ou M1 (B 1).1 (B 1).2 (B 2).1 (B 2).2 (fun c => absurd ⟨⟨a, b⟩, e⟩ c) (fun _ _ _ h2 M2 F2 => ⟨_, rfl, fun _ => K h2 ⟨g, t, (sh_u u (xs (8 * i + 1)).toInt.toNat (xs (8 * i + 2)).toInt), ft, tn, tb, N, rs, rx, la, sz, ce, to, by omega, ⟨ok, sh_u_O ou e, hTb, htn, hN, hR, hB⟩, J1.mf F2, M2⟩ (S1.mf (by omega) F2), fun c => absurd rfl c⟩)
    · -- 6
      refine ⟨(S.z1 hL hi8).1, (S.z2 hL hi8).1, J.X.t0, ?_⟩
      rw [(S.z1 hL hi8).2, (S.z2 hL hi8).2]
      refine op_96 (by omega) ok ou J (B 1).1 (B 1).2 (B 2).1 (B 2).2 ⟨_, rfl, Or.inr S.1, (S.z1 hL hi8).1, (S.z2 hL hi8).1, M.P.1.1, ?_⟩
      rw [(S.z1 hL hi8).2, (S.z2 hL hi8).2]
      exact op_161 (by omega) ok ou M (B 1).1 (B 1).2 (B 2).1 (B 2).2 ⟨_, rfl, fun _ => K h ⟨g, t, u, ft, tn, tb, N, rs, rx, la, sz, ce, to, by omega, js, J, M⟩ S, fun c => absurd rfl c⟩
    · -- 7
      refine ⟨(S.z1 hL hi8).1, (S.z2 hL hi8).1, J.X.t0, ?_⟩
      rw [(S.z1 hL hi8).2, (S.z2 hL hi8).2]
      refine op_97 (by omega) ok ou J (B 1).1 (B 1).2 (B 2).1 (B 2).2 ⟨_, rfl, Or.inr S.1, (S.z1 hL hi8).1, (S.z2 hL hi8).1, M.P.1.1, ?_⟩
      rw [(S.z1 hL hi8).2, (S.z2 hL hi8).2]
      exact op_162 (by omega) ok ou M (B 1).1 (B 1).2 (B 2).1 (B 2).2 ⟨_, rfl, fun _ => K h ⟨g, t, u, ft, tn, tb, N, rs, rx, la, sz, ce, to, by omega, js, J, M⟩ S, fun c => absurd rfl c⟩
    · -- 8
      refine ⟨(S.z1 hL hi8).1, (S.z2 hL hi8).1, (S.z3 hL hi8).1, (S.z4 hL hi8).1, (S.z5 hL hi8).1, (S.z6 hL hi8).1, (S.z7 hL hi8).1, J.X.t0, ?_⟩
      rw [(S.z1 hL hi8).2, (S.z2 hL hi8).2, (S.z3 hL hi8).2, (S.z4 hL hi8).2, (S.z5 hL hi8).2, (S.z6 hL hi8).2, (S.z7 hL hi8).2]
      refine op_98 (by omega) ok ou J (B 1) (B 2) (B 3) (B 4) (B 5) (B 6) (B 7) (fun h1 J1 C1 => ?_)
      have S1 := S.cf hb C1
      have M1 := M.cf C1
      refine ⟨_, rfl, Or.inr S1.1, (S1.z1 hL hi8).1, (S1.z2 hL hi8).1, (S1.z3 hL hi8).1, (S1.z4 hL hi8).1, (S1.z5 hL hi8).1, (S1.z6 hL hi8).1, (S1.z7 hL hi8).1, M1.P.1.1, ?_⟩
      rw [(S1.z1 hL hi8).2, (S1.z2 hL hi8).2, (S1.z3 hL hi8).2, (S1.z4 hL hi8).2, (S1.z5 hL hi8).2, (S1.z6 hL hi8).2, (S1.z7 hL hi8).2]
      exact op_170 (by omega) ok ou M1 (B 1) (B 2) (B 3) (B 4) (B 5) (B 6) (B 7) (fun h2 M2 F2 => ⟨_, rfl, fun _ => K h2 ⟨g + 0, t, u, ft, tn, tb, N, rs, rx, la, sz, ce, to, by omega, js, J1.mf F2, M2⟩ (S1.mf (by omega) F2), fun c => absurd rfl c⟩)
    · -- 9
      refine ⟨(S.z1 hL hi8).1, (S.z2 hL hi8).1, (S.z3 hL hi8).1, (S.z4 hL hi8).1, J.X.t0, ?_⟩
      rw [(S.z1 hL hi8).2, (S.z2 hL hi8).2, (S.z3 hL hi8).2, (S.z4 hL hi8).2]
      refine op_99 (by omega) ok ou J (B 1) (B 2) (B 3) (B 4) (fun h1 J1 C1 => ?_)
      have S1 := S.cf hb C1
      have M1 := M.cf C1
      refine ⟨_, rfl, Or.inr S1.1, (S1.z1 hL hi8).1, (S1.z2 hL hi8).1, (S1.z3 hL hi8).1, (S1.z4 hL hi8).1, M1.P.1.1, ?_⟩
      rw [(S1.z1 hL hi8).2, (S1.z2 hL hi8).2, (S1.z3 hL hi8).2, (S1.z4 hL hi8).2]
      exact op_174 (by omega) ok ou M1 (B 1) (B 2) (B 3) (B 4) (fun h2 M2 F2 => ⟨_, rfl, fun _ => K h2 ⟨g + 0, t, u, ft, tn, tb, N, rs, rx, la, sz, ce, to, by omega, js, J1.mf F2, M2⟩ (S1.mf (by omega) F2), fun c => absurd rfl c⟩)
    · -- 10
      refine ⟨(S.z1 hL hi8).1, (S.z2 hL hi8).1, (S.z3 hL hi8).1, (S.z4 hL hi8).1, (S.z5 hL hi8).1, J.X.t0, ?_⟩
      rw [(S.z1 hL hi8).2, (S.z2 hL hi8).2, (S.z3 hL hi8).2, (S.z4 hL hi8).2, (S.z5 hL hi8).2]
      refine op_100 (by omega) ok ou J (by omega) (B 1) (B 2) (B 3) (B 4) (B 5) (fun h1 J1 C1 => ?_)
      have S1 := S.cf hb C1
      have M1 := M.cf C1
      refine ⟨_, rfl, Or.inr S1.1, (S1.z1 hL hi8).1, (S1.z2 hL hi8).1, (S1.z3 hL hi8).1, (S1.z4 hL hi8).1, (S1.z5 hL hi8).1, M1.P.1.1, ?_⟩
      rw [(S1.z1 hL hi8).2, (S1.z2 hL hi8).2, (S1.z3 hL hi8).2, (S1.z4 hL hi8).2, (S1.z5 hL hi8).2]
      exact op_183 (by omega) ok ou M1 (B 1) (B 2) (B 3) (B 4) (B 5) (fun h2 M2 F2 => ⟨_, rfl, fun _ => K h2 ⟨g + 2, t, u, ft, tn, tb, N, rs, rx, la, sz, ce, to, by omega, js, J1.mf F2, M2⟩ (S1.mf (by omega) F2), fun c => absurd rfl c⟩)
    · -- 11
      refine ⟨(S.z1 hL hi8).1, (S.z2 hL hi8).1, (S.z3 hL hi8).1, (S.z4 hL hi8).1, (S.z5 hL hi8).1, (S.z6 hL hi8).1, J.X.t0, ?_⟩
      rw [(S.z1 hL hi8).2, (S.z2 hL hi8).2, (S.z3 hL hi8).2, (S.z4 hL hi8).2, (S.z5 hL hi8).2, (S.z6 hL hi8).2]
      refine op_101 (by omega) ok ou J (by omega) (B 1) (B 2) (B 3) (B 4) (B 5) (B 6) (fun h1 J1 C1 => ?_)
      have S1 := S.cf hb C1
      have M1 := M.cf C1
      refine ⟨_, rfl, Or.inr S1.1, (S1.z1 hL hi8).1, (S1.z2 hL hi8).1, (S1.z3 hL hi8).1, (S1.z4 hL hi8).1, (S1.z5 hL hi8).1, (S1.z6 hL hi8).1, M1.P.1.1, ?_⟩
      rw [(S1.z1 hL hi8).2, (S1.z2 hL hi8).2, (S1.z3 hL hi8).2, (S1.z4 hL hi8).2, (S1.z5 hL hi8).2, (S1.z6 hL hi8).2]
      exact op_185 (by omega) ok ou M1 (B 1) (B 2) (B 3) (B 4) (B 5) (B 6) (fun h2 M2 F2 => ⟨_, rfl, fun _ => K h2 ⟨g + 2, t, u, ft, tn, tb, N, rs, rx, la, sz, ce, to, by omega, js, J1.mf F2, M2⟩ (S1.mf (by omega) F2), fun c => absurd rfl c⟩)
    · -- 12
      refine ⟨(S.z1 hL hi8).1, (S.z2 hL hi8).1, (S.z3 hL hi8).1, (S.z4 hL hi8).1, (S.z5 hL hi8).1, (S.z6 hL hi8).1, (S.z7 hL hi8).1, J.X.t0, ?_⟩
      rw [(S.z1 hL hi8).2, (S.z2 hL hi8).2, (S.z3 hL hi8).2, (S.z4 hL hi8).2, (S.z5 hL hi8).2, (S.z6 hL hi8).2, (S.z7 hL hi8).2]
      refine op_102 (by omega) ok ou J (by omega) (B 1) (B 2) (B 3) (B 4) (B 5) (B 6) (B 7) (fun h1 J1 C1 => ?_)
      have S1 := S.cf hb C1
      have M1 := M.cf C1
      refine ⟨_, rfl, Or.inr S1.1, (S1.z1 hL hi8).1, (S1.z2 hL hi8).1, (S1.z3 hL hi8).1, (S1.z4 hL hi8).1, (S1.z5 hL hi8).1, (S1.z6 hL hi8).1, (S1.z7 hL hi8).1, M1.P.1.1, ?_⟩
      rw [(S1.z1 hL hi8).2, (S1.z2 hL hi8).2, (S1.z3 hL hi8).2, (S1.z4 hL hi8).2, (S1.z5 hL hi8).2, (S1.z6 hL hi8).2, (S1.z7 hL hi8).2]
      exact op_186 (by omega) ok ou M1 (B 1) (B 2) (B 3) (B 4) (B 5) (B 6) (B 7) (fun h2 M2 F2 => ⟨_, rfl, fun _ => K h2 ⟨g + 2, t, u, ft, tn, tb, N, rs, rx, la, sz, ce, to, by omega, js, J1.mf F2, M2⟩ (S1.mf (by omega) F2), fun c => absurd rfl c⟩)
    · -- 13
      refine ⟨(S.z1 hL hi8).1, (S.z2 hL hi8).1, J.X.t0, ?_⟩
      rw [(S.z1 hL hi8).2, (S.z2 hL hi8).2]
      refine op_103 (by omega) ok ou J (by omega) (B 1) (B 2) (fun h1 J1 C1 => ?_)
      have S1 := S.cf hb C1
      have M1 := M.cf C1
      refine ⟨_, rfl, Or.inr S1.1, (S1.z1 hL hi8).1, (S1.z2 hL hi8).1, M1.P.1.1, ?_⟩
      rw [(S1.z1 hL hi8).2, (S1.z2 hL hi8).2]
      exact op_191 (by omega) ok ou M1 (B 1) (B 2) (fun h2 M2 F2 => ⟨_, rfl, fun _ => K h2 ⟨g + 2, t, u, ft, tn, tb, N, rs, rx, la, sz, ce, to, by omega, js, J1.mf F2, M2⟩ (S1.mf (by omega) F2), fun c => absurd rfl c⟩)
    · -- 14
      refine ⟨(S.z1 hL hi8).1, J.X.t0, ?_⟩
      rw [(S.z1 hL hi8).2]
      refine op_104 (by omega) ok ou J (by omega) (B 1) (fun h1 J1 C1 => ?_)
      have S1 := S.cf hb C1
      have M1 := M.cf C1
      refine ⟨_, rfl, Or.inr S1.1, (S1.z1 hL hi8).1, M1.P.1.1, ?_⟩
      rw [(S1.z1 hL hi8).2]
      exact op_192 (by omega) ok ou M1 (B 1) (fun h2 M2 F2 => ⟨_, rfl, fun _ => K h2 ⟨g + 2, t, u, ft, tn, tb, N, rs, rx, la, sz, ce, to, by omega, js, J1.mf F2, M2⟩ (S1.mf (by omega) F2), fun c => absurd rfl c⟩)
    · -- 15
      refine ⟨(S.z1 hL hi8).1, (S.z2 hL hi8).1, (S.z3 hL hi8).1, J.X.t0, ?_⟩
      rw [(S.z1 hL hi8).2, (S.z2 hL hi8).2, (S.z3 hL hi8).2]
      refine op_105 (by omega) ok ou J (by omega) (B 1) (B 2) (B 3) (fun h1 J1 C1 => ?_)
      have S1 := S.cf hb C1
      have M1 := M.cf C1
      refine ⟨_, rfl, Or.inr S1.1, (S1.z1 hL hi8).1, (S1.z2 hL hi8).1, (S1.z3 hL hi8).1, M1.P.1.1, ?_⟩
      rw [(S1.z1 hL hi8).2, (S1.z2 hL hi8).2, (S1.z3 hL hi8).2]
      exact op_196 (by omega) ok ou M1 (B 1) (B 2) (B 3) (fun h2 M2 F2 => ⟨_, rfl, fun _ => K h2 ⟨g + 3, t, u, ft, tn, tb, N, rs, rx, la, sz, ce, to, by omega, js, J1.mf F2, M2⟩ (S1.mf (by omega) F2), fun c => absurd rfl c⟩)
    · -- 16
      refine ⟨(S.z1 hL hi8).1, (S.z2 hL hi8).1, (S.z3 hL hi8).1, (S.z4 hL hi8).1, (S.z5 hL hi8).1, J.X.t0, ?_⟩
      rw [(S.z1 hL hi8).2, (S.z2 hL hi8).2, (S.z3 hL hi8).2, (S.z4 hL hi8).2, (S.z5 hL hi8).2]
      refine op_106 (by omega) ok ou J (by omega) (B 1) (B 2) (B 3) (B 4) (B 5) (fun h1 J1 C1 => ?_)
      have S1 := S.cf hb C1
      have M1 := M.cf C1
      refine ⟨_, rfl, Or.inr S1.1, (S1.z1 hL hi8).1, (S1.z2 hL hi8).1, (S1.z3 hL hi8).1, (S1.z4 hL hi8).1, (S1.z5 hL hi8).1, M1.P.1.1, ?_⟩
      rw [(S1.z1 hL hi8).2, (S1.z2 hL hi8).2, (S1.z3 hL hi8).2, (S1.z4 hL hi8).2, (S1.z5 hL hi8).2]
      exact op_197 (by omega) ok ou M1 (B 1) (B 2) (B 3) (B 4) (B 5) (fun h2 M2 F2 => ⟨_, rfl, fun _ => K h2 ⟨g + 42, t, u, ft, tn, tb, N, rs, rx, la, sz, ce, to, by omega, js, J1.mf F2, M2⟩ (S1.mf (by omega) F2), fun c => absurd rfl c⟩)
    · -- 17
      refine ⟨(S.z1 hL hi8).1, J.X.t0, ?_⟩
      rw [(S.z1 hL hi8).2]
      refine op_107 (by omega) ok ou J (by omega) (B 1) (fun h1 J1 C1 => ?_)
      have S1 := S.cf hb C1
      have M1 := M.cf C1
      refine ⟨_, rfl, Or.inr S1.1, (S1.z1 hL hi8).1, M1.P.1.1, ?_⟩
      rw [(S1.z1 hL hi8).2]
      exact op_198 (by omega) ok ou M1 (B 1) (fun h2 M2 F2 => ⟨_, rfl, fun _ => K h2 ⟨g + 12, t, u, ft, tn, tb, N, rs, rx, la, sz, ce, to, by omega, js, J1.mf F2, M2⟩ (S1.mf (by omega) F2), fun c => absurd rfl c⟩)
    · -- 18
      refine ⟨(S.z1 hL hi8).1, (S.z2 hL hi8).1, J.X.t0, ?_⟩
      rw [(S.z1 hL hi8).2, (S.z2 hL hi8).2]
      refine op_108 (by omega) ok hN J (B 1) (B 2) (fun c => ?_) (fun a b e => ?_) (fun a b e h1 J1 C1 => ?_)
      · have S1 := S
        have M1 := M
        refine ⟨_, rfl, Or.inr S1.1, (S1.z1 hL hi8).1, (S1.z2 hL hi8).1, M1.P.1.1, ?_⟩
        rw [(S1.z1 hL hi8).2, (S1.z2 hL hi8).2]
        exact op_199 (by omega) ok hN M1 (B 1) (B 2) (fun _ => ⟨_, rfl, fun _ => K _ ⟨g, t, u, ft, tn, tb, N, rs, rx, la, sz, ce, to, by omega, js, J, M1⟩ S1, fun c => absurd rfl c⟩) (fun a b _ => absurd ⟨a, b⟩ c) (fun a b _ _ _ _ => absurd ⟨a, b⟩ c)
      · have S1 := S
        have M1 := M
        refine ⟨_, rfl, Or.inr S1.1, (S1.z1 hL hi8).1, (S1.z2 hL hi8).1, M1.P.1.1, ?_⟩
        rw [(S1.z1 hL hi8).2, (S1.z2 hL hi8).2]
        exact op_199 (by omega) ok hN M1 (B 1) (B 2) (fun c => absurd ⟨a, b⟩ c) (fun _ _ _ => ⟨_, rfl, fun _ => K _ ⟨g, t, u, ft, tn, tb, N, rs, rx, la, sz, ce, to, by omega, js, J, M1⟩ S1, fun c => absurd rfl c⟩) (fun _ _ e' _ _ _ => absurd e' e)
      · have S1 := S.cf hb C1
        have M1 := M.cf C1
        refine ⟨_, rfl, Or.inr S1.1, (S1.z1 hL hi8).1, (S1.z2 hL hi8).1, M1.P.1.1, ?_⟩
        rw [(S1.z1 hL hi8).2, (S1.z2 hL hi8).2]
        exact op_199 (by omega) ok hN M1 (B 1) (B 2) (fun c => absurd ⟨a, b⟩ c) (fun _ _ e' => absurd e e') (fun _ _ _ h2 M2 F2 => ⟨_, rfl, fun _ => K h2 ⟨g, t, u, ft, tn, tb, (N + 1), (rw_s rs N (xs (8 * i + 1)).toInt.toNat), (rw_s rx N (xs (8 * i + 2)).toInt.toNat), la, sz, ce, to, by omega, ⟨ok, ou, hTb, htn, by omega, rw_sB hR (by omega) (by omega), hB⟩, J1.mf F2, M2⟩ (S1.mf (by omega) F2), fun c => absurd rfl c⟩)
    · -- 19
      refine ⟨J.X.t0, ?_⟩
      refine op_109 (by omega) ok hN J (fun c => ?_) (fun a h1 J1 C1 => ?_)
      · have S1 := S
        have M1 := M
        refine ⟨_, rfl, M1.P.1.1, ?_⟩
        exact op_200 (by omega) ok hN M1 (fun _ => ⟨_, rfl, fun _ => K _ ⟨g, t, u, ft, tn, tb, N, rs, rx, la, sz, ce, to, by omega, js, J, M1⟩ S1, fun c => absurd rfl c⟩) (fun a _ _ _ => absurd c a)
      · have S1 := S.cf hb C1
        have M1 := M.cf C1
        refine ⟨_, rfl, M1.P.1.1, ?_⟩
        exact op_200 (by omega) ok hN M1 (fun c => absurd c a) (fun _ h2 M2 F2 => ⟨_, rfl, fun _ => K h2 ⟨g, t, u, ft, tn, tb, (N - 1), rs, rx, la, sz, ce, to, by omega, ⟨ok, ou, hTb, htn, by omega, hR, hB⟩, J1.mf F2, M2⟩ (S1.mf (by omega) F2), fun c => absurd rfl c⟩)
    · -- 20
      refine ⟨(S.z1 hL hi8).1, J.X.t0, ?_⟩
      rw [(S.z1 hL hi8).2]
      refine op_110 (by omega) ok ou hR hN J (B 1) (fun h1 J1 C1 => ?_)
      have S1 := S.cf hb C1
      have M1 := M.cf C1
      refine ⟨_, rfl, Or.inr S1.1, (S1.z1 hL hi8).1, M1.P.1.1, ?_⟩
      rw [(S1.z1 hL hi8).2]
      exact op_205 (by omega) ok ou hR hN M1 (B 1) (fun h2 M2 F2 => ⟨_, rfl, fun _ => K h2 ⟨g + 0, t, u, ft, tn, tb, N, rs, rx, la, sz, ce, to, by omega, js, J1.mf F2, M2⟩ (S1.mf (by omega) F2), fun c => absurd rfl c⟩)
    · -- 21
      refine ⟨(S.z1 hL hi8).1, (S.z2 hL hi8).1, J.X.t0, ?_⟩
      rw [(S.z1 hL hi8).2, (S.z2 hL hi8).2]
      refine op_111 (by omega) ok ou hR hN J (B 1) (B 2) (fun h1 J1 C1 => ?_)
      have S1 := S.cf hb C1
      have M1 := M.cf C1
      refine ⟨_, rfl, Or.inr S1.1, (S1.z1 hL hi8).1, (S1.z2 hL hi8).1, M1.P.1.1, ?_⟩
      rw [(S1.z1 hL hi8).2, (S1.z2 hL hi8).2]
      exact op_206 (by omega) ok ou hR hN M1 (B 1) (B 2) (fun h2 M2 F2 => ⟨_, rfl, fun _ => K h2 ⟨g + 0, t, u, ft, tn, tb, N, rs, rx, la, sz, ce, to, by omega, js, J1.mf F2, M2⟩ (S1.mf (by omega) F2), fun c => absurd rfl c⟩)
    · -- 22
      refine ⟨(S.z1 hL hi8).1, J.X.t0, ?_⟩
      rw [(S.z1 hL hi8).2]
      refine op_112 (by omega) ok ou hR hN J (by omega) (B 1) (fun h1 J1 C1 => ?_)
      have S1 := S.cf hb C1
      have M1 := M.cf C1
      refine ⟨_, rfl, Or.inr S1.1, (S1.z1 hL hi8).1, M1.P.1.1, ?_⟩
      rw [(S1.z1 hL hi8).2]
      exact op_209 (by omega) ok ou hR hN M1 (B 1) (fun h2 M2 F2 => ⟨_, rfl, fun _ => K h2 ⟨g + 2, t, u, ft, tn, tb, N, rs, rx, la, sz, ce, to, by omega, js, J1.mf F2, M2⟩ (S1.mf (by omega) F2), fun c => absurd rfl c⟩)
    · -- 23
      refine ⟨(S.z1 hL hi8).1, J.X.t0, ?_⟩
      rw [(S.z1 hL hi8).2]
      refine op_113 (by omega) ok ou hR hN J (by omega) (B 1) (fun h1 J1 C1 => ?_)
      have S1 := S.cf hb C1
      have M1 := M.cf C1
      refine ⟨_, rfl, Or.inr S1.1, (S1.z1 hL hi8).1, M1.P.1.1, ?_⟩
      rw [(S1.z1 hL hi8).2]
      exact op_212 (by omega) ok ou hR hN M1 (B 1) (fun h2 M2 F2 => ⟨_, rfl, fun _ => K h2 ⟨g + 2, t, u, ft, tn, tb, N, rs, rx, la, sz, ce, to, by omega, js, J1.mf F2, M2⟩ (S1.mf (by omega) F2), fun c => absurd rfl c⟩)
    · -- 24
      refine ⟨(S.z1 hL hi8).1, J.X.t0, ?_⟩
      rw [(S.z1 hL hi8).2]
      refine op_114 (by omega) ok ou J (by omega) (fun h1 J1 C1 => ?_)
      have S1 := S.cf hb C1
      have M1 := M.cf C1
      refine ⟨_, rfl, Or.inr S1.1, (S1.z1 hL hi8).1, M1.P.1.1, ?_⟩
      rw [(S1.z1 hL hi8).2]
      exact op_213 (by omega) ok ou M1 (fun h2 M2 F2 => ⟨_, rfl, fun _ => K h2 ⟨g + 2, t, u, ft, tn, tb, (tp_T t), (dr_s t _), (dr_x t u _), la, sz, ce, to, by omega, ⟨ok, ou, hTb, htn, Nat.le_refl _, dr_B ok u _, hB⟩, J1.mf F2, M2⟩ (S1.mf (by omega) F2), fun c => absurd rfl c⟩)
    · -- 25
      refine ⟨(S.z1 hL hi8).1, (S.z2 hL hi8).1, (S.z3 hL hi8).1, J.X.t0, ?_⟩
      rw [(S.z1 hL hi8).2, (S.z2 hL hi8).2, (S.z3 hL hi8).2]
      refine op_115 (by omega) J (B 1) (B 2) (B 3) (fun c => ?_) (fun a b e => ?_) (fun a b e f h1 J1 C1 => ?_)
      · have S1 := S
        have M1 := M
        refine ⟨_, rfl, Or.inr S1.1, (S1.z1 hL hi8).1, (S1.z2 hL hi8).1, (S1.z3 hL hi8).1, M1.P.1.1, ?_⟩
        rw [(S1.z1 hL hi8).2, (S1.z2 hL hi8).2, (S1.z3 hL hi8).2]
        exact op_214 (by omega) M1 (B 1) (B 2) (B 3) (fun _ => ⟨_, rfl, fun _ => K _ ⟨g, t, u, ft, tn, tb, N, rs, rx, la, sz, ce, to, by omega, js, J, M1⟩ S1, fun c => absurd rfl c⟩) (fun a b e => absurd ⟨a, b, by omega⟩ c) (fun a b e f _ _ _ => absurd ⟨a, b, f⟩ c)
      · have S1 := S
        have M1 := M
        refine ⟨_, rfl, Or.inr S1.1, (S1.z1 hL hi8).1, (S1.z2 hL hi8).1, (S1.z3 hL hi8).1, M1.P.1.1, ?_⟩
        rw [(S1.z1 hL hi8).2, (S1.z2 hL hi8).2, (S1.z3 hL hi8).2]
        exact op_214 (by omega) M1 (B 1) (B 2) (B 3) (fun c => absurd ⟨a, b, by omega⟩ c) (fun _ _ _ => ⟨_, rfl, fun _ => K _ ⟨g, t, u, ft, tn, tb, N, rs, rx, la, sz, ce, to, by omega, js, J, M1⟩ S1, fun c => absurd rfl c⟩) (fun _ _ e' _ _ _ _ => absurd e (by omega))
      · have S1 := S.cf hb C1
        have M1 := M.cf C1
        refine ⟨_, rfl, Or.inr S1.1, (S1.z1 hL hi8).1, (S1.z2 hL hi8).1, (S1.z3 hL hi8).1, M1.P.1.1, ?_⟩
        rw [(S1.z1 hL hi8).2, (S1.z2 hL hi8).2, (S1.z3 hL hi8).2]
        exact op_214 (by omega) M1 (B 1) (B 2) (B 3) (fun c => absurd ⟨a, b, f⟩ c) (fun _ _ e' => absurd e (by omega)) (fun _ _ _ _ h2 M2 F2 => ⟨_, rfl, fun _ => K h2 ⟨g, t, u, ft, tn, tb, N, rs, rx, (sh_la la (xs (8 * i + 1)).toInt.toNat (xs (8 * i + 2)).toInt), (sh_la sz (xs (8 * i + 1)).toInt.toNat (xs (8 * i + 3)).toInt), (sh_c0 ce (xs (8 * i + 1)).toInt.toNat), to, by omega, ⟨ok, ou, hTb, htn, hN, hR, sh_B hB b ⟨e, f⟩⟩, J1.mf F2, M2⟩ (S1.mf (by omega) F2), fun c => absurd rfl c⟩)
    · -- 26
      refine ⟨(S.z1 hL hi8).1, (S.z2 hL hi8).1, (S.z3 hL hi8).1, J.X.t0, ?_⟩
      rw [(S.z1 hL hi8).2, (S.z2 hL hi8).2, (S.z3 hL hi8).2]
      refine op_116 (by omega) hB J (B 1) (B 2) (fun c => ?_) (fun a b => ?_) (fun a b e => ?_) (fun a b e h1 J1 C1 => ?_)
      · have S1 := S
        have M1 := M
        refine ⟨_, rfl, Or.inr S1.1, (S1.z1 hL hi8).1, (S1.z2 hL hi8).1, (S1.z3 hL hi8).1, M1.P.1.1, ?_⟩
        rw [(S1.z1 hL hi8).2, (S1.z2 hL hi8).2, (S1.z3 hL hi8).2]
        exact op_215 (by omega) hB M1 (B 1) (B 2) (fun _ => ⟨_, rfl, fun _ => K _ ⟨g, t, u, ft, tn, tb, N, rs, rx, la, sz, ce, to, by omega, js, J, M1⟩ S1, fun c => absurd rfl c⟩) (fun a _ => absurd a c) (fun a _ _ => absurd a c) (fun a _ _ _ _ _ => absurd a c)
      · have S1 := S
        have M1 := M
        refine ⟨_, rfl, Or.inr S1.1, (S1.z1 hL hi8).1, (S1.z2 hL hi8).1, (S1.z3 hL hi8).1, M1.P.1.1, ?_⟩
        rw [(S1.z1 hL hi8).2, (S1.z2 hL hi8).2, (S1.z3 hL hi8).2]
        exact op_215 (by omega) hB M1 (B 1) (B 2) (fun c => absurd a c) (fun _ _ => ⟨_, rfl, fun _ => K _ ⟨g, t, u, ft, tn, tb, N, rs, rx, la, sz, ce, to, by omega, js, J, M1⟩ S1, fun c => absurd rfl c⟩) (fun _ b' _ => absurd b b') (fun _ b' _ _ _ _ => absurd b b')
      · have S1 := S
        have M1 := M
        refine ⟨_, rfl, Or.inr S1.1, (S1.z1 hL hi8).1, (S1.z2 hL hi8).1, (S1.z3 hL hi8).1, M1.P.1.1, ?_⟩
        rw [(S1.z1 hL hi8).2, (S1.z2 hL hi8).2, (S1.z3 hL hi8).2]
        exact op_215 (by omega) hB M1 (B 1) (B 2) (fun c => absurd a c) (fun _ b' => absurd b' b) (fun _ _ _ => ⟨_, rfl, fun _ => K _ ⟨g, t, u, ft, tn, tb, N, rs, rx, la, sz, ce, to, by omega, js, J, M1⟩ S1, fun c => absurd rfl c⟩) (fun _ _ e' _ _ _ => absurd e' e)
      · have S1 := S.cf hb C1
        have M1 := M.cf C1
        refine ⟨_, rfl, Or.inr S1.1, (S1.z1 hL hi8).1, (S1.z2 hL hi8).1, (S1.z3 hL hi8).1, M1.P.1.1, ?_⟩
        rw [(S1.z1 hL hi8).2, (S1.z2 hL hi8).2, (S1.z3 hL hi8).2]
        exact op_215 (by omega) hB M1 (B 1) (B 2) (fun c => absurd a c) (fun _ b' => absurd b' b) (fun _ _ e' => absurd e e') (fun _ _ _ h2 M2 F2 => ⟨_, rfl, fun _ => K h2 ⟨g, t, u, ft, tn, tb, N, rs, rx, la, sz, (sh_c1 ce (xs (8 * i + 1)).toInt.toNat (xs (8 * i + 2)).toInt.toNat (sh_nar (la (xs (8 * i + 1)).toInt.toNat) (jI (xs (8 * i + 3)).toInt))), to, by omega, js, J1.mf F2, M2⟩ (S1.mf (by omega) F2), fun c => absurd rfl c⟩)
    · -- 27
      refine ⟨(S.z1 hL hi8).1, (S.z2 hL hi8).1, (S.z3 hL hi8).1, (S.z4 hL hi8).1, J.X.t0, ?_⟩
      rw [(S.z1 hL hi8).2, (S.z2 hL hi8).2, (S.z3 hL hi8).2, (S.z4 hL hi8).2]
      refine op_117 (by omega) ok hB hR hN J (B 1) (B 2) (B 3) (B 4) (fun c => ?_) (fun a b e f h1 J1 C1 => ?_) (fun a b e f vs le h1 J1 C1 => ?_)
      · have S1 := S
        have M1 := M
        refine ⟨_, rfl, Or.inr S1.1, (S1.z1 hL hi8).1, (S1.z2 hL hi8).1, (S1.z3 hL hi8).1, (S1.z4 hL hi8).1, M1.P.1.1, ?_⟩
        rw [(S1.z1 hL hi8).2, (S1.z2 hL hi8).2, (S1.z3 hL hi8).2, (S1.z4 hL hi8).2]
        exact op_216 (by omega) ok hB hN M1 (B 1) (B 2) (B 3) (B 4) (fun _ => ⟨_, rfl, fun _ => K _ ⟨g, t, u, ft, tn, tb, N, rs, rx, la, sz, ce, to, by omega, js, J, M1⟩ S1, fun c => absurd rfl c⟩) (fun a b e _ => absurd ⟨a, b, e⟩ c) (fun a b e _ _ _ _ => absurd ⟨a, b, e⟩ c)
      · have S1 := S.cf hb C1
        have M1 := M.cf C1
        refine ⟨_, rfl, Or.inr S1.1, (S1.z1 hL hi8).1, (S1.z2 hL hi8).1, (S1.z3 hL hi8).1, (S1.z4 hL hi8).1, M1.P.1.1, ?_⟩
        rw [(S1.z1 hL hi8).2, (S1.z2 hL hi8).2, (S1.z3 hL hi8).2, (S1.z4 hL hi8).2]
        exact op_216 (by omega) ok hB hN M1 (B 1) (B 2) (B 3) (B 4) (fun c => absurd ⟨a, b, e⟩ c) (fun _ _ _ _ => ⟨_, rfl, fun _ => K _ ⟨g, t, u, ft, tn, tb, N, rs, rx, la, sz, ce, to, by omega, js, J1, M1⟩ S1, fun c => absurd rfl c⟩) (fun _ _ _ f' _ _ _ => absurd f' f)
      · have S1 := S.cf hb C1
        have M1 := M.cf C1
        refine ⟨_, rfl, Or.inr S1.1, (S1.z1 hL hi8).1, (S1.z2 hL hi8).1, (S1.z3 hL hi8).1, (S1.z4 hL hi8).1, M1.P.1.1, ?_⟩
        rw [(S1.z1 hL hi8).2, (S1.z2 hL hi8).2, (S1.z3 hL hi8).2, (S1.z4 hL hi8).2]
        exact op_216 (by omega) ok hB hN M1 (B 1) (B 2) (B 3) (B 4) (fun c => absurd ⟨a, b, e⟩ c) (fun _ _ _ f' => absurd f f') (fun _ _ _ _ h2 M2 F2 => ⟨_, rfl, fun _ => K h2 ⟨g, t, u, ft, tn, tb, (N + (rd_all la sz ce (xs (8 * i + 1)).toInt.toNat (xs (8 * i + 2)).toInt (xs (8 * i + 3)).toInt (tp_T t) N (xs (8 * i + 4)).toInt.toNat).2.2), (rd_r ce (xs (8 * i + 1)).toInt.toNat (xs (8 * i + 3)).toInt N 0 rs (rd_all la sz ce (xs (8 * i + 1)).toInt.toNat (xs (8 * i + 2)).toInt (xs (8 * i + 3)).toInt (tp_T t) N (xs (8 * i + 4)).toInt.toNat).2.2), (rd_r ce (xs (8 * i + 1)).toInt.toNat (xs (8 * i + 3)).toInt N 1 rx (rd_all la sz ce (xs (8 * i + 1)).toInt.toNat (xs (8 * i + 2)).toInt (xs (8 * i + 3)).toInt (tp_T t) N (xs (8 * i + 4)).toInt.toNat).2.2), la, sz, ce, (jI (rd_all la sz ce (xs (8 * i + 1)).toInt.toNat (xs (8 * i + 2)).toInt (xs (8 * i + 3)).toInt (tp_T t) N (xs (8 * i + 4)).toInt.toNat).1), by omega, ⟨ok, ou, hTb, htn, le, rd_r_B hR _ vs, hB⟩, J1.mf F2, M2⟩ (S1.mf (by omega) F2), fun c => absurd rfl c⟩)
    · -- 28
      obtain ⟨s1, e1⟩ := f118 J
      obtain ⟨s2, e2⟩ := f217 (E := E) M
      refine ⟨J.X.t0, by omega, s1, M.P.1.1, by omega, s2, ?_⟩
      rw [e1, e2]
      exact ⟨fun _ => K h ⟨g, t, u, ft, tn, tb, N, rs, rx, la, sz, ce, to, by omega, js, J, M⟩ S, fun c => absurd rfl c⟩
    · -- 29
      refine ⟨(S.z1 hL hi8).1, J.X.t0, ?_⟩
      rw [(S.z1 hL hi8).2]
      refine op_119 (by omega) ok ou hB J (B 1) ⟨_, rfl, Or.inr S.1, (S.z1 hL hi8).1, M.P.1.1, ?_⟩
      rw [(S.z1 hL hi8).2]
      exact op_218 (by omega) ok ou hB M (B 1) ⟨_, rfl, fun _ => K h ⟨g, t, u, ft, tn, tb, N, rs, rx, la, sz, ce, to, by omega, js, J, M⟩ S, fun c => absurd rfl c⟩
end LOO
