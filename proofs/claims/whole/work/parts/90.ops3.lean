/-! THE CALLS: whose, takes, ends -/
theorem j0c {p : Prop} [Decidable p] {y : Int32} : (if p then (0 : Int32) else y) = 0 ↔ p ∨ y = 0 := by
  split
  · next c => exact ⟨fun _ => Or.inl c, fun _ => rfl⟩
  · next c => exact ⟨fun q => Or.inr q, fun q => q.elim (fun a => absurd a c) id⟩
theorem j10 : ((1 : Int32) = 0) ↔ False := by decide
section OPC
variable {E : Nat → Nat} {h : ZH} {x m zs zt g tn N d : Nat} {t u rs rx : Nat → Nat} {ft to : Int32} {tb : Nat → Int32} {la sz : Nat → Int} {ce : Nat → Nat → Int32} {Q : Option Value → ZH → Prop}
def an_whose (t u : Nat → Nat) (z w : Int) : Int := if (0 ≤ z ∧ z < t 0) ∧ (0 ≤ w ∧ w ≤ 2) then (tp_ls t (tp_top t) (if tp_fr t (if w = 2 then 0 else (w + 1).toNat) = true then tp_shN t u z.toNat else 0) : Int) else -1
theorem tp_top16 (t : Nat → Nat) : tp_top t ≤ 16 := by unfold tp_top; omega
theorem op_97 {z w : Int} (hd : 8 ≤ d) (ok : tp_Ok t) (ou : tp_Ou u) (J : JC E h x zs zt g t u ft tn tb N rs rx la sz ce to) (h1 : -2147483648 ≤ z) (h2 : z < 2147483648) (h3 : -2147483648 ≤ w) (h4 : w < 2147483648) (q : Q (some (.int (jI (an_whose t u z w)))) h) : Ct E d 97 [.ref x, .int (jI z), .int (jI w)] h Q := by
  obtain ⟨d, rfl⟩ : ∃ n, d = n + 1 := ⟨d - 1, by omega⟩
  have P := J.P
  have f36 := fz36 (E := E) (z := z) ok P.1 h1 h2
  unfold an_whose at q
  refine ok_97 ⟨J.X.t0, x + 1, J.X.r0, P.1.1.1, by omega, sz36 P.1, fun c => ?_, fun c => ⟨fun c1 => ?_, fun c1 => ⟨fun c2 => ?_, fun c2 => ?_⟩⟩⟩
  · rw [f36, j01] at c
    rw [if_neg (fun q => c q.1)] at q
    exact q
  · rw [show (0 : Int32) = jI 0 from rfl, jI_lt h3 h4 (by omega) (by omega)] at c1
    rw [if_neg (by omega)] at q
    exact q
  · rw [f36, j01, Classical.not_not] at c
    rw [show (0 : Int32) = jI 0 from rfl, jI_lt h3 h4 (by omega) (by omega)] at c1
    rw [show (2 : Int32) = jI 2 from rfl, jI_le h3 h4 (by omega) (by omega)] at c2
    rw [if_pos ⟨c, by omega⟩] at q
    obtain ⟨y, rfl⟩ := Int.eq_ofNat_of_zero_le c.1
    rw [show (((y : Nat) : Int)).toNat = y from rfl] at q
    generalize hf : (if w = 2 then 0 else (w + 1).toNat) = f at q
    have hf3 : f < 3 := by rw [← hf]; split <;> omega
    refine nm_r (e' := jI (f : Int)) ?_ ⟨by omega, sz38 P.1, ?_⟩
    · have : w = 0 ∨ w = 1 ∨ w = 2 := by omega
      rcases this with e | e | e <;> subst e <;> subst hf <;> decide
    rw [fz38 ok P.1 hf3, j01]
    have fin : ∀ s, s ≤ t 1 → Q (some (.int (jI (tp_ls t (tp_top t) s : Int)))) h → wb_97_34 E d Q x (jI (s : Int)) h := fun s hs qs => by
      refine ⟨J.X.t0, x + 1, J.X.r0, P.1.1.1, by omega, sz39 P.1, by omega, sz40 ok P.1, ?_⟩
      rw [fz39 ok P.1, fz40 ok P.1 (tp_top16 t) hs]
      exact qs
    refine ⟨fun cf => ?_, fun cf => ?_⟩
    · rw [if_neg cf] at q
      exact fin 0 (by omega) q
    · rw [Classical.not_not] at cf
      rw [if_pos cf] at q
      exact ct_42 (by omega) ok ou P.Y (by omega) ⟨_, rfl, fin _ (tp_shN_le t u y) q⟩
  · rw [show (2 : Int32) = jI 2 from rfl, jI_le h3 h4 (by omega) (by omega)] at c2
    rw [if_neg (by omega)] at q
    exact q
theorem l162 {y : Nat} {w : Int32} (ok : tp_Ok t) (ou : tp_Ou u) (P : MPg h m t u) (hy : y < t 0) (q0 : wb_162_43 E d Q m w (jI (tp_shN t u y : Int)) h) : ∀ n i, i + n = t 1 → wl_162_16 E d Q (n + 1) m (jI (y : Int)) w (jI (tp_cnt (fun i => decide (u (y * t 1 + i) ≠ 3)) i : Int)) (jI (i : Int)) h
  | 0, i, e => by
    have h1 := ok.2.1
    rw [wl_162_16]
    refine ⟨P.1.1, m + 8, P.1.a15.1, P.1.a15.ti, P.1.a15.inc (by decide), fun _ => ?_, fun q => ?_⟩
    · have e2 : i = t 1 := by omega
      subst e2
      exact q0
    · exfalso
      apply q
      rw [P.2.1 1 (by omega), jI_len (by omega) (by omega)]
      omega
  | n + 1, i, e => by
    have ih := l162 (y := y) ok ou P hy q0 n (i + 1) (by omega)
    have h1 := ok.2.1
    have h4 := ok.1
    have hT := ok.T
    have hk : y * t 1 + i < tp_T t := by
      have := jrow (t 1) hy
      unfold tp_T
      omega
    have hub := tp_uJ_b ou (y * t 1 + i)
    have ei : (jI (y : Int) * jI (t 1 : Int) + jI (i : Int) : Int32) = jI ((y * t 1 + i : Nat) : Int) := by
      rw [jI_mul, jI_add]; rfl
    rw [wl_162_16]
    refine ⟨P.1.1, m + 8, P.1.a15.1, P.1.a15.ti, P.1.a15.inc (by decide), fun q => ?_, fun _ => ⟨m + 10, P.1.a20.1, P.1.a15.inc (by decide), P.1.a20.ti, ?_, nm_r (e' := jI ((tp_cnt (fun i => decide (u (y * t 1 + i) ≠ 3)) (i + 1) : Nat) : Int)) ?_ (nm_r (e' := jI ((i + 1 : Nat) : Int)) (by rw [show (1 : Int32) = jI 1 from rfl, jI_add]; rfl) ih)⟩⟩
    · exfalso
      rw [P.2.1 1 (by omega), jI_len (by omega) (by omega)] at q
      omega
    · rw [P.2.1 1 (by omega), ei]
      exact P.1.a20.inn (by omega) (by omega)
    · rw [P.2.1 1 (by omega), ei, jI_cln (by omega), P.2.2.2.2 _ (by omega)]
      show _ = jI ((tp_cnt (fun i => decide (u (y * t 1 + i) ≠ 3)) i + (if (decide (u (y * t 1 + i) ≠ 3)) = true then 1 else 0) : Nat) : Int)
      have iff4 : jI (tp_uJ (u (y * t 1 + i))) = (-4 : Int32) ↔ u (y * t 1 + i) = 3 := by
        rw [show (-4 : Int32) = jI (-4) from rfl, jI_eq (by omega) (by omega) (by omega) (by omega), tp_uJ_n]
      by_cases c : u (y * t 1 + i) = 3
      · rw [if_neg (fun q => q (iff4.mpr c)), if_neg (by simp [c]), show (0 : Int32) = jI 0 from rfl, jI_add]; rfl
      · rw [if_pos (fun q => c (iff4.mp q)), if_pos (by simp [c]), show (1 : Int32) = jI 1 from rfl, jI_add]; rfl
theorem op_162 {z w : Int} (hd : 8 ≤ d) (ok : tp_Ok t) (ou : tp_Ou u) (J : JM h m t u ft tn tb N rs rx la sz ce to) (h1 : -2147483648 ≤ z) (h2 : z < 2147483648) (h3 : -2147483648 ≤ w) (h4 : w < 2147483648) (q : Q (some (.int (jI (an_whose t u z w)))) h) : Ct E d 162 [.ref m, .int (jI z), .int (jI w)] h Q := by
  obtain ⟨d, rfl⟩ : ∃ n, d = n + 1 := ⟨d - 1, by omega⟩
  have P := J.P
  have f160 := fz160 (E := E) (z := z) ok P h1 h2
  have h13 : t 13 ≤ 7 := ok.2.2.2.2.2.2.2.2.2.2.2.2.1
  have g2 : fz_135 E h (jI w).toInt64 0 2 = 0 ↔ ¬ (0 ≤ w ∧ w ≤ 2) := f135 (a := 0) (b := 2) h3 h4 (by omega) (by omega) (by omega) (by omega)
  unfold an_whose at q
  refine ok_162 ⟨P.1.1, by omega, sz160 P, fun c => ?_, fun c => ⟨by omega, trivial, fun c2 => ?_, fun c2 => ?_⟩⟩
  · rw [f160, j01] at c
    rw [if_neg (fun q => c q.1)] at q
    exact q
  · rw [f160, j01, Classical.not_not] at c
    rw [g2, Classical.not_not] at c2
    rw [if_pos ⟨c, c2⟩] at q
    obtain ⟨y, rfl⟩ := Int.eq_ofNat_of_zero_le c.1
    rw [show (((y : Nat) : Int)).toNat = y from rfl] at q
    refine ⟨t 1 + 1, l162 ok ou P (by omega) ?_ (t 1) 0 (by omega)⟩
    generalize hf : (if w = 2 then 0 else (w + 1).toNat) = f at q
    have hf3 : f < 3 := by rw [← hf]; split <;> omega
    refine nm_r (e' := jI (f : Int)) ?_ ⟨P.1.1, by omega, sz157 P, m + 8, P.1.a15.1, P.1.a15.ti, P.1.a15.inc (by decide), by omega, sz156 ok P, ?_⟩
    · have : w = 0 ∨ w = 1 ∨ w = 2 := by omega
      rcases this with e | e | e <;> subst e <;> subst hf <;> decide
    rw [P.2.1 13 (by omega), fz157 ok P]
    have jf := jfree (t 13) (by omega) f hf3
    by_cases cf : tp_fr t f = true
    · rw [if_pos cf] at q
      rw [if_neg (fun q => q (jf.mpr (by unfold tp_fr at cf; exact of_decide_eq_true cf))), fz156 ok P (tp_top16 t) (tp_shN_le t u y)]
      exact q
    · rw [if_neg cf] at q
      rw [if_pos (fun q => cf (by unfold tp_fr; exact decide_eq_true (jf.mp q)))]
      have := fz156 (E := E) (v := tp_top t) (f := 0) ok P (tp_top16 t) (by omega)
      rw [show (0 : Int32) = jI ((0 : Nat) : Int) from rfl, this]
      exact q
  · rw [g2] at c2
    rw [if_neg (by omega)] at q
    exact q
/-! a place -/
abbrev tp_pl (t : Nat → Nat) (z c n k s : Int) : Prop := (0 ≤ z ∧ z < tp_T t) ∧ (0 ≤ c ∧ c ≤ 20) ∧ (0 ≤ n ∧ n ≤ 12) ∧ (0 ≤ k ∧ k ≤ 8) ∧ (0 ≤ s ∧ s < 3)
abbrev jb (z : Int) : Prop := -2147483648 ≤ z ∧ z < 2147483648
theorem f120 {s : Int} (hs : jb s) : fz_120 E h (jI s) = 0 ↔ ¬ (0 ≤ s ∧ s < 3) := by
  show (if jI s < jI 0 then (0 : Int32) else if jI 3 ≤ jI s then 0 else 1) = 0 ↔ _
  rw [jif3 hs.1 hs.2 (by omega) (by omega) (by omega) (by omega)]
  exact j01
theorem f121 {s : Int} (hs : jb s) : fz_121 E h (jI s) = 0 ↔ ¬ (0 ≤ s ∧ s ≤ 20) := by
  show (if jI s < jI 0 then (0 : Int32) else if jI 20 < jI s then 0 else 1) = 0 ↔ _
  rw [jif2 hs.1 hs.2 (by omega) (by omega) (by omega) (by omega)]
  exact j01
theorem f122 {s : Int} (hs : jb s) : fz_122 E h (jI s) = 0 ↔ ¬ (0 ≤ s ∧ s ≤ 8) := by
  show (if jI s < jI 0 then (0 : Int32) else if jI 8 < jI s then 0 else 1) = 0 ↔ _
  rw [jif2 hs.1 hs.2 (by omega) (by omega) (by omega) (by omega)]
  exact j01
theorem jlt {s : Int} (hs : jb s) (a : Int) (ha : jb a) : jI s < jI a ↔ s < a := jI_lt hs.1 hs.2 ha.1 ha.2
theorem f127 {z c n k s : Int} (ok : tp_Ok t) (X : XSh h x) (P : PgR h (x + 1) t u) (hz : jb z) (hc : jb c) (hn : jb n) (hk : jb k) (hs : jb s) : fz_127 E h x (jI z) (jI c) (jI n) (jI k) (jI s) = 0 ↔ ¬ tp_pl t z c n k s := by
  have e0 : zR h x 0 - 1 = x + 1 := by rw [X.r0]; rfl
  have f35 : fz_35 E h (x + 1) (jI z) = 0 ↔ ¬ (0 ≤ z ∧ z < tp_T t) := by rw [fz35 ok P.2.2.2.2.2 hz.1 hz.2]; exact j01
  show (if (fz_35 E h (zR h x 0 - 1) (jI z) : Int32) = 0 then (0 : Int32) else if (if (fz_121 E h (jI c) : Int32) = 0 then (0 : Int32) else if jI n < jI 0 then 0 else if jI 12 < jI n then 0 else if (fz_122 E h (jI k) : Int32) = 0 then 0 else 1) = 0 then 0 else if (fz_120 E h (jI s) : Int32) = 0 then 0 else 1) = 0 ↔ _
  rw [e0]
  simp only [j0c, f35, f121 hc, f122 hk, f120 hs, j10, or_false, jlt hn 0 (by omega), jI_lt (show (-2147483648 : Int) ≤ 12 by omega) (by omega) hn.1 hn.2]
  unfold tp_pl
  omega
theorem s127 {a1 a2 a3 a4 a5 : Int32} {z : Int} (X : XSh h x) (P : PgR h (x + 1) t u) : sz_127 E h x (jI z) a2 a3 a4 a5 := ⟨trivial, ⟨fun _ => trivial, fun _ => ⟨⟨fun _ => trivial, fun _ => ⟨⟨fun _ => trivial, fun _ => ⟨trivial, trivial⟩⟩, trivial⟩⟩, trivial⟩⟩, fun _ _ => ⟨X.t0, x + 1, X.r0, P.1.1.1, sz35 P.1, ⟨fun _ => trivial, fun _ => ⟨⟨fun _ => trivial, fun _ => ⟨trivial, trivial⟩⟩, trivial⟩⟩, trivial⟩⟩
theorem f169 {z c n k s : Int} (ok : tp_Ok t) (P : MPg h m t u) (hz : jb z) (hc : jb c) (hn : jb n) (hk : jb k) (hs : jb s) : fz_169 E h m (jI z) (jI c) (jI n) (jI k) (jI s) = 0 ↔ ¬ tp_pl t z c n k s := by
  have f153 : fz_153 E h m (jI z) = 0 ↔ ¬ (0 ≤ z ∧ z < tp_T t) := by rw [fz153 ok P hz.1 hz.2]; exact j01
  have g1 : fz_135 E h (jI c).toInt64 0 20 = 0 ↔ ¬ (0 ≤ c ∧ c ≤ 20) := f135 (a := 0) (b := 20) hc.1 hc.2 (by omega) (by omega) (by omega) (by omega)
  have g2 : fz_135 E h (jI n).toInt64 0 12 = 0 ↔ ¬ (0 ≤ n ∧ n ≤ 12) := f135 (a := 0) (b := 12) hn.1 hn.2 (by omega) (by omega) (by omega) (by omega)
  have g3 : fz_135 E h (jI k).toInt64 0 8 = 0 ↔ ¬ (0 ≤ k ∧ k ≤ 8) := f135 (a := 0) (b := 8) hk.1 hk.2 (by omega) (by omega) (by omega) (by omega)
  have g4 : fz_135 E h (jI s).toInt64 0 2 = 0 ↔ ¬ (0 ≤ s ∧ s ≤ 2) := f135 (a := 0) (b := 2) hs.1 hs.2 (by omega) (by omega) (by omega) (by omega)
  unfold fz_169
  simp only [j0c, f153, g1, g2, g3, g4, j10, or_false]
  unfold tp_pl
  omega
theorem s169 {z : Int} {a2 a3 a4 a5 : Int32} (P : MPg h m t u) : sz_169 E h m (jI z) a2 a3 a4 a5 := ⟨P.1.1, sz153 P, ⟨fun _ => trivial, fun _ => ⟨trivial, ⟨fun _ => trivial, fun _ => ⟨trivial, ⟨fun _ => trivial, fun _ => ⟨trivial, ⟨fun _ => trivial, fun _ => ⟨trivial, trivial⟩⟩, trivial⟩⟩, trivial⟩⟩, trivial⟩⟩, trivial⟩
theorem pl_nat {z c n k s : Int} (pl : tp_pl t z c n k s) : ∃ z' c' n' k' s' : Nat, z = (z' : Int) ∧ c = (c' : Int) ∧ n = (n' : Int) ∧ k = (k' : Int) ∧ s = (s' : Int) ∧ z' < tp_T t ∧ c' ≤ 20 ∧ n' ≤ 12 ∧ k' ≤ 8 ∧ s' < 3 := ⟨z.toNat, c.toNat, n.toNat, k.toNat, s.toNat, by unfold tp_pl at pl; omega, by unfold tp_pl at pl; omega, by unfold tp_pl at pl; omega, by unfold tp_pl at pl; omega, by unfold tp_pl at pl; omega, by unfold tp_pl at pl; omega, by unfold tp_pl at pl; omega, by unfold tp_pl at pl; omega, by unfold tp_pl at pl; omega, by unfold tp_pl at pl; omega⟩
end OPC
