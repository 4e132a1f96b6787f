/-! THE READER, the class's: a token; the lines -/
section RDH
variable {E : Nat → Nat} {h : ZH} {x tn p d pl : Nat} {tb : Nat → Int32} {S : RdT} {k : TkT} {Q : Option Value → ZH → Prop}
theorem ct_55 (hd : 5 ≤ d) (X : XSh h x) (Sc : Stc E h) (hE : E 0 ≤ x) (K : RdK S) (R : RdD h x S) (T : TkC h x k) (O : TkO tn p k) (qF : ¬ (stp S k).1 = 0 → ∀ h', Fr (rc_S x) h h' → FlC h' x (stp S k).1 k.2.2.1 → Q none h') (qS : (stp S k).1 = 0 → ∀ h', Fr (rc_S x) h h' → RdD h' x (stp S k).2 → Q none h') : Ct E d 55 [.ref (x + 10)] h Q := by
  obtain ⟨d, rfl⟩ : ∃ n, d = n + 1 := ⟨d - 1, by omega⟩
  obtain ⟨ln, sl, tm, to, t⟩ := S
  have R : RdC h x ln sl tm to t := R
  have K : RdO ln sl tm to t := K
  have k0 : (zI h (x + 8) 3 = 0 ↔ k.1 = 0) := by rw [T.1]; exact jI_eqn (b := 0) (by have := O.1; omega) (by omega)
  unfold stp at qF qS
  dsimp only at qF qS
  refine ok_55 ⟨X.t10, x + 8, X.rt, X.t8.1, ?_⟩
  rw [k0]
  refine ⟨fun c0 => ?_, fun c0 => ?_⟩
  · rw [if_neg c0] at qF qS
    have i5 : zI h (x + 10) 5 = lnI ln := R.2.1
    rw [i5, lnI_n K.1]
    refine ⟨fun c17 => ?_, fun c17 => ?_⟩
    · rw [if_neg c17] at qF qS
      have hl : ln < 17 := by have := K.1; omega
      have A := Sc.tab (j := 4) (by omega) (by omega) hl
      have li : lnI ln = jI (ln : Int) := by unfold lnI; rw [if_neg (by omega)]
      obtain ⟨i6, i7⟩ := R.2.2.1 hl
      have s4 := slN_b2 ln hl
      have sl4 : sl ≤ 4 := Nat.le_trans (K.2.1 hl) s4
      refine ⟨A.1, by rw [li]; exact A.2.1, ?_⟩
      rw [i6, li, jI_cln (by omega), A.2.2, zst_4 ln hl, jI_eqn (by omega) (by omega), show (8 : Int32) = jI ((8 : Nat) : Int) from rfl, jI_eqn (by omega) (by omega), show (12 : Int32) = jI ((12 : Nat) : Int) from rfl, jI_eqn (by omega) (by omega)]
      refine ⟨fun cs => ?_, fun cs => ?_⟩
      · rw [if_neg cs] at qF qS
        refine ⟨fun c8 => ⟨fun c12 => ?_, fun c12 => ?_⟩, fun c8 => ?_⟩
        · rw [if_neg c8, if_neg c12] at qF qS
          by_cases cw : sl = 0 ∧ (ln = 14 ∨ ln = 15)
          · rw [if_pos cw] at qF qS
            obtain ⟨rfl, cw⟩ := cw
            exact ct_62w (by omega) X cw R T O (fun a h' F G => ⟨rfl, qF a h' F G⟩) (fun a h' F G => ⟨rfl, qS a h' F G⟩)
          · rw [if_neg cw] at qF qS
            exact ct_62v (by omega) X Sc hE hl c8 c12 cs cw K R T O (fun a h' F G => ⟨rfl, qF a h' F G⟩) (fun a h' F G => ⟨rfl, qS a h' F G⟩)
        · rw [Classical.not_not] at c12
          subst c12
          rw [if_neg c8, if_pos rfl] at qF qS
          have b13 := (K.2.2.2.2.2.1 13 (by omega)).2
          exact ct_61 (by omega) X R (by omega) ⟨b13, K.2.2.2.2.2.2.2.2⟩ T O (fun a h' F G => ⟨rfl, qF a h' F G⟩) (fun a h' F G => ⟨rfl, qS a h' F G⟩)
        · rw [Classical.not_not] at c8
          subst c8
          rw [if_pos rfl] at qF qS
          exact ct_60 (by omega) X R (by omega) T O (fun a h' F G => ⟨rfl, qF a h' F G⟩) (fun a h' F G => ⟨rfl, qS a h' F G⟩)
      · rw [Classical.not_not] at cs
        rw [if_pos cs] at qF qS
        exact ct_58 (by omega) X R T O (fun a h' F G => ⟨rfl, qF a h' F G⟩) (fun a h' F G => ⟨rfl, qS a h' F G⟩)
    · rw [Classical.not_not] at c17
      subst c17
      rw [if_pos rfl] at qF qS
      exact ct_57 (by omega) X Sc hE R T O (fun a h' F G => ⟨rfl, qF a h' F G⟩) (fun a h' F G => ⟨rfl, qS a h' F G⟩)
  · rw [Classical.not_not] at c0
    rw [if_pos c0] at qF
    exact ct_54 (c := 1) (by omega) X R.1 T.2.2.1 (fun h' F G => ⟨rfl, qF (by show ¬ 1 = 0; omega) h' (fl_rc F) G⟩)
/-- what the class's reading may change -/
def rk_S (x : Nat) : Nat → Nat → Prop := fun a i => (a = x + 8 ∧ 2 ≤ i) ∨ (a = x + 10 ∧ 2 ≤ i ∧ i ≤ 7) ∨ a = x + 12
theorem rc_rk {h1 : ZH} (y : Fr (rc_S x) h h1) : Fr (rk_S x) h h1 := y.wd (fun a i q => by unfold rc_S at q; unfold rk_S; omega)
theorem tp_rk {h1 : ZH} (y : Fr (tp_St x) h h1) : Fr (rk_S x) h h1 := y.wd (fun a i q => by unfold tp_St at q; unfold rk_S; omega)
theorem TpD.rk {h1 : ZH} (T : TpD h x tn tb) (y : Fr (rk_S x) h h1) : TpD h1 x tn tb := ⟨T.1.fr y, by rw [y.I (by unfold rk_S; omega)]; exact T.2.1, fun i hi => by rw [y.I (by unfold rk_S; omega)]; exact T.2.2 i hi⟩
theorem TkC.rc {h1 : ZH} (T : TkC h x k) (y : Fr (rc_S x) h h1) : TkC h1 x k := ⟨by rw [y.I (by unfold rc_S; omega)]; exact T.1, by rw [y.I (by unfold rc_S; omega)]; exact T.2.1, by rw [y.I (by unfold rc_S; omega)]; exact T.2.2.1, by rw [y.I (by unfold rc_S; omega)]; exact T.2.2.2⟩
theorem RdD.tp {h1 : ZH} (R : RdD h x S) (y : Fr (tp_St x) h h1) : RdD h1 x S := by
  have e : ∀ a i, a ≠ x + 8 → zI h1 a i = zI h a i := fun a i ha => y.I (by unfold tp_St; omega)
  obtain ⟨r1, r2, r3, r4, r5⟩ := R
  exact ⟨by rw [e _ _ (by omega)]; exact r1, by rw [e _ _ (by omega)]; exact r2, fun q => ⟨by rw [e _ _ (by omega)]; exact (r3 q).1, by rw [e _ _ (by omega)]; exact (r3 q).2⟩, by rw [e _ _ (by omega)]; exact r4, fun k hk => by rw [e _ _ (by omega)]; exact r5 k hk⟩
/-- how a reading ends: code, place, lines, numbers -/
def EnC (h : ZH) (x : Nat) (A : Nat × Nat × Nat × RdT) (v : Int32) : Prop := zI h (x + 10) 3 = jI (A.1 : Int) ∧ (¬ A.1 = 0 → zI h (x + 10) 4 = jI (A.2.1 : Int)) ∧ (A.1 = 0 → v = jI (A.2.2.1 : Int) ∧ ∀ k, k < 39 → zI h (x + 12) k = jI (A.2.2.2.2.2.2.2 k : Int))
theorem b53 {n : Nat} {v : Int32} {A : Nat × Nat × Nat × RdT} {h1 : ZH} (hd : 1 ≤ d) (X : XSh h1 x) (F : Fr (rk_S x) h h1) (ii : (zI h1 (x + 10) 5 = -4 ∧ EnC h1 x A v) ∨ (¬ zI h1 (x + 10) 3 = 0 ∧ EnC h1 x A v) ∨ (¬ zI h1 (x + 10) 5 = -4 ∧ zI h1 (x + 10) 3 = 0 ∧ zI h1 (x + 8) 5 = jI (A.2.1 : Int) ∧ A.1 = 2)) (q : ∀ h', Fr (rk_S x) h h' → EnC h' x A v → Q (some (.int v)) h') : wb_53_55 E d Q (x + 10) v h1 := by
  refine ⟨X.t10, fun c => ?_, fun c => ?_⟩
  · rcases ii with i | i | i
    · exact q h1 F i.2
    · exact q h1 F i.2
    · exact absurd c i.1
  · rcases ii with i | i | i
    · exact absurd i.1 c
    · exact ct_54' hd X i.1 ⟨rfl, q h1 F i.2⟩
    · refine ct_54 (c := 2) hd X i.2.1 i.2.2.1 (fun h' F' G => ⟨rfl, q h' (F.tr (rc_rk (fl_rc F'))) ⟨?_, fun _ => G.2, fun e => ?_⟩⟩)
      · rw [i.2.2.2]; exact G.1
      · exact absurd (i.2.2.2.symm.trans e) (by decide)
theorem if4 {P : Prop} [Decidable P] {a b : Nat × RdT} (h1 : a.1 ≤ 4) (h2 : b.1 ≤ 4) : (if P then a else b).1 ≤ 4 := by
  split
  · exact h1
  · exact h2
theorem stp_c (S : RdT) (k : TkT) : (stp S k).1 ≤ 4 := by
  unfold stp stN stE stM stF stW stV
  have z : ∀ (c : Nat) (R : RdT), c ≤ 4 → ((c, R) : Nat × RdT).1 ≤ 4 := fun _ _ h => h
  exact if4 (z _ _ (by omega)) (if4 (if4 (z _ _ (by omega)) (if4 (z _ _ (by omega)) (if4 (z _ _ (by omega)) (if4 (z _ _ (by omega)) (z _ _ (by omega)))))) (if4 (if4 (z _ _ (by omega)) (z _ _ (by omega))) (if4 (if4 (z _ _ (by omega)) (z _ _ (by omega))) (if4 (if4 (z _ _ (by omega)) (if4 (z _ _ (by omega)) (z _ _ (by omega)))) (if4 (if4 (z _ _ (by omega)) (if4 (z _ _ (by omega)) (if4 (z _ _ (by omega)) (z _ _ (by omega))))) (if4 (z _ _ (by omega)) (if4 (z _ _ (by omega)) (if4 (z _ _ (by omega)) (z _ _ (by omega)))))))))) 
theorem tk_end (hp : p ≤ tn) (hq : tn ≤ p) : (tk tb tn p).1 = 4 := by
  unfold tk tkS
  rw [show tn - p = 0 by omega, rn]
  unfold tkA
  rw [if_pos hq]
/-- the end of the loop: no token is left -/
theorem e53 {r n : Nat} {h1 : ZH} (hd : 1 ≤ d) (X : XSh h1 x) (F : Fr (rk_S x) h h1) (K : RdK S) (R : RdD h1 x S) (T : TkC h1 x (tk tb tn p)) (hp : p ≤ tn) (hr : tn < p + r) (c4 : (tk tb tn p).1 = 4) (q : ∀ h' v, Fr (rk_S x) h h' → EnC h' x (rdr tb tn r S p n) v → Q (some (.int v)) h') : wb_53_55 E d Q (x + 10) (jI (n : Int)) h1 := by
  have l17 := lnI_n K.1
  have i5 : zI h1 (x + 10) 5 = lnI S.1 := R.2.1
  by_cases c : S.1 = 17
  · have e := rdr_E (tb := tb) (n := n) hr hp c4 c
    refine b53 (n := n) hd X F (A := rdr tb tn r S p n) (Or.inl ⟨by rw [i5]; exact l17.mpr c, ?_⟩) (fun h' => q h' _)
    rw [e]
    exact ⟨R.1, fun w => absurd rfl w, fun _ => ⟨rfl, R.2.2.2.2⟩⟩
  · have e4 := stp_4 (S := S) (tk tb tn p) c4 c
    have e := rdr_F (tb := tb) (n := n) hr hp (S := S) (fun w => c w.2) (by rw [e4]; decide)
    refine b53 (n := n) hd X F (A := rdr tb tn r S p n) (Or.inr (Or.inr ⟨by rw [i5]; exact fun w => c (l17.mp w), R.1, ?_, ?_⟩)) (fun h' => q h' _)
    · rw [e]; exact T.2.2.1
    · rw [e]; exact e4
theorem f53 {c pl m : Nat} {h1 : ZH} {a1 a2 : Int32} {A : Nat × Nat × Nat × RdT} (hd : 1 ≤ d) (X : XSh h1 x) (F : Fr (rk_S x) h h1) (G : FlC h1 x c pl) (c0 : ¬ c = 0) (c4 : c ≤ 4) (eA : A = (c, pl, 0, S)) (q : ∀ h' v, Fr (rk_S x) h h' → EnC h' x A v → Q (some (.int v)) h') : wl_53_23 E d Q (m + 1) (x + 10) a1 a2 h1 := by
  have z : ¬ zI h1 (x + 10) 3 = 0 := by
    rw [G.1, show (0 : Int32) = jI ((0 : Nat) : Int) from rfl, jI_eqn (by omega) (by omega)]; exact c0
  have b : wb_53_55 E d Q (x + 10) a1 h1 := b53 (n := 0) hd X F (A := A) (Or.inr (Or.inl ⟨z, by rw [eA]; exact ⟨G.1, fun _ => G.2, fun w => absurd w c0⟩⟩)) (fun h' => q h' _)
  rw [wl_53_23]
  exact ⟨fun _ => b, fun _ => ⟨X.t10, x + 8, X.rt, X.t8.1, fun _ => b, fun _ => ⟨fun _ => b, fun w => absurd z w⟩⟩⟩
theorem l53 {h0 : ZH} {A : Nat × Nat × Nat × RdT} (hd : 10 ≤ d) (X0 : XSh h0 x) (Sc : Stc E h0) (hE : E 0 ≤ x) (B : TpB tb) (T0 : TpD h0 x tn tb) (hn : tn ≤ 320) (q : ∀ h' v, Fr (rk_S x) h0 h' → EnC h' x A v → Q (some (.int v)) h') : ∀ (j i p r n : Nat) (S : RdT) (h1 : ZH), i + j = 320 → i ≤ p → p ≤ tn → tn < p + r → n ≤ p → Fr (rk_S x) h0 h1 → RdK S → RdD h1 x S → TkC h1 x (tk tb tn p) → rdr tb tn r S p n = A → wl_53_23 E d Q (j + 1) (x + 10) (jI (n : Int)) (jI (i : Int)) h1
  | 0, i, p, r, n, S, h1, hi, ip, hp, hr, np, F1, K, R, T, eA => by
    have X := X0.fr F1
    rw [wl_53_23]
    refine ⟨fun _ => e53 (by omega) X F1 K R T hp hr (tk_end hp (by omega)) (by rw [eA]; exact q), fun w => absurd ?_ w⟩
    rw [show (320 : Int32) = jI ((320 : Nat) : Int) from rfl, jI_len (by omega) (by omega)]
    omega
  | j + 1, i, p, r, n, S, h1, hi, ip, hp, hr, np, F1, K, R, T, eA => by
    have X := X0.fr F1
    have Sc1 : Stc E h1 := Sc.fr F1 (fun a i ha => by unfold rk_S; omega)
    have O := tk_o tb hp
    have T1 := T0.rk F1
    have k4 : (zI h1 (x + 8) 3 = 4 ↔ (tk tb tn p).1 = 4) := by rw [T.1]; exact jI_eqn (b := 4) (by have := O.1; omega) (by omega)
    rw [wl_53_23]
    refine ⟨fun w => ?_, fun _ => ⟨X.t10, x + 8, X.rt, X.t8.1, fun w => ?_, fun w => ⟨fun w' => absurd R.1 w', fun _ => ?_⟩⟩⟩
    · exfalso
      rw [show (320 : Int32) = jI ((320 : Nat) : Int) from rfl, jI_len (by omega) (by omega)] at w
      omega
    · exact e53 (by omega) X F1 K R T hp hr (k4.mp w) (by rw [eA]; exact q)
    · rw [k4] at w
      have on := O.2.2.2.1 w
      refine ct_55 (by omega) X Sc1 hE K R T O (fun a h2 F2 G2 => ?_) (fun a h2 F2 R2 => ?_)
      · have F3 := F1.tr (rc_rk F2)
        have X3 := X0.fr F3
        have c4 := stp_c S (tk tb tn p)
        have z : ¬ zI h2 (x + 10) 3 = 0 := by
          rw [G2.1, show (0 : Int32) = jI ((0 : Nat) : Int) from rfl, jI_eqn (by omega) (by omega)]; exact a
        refine ⟨rfl, X3.t10, fun _ => nm_e (f53 (S := S) (by omega) X3 F3 G2 a c4 ?_ q), fun w' => absurd z w'⟩
        rw [← eA, rdr_F hr hp (fun q => w q.1) a]
      · have F3 := F1.tr (rc_rk F2)
        have X3 := X0.fr F3
        have T3 := T.rc F2
        have s := rdr_S (tb := tb) (n := n) hr hp w a
        refine ⟨rfl, X3.t10, fun w' => absurd R2.1 w', fun _ => ⟨x + 8, X3.rt, X3.t8.1, nm_r (e' := jI ((n + (if (tk tb tn p).1 = 3 then 1 else 0) : Nat) : Int)) ?_ ?_⟩⟩
        · have k3 : (zI h2 (x + 8) 3 = 3 ↔ (tk tb tn p).1 = 3) := by rw [T3.1]; exact jI_eqn (b := 3) (by have := O.1; omega) (by omega)
          by_cases c : (tk tb tn p).1 = 3
          · rw [if_neg (fun q => q (k3.mpr c)), if_pos c, show (1 : Int32) = jI 1 from rfl, jI_add]; rfl
          · rw [if_pos (fun q => c (k3.mp q)), if_neg c, show (0 : Int32) = jI 0 from rfl, jI_add]; rfl
        · refine ct_79 (p := (tk tb tn p).2.2.2) (by omega) (Sc.fr F3 (fun a i ha => by unfold rk_S; omega)) hE B (T0.rk F3) hn O.2.2.2.2.2.1 T3.2.2.2 (fun h4 F4 T4 => ⟨rfl, nm_r (e' := jI ((i + 1 : Nat) : Int)) (by rw [show (1 : Int32) = jI 1 from rfl, jI_add]; rfl) ?_⟩)
          exact l53 hd X0 Sc hE B T0 hn q j (i + 1) (tk tb tn p).2.2.2 (r - 1) _ (stp S (tk tb tn p)).2 h4 (by omega) (by omega) O.2.2.2.2.2.1 s.1 (by split <;> omega) (F3.tr (tp_rk F4)) (stp_ok K a) (R2.tp F4) T4 (by rw [← eA]; exact s.2.symm)
theorem ct_53 {A : Nat × Nat × Nat × RdT} (hd : 11 ≤ d) (X : XSh h x) (Sc : Stc E h) (hE : E 0 ≤ x) (B : TpB tb) (T : TpD h x tn tb) (hn : tn ≤ 320) (eA : rdr tb tn (tn + 1) rd0 0 0 = A) (q : ∀ h' v, Fr (rk_S x) h h' → EnC h' x A v → Q (some (.int v)) h') : Ct E d 53 [.ref (x + 10)] h Q := by
  obtain ⟨d, rfl⟩ : ∃ n, d = n + 1 := ⟨d - 1, by omega⟩
  refine ok_53 ⟨X.t10, x + 11, X.rg, X.s11.1, ct_30 (by omega) X.s11 Sc (fun h1 F1 D1 => ⟨rfl, (X.fr F1).t10, nm_e (nm_e (nm_e ⟨x + 8, (X.fr F1).rt, (X.fr F1).t8.1, nm_e ?_⟩))⟩)⟩
  have F2 : Fr (rk_S x) h (zuI (zuI (zuI (zuI h1 (x + 10) 2 0) (x + 10) 3 0) (x + 10) 5 (-4)) (x + 8) 2 0) := Fr.uI (Fr.uI (Fr.uI (Fr.uI (F1.wd (fun a i q => by unfold rk_S; omega)) (by unfold rk_S; omega)) (by unfold rk_S; omega)) (by unfold rk_S; omega)) (by unfold rk_S; omega)
  have R2 : RdD (zuI (zuI (zuI (zuI h1 (x + 10) 2 0) (x + 10) 3 0) (x + 10) 5 (-4)) (x + 8) 2 0) x rd0 := by
    refine ⟨?_, ?_, fun q => absurd (show 17 < 17 from q) (by omega), ?_, fun k hk => ?_⟩
    · rw [zI_offa (by omega), zI_offi (by omega), zI_here]
    · rw [zI_offa (by omega), zI_here]; rfl
    · rw [zI_offa (by omega), zI_offi (by omega), zI_offi (by omega), zI_here]; exact tol_0 26 (by omega)
    · rw [zI_offa (by omega), zI_offa (by omega), zI_offa (by omega), zI_offa (by omega)]; exact D1 k hk
  have i2 : zI (zuI (zuI (zuI (zuI h1 (x + 10) 2 0) (x + 10) 3 0) (x + 10) 5 (-4)) (x + 8) 2 0) (x + 8) 2 = jI ((0 : Nat) : Int) := zI_here _ _ _ _
  generalize zuI (zuI (zuI (zuI h1 (x + 10) 2 0) (x + 10) 3 0) (x + 10) 5 (-4)) (x + 8) 2 0 = h2 at F2 R2 i2 ⊢
  refine ct_79 (p := 0) (by omega) (Sc.fr F2 (fun a i ha => by unfold rk_S; omega)) hE B (T.rk F2) hn (by omega) i2 (fun h3 F3 T3 => ⟨rfl, 320 + 1, ?_⟩)
  exact l53 (by omega) X Sc hE B T hn q 320 0 0 (tn + 1) 0 rd0 h3 (by omega) (by omega) (by omega) (by omega) (by omega) (F2.tr (tp_rk F3)) rdo_0 (R2.tp F3) T3 eA
end RDH
