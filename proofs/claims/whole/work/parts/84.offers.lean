/-! FIGURES: one offer tried -/
section FIO
variable {E : Nat → Nat} {h : ZH} {x zs zt rb rt rp gb gt g bt sp : Nat} {t u rs : Nat → Nat} {Q : Option Value → ZH → Prop}
/-- what is kept, where the offers are not yet known -/
theorem FgK.ag {h1 : ZH} (K : FgK h x rb rt rp gb t u rs) (f : ∀ i, i = 7 ∨ i = 8 ∨ i = 10 ∨ i = 18 ∨ i = 19 → zI h1 (x + 24) i = zI h (x + 24) i) (z9 : zI h1 (x + 24) 9 = 0) (y : Ag (fun a => x + 33 ≤ a ∧ a ≤ x + 35) h h1) (yb : ∀ b, rb = b + 1 → Ag (Rg b (b + 26)) h h1) : FgK h1 x rb rt rp gb t u rs := by
  obtain ⟨f7, f8, -, f10, fl⟩ := K
  refine ⟨?_, ?_, fun q => absurd z9 q, ?_, ?_⟩
  · rw [f 7 (by omega)]
    intro q
    obtain ⟨b, ac, e1, e2⟩ := f7 q
    exact ⟨b, ac, e1, e2.ag (yb b e1)⟩
  · rw [f 8 (by omega)]
    intro q
    obtain ⟨e1, e2, e3, e4⟩ := f8 q
    refine ⟨e1, e2, by rw [y.L ⟨by omega, by omega⟩]; exact e3, fun j hj => by rw [y.L ⟨by omega, by omega⟩]; exact e4 j hj⟩
  · rw [f 10 (by omega)]
    intro q
    obtain ⟨e1, e2⟩ := f10 q
    exact ⟨by rw [f 18 (by omega)]; exact e1, fun c => by rw [f 19 (by omega)]; exact e2 c⟩
  · intro w hw q
    rw [y.I ⟨by omega, by omega⟩] at q
    obtain ⟨e1, e2⟩ := fl w hw q
    exact ⟨by rw [y.L ⟨by omega, by omega⟩]; exact e1, by rw [y.L ⟨by omega, by omega⟩]; exact e2⟩
theorem of_t_ok {p b : Nat} (ok : tp_Ok t) (hp : p ≤ 100) (hb1 : 1 ≤ b) (hb : b ≤ 60) : tp_Ok (of_t t p b) := by
  obtain ⟨o0, o1, o2, o3, o5, o6, o7, o8, o9, o10, o11, o12, o13, o14, o15, op, oc⟩ := ok
  have e : ∀ k, k ≠ 5 → k ≠ 6 → of_t t p b k = t k := fun k q1 q2 => by simp only [of_t, if_neg q1, if_neg q2]
  have e5 : of_t t p b 5 = p := rfl
  have e6 : of_t t p b 6 = b := rfl
  unfold tp_Ok
  rw [e5, e6, e 0 (by omega) (by omega), e 1 (by omega) (by omega), e 2 (by omega) (by omega), e 3 (by omega) (by omega), e 4 (by omega) (by omega), e 7 (by omega) (by omega), e 8 (by omega) (by omega), e 9 (by omega) (by omega), e 10 (by omega) (by omega), e 11 (by omega) (by omega), e 12 (by omega) (by omega), e 13 (by omega) (by omega), e 14 (by omega) (by omega), e 15 (by omega) (by omega)]
  refine ⟨o0, o1, o2, o3, hp, ⟨hb1, hb⟩, o7, o8, o9, o10, o11, o12, o13, o14, o15, fun s hs => ?_, fun s hs => ?_⟩
  · rw [e (20 + s) (by omega) (by omega)]; exact op s hs
  · rw [e (30 + 3 * s) (by omega) (by omega), e (31 + 3 * s) (by omega) (by omega), e (32 + 3 * s) (by omega) (by omega)]; exact oc s hs
theorem of_t_id (t : Nat → Nat) : of_t t (t 5) (t 6) = t := by
  funext k
  unfold of_t
  split
  · next e => rw [e]
  · split
    · next e => rw [e]
    · rfl
def OfB (n : Nat) (s : OfT) : Prop := s.1 ≤ n ∧ -2814749767106560000 ≤ s.2.2.2 ∧ s.2.2.2 ≤ 2814749767106560000
theorem of_st_B {n p b : Nat} {s : OfT} (ok' : tp_Ok (of_t t p b)) (h : OfB n s) : OfB (n + 1) (of_st t u p b s) := by
  have hw := tp_wh_bd ok' u 1
  unfold OfB at h ⊢
  unfold of_st
  split
  · split
    · exact ⟨by show s.1 + 1 ≤ n + 1; omega, hw.1, hw.2⟩
    · exact ⟨by show s.1 + 1 ≤ n + 1; omega, h.2.1, h.2.2⟩
  · exact ⟨by omega, h.2.1, h.2.2⟩
/-- the offer is counted, where it is held -/
theorem fin21 {d p b : Nat} {s : OfT} {hm : ZH} (n : Nat) (hn : n < 1000) (ht : ztag hm (x + 24) = 1) (hs : s.1 = n) (e14 : zI hm (x + 24) 14 = jI (n : Int)) (hw : tp_wh t u 0 ≤ tp_wh (of_t t p b) u 0) (Qk : zI hm (x + 24) 15 = jI (((if s.1 = 0 ∨ s.2.2.2 < tp_wh (of_t t p b) u 1 then (p, b, tp_wh (of_t t p b) u 1) else s.2 : Nat × Nat × Int).1 : Nat) : Int) ∧ zI hm (x + 24) 16 = jI (((if s.1 = 0 ∨ s.2.2.2 < tp_wh (of_t t p b) u 1 then (p, b, tp_wh (of_t t p b) u 1) else s.2 : Nat × Nat × Int).2.1 : Nat) : Int) ∧ zL hm (x + 24) 17 = jL ((if s.1 = 0 ∨ s.2.2.2 < tp_wh (of_t t p b) u 1 then (p, b, tp_wh (of_t t p b) u 1) else s.2 : Nat × Nat × Int).2.2 - tp_wh t u 1)) (kQ : FgO (zuI hm (x + 24) 14 (jI ((n + 1 : Nat) : Int))) x t u (of_st t u p b s) → Q none (zuI hm (x + 24) 14 (jI ((n + 1 : Nat) : Int)))) : wb_21_66 E d Q (x + 24) hm := by
  refine ⟨ht, nm_r (e' := zuI hm (x + 24) 14 (jI ((n + 1 : Nat) : Int))) (by rw [e14, show (1 : Int32) = jI 1 from rfl, jI_add]; rfl) (kQ ?_)⟩
  unfold of_st
  rw [if_pos hw]
  refine ⟨by rw [zI_here, hs], fun _ => ⟨by rw [zI_offi (by omega)]; exact Qk.1, by rw [zI_offi (by omega)]; exact Qk.2.1, by rw [zL_uI]; exact Qk.2.2⟩⟩
set_option maxHeartbeats 4000000 in
theorem ct_21 {d p b n : Nat} {s : OfT} (hd : 43 ≤ d) (ok : tp_Ok t) (hp : p ≤ 100) (hb1 : 1 ≤ b) (hb : b ≤ 60) (ou : tp_Ou u) (X : XSh h x) (P : PgR h (x + 1) t u) (hg : gt + 2 < 1000000) (R : Rm h x zs zt rb rt rp gb gt) (K : FgK h x rb rt rp gb t u rs) (c8 : ¬ zI h (x + 24) 8 = 0) (c9 : zI h (x + 24) 9 = 0) (hB : OfB n s) (hn : n < 900) (O : FgO h x t u s) (kQ : ∀ h', Rm h' x zs zt rb rt rp gb (gt + 1) → FgK h' x rb rt rp gb t u rs → ¬ zI h' (x + 24) 8 = 0 → zI h' (x + 24) 9 = 0 → FgO h' x t u (of_st t u p b s) → FvA x h h' → Q none h') : Ct E d 21 [.ref (x + 24), .int (jI (p : Int)), .int (jI (b : Int))] h Q := by
  obtain ⟨d, rfl⟩ : ∃ n, d = n + 1 := ⟨d - 1, by omega⟩
  have ok' := of_t_ok (t := t) ok hp hb1 hb
  obtain ⟨n1, n2, W⟩ := K.2.1 c8
  obtain ⟨bt, rfl⟩ : ∃ n, rt = n + 1 := ⟨rt - 1, by omega⟩
  obtain ⟨sp, rfl⟩ : ∃ n, rp = n + 1 := ⟨rp - 1, by omega⟩
  refine ok_21 ⟨X.t24, x + 25, X.q2, x + 1, X.q0, X.s25.1, ct_32 (by omega) X.s25 P.1 (by omega) (fun h5 F5 P5 => ⟨rfl, by rw [F5.tg]; exact X.t24, x + 25, by rw [F5.rr]; exact X.q2, P5.1.1, x + 25 + 1, P5.1.2.1.1, P5.1.2.1.tg, P5.1.2.1.inc (by decide), nm_e ⟨P5.1.2.1.inc (by decide), nm_e ?_⟩⟩)⟩
  have P12 : PgC (zuI (zuI h5 (x + 25 + 1) 5 (jI (p : Int))) (x + 25 + 1) 6 (jI (b : Int))) (x + 25) (of_t t p b) u := by
    refine ⟨P5.1, fun k hk => ?_, fun k hk => ?_⟩
    · by_cases c6 : k = 6
      · subst c6; rw [zI_here]; rfl
      · by_cases c5 : k = 5
        · subst c5; rw [zI_offi (by omega), zI_here]; rfl
        · rw [zI_offi c6, zI_offi c5, P5.2.1 k hk]
          simp only [of_t, if_neg c5, if_neg c6]
    · rw [zI_offa (by omega), zI_offa (by omega)]
      exact P5.2.2 k hk
  have F12 : Fr (fun a _ => x + 25 ≤ a ∧ a ≤ x + 31) h (zuI (zuI h5 (x + 25 + 1) 5 (jI (p : Int))) (x + 25 + 1) 6 (jI (b : Int))) := Fr.uI (Fr.uI (F5.wd (fun a i e => by omega)) (by omega)) (by omega)
  generalize zuI (zuI h5 (x + 25 + 1) 5 (jI (p : Int))) (x + 25 + 1) 6 (jI (b : Int)) = h12 at P12 F12 ⊢
  refine ct_34 (by omega) ok' ou P12 (fun h13 P13 F13 => ?_)
  have FT : Fr (fun a _ => x + 25 ≤ a ∧ a ≤ x + 31) h h13 := F12.tr (F13.wd (fun a i e => by unfold tp_S34 at e; omega))
  have X13 := X.fr FT
  have ybt : Ag (fun a => a < x + 25 ∨ x + 31 < a) h h13 := FT.ag (fun a i ha => by omega)
  have R13 : Rm h13 x zs zt rb (bt + 1) (sp + 1) gb gt := R.ag (ybt.wk (fun a ha => by omega)) (fun i _ _ => FT.rr _ _) FT.sz (by unfold ztot; rw [FT.1])
  refine ⟨rfl, X13.t24, tr_73 (by omega) ok' ou X13 P13 (by omega) R13 (fun h23 R23 y23 z23 t23 v7 vj => ?_)⟩
  have hbt := (R13.2.2.1 bt rfl).1
  have hsp := (R13.2.2.2.1 sp rfl).1
  have y : Ag (fun a => a < x + 25 ∨ (x + 31 < a ∧ a < x + 70)) h h23 := (ybt.wk (fun a ha => by omega)).tr (y23.wk (fun a ha => ⟨by omega, by omega⟩))
  have X23 : XSh h23 x := X13.ax (y23.wk (fun a ha => ⟨by omega, by omega⟩)) ⟨y23.T ⟨by omega, by omega⟩, fun i _ _ _ => y23.R ⟨by omega, by omega⟩ i⟩
  have y24 : (fun a => a < x + 25 ∨ (x + 31 < a ∧ a < x + 70)) (x + 24) := Or.inl (by omega)
  have y34 : (fun a => a < x + 25 ∨ (x + 31 < a ∧ a < x + 70)) (x + 34) := Or.inr ⟨by omega, by omega⟩
  have w0 : zL h23 (x + 34) 0 = jL (tp_wh t u 0) := by rw [y.L y34]; exact W.1
  have w1 : zL h23 (x + 34) 1 = jL (tp_wh t u 1) := by rw [y.L y34]; exact W.2 0 (by omega)
  have v8 : zL h23 sp 8 = jL (tp_wh (of_t t p b) u 1) := vj 0 (by omega)
  have i14 : zI h23 (x + 24) 14 = jI (s.1 : Int) := by rw [y.I y24]; exact O.1
  have yB : ∀ b', rb = b' + 1 → Ag (Rg b' (b' + 26)) h h23 := fun b' e => by
    have c0 := (R.2.1 b' e).1
    have c1 := R.2.2.2.2.1.1 b' bt e rfl
    have c2 := R.2.2.2.2.1.2.1 b' sp e rfl
    exact (ybt.wk (fun a ha => by unfold Rg at ha; omega)).tr (y23.wk (fun a ha => by unfold Rg at ha; exact ⟨by omega, by omega⟩))
  -- behind all: only the fields 14 to 17 of Figures changed
  have fin : ∀ h', Fr (fun a i => a = x + 24 ∧ 14 ≤ i ∧ i ≤ 17) h23 h' → FgO h' x t u (of_st t u p b s) → Q none h' := fun h' F' O' => by
    have ya : Ag (fun a => a ≠ x + 24) h23 h' := F'.ag (fun a i ha => fun e => ha e.1)
    have f' : ∀ i, i < 14 ∨ 17 < i → zI h' (x + 24) i = zI h (x + 24) i := fun i hi => by rw [F'.I (by omega), y.I y24]
    refine kQ h' (R23.ag (ya.wk (fun a ha => by omega)) (fun i _ _ => F'.rr _ _) F'.sz (by unfold ztot; rw [F'.1])) (K.ag (fun i hi => f' i (by omega)) (by rw [f' 9 (by omega)]; exact c9) ((y.wk (fun a ha => by omega)).tr (ya.wk (fun a ha => by omega))) (fun b' e => (yB b' e).tr (ya.wk (fun a ha => by have := (R.2.1 b' e).1; unfold Rg at ha; omega)))) (by rw [f' 8 (by omega)]; exact c8) (by rw [f' 9 (by omega)]; exact c9) O' ⟨(y.wk (fun a ha => by omega)).tr (ya.wk (fun a ha => by omega)), X23.fr F'⟩
  have bw0 := tp_wh_bd ok u 0
  have bw1 := tp_wh_bd ok u 1
  have bv0 := tp_wh_bd ok' u 0
  have bv1 := tp_wh_bd ok' u 1
  obtain ⟨hB1, hB2, hB3⟩ := hB
  refine ⟨sp, R23.1.2.2, t23, x + 34, X23.a12.1, X23.a12.tg, X23.a12.inc (by decide), ?_⟩
  rw [w0, v7]
  refine ⟨fun c => ?_, fun c => ?_⟩
  · rw [jL_le (by omega) (by omega) (by omega) (by omega)] at c
    refine ⟨X23.a12.inc (by decide), nm_r (e' := jL (tp_wh (of_t t p b) u 1 - tp_wh t u 1)) (by rw [v8, w1, jL_sub]) ?_⟩
    rw [i14]
    have new : ∀ hq : s.1 = 0 ∨ s.2.2.2 < tp_wh (of_t t p b) u 1, wb_21_66 E d Q (x + 24) (zuL (zuI (zuI h23 (x + 24) 15 (jI (p : Int))) (x + 24) 16 (jI (b : Int))) (x + 24) 17 (jL (tp_wh (of_t t p b) u 1 - tp_wh t u 1))) := fun hq => by
      refine fin21 (s := s) (p := p) (b := b) (t := t) (u := u) s.1 (by omega) (by rw [ztag_uL, ztag_uI, ztag_uI]; exact X23.t24) rfl (by rw [zI_uL, zI_offi (by omega), zI_offi (by omega)]; exact i14) c ?_ (fun O' => fin _ (Fr.uI (Fr.uL (Fr.uI (Fr.uI Fr.rf (by omega)) (by omega)) (by omega)) (by omega)) O')
      rw [if_pos hq]
      exact ⟨by rw [zI_uL, zI_offi (by omega), zI_here], by rw [zI_uL, zI_here], by rw [zL_here]⟩
    refine ⟨fun c0 => nm_e (nm_e (nm_e (new (Or.inl ?_)))), fun c0 => ⟨fun c1 => ?_, fun c1 => nm_e (nm_e (nm_e (new (Or.inr ?_))))⟩⟩
    · rw [show (0 : Int32) = jI ((0 : Nat) : Int) from rfl, jI_eqn (by omega) (by omega)] at c0
      exact c0
    · rw [show (0 : Int32) = jI ((0 : Nat) : Int) from rfl, jI_eqn (by omega) (by omega)] at c0
      obtain ⟨e15, e16, e17⟩ := O.2 c0
      rw [y.L y24, e17, jL_le (by omega) (by omega) (by omega) (by omega)] at c1
      refine fin21 (s := s) (p := p) (b := b) (t := t) (u := u) s.1 (by omega) X23.t24 rfl i14 c ?_ (fun O' => fin _ (Fr.uI Fr.rf (by omega)) O')
      rw [if_neg (by omega)]
      exact ⟨by rw [y.I y24]; exact e15, by rw [y.I y24]; exact e16, by rw [y.L y24]; exact e17⟩
    · rw [show (0 : Int32) = jI ((0 : Nat) : Int) from rfl, jI_eqn (by omega) (by omega)] at c0
      obtain ⟨e15, e16, e17⟩ := O.2 c0
      rw [y.L y24, e17, jL_le (by omega) (by omega) (by omega) (by omega)] at c1
      omega
  · rw [jL_le (by omega) (by omega) (by omega) (by omega)] at c
    refine fin h23 Fr.rf ?_
    unfold of_st
    rw [if_neg c]
    refine ⟨i14, fun q => ?_⟩
    obtain ⟨e15, e16, e17⟩ := O.2 q
    exact ⟨by rw [y.I y24]; exact e15, by rw [y.I y24]; exact e16, by rw [y.L y24]; exact e17⟩
end FIO
