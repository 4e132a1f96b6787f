/-! TOKENS: the Model's, one token -/
section TKN
variable {E : Nat → Nat} {h : ZH} {x m tn d : Nat} {tb : Nat → Int32} {Q : Option Value → ZH → Prop}
def TkN (h : ZH) (m : Nat) (k : TkT) : Prop := zI h m 3 = 0 ∧ zI h m 5 = jI (k.2.2.2 : Int) ∧ zI h m 6 = jI (k.2.2.1 : Int) ∧ zI h m 7 = jI ((if k.1 = 4 then 0 else k.1 : Nat) : Int) ∧ (k.1 = 1 ∨ k.1 = 2 → zI h m 8 = jI k.2.1)
/-- the next token: a fault, or there it is -/
def NxM (Q : Option Value → ZH → Prop) (h : ZH) (m : Nat) (k : TkT) : Prop := (k.1 = 0 → ∀ h', Fr (mt_S m) h h' → FlM h' m 1 k.2.2.1 → Q none h') ∧ (¬ k.1 = 0 → ∀ h', Fr (mt_S m) h h' → TkN h' m k → Q none h')
theorem m_slot {h0 h1 : ZH} (y : ∀ i, i ≠ 5 → zI h1 m i = zI h0 m i) {i : Nat} (hi : i ≠ 5) {v : Int32} (e : zI h0 m i = v) : zI h1 m i = v := by rw [y i hi]; exact e
theorem b58 {h0 h1 : ZH} {q e : Nat} (hd : 2 ≤ d) (B : TpB tb) (M0 : MTp h0 m tn tb) (hn : tn ≤ 320) (hq : q ≤ e) (he : e ≤ tn) (F1 : Fr (mt_S m) h0 h1) (i3 : zI h1 m 3 = 0) (i5 : zI h1 m 5 = jI (e : Int)) (i6 : zI h1 m 6 = jI (q : Int)) (N : NxM Q h0 m (if nmw tb q (e - q) = -4 then 0 else 1, nmw tb q (e - q), q, e)) : wb_141_58 E d Q m h1 := by
  have M1 := M0.fr (mt_mp F1)
  have F2 : Fr (mt_S m) h0 (zuI h1 m 7 1) := Fr.uI F1 (by unfold mt_S; omega)
  have nb := nmw_b tb q (e - q)
  refine ⟨M1.1.1, nm_e ?_⟩
  rw [zI_offi (show 6 ≠ 7 by omega), zI_offi (show 5 ≠ 7 by omega), i5, i6]
  refine ct_140 hd B (M0.fr (mt_mp F2)) hn hq he ⟨_, rfl, M1.1.1, nm_e ?_⟩
  rw [zI_here]
  have i4 : jI (nmw tb q (e - q)) = -4 ↔ nmw tb q (e - q) = -4 := by rw [show (-4 : Int32) = jI (-4) from rfl, jI_eq (by omega) (by omega) (by omega) (by omega)]
  rw [i4]
  have F3 : Fr (mt_S m) h0 (zuI (zuI h1 m 7 1) m 8 (jI (nmw tb q (e - q)))) := Fr.uI F2 (by unfold mt_S; omega)
  refine ⟨fun c => ?_, fun c => ?_⟩
  · refine N.2 (by rw [if_neg c]; exact Nat.one_ne_zero) _ F3 ⟨?_, ?_, ?_, ?_, fun _ => zI_here _ _ _ _⟩
    · rw [zI_offi (by omega), zI_offi (by omega)]; exact i3
    · rw [zI_offi (by omega), zI_offi (by omega)]; exact i5
    · rw [zI_offi (by omega), zI_offi (by omega)]; exact i6
    · rw [zI_offi (by omega), zI_here, if_neg c]; rfl
  · rw [Classical.not_not] at c
    refine ct_139 (c := 1) (pl := q) (by omega) (M0.fr (mt_mp F3)).1 ?_ ?_ (fun h' F' G => ⟨rfl, N.1 (by rw [if_pos c]) h' (F3.tr (F'.wd (fun a i z => by unfold mt_S; omega))) G⟩)
    · rw [zI_offi (by omega), zI_offi (by omega)]; exact i3
    · rw [zI_offi (by omega), zI_offi (by omega)]; exact i6
theorem l42m {h0 : ZH} {q : Nat} (hd : 1 ≤ d) (B : TpB tb) (M0 : MTp h0 m tn tb) (hn : tn ≤ 320) (k : ∀ h' e, e = rn (isA tb) (tn - q) q → Fr (mt_S m) h0 h' → zI h' m 5 = jI (e : Int) → (∀ i, i ≠ 5 → zI h' m i = zI h0 m i) → wb_141_58 E d Q m h') : ∀ (r p : Nat) h1, p + r = tn → q ≤ p → rn (isA tb) r p = rn (isA tb) (tn - q) q → Fr (mt_S m) h0 h1 → zI h1 m 5 = jI (p : Int) → (∀ i, i ≠ 5 → zI h1 m i = zI h0 m i) → wl_141_42 E d Q (r + 1) m h1
  | r, p, h1, e, hq, hr, F1, i5, io => by
    have M1 := M0.fr (mt_mp F1)
    obtain ⟨s8, f8⟩ := s138 (E := E) (p := p) B M1 hn (by omega)
    have mb := mby_b B tn p
    have g1 : fz_135 E h1 (jI (mby tb tn p)).toInt64 97 122 = 0 ↔ ¬ (97 ≤ mby tb tn p ∧ mby tb tn p ≤ 122) := f135 (a := 97) (b := 122) (by omega) (by omega) (by omega) (by omega) (by omega) (by omega)
    rw [mby_A] at g1
    rw [wl_141_42.eq_def]
    dsimp only
    rw [i5, f8, g1]
    refine ⟨M1.1.1, hd, s8, hd, trivial, fun c => ?_, fun c => ?_⟩
    · refine k h1 p ?_ F1 i5 io
      cases r with
      | zero => rw [rn] at hr; exact hr
      | succ r => rw [rn, if_neg (fun z => c ⟨by omega, z⟩)] at hr; exact hr
    · rw [Classical.not_not] at c
      obtain ⟨r, rfl⟩ : ∃ n, r = n + 1 := ⟨r - 1, by omega⟩
      rw [rn, if_pos c.2] at hr
      exact nm_r (e' := zuI h1 m 5 (jI ((p + 1 : Nat) : Int))) (by rw [show (1 : Int32) = jI 1 from rfl, jI_add]; rfl) (l42m hd B M0 hn k r (p + 1) _ (by omega) (by omega) hr (Fr.uI F1 (by unfold mt_S; omega)) (zI_here _ _ _ _) (fun i hi => by rw [zI_offi hi]; exact io i hi))
theorem b122 {h0 h1 : ZH} {q e : Nat} (hd : 1 ≤ d) (M0 : MTp h0 m tn tb) (hn : tn ≤ 320) (hq : q ≤ e) (he : e ≤ tn) (F1 : Fr (mt_S m) h0 h1) (i3 : zI h1 m 3 = 0) (i5 : zI h1 m 5 = jI (e : Int)) (i6 : zI h1 m 6 = jI (q : Int)) (i8 : zI h1 m 8 = jI (dg tb q (e - q))) (N : NxM Q h0 m (if e - q ≤ 3 then 2 else 0, dg tb q (e - q), q, e)) : wb_141_122 E d Q m h1 := by
  have M1 := M0.fr (mt_mp F1)
  have F2 : Fr (mt_S m) h0 (zuI h1 m 7 2) := Fr.uI F1 (by unfold mt_S; omega)
  refine ⟨M1.1.1, nm_e ?_⟩
  have l3 : jI (e : Int) - jI (q : Int) ≤ 3 ↔ e - q ≤ 3 := by
    rw [jI_sub, show (e : Int) - (q : Int) = ((e - q : Nat) : Int) by omega, show (3 : Int32) = jI ((3 : Nat) : Int) from rfl, jI_len (by omega) (by omega)]
  rw [zI_offi (show 6 ≠ 7 by omega), zI_offi (show 5 ≠ 7 by omega), i5, i6, l3]
  refine ⟨fun c => ?_, fun c => ?_⟩
  · refine N.2 (by rw [if_pos c]; exact Nat.succ_ne_zero 1) _ F2 ⟨?_, ?_, ?_, ?_, fun _ => ?_⟩
    · rw [zI_offi (by omega)]; exact i3
    · rw [zI_offi (by omega)]; exact i5
    · rw [zI_offi (by omega)]; exact i6
    · rw [zI_here, if_pos c]; rfl
    · rw [zI_offi (by omega)]; exact i8
  · refine ct_139 (c := 1) (pl := q) (by omega) (M0.fr (mt_mp F2)).1 ?_ ?_ (fun h' F' G => ⟨rfl, N.1 (by rw [if_neg c]) h' (F2.tr (F'.wd (fun a i z => by unfold mt_S; omega))) G⟩)
    · rw [zI_offi (by omega)]; exact i3
    · rw [zI_offi (by omega)]; exact i6
theorem l83m {h0 : ZH} {q : Nat} (hd : 1 ≤ d) (B : TpB tb) (M0 : MTp h0 m tn tb) (hn : tn ≤ 320) (i6 : zI h0 m 6 = jI (q : Int)) (k : ∀ h' e, e = rn (isD tb) (tn - q) q → Fr (mt_S m) h0 h' → zI h' m 5 = jI (e : Int) → zI h' m 8 = jI (dg tb q (e - q)) → (∀ i, i ≠ 5 → i ≠ 8 → zI h' m i = zI h0 m i) → wb_141_122 E d Q m h') : ∀ (r p : Nat) h1, p + r = tn → q ≤ p → rn (isD tb) r p = rn (isD tb) (tn - q) q → Fr (mt_S m) h0 h1 → zI h1 m 5 = jI (p : Int) → zI h1 m 8 = jI (dg tb q (p - q)) → (∀ i, i ≠ 5 → i ≠ 8 → zI h1 m i = zI h0 m i) → wl_141_83 E d Q (r + 1) m h1
  | r, p, h1, e, hq, hr, F1, i5, i8, io => by
    have M1 := M0.fr (mt_mp F1)
    obtain ⟨s8, f8⟩ := s138 (E := E) (p := p) B M1 hn (by omega)
    have mb := mby_b B tn p
    have g1 : fz_135 E h1 (jI (mby tb tn p)).toInt64 48 57 = 0 ↔ ¬ (48 ≤ mby tb tn p ∧ mby tb tn p ≤ 57) := f135 (a := 48) (b := 57) (by omega) (by omega) (by omega) (by omega) (by omega) (by omega)
    rw [mby_D] at g1
    have j6 : zI h1 m 6 = jI (q : Int) := by rw [io 6 (by omega) (by omega)]; exact i6
    have l3 : (3 : Int32) ≤ jI (p : Int) - jI (q : Int) ↔ 3 ≤ p - q := by
      rw [jI_sub, show (p : Int) - (q : Int) = ((p - q : Nat) : Int) by omega, show (3 : Int32) = jI ((3 : Nat) : Int) from rfl, jI_len (by omega) (by omega)]
    rw [wl_141_83.eq_def]
    dsimp only
    rw [i5, f8, g1, j6, i8]
    refine ⟨M1.1.1, hd, s8, hd, trivial, fun c => ?_, fun c => ?_⟩
    · refine k h1 p ?_ F1 i5 i8 io
      cases r with
      | zero => rw [rn] at hr; exact hr
      | succ r => rw [rn, if_neg (fun z => c ⟨by omega, z⟩)] at hr; exact hr
    · rw [Classical.not_not] at c
      obtain ⟨r, rfl⟩ : ∃ n, r = n + 1 := ⟨r - 1, by omega⟩
      rw [rn, if_pos c.2] at hr
      have nb : mby tb tn p = (bt tb p : Int) := by unfold mby; rw [if_neg (by omega)]
      have ed : dg tb q (p + 1 - q) = if 3 ≤ p - q then dg tb q (p - q) else 10 * dg tb q (p - q) + (bt tb p : Int) - 48 := by
        rw [show p + 1 - q = (p - q) + 1 by omega, dg, show q + (p - q) = p by omega]
      refine ⟨⟨fun _ => trivial, fun _ => ⟨hd, s8, trivial⟩⟩, nm_r (e' := zuI h1 m 8 (jI (dg tb q (p + 1 - q)))) ?_ (nm_r (e' := zuI (zuI h1 m 8 (jI (dg tb q (p + 1 - q)))) m 5 (jI ((p + 1 : Nat) : Int))) ?_ (l83m hd B M0 hn i6 k r (p + 1) _ (by omega) (by omega) hr (Fr.uI (Fr.uI F1 (by unfold mt_S; omega)) (by unfold mt_S; omega)) (zI_here _ _ _ _) (by rw [zI_offi (by omega), zI_here]) (fun i h5 h8 => by rw [zI_offi h5, zI_offi h8]; exact io i h5 h8)))⟩
      · rw [ed, nb]
        by_cases c3 : 3 ≤ p - q
        · rw [if_pos (l3.mpr c3), if_pos c3]
        · rw [if_neg (fun z => c3 (l3.mp z)), if_neg c3, show (10 : Int32) = jI 10 from rfl, show (48 : Int32) = jI 48 from rfl, jI_mul, jI_add, jI_sub]
      · rw [zI_offi (by omega), i5, show (1 : Int32) = jI 1 from rfl, jI_add]; rfl
theorem b17 {h0 h1 : ZH} {q : Nat} (hd : 2 ≤ d) (B : TpB tb) (M0 : MTp h0 m tn tb) (hn : tn ≤ 320) (hq : q ≤ tn) (F1 : Fr (mt_S m) h0 h1) (i3 : zI h1 m 3 = 0) (i5 : zI h1 m 5 = jI (q : Int)) (N : NxM Q h0 m (tkA tb tn q)) : wb_141_17 E d Q m h1 := by
  have M1 := M0.fr (mt_mp F1)
  have F2 : Fr (mt_S m) h0 (zuI h1 m 6 (jI (q : Int))) := Fr.uI F1 (by unfold mt_S; omega)
  obtain ⟨s8, f8⟩ := s138 (E := E) (p := q) B (M0.fr (mt_mp F2)) hn hq
  refine ⟨M1.1.1, nm_r (e' := zuI h1 m 6 (jI (q : Int))) (by rw [i5]) ?_⟩
  rw [zI_offi (show 5 ≠ 6 by omega), i5, f8]
  have F3 : Fr (mt_S m) h0 (zuI (zuI h1 m 6 (jI (q : Int))) m 8 0) := Fr.uI F2 (by unfold mt_S; omega)
  have j3 : zI (zuI (zuI h1 m 6 (jI (q : Int))) m 8 0) m 3 = 0 := by rw [zI_offi (by omega), zI_offi (by omega)]; exact i3
  have j5 : zI (zuI (zuI h1 m 6 (jI (q : Int))) m 8 0) m 5 = jI (q : Int) := by rw [zI_offi (by omega), zI_offi (by omega)]; exact i5
  have j6 : zI (zuI (zuI h1 m 6 (jI (q : Int))) m 8 0) m 6 = jI (q : Int) := by rw [zI_offi (by omega), zI_here]
  have j8 : zI (zuI (zuI h1 m 6 (jI (q : Int))) m 8 0) m 8 = 0 := zI_here _ _ _ _
  refine ⟨by omega, s8, nm_e (nm_e ?_)⟩
  generalize zuI (zuI h1 m 6 (jI (q : Int))) m 8 0 = h2 at F3 j3 j5 j6 j8 ⊢
  have mb := mby_b B tn q
  have g1 : fz_135 E h2 (jI (mby tb tn q)).toInt64 97 122 = 0 ↔ ¬ (97 ≤ mby tb tn q ∧ mby tb tn q ≤ 122) := f135 (a := 97) (b := 122) (by omega) (by omega) (by omega) (by omega) (by omega) (by omega)
  have g2 : fz_135 E h2 (jI (mby tb tn q)).toInt64 48 57 = 0 ↔ ¬ (48 ≤ mby tb tn q ∧ mby tb tn q ≤ 57) := f135 (a := 48) (b := 57) (by omega) (by omega) (by omega) (by omega) (by omega) (by omega)
  have g4 : jI (mby tb tn q) = -4 ↔ tn ≤ q := by
    rw [show (-4 : Int32) = jI (-4) from rfl, jI_eq (by omega) (by omega) (by omega) (by omega)]
    unfold mby
    split <;> omega
  have g9 : jI (mby tb tn q) = 59 ↔ (q < tn ∧ bt tb q = 59) := by
    rw [show (59 : Int32) = jI 59 from rfl, jI_eq (by omega) (by omega) (by omega) (by omega)]
    unfold mby
    split <;> omega
  rw [mby_A] at g1
  rw [mby_D] at g2
  have M2 := M0.fr (mt_mp F3)
  unfold tkA at N
  rw [g4, g1, g2, g9]
  refine ⟨fun c => ⟨by omega, trivial, fun ca => ⟨by omega, trivial, fun cd => nm_e (nm_r (e' := zuI (zuI h2 m 7 3) m 5 (jI ((q + 1 : Nat) : Int))) ?_ ?_), fun cd => ?_⟩, fun ca => ?_⟩, fun c => nm_e ?_⟩
  · rw [zI_offi (by omega), j5, show (1 : Int32) = jI 1 from rfl, jI_add]; rfl
  · rw [if_neg c, if_neg (fun z => ca ⟨by omega, z⟩), if_neg (fun z => cd ⟨by omega, z⟩)] at N
    have F4 : Fr (mt_S m) h0 (zuI (zuI h2 m 7 3) m 5 (jI ((q + 1 : Nat) : Int))) := Fr.uI (Fr.uI F3 (by unfold mt_S; omega)) (by unfold mt_S; omega)
    refine ⟨fun c9 => ?_, fun c9 => ?_⟩
    · refine N.2 (by rw [if_pos c9.2]; exact Nat.succ_ne_zero 2) _ F4 ⟨?_, zI_here _ _ _ _, ?_, ?_, fun z => ?_⟩
      · rw [zI_offi (by omega), zI_offi (by omega)]; exact j3
      · rw [zI_offi (by omega), zI_offi (by omega)]; exact j6
      · rw [zI_offi (by omega), zI_here, if_pos c9.2]; rfl
      · rw [if_pos c9.2] at z
        exact absurd z (by show ¬ (3 = 1 ∨ 3 = 2); omega)
    · have n9 : ¬ bt tb q = 59 := fun z => c9 ⟨by omega, z⟩
      refine ct_139 (c := 1) (pl := q) (by omega) (M0.fr (mt_mp F4)).1 ?_ ?_ (fun h' F' G => ⟨rfl, N.1 (by rw [if_neg n9]) h' (F4.tr (F'.wd (fun a i z => by unfold mt_S; omega))) G⟩)
      · rw [zI_offi (by omega), zI_offi (by omega)]; exact j3
      · rw [zI_offi (by omega), zI_offi (by omega)]; exact j6
  · rw [Classical.not_not] at cd
    rw [if_neg c, if_neg (fun z => ca ⟨by omega, z⟩), if_pos cd.2] at N
    have ri := rn_in (isD tb) (tn - q) q
    exact ⟨tn - q + 1, l83m (by omega) B M2 hn j6 (fun h' e ee F' k5 k8 ko => b122 (q := q) (e := e) (by omega) M0 hn (by omega) (by omega) (F3.tr F') (by rw [ko 3 (by omega) (by omega)]; exact j3) k5 (by rw [ko 6 (by omega) (by omega)]; exact j6) k8 (by rw [ee]; exact N)) (tn - q) q h2 (by omega) (by omega) rfl Fr.rf j5 (by rw [Nat.sub_self]; exact j8) (fun _ _ _ => rfl)⟩
  · rw [Classical.not_not] at ca
    rw [if_neg c, if_pos ca.2] at N
    have ri := rn_in (isA tb) (tn - q) q
    exact ⟨tn - q + 1, l42m (q := q) (by omega) B M2 hn (fun h' e ee F' k5 ko => b58 (q := q) (e := e) (by omega) B M0 hn (by omega) (by omega) (F3.tr F') (by rw [ko 3 (by omega)]; exact j3) k5 (by rw [ko 6 (by omega)]; exact j6) (by rw [ee]; exact N)) (tn - q) q h2 (by omega) (by omega) rfl Fr.rf j5 (fun _ _ => rfl)⟩
  · rw [Classical.not_not] at c
    rw [if_pos c] at N
    refine N.2 (by show ¬ 4 = 0; omega) _ (Fr.uI F3 (by unfold mt_S; omega)) ⟨?_, ?_, ?_, zI_here _ _ _ _, fun z => absurd z (by show ¬ (4 = 1 ∨ 4 = 2); omega)⟩
    · rw [zI_offi (by omega)]; exact j3
    · rw [zI_offi (by omega)]; exact j5
    · rw [zI_offi (by omega)]; exact j6
theorem l141 {h0 : ZH} {p0 : Nat} (hd : 2 ≤ d) (B : TpB tb) (M0 : MTp h0 m tn tb) (hn : tn ≤ 320) (N : NxM Q h0 m (tk tb tn p0)) : ∀ (r p : Nat) h1, p + r = tn → rn (isS tb) r p = tkS tb tn p0 → Fr (mt_S m) h0 h1 → zI h1 m 3 = 0 → zI h1 m 5 = jI (p : Int) → wl_141_4 E d Q (r + 1) m h1
  | r, p, h1, e, hr, F1, i3, i5 => by
    have M1 := M0.fr (mt_mp F1)
    obtain ⟨s8, f8⟩ := s138 (E := E) (p := p) B M1 hn (by omega)
    have mb := mby_b B tn p
    have g1 : jI (mby tb tn p) = 32 ↔ (p < tn ∧ isS tb p = true) := by
      rw [show (32 : Int32) = jI 32 from rfl, jI_eq (by omega) (by omega) (by omega) (by omega)]
      unfold mby isS
      rw [decide_eq_true_iff]
      split <;> omega
    rw [wl_141_4.eq_def]
    dsimp only
    rw [i5, f8, g1]
    refine ⟨M1.1.1, by omega, s8, fun c => ?_, fun c => ?_⟩
    · refine b17 (q := p) hd B M0 hn (by omega) F1 i3 i5 ?_
      unfold tk at N
      have ep : p = tkS tb tn p0 := by
        cases r with
        | zero => rw [rn] at hr; exact hr
        | succ r => rw [rn, if_neg (fun z => c ⟨by omega, z⟩)] at hr; exact hr
      rw [ep]
      exact N
    · rw [Classical.not_not] at c
      obtain ⟨r, rfl⟩ : ∃ n, r = n + 1 := ⟨r - 1, by omega⟩
      rw [rn, if_pos c.2] at hr
      exact nm_r (e' := zuI h1 m 5 (jI ((p + 1 : Nat) : Int))) (by rw [show (1 : Int32) = jI 1 from rfl, jI_add]; rfl) (l141 hd B M0 hn N r (p + 1) _ (by omega) hr (Fr.uI F1 (by unfold mt_S; omega)) (by rw [zI_offi (by omega)]; exact i3) (zI_here _ _ _ _))
theorem ct_141 {p : Nat} (hd : 3 ≤ d) (B : TpB tb) (M : MTp h m tn tb) (hn : tn ≤ 320) (hp : p ≤ tn) (i3 : zI h m 3 = 0) (i5 : zI h m 5 = jI (p : Int)) (N : NxM Q h m (tk tb tn p)) : Ct E d 141 [.ref m] h Q := by
  obtain ⟨d, rfl⟩ : ∃ n, d = n + 1 := ⟨d - 1, by omega⟩
  refine ok_141 ⟨M.1.1, fun _ => ⟨tn - p + 1, l141 (by omega) B M hn N (tn - p) p h (by omega) rfl Fr.rf i3 i5⟩, fun w => absurd ?_ w⟩
  rw [i3]
  decide
/-- after a fault nothing is read -/
theorem ct_141' {c pl : Nat} (hd : 1 ≤ d) (S : MSh h m) (G : FlM h m c pl) (c0 : ¬ c = 0) (c4 : c ≤ 4) (q : Q none h) : Ct E d 141 [.ref m] h Q := by
  obtain ⟨d, rfl⟩ : ∃ n, d = n + 1 := ⟨d - 1, by omega⟩
  refine ok_141 ⟨S.1, fun w => absurd w ?_, fun _ => q⟩
  rw [G.1, show (0 : Int32) = jI ((0 : Nat) : Int) from rfl, jI_len (by omega) (by omega)]
  omega
end TKN
