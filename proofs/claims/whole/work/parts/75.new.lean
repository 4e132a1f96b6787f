/-! CONSTRUCTORS: an array or an object is made and kept in a field -/
/-- at hc a cell of tag tg and n slots is made and its address written into slot s of b -/
def Nw (b s tg n : Nat) (hc h' : ZH) : Prop := zsz h' = zsz hc + 1 ∧ ztot h' = ztot hc + n ∧ Ag (fun a => a ≠ b ∧ a ≠ zsz hc) hc h' ∧ (ztag h' b = ztag hc b ∧ zlen h' b = zlen hc b ∧ zI h' b = zI hc b ∧ zL h' b = zL hc b ∧ ∀ i, i ≠ s → zR h' b i = zR hc b i) ∧ zAr h' b s (zsz hc) tg n ∧ (∀ i, zI h' (zsz hc) i = 0) ∧ (∀ i, zL h' (zsz hc) i = 0) ∧ ∀ i, zR h' (zsz hc) i = 0
theorem Nw.of {b s tg n : Nat} {hc : ZH} (hb : b < zsz hc) : Nw b s tg n hc (zuR (znew hc tg n) b s (zsz hc + 1)) := by
  obtain ⟨t1, t2, t3, t4, t5⟩ := znew_at hc tg n
  obtain ⟨g1, g2, g3⟩ := Gr.new hc tg n
  have gb := g3 b (Or.inl hb)
  refine ⟨g1, g2, fun a ha => ?_, ⟨gb.1, gb.2.1, gb.2.2.1, gb.2.2.2.1, fun i hi => ?_⟩, ⟨?_, t1, t2⟩, t3, t4, fun i => ?_⟩
  · obtain ⟨q1, q2, q3, q4, q5⟩ := g3 a (by omega)
    refine ⟨q1, q2, q3, q4, ?_⟩
    rw [← q5]
    funext j
    have : ¬ (a = b ∧ j = s) := fun e => ha.1 e.1
    simp [zR_uR, this]
  · have : ¬ (b = b ∧ i = s) := fun e => hi e.2
    rw [zR_uR, if_neg this, gb.2.2.2.2]
  · simp [zR_uR]
  · have : ¬ (zsz hc = b ∧ i = s) := fun e => by have := e.1; omega
    rw [zR_uR, if_neg this]
    exact t5 i
theorem Nw.keep {b s tg n s0 r0 tg0 n0 : Nat} {hc h' : ZH} (N : Nw b s tg n hc h') (x : zAr hc b s0 r0 tg0 n0) (hs : s0 ≠ s) (h1 : r0 ≠ b) (h2 : r0 ≠ zsz hc) : zAr h' b s0 r0 tg0 n0 := by
  unfold zAr at x ⊢
  rw [N.2.2.2.1.2.2.2.2 s0 hs, N.2.2.1.T ⟨h1, h2⟩, N.2.2.1.N ⟨h1, h2⟩]
  exact x
section NEW
variable {E : Nat → Nat} {Q : Option Value → ZH → Prop}
theorem ct_23 {d a : Nat} {h : ZH} (hd : 5 ≤ d) (q : Q none h) : Ct E d 23 [.ref a] h Q := by
  obtain ⟨d, rfl⟩ : ∃ n, d = n + 1 := ⟨d - 1, by omega⟩
  exact ok_23 ⟨by omega, q⟩
/-- in the midst of the moves -/
def BCI (h0 : ZH) (b i : Nat) (h : ZH) : Prop := zsz h = b + 7 + i ∧ ztot h = ztot h0 + 9 * i ∧ Ag (fun a => a ≠ b + 3 ∧ (a < b + 7 ∨ b + 27 ≤ a)) h0 h ∧ ztag h (b + 3) = 16 ∧ zlen h (b + 3) = 20 ∧ ∀ j, j < i → zR h (b + 3) j = b + 7 + j + 1 ∧ ztag h (b + 7 + j) = 2
theorem l0 {d b : Nat} {h0 : ZH} (hd : 5 ≤ d) (A3 : zAr h0 b 2 (b + 3) 16 20) (ht : ztag h0 b = 0) (kQ : ∀ h', BCI h0 b 20 h' → Q none h') : ∀ r i h, i + r = 20 → BCI h0 b i h → wl_0_28 E d Q (r + 1) b (jI (i : Int)) h
  | 0, i, h, e, I => by
    have ei : i = 20 := by omega
    subst ei
    rw [wl_0_28]
    exact ⟨fun _ => kQ h I, fun c => absurd (by decide) c⟩
  | r + 1, i, h, e, I => by
    have IH := l0 hd A3 ht kQ r (i + 1)
    obtain ⟨z1, z2, g, t3, n3, m⟩ := I
    have tb : ztag h b = 0 := by rw [g.T ⟨by omega, by omega⟩]; exact ht
    have rb : zR h b 2 = b + 3 + 1 := by rw [g.R ⟨by omega, by omega⟩]; exact A3.1
    obtain ⟨w1, w2, w3, w4, w5⟩ := znew_at h 2 (zN 2)
    obtain ⟨v1, v2, v3⟩ := Gr.new h 2 (zN 2)
    rw [z1] at w1 w2 w3 w4 w5 v1 v3
    rw [wl_0_28]
    refine ⟨fun c => ?_, fun _ => ⟨tb, b + 3, rb, nm_e (nm_r (e' := b + 7 + i) z1 ⟨w1, ct_23 hd ⟨rfl, Or.inl ⟨?_, w1⟩, ?_, nm_e (nm_r (e' := jI ((i + 1 : Nat) : Int)) (by rw [show (1 : Int32) = jI 1 from rfl, jI_add]; rfl) (IH _ (by omega) ?_))⟩⟩)⟩⟩
    · exfalso
      rw [show (20 : Int32) = jI ((20 : Nat) : Int) from rfl, jI_len (by omega) (by omega)] at c
      omega
    · rw [v3.T (Or.inl (by omega))]; exact t3
    · rw [v3.N (Or.inl (by omega)), n3]
      exact zin_j (by omega) (by omega) (by omega)
    · rw [jI_cln (by omega)]
      refine ⟨v1, ?_, fun a ha => ?_, ?_, ?_, fun j hj => ?_⟩
      · show ztot h + 9 = _
        rw [z2]; omega
      · obtain ⟨q1, q2, q3, q4, q5⟩ := v3 a (by omega)
        obtain ⟨p1, p2, p3, p4, p5⟩ := g a ha
        refine ⟨q1.trans p1, q2.trans p2, q3.trans p3, q4.trans p4, ?_⟩
        rw [← p5, ← q5]
        funext j
        have : ¬ (a = b + 3 ∧ j = i) := fun e => ha.1 e.1
        simp [zR_uR, this]
      · show ztag (znew h 2 (zN 2)) (b + 3) = 16
        rw [v3.T (Or.inl (by omega))]; exact t3
      · show zlen (znew h 2 (zN 2)) (b + 3) = 20
        rw [v3.N (Or.inl (by omega))]; exact n3
      · by_cases cj : j = i
        · subst cj
          refine ⟨?_, w1⟩
          simp [zR_uR]
        · have : ¬ (b + 3 = b + 3 ∧ j = i) := fun e => cj e.2
          refine ⟨?_, ?_⟩
          · rw [zR_uR, if_neg this, v3.R (Or.inl (by omega))]
            exact (m j (by omega)).1
          · show ztag (znew h 2 (zN 2)) (b + 7 + j) = 2
            rw [v3.T (Or.inl (by omega))]
            exact (m j (by omega)).2
set_option maxHeartbeats 2000000 in
theorem ct_0 {d b : Nat} {h : ZH} (hd : 6 ≤ d) (hz : zsz h = b + 1) (ht : ztag h b = 0) (hI : ∀ i, zI h b i = 0) (kQ : ∀ h', zsz h' = b + 27 → ztot h' = ztot h + 55781 → Ag (fun a => a < b ∨ b + 27 ≤ a) h h' → BMd h' b 0 → Q none h') : Ct E d 0 [.ref b] h Q := by
  obtain ⟨d, rfl⟩ : ∃ n, d = n + 1 := ⟨d - 1, by omega⟩
  refine ok_0 ⟨by omega, nm_e (nm_e ⟨?_, nm_e ?_⟩)⟩
  · rw [(Gr.new h 14 41580).2.2.T (Or.inl (by omega))]; exact ht
  have N1 := Nw.of (s := 0) (tg := 14) (n := 41580) (show b < zsz h by omega)
  generalize zuR (znew h 14 41580) b 0 (zsz h + 1) = h1 at N1 ⊢
  have e1 : zsz h1 = b + 2 := by rw [N1.1, hz]
  refine nm_e (nm_e ⟨?_, nm_e ?_⟩)
  · rw [(Gr.new h1 13 13860).2.2.T (Or.inl (by omega)), N1.2.2.2.1.1]; exact ht
  have N2 := Nw.of (s := 1) (tg := 13) (n := 13860) (show b < zsz h1 by omega)
  generalize zuR (znew h1 13 13860) b 1 (zsz h1 + 1) = h2 at N2 ⊢
  have e2 : zsz h2 = b + 3 := by rw [N2.1, e1]
  have T2 : ztag h2 b = 0 := by rw [N2.2.2.2.1.1, N1.2.2.2.1.1]; exact ht
  refine nm_e (nm_e ⟨?_, nm_e ?_⟩)
  · rw [(Gr.new h2 16 20).2.2.T (Or.inl (by omega))]; exact T2
  have N3 := Nw.of (s := 2) (tg := 16) (n := 20) (show b < zsz h2 by omega)
  generalize zuR (znew h2 16 20) b 2 (zsz h2 + 1) = h3 at N3 ⊢
  have e3 : zsz h3 = b + 4 := by rw [N3.1, e2]
  have T3 : ztag h3 b = 0 := by rw [N3.2.2.2.1.1]; exact T2
  refine nm_e (nm_e ⟨?_, nm_e ?_⟩)
  · rw [(Gr.new h3 13 60).2.2.T (Or.inl (by omega))]; exact T3
  have N4 := Nw.of (s := 3) (tg := 13) (n := 60) (show b < zsz h3 by omega)
  generalize zuR (znew h3 13 60) b 3 (zsz h3 + 1) = h4 at N4 ⊢
  have e4 : zsz h4 = b + 5 := by rw [N4.1, e3]
  have T4 : ztag h4 b = 0 := by rw [N4.2.2.2.1.1]; exact T3
  refine nm_e (nm_e ⟨?_, nm_e ?_⟩)
  · rw [(Gr.new h4 13 60).2.2.T (Or.inl (by omega))]; exact T4
  have N5 := Nw.of (s := 4) (tg := 13) (n := 60) (show b < zsz h4 by omega)
  generalize zuR (znew h4 13 60) b 4 (zsz h4 + 1) = h5 at N5 ⊢
  have e5 : zsz h5 = b + 6 := by rw [N5.1, e4]
  have T5 : ztag h5 b = 0 := by rw [N5.2.2.2.1.1]; exact T4
  refine nm_e (nm_e ⟨?_, nm_e ?_⟩)
  · rw [(Gr.new h5 14 21).2.2.T (Or.inl (by omega))]; exact T5
  have N6 := Nw.of (s := 5) (tg := 14) (n := 21) (show b < zsz h5 by omega)
  generalize zuR (znew h5 14 21) b 5 (zsz h5 + 1) = h6 at N6 ⊢
  have e6 : zsz h6 = b + 7 := by rw [N6.1, e5]
  have T6 : ztag h6 b = 0 := by rw [N6.2.2.2.1.1]; exact T5
  have a1 : zAr h1 b 0 (b + 1) 14 41580 := by have := N1.2.2.2.2.1; rw [hz] at this; exact this
  have a2 : zAr h2 b 1 (b + 2) 13 13860 := by have := N2.2.2.2.2.1; rw [e1] at this; exact this
  have a3 : zAr h3 b 2 (b + 3) 16 20 := by have := N3.2.2.2.2.1; rw [e2] at this; exact this
  have a4 : zAr h4 b 3 (b + 4) 13 60 := by have := N4.2.2.2.2.1; rw [e3] at this; exact this
  have a5 : zAr h5 b 4 (b + 5) 13 60 := by have := N5.2.2.2.2.1; rw [e4] at this; exact this
  have a6 : zAr h6 b 5 (b + 6) 14 21 := by have := N6.2.2.2.2.1; rw [e5] at this; exact this
  have A1 : zAr h6 b 0 (b + 1) 14 41580 := N6.keep (N5.keep (N4.keep (N3.keep (N2.keep a1 (by omega) (by omega) (by omega)) (by omega) (by omega) (by omega)) (by omega) (by omega) (by omega)) (by omega) (by omega) (by omega)) (by omega) (by omega) (by omega)
  have A2 : zAr h6 b 1 (b + 2) 13 13860 := N6.keep (N5.keep (N4.keep (N3.keep a2 (by omega) (by omega) (by omega)) (by omega) (by omega) (by omega)) (by omega) (by omega) (by omega)) (by omega) (by omega) (by omega)
  have A3 : zAr h6 b 2 (b + 3) 16 20 := N6.keep (N5.keep (N4.keep a3 (by omega) (by omega) (by omega)) (by omega) (by omega) (by omega)) (by omega) (by omega) (by omega)
  have A4 : zAr h6 b 3 (b + 4) 13 60 := N6.keep (N5.keep a4 (by omega) (by omega) (by omega)) (by omega) (by omega) (by omega)
  have A5 : zAr h6 b 4 (b + 5) 13 60 := N6.keep a5 (by omega) (by omega) (by omega)
  have st2 : ∀ i, zI h6 (b + 2) i = 0 := fun i => by
    rw [N6.2.2.1.I ⟨by omega, by omega⟩, N5.2.2.1.I ⟨by omega, by omega⟩, N4.2.2.1.I ⟨by omega, by omega⟩, N3.2.2.1.I ⟨by omega, by omega⟩]
    have := N2.2.2.2.2.2.1 i
    rw [e1] at this
    exact this
  have bI : ∀ i, zI h6 b i = 0 := fun i => by
    rw [N6.2.2.2.1.2.2.1, N5.2.2.2.1.2.2.1, N4.2.2.2.1.2.2.1, N3.2.2.2.1.2.2.1, N2.2.2.2.1.2.2.1, N1.2.2.2.1.2.2.1]
    exact hI i
  have tt : ztot h6 = ztot h + 55601 := by
    have q1 := N1.2.1
    have q2 := N2.2.1
    have q3 := N3.2.1
    have q4 := N4.2.1
    have q5 := N5.2.1
    have q6 := N6.2.1
    omega
  have gg : Ag (fun a => a < b ∨ b + 27 ≤ a) h h6 := (((((N1.2.2.1.wk (fun a ha => ⟨by omega, by omega⟩)).tr (N2.2.2.1.wk (fun a ha => ⟨by omega, by omega⟩))).tr (N3.2.2.1.wk (fun a ha => ⟨by omega, by omega⟩))).tr (N4.2.2.1.wk (fun a ha => ⟨by omega, by omega⟩))).tr (N5.2.2.1.wk (fun a ha => ⟨by omega, by omega⟩))).tr (N6.2.2.1.wk (fun a ha => ⟨by omega, by omega⟩))
  refine ⟨21, l0 (h0 := h6) (by omega) A3 T6 (fun h7 I7 => ?_) 20 0 h6 (by omega) ⟨e6, by omega, Ag.rf, A3.2.1, A3.2.2, fun j hj => by omega⟩⟩
  obtain ⟨z1, z2, g, t3, n3, m⟩ := I7
  have gk : ∀ {s r tg n : Nat}, zAr h6 b s (b + r) tg n → r ≠ 3 → 1 ≤ r → r < 7 → zAr h7 b s (b + r) tg n := fun x h1 h2 h3 => x.ag g ⟨by omega, by omega⟩ ⟨by omega, by omega⟩
  refine kQ h7 (by omega) (by omega) (gg.tr (g.wk (fun a ha => ⟨by omega, by omega⟩))) ⟨⟨by rw [g.T ⟨by omega, by omega⟩]; exact T6, gk A1 (by omega) (by omega) (by omega), gk A2 (by omega) (by omega) (by omega), ⟨by rw [g.R ⟨by omega, by omega⟩]; exact A3.1, t3, n3⟩, gk A4 (by omega) (by omega) (by omega), gk A5 (by omega) (by omega) (by omega), gk a6 (by omega) (by omega) (by omega), m⟩, ?_, ⟨0, Nat.le_refl 0, ?_⟩, fun i hi => ⟨0, Nat.le_refl 0, ?_⟩⟩
  · rw [g.I ⟨by omega, by omega⟩, bI]; rfl
  · rw [g.I ⟨by omega, by omega⟩, bI]; rfl
  · rw [g.I ⟨by omega, by omega⟩, st2]; rfl
set_option maxHeartbeats 2000000 in
theorem ct_72 {d sp : Nat} {h : ZH} (hd : 6 ≤ d) (hz : zsz h = sp + 1) (ht : ztag h sp = 7) (hI : ∀ i, zI h sp i = 0) (kQ : ∀ h', zsz h' = sp + 6 → ztot h' = ztot h + 5301 → Ag (fun a => a < sp ∨ sp + 6 ≤ a) h h' → SpM h' sp → Q none h') : Ct E d 72 [.ref sp] h Q := by
  obtain ⟨d, rfl⟩ : ∃ n, d = n + 1 := ⟨d - 1, by omega⟩
  refine ok_72 ⟨by omega, nm_e (nm_e ⟨?_, nm_e ?_⟩)⟩
  · rw [(Gr.new h 14 1323).2.2.T (Or.inl (by omega))]; exact ht
  have N1 := Nw.of (s := 0) (tg := 14) (n := 1323) (show sp < zsz h by omega)
  generalize zuR (znew h 14 1323) sp 0 (zsz h + 1) = h1 at N1 ⊢
  have e1 : zsz h1 = sp + 2 := by rw [N1.1, hz]
  have T1 : ztag h1 sp = 7 := by rw [N1.2.2.2.1.1]; exact ht
  refine nm_e (nm_e ⟨?_, nm_e ?_⟩)
  · rw [(Gr.new h1 14 1323).2.2.T (Or.inl (by omega))]; exact T1
  have N2 := Nw.of (s := 1) (tg := 14) (n := 1323) (show sp < zsz h1 by omega)
  generalize zuR (znew h1 14 1323) sp 1 (zsz h1 + 1) = h2 at N2 ⊢
  have e2 : zsz h2 = sp + 3 := by rw [N2.1, e1]
  have T2 : ztag h2 sp = 7 := by rw [N2.2.2.2.1.1]; exact T1
  refine nm_e (nm_e ⟨?_, nm_e ?_⟩)
  · rw [(Gr.new h2 13 1323).2.2.T (Or.inl (by omega))]; exact T2
  have N3 := Nw.of (s := 2) (tg := 13) (n := 1323) (show sp < zsz h2 by omega)
  generalize zuR (znew h2 13 1323) sp 2 (zsz h2 + 1) = h3 at N3 ⊢
  have e3 : zsz h3 = sp + 4 := by rw [N3.1, e2]
  have T3 : ztag h3 sp = 7 := by rw [N3.2.2.2.1.1]; exact T2
  refine nm_e (nm_e ⟨?_, nm_e ?_⟩)
  · rw [(Gr.new h3 13 1323).2.2.T (Or.inl (by omega))]; exact T3
  have N4 := Nw.of (s := 3) (tg := 13) (n := 1323) (show sp < zsz h3 by omega)
  generalize zuR (znew h3 13 1323) sp 3 (zsz h3 + 1) = h4 at N4 ⊢
  have e4 : zsz h4 = sp + 5 := by rw [N4.1, e3]
  have T4 : ztag h4 sp = 7 := by rw [N4.2.2.2.1.1]; exact T3
  have w := znew_at h4 2 (zN 2)
  have gn := (Gr.new h4 2 (zN 2)).2.2
  refine nm_e (nm_e ⟨w.1, ct_23 (by omega) ⟨rfl, ?_, nm_e ?_⟩⟩)
  · rw [gn.T (Or.inl (by omega))]; exact T4
  have N5 := Nw.of (s := 6) (tg := 2) (n := zN 2) (show sp < zsz h4 by omega)
  generalize zuR (znew h4 2 (zN 2)) sp 6 (zsz h4 + 1) = h5 at N5 ⊢
  have e5 : zsz h5 = sp + 6 := by rw [N5.1, e4]
  have a1 : zAr h1 sp 0 (sp + 1) 14 1323 := by have := N1.2.2.2.2.1; rw [hz] at this; exact this
  have a2 : zAr h2 sp 1 (sp + 2) 14 1323 := by have := N2.2.2.2.2.1; rw [e1] at this; exact this
  have a3 : zAr h3 sp 2 (sp + 3) 13 1323 := by have := N3.2.2.2.2.1; rw [e2] at this; exact this
  have a4 : zAr h4 sp 3 (sp + 4) 13 1323 := by have := N4.2.2.2.2.1; rw [e3] at this; exact this
  have a5 : zAr h5 sp 6 (sp + 5) 2 (zN 2) := by have := N5.2.2.2.2.1; rw [e4] at this; exact this
  refine kQ h5 e5 ?_ ?_ ⟨sp + 1, sp + 2, sp + 3, sp + 4, ⟨by rw [N5.2.2.2.1.1]; exact T4, N5.keep (N4.keep (N3.keep (N2.keep a1 (by omega) (by omega) (by omega)) (by omega) (by omega) (by omega)) (by omega) (by omega) (by omega)) (by omega) (by omega) (by omega), N5.keep (N4.keep (N3.keep a2 (by omega) (by omega) (by omega)) (by omega) (by omega) (by omega)) (by omega) (by omega) (by omega), N5.keep (N4.keep a3 (by omega) (by omega) (by omega)) (by omega) (by omega) (by omega), N5.keep a4 (by omega) (by omega) (by omega), a5.1, a5.2.1, Or.inl ⟨rfl, rfl⟩, Or.inl ⟨rfl, rfl⟩⟩, fun i hi => ?_, fun i hi => ?_, ?_⟩
  · have e9 : zN 2 = 9 := rfl
    have q1 := N1.2.1
    have q2 := N2.2.1
    have q3 := N3.2.1
    have q4 := N4.2.1
    have q5 := N5.2.1
    omega
  · exact ((((N1.2.2.1.wk (fun a ha => ⟨by omega, by omega⟩)).tr (N2.2.2.1.wk (fun a ha => ⟨by omega, by omega⟩))).tr (N3.2.2.1.wk (fun a ha => ⟨by omega, by omega⟩))).tr (N4.2.2.1.wk (fun a ha => ⟨by omega, by omega⟩))).tr (N5.2.2.1.wk (fun a ha => ⟨by omega, by omega⟩))
  · rw [N5.2.2.1.L ⟨by omega, by omega⟩, N4.2.2.1.L ⟨by omega, by omega⟩, N3.2.2.1.L ⟨by omega, by omega⟩, N2.2.2.1.L ⟨by omega, by omega⟩]
    have := N1.2.2.2.2.2.2.1 i
    rw [hz] at this
    exact this
  · rw [N5.2.2.1.L ⟨by omega, by omega⟩, N4.2.2.1.L ⟨by omega, by omega⟩, N3.2.2.1.L ⟨by omega, by omega⟩]
    have := N2.2.2.2.2.2.2.1 i
    rw [e1] at this
    exact this
  · rw [N5.2.2.2.1.2.2.1, N4.2.2.2.1.2.2.1, N3.2.2.2.1.2.2.1, N2.2.2.2.1.2.2.1, N1.2.2.2.1.2.2.1, hI]
    rfl
end NEW
