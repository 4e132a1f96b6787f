/-! CONSTRUCTORS -/
section MAK
variable {E : Nat → Nat} {Q : Option Value → ZH → Prop}
theorem na {b s tg n T : Nat} {hc : ZH} {R : ZH → Prop} (hb : b < zsz hc) (tb : ztag hc b = T) (k : ∀ h', Nw b s tg n hc h' → ztag h' b = T → R h') : ∀ h1 : ZH, h1 = (znew hc tg n) → ∀ r2 : Nat, r2 = (zsz hc) → ztag h1 b = T ∧ ∀ h4 : ZH, h4 = (zuR h1 b s (r2 + 1)) → R h4 := by
  rintro h1 rfl r2 rfl
  refine ⟨by rw [(Gr.new hc tg n).2.2.T (Or.inl hb)]; exact tb, ?_⟩
  rintro h4 rfl
  have N := Nw.of (s := s) (tg := tg) (n := n) hb
  exact k _ N (by rw [N.2.2.2.1.1]; exact tb)
theorem Nw.zI {b s tg n : Nat} {hc h' : ZH} (N : Nw b s tg n hc h') (i : Nat) : zI h' b i = zI hc b i := by rw [N.2.2.2.1.2.2.1]
theorem Nw.zL {b s tg n : Nat} {hc h' : ZH} (N : Nw b s tg n hc h') (i : Nat) : zL h' b i = zL hc b i := by rw [N.2.2.2.1.2.2.2.1]
theorem Nw.zR {b s tg n i : Nat} {hc h' : ZH} (N : Nw b s tg n hc h') (hi : i ≠ s) : zR h' b i = zR hc b i := N.2.2.2.1.2.2.2.2 i hi
theorem Nw.ar {b s tg n z : Nat} {hc h' : ZH} (N : Nw b s tg n hc h') (hz : zsz hc = z) : zAr h' b s z tg n := by
  have := N.2.2.2.2.1
  rw [hz] at this
  exact this
theorem Nw.nI {b s tg n z : Nat} {hc h' : ZH} (N : Nw b s tg n hc h') (hz : zsz hc = z) (i : Nat) : Jvm.Pilot.CTakeOrPayLaw_law_r1323_121aa1.zI h' z i = 0 := by
  have := N.2.2.2.2.2.1 i
  rw [hz] at this
  exact this
theorem Nw.ag {b s tg n z : Nat} {hc h' : ZH} (N : Nw b s tg n hc h') (hz : zsz hc = z) : Ag (fun a => a ≠ b ∧ a ≠ z) hc h' := by
  have := N.2.2.1
  rw [hz] at this
  exact this
theorem ct_77 {d p : Nat} {h : ZH} (hd : 5 ≤ d) (hz : zsz h = p + 1) (ht : ztag h p = 8) (kQ : ∀ h', zsz h' = p + 2 → ztot h' = ztot h + 320 → Ag (fun a => a < p ∨ p + 2 ≤ a) h h' → TSh h' p → (∀ i, zI h' p i = zI h p i) → Q none h') : Ct E d 77 [.ref p] h Q := by
  obtain ⟨d, rfl⟩ : ∃ n, d = n + 1 := ⟨d - 1, by omega⟩
  exact ok_77 ⟨by omega, na (by omega) ht (fun h1 N1 T1 => kQ h1 (by rw [N1.1, hz]) N1.2.1 ((N1.ag hz).wk (fun a ha => ⟨by omega, by omega⟩)) ⟨T1, N1.ar hz⟩ N1.zI)⟩
theorem ct_65 {d p : Nat} {h : ZH} (hd : 5 ≤ d) (hz : zsz h = p + 1) (ht : ztag h p = 5) (kQ : ∀ h', zsz h' = p + 3 → ztot h' = ztot h + 40 → Ag (fun a => a < p ∨ p + 3 ≤ a) h h' → RSh h' p → (∀ i, zI h' p i = zI h p i) → Q none h') : Ct E d 65 [.ref p] h Q := by
  obtain ⟨d, rfl⟩ : ∃ n, d = n + 1 := ⟨d - 1, by omega⟩
  refine ok_65 ⟨by omega, na (by omega) ht (fun h1 N1 T1 => ?_)⟩
  have e1 : zsz h1 = p + 2 := by rw [N1.1, hz]
  refine na (by omega) T1 (fun h2 N2 T2 => kQ h2 (by rw [N2.1, e1]) (by rw [N2.2.1, N1.2.1]) (((N1.ag hz).wk (fun a ha => ⟨by omega, by omega⟩)).tr ((N2.ag e1).wk (fun a ha => ⟨by omega, by omega⟩))) ⟨T2, N2.keep (N1.ar hz) (by omega) (by omega) (by omega), N2.ar e1⟩ (fun i => by rw [N2.zI, N1.zI]))
theorem ct_67 {d p : Nat} {h : ZH} (hd : 5 ≤ d) (hz : zsz h = p + 1) (ht : ztag h p = 6) (hI : ∀ i, zI h p i = 0) (kQ : ∀ h', zsz h' = p + 2 → ztot h' = ztot h + 48 → Ag (fun a => a < p ∨ p + 2 ≤ a) h h' → SSh h' p → zI h' p 1 = -4 → zI h' p 2 = 0 → (∀ i, zI h' (p + 1) i = 0) → Q none h') : Ct E d 67 [.ref p] h Q := by
  obtain ⟨d, rfl⟩ : ∃ n, d = n + 1 := ⟨d - 1, by omega⟩
  refine ok_67 ⟨by omega, na (by omega) ht (fun h1 N1 T1 => ⟨T1, nm_e (kQ _ (show zsz h1 = _ by rw [N1.1, hz]) N1.2.1 (((N1.ag hz).wk (fun a ha => ⟨by omega, by omega⟩)).uI (by omega)) ⟨T1, N1.ar hz⟩ (zI_here _ _ _ _) (by rw [zI_offi (by omega), N1.zI, hI]) (fun i => by rw [zI_offa (by omega)]; exact N1.nI hz i))⟩)⟩
theorem ct_85 {d p : Nat} {h : ZH} (hd : 8 ≤ d) (hz : zsz h = p + 1) (ht : ztag h p = 9) (kQ : ∀ h', zsz h' = p + 2 → ztot h' = ztot h + 9 → Ag (fun a => a < p ∨ p + 2 ≤ a) h h' → WSh h' p → Q none h') : Ct E d 85 [.ref p] h Q := by
  obtain ⟨d, rfl⟩ : ∃ n, d = n + 1 := ⟨d - 1, by omega⟩
  have w := znew_at h 2 (zN 2)
  have gn := (Gr.new h 2 (zN 2)).2.2
  refine ok_85 ⟨by omega, nm_e (nm_e ⟨w.1, ct_23 (by omega) ⟨rfl, by rw [gn.T (Or.inl (by omega))]; exact ht, nm_e ?_⟩⟩)⟩
  have N := Nw.of (s := 0) (tg := 2) (n := zN 2) (show p < zsz h by omega)
  generalize zuR (znew h 2 (zN 2)) p 0 (zsz h + 1) = h1 at N ⊢
  have a := N.ar hz
  exact kQ h1 (by rw [N.1, hz]) (by rw [N.2.1]; rfl) ((N.ag hz).wk (fun a ha => ⟨by omega, by omega⟩)) ⟨by rw [N.2.2.2.1.1]; exact ht, a.1, a.2.1⟩
theorem ct_29 {d p : Nat} {h : ZH} (hd : 11 ≤ d) (Sc : Stc E h) (hE : E 0 ≤ p) (hz : zsz h = p + 1) (ht : ztag h p = 3) (kQ : ∀ h', zsz h' = p + 7 → ztot h' = ztot h + 107 → Ag (fun a => a < p ∨ p + 7 ≤ a) h h' → PgR h' p tp_t0 (fun _ => 3) → Q none h') : Ct E d 29 [.ref p] h Q := by
  obtain ⟨d, rfl⟩ : ∃ n, d = n + 1 := ⟨d - 1, by omega⟩
  have ok0 : tp_Ok tp_t0 := tp_t0_ok
  refine ok_29 ⟨by omega, na (by omega) ht (fun h1 N1 T1 => ?_)⟩
  have e1 : zsz h1 = p + 2 := by rw [N1.1, hz]
  refine na (by omega) T1 (fun h2 N2 T2 => ?_)
  have e2 : zsz h2 = p + 3 := by rw [N2.1, e1]
  refine na (by omega) T2 (fun h3 N3 T3 => ?_)
  have e3 : zsz h3 = p + 4 := by rw [N3.1, e2]
  refine na (by omega) T3 (fun h4 N4 T4 => ?_)
  have e4 : zsz h4 = p + 5 := by rw [N4.1, e3]
  refine na (by omega) T4 (fun h5 N5 T5 => ?_)
  have e5 : zsz h5 = p + 6 := by rw [N5.1, e4]
  refine na (by omega) T5 (fun h6 N6 T6 => ⟨T6, ?_⟩)
  have e6 : zsz h6 = p + 7 := by rw [N6.1, e5]
  have a1 := N1.ar hz
  have a2 := N2.ar e1
  have a3 := N3.ar e2
  have a4 := N4.ar e3
  have a5 := N5.ar e4
  have a6 := N6.ar e5
  have P6 : PSh h6 p := ⟨T6, N6.keep (N5.keep (N4.keep (N3.keep (N2.keep a1 (by omega) (by omega) (by omega)) (by omega) (by omega) (by omega)) (by omega) (by omega) (by omega)) (by omega) (by omega) (by omega)) (by omega) (by omega) (by omega), N6.keep (N5.keep (N4.keep (N3.keep a2 (by omega) (by omega) (by omega)) (by omega) (by omega) (by omega)) (by omega) (by omega) (by omega)) (by omega) (by omega) (by omega), N6.keep (N5.keep (N4.keep a3 (by omega) (by omega) (by omega)) (by omega) (by omega) (by omega)) (by omega) (by omega) (by omega), N6.keep (N5.keep a4 (by omega) (by omega) (by omega)) (by omega) (by omega) (by omega), N6.keep a5 (by omega) (by omega) (by omega), a6⟩
  have y6 : Ag (fun a => a < p ∨ p + 7 ≤ a) h h6 := (((((N1.ag hz).wk (fun a ha => ⟨by omega, by omega⟩)).tr ((N2.ag e1).wk (fun a ha => ⟨by omega, by omega⟩))).tr ((N3.ag e2).wk (fun a ha => ⟨by omega, by omega⟩))).tr ((N4.ag e3).wk (fun a ha => ⟨by omega, by omega⟩))).tr (((N5.ag e4).wk (fun a ha => ⟨by omega, by omega⟩)).tr ((N6.ag e5).wk (fun a ha => ⟨by omega, by omega⟩)))
  refine ct_30 (by omega) P6 (Sc.ag (y6.wk (fun a ha => by omega))) (fun h7 F7 t7 => ⟨rfl, by rw [F7.tg]; exact T6, ct_33 (by omega) ok0 (P6.fr F7) t7 (fun h8 P8 F8 => ⟨rfl, kQ h8 ?_ ?_ ?_ P8⟩)⟩)
  · rw [F8.sz, F7.sz, e6]
  · have : ztot h8 = ztot h6 := by unfold ztot; rw [F8.1, F7.1]
    rw [this, N6.2.1, N5.2.1, N4.2.1, N3.2.1, N2.2.1, N1.2.1]
  · exact y6.tr ((F7.ag (fun a i ha => by omega)).tr (F8.ag (fun a i ha => by unfold tp_S33; omega)))
theorem ct_52 {d p r : Nat} {h : ZH} (hd : 13 ≤ d) (Sc : Stc E h) (hE : E 0 ≤ p) (hz : zsz h = p + 1) (ht : ztag h p = 4) (kQ : ∀ h', zsz h' = p + 8 → ztot h' = ztot h + 114 → Ag (fun a => a < p ∨ p + 8 ≤ a) h h' → (ztag h' p = 4 ∧ zR h' p 0 = r + 1 ∧ zR h' p 1 = p + 1 + 1) → PgR h' (p + 1) tp_t0 (fun _ => 3) → (∀ i, zI h' p i = zI h p i) → Q none h') : Ct E d 52 [.ref p, .ref r] h Q := by
  obtain ⟨d, rfl⟩ : ∃ n, d = n + 1 := ⟨d - 1, by omega⟩
  have w := znew_at h 3 (zN 3)
  have gn := Gr.new h 3 (zN 3)
  have yn : Ag (fun a => a < p + 1 ∨ p + 2 ≤ a) h (znew h 3 (zN 3)) := gn.2.2.wk (fun a ha => by omega)
  refine ok_52 ⟨by omega, nm_e (nm_e ⟨w.1, ?_⟩)⟩
  rw [hz] at w ⊢
  have z1 : zsz (znew h 3 (zN 3)) = p + 1 + 1 := by rw [gn.1, hz]
  have t1 : ztot (znew h 3 (zN 3)) = ztot h + zN 3 := gn.2.1
  generalize znew h 3 (zN 3) = h1 at w yn z1 t1 ⊢
  refine ct_29 (by omega) (Sc.ag (yn.wk (fun a ha => by omega))) (by omega) z1 w.1 (fun h2 z2 t2 y2 P2 => ⟨rfl, by rw [y2.T (Or.inl (by omega)), yn.T (by omega)]; exact ht, nm_e ⟨by rw [ztag_uR, y2.T (Or.inl (by omega)), yn.T (by omega)]; exact ht, nm_e (kQ _ (show zsz h2 = _ by omega) ?_ ?_ ⟨by rw [ztag_uR, ztag_uR, y2.T (Or.inl (by omega)), yn.T (by omega)]; exact ht, ?_, ?_⟩ ?_ (fun i => ?_))⟩⟩)
  · show ztot h2 = _
    have : zN 3 = 7 := rfl
    omega
  · have ya : Ag (fun a => a < p ∨ p + 8 ≤ a) h h2 := (yn.wk (fun a ha => by omega)).tr (y2.wk (fun a ha => by omega))
    exact (ya.uR (by omega)).uR (by omega)
  · rw [zR_uR, if_pos ⟨rfl, rfl⟩]
  · rw [zR_uR, if_neg (by omega), zR_uR, if_pos ⟨rfl, rfl⟩]
  · exact P2.ag ((Ag.rf.uR (fun q => by unfold Rg at q; omega)).uR (fun q => by unfold Rg at q; omega))
  · rw [zI_uR, zI_uR, y2.I (Or.inl (by omega)), yn.I (by omega)]
theorem ct_13 {d p r1 r2 : Nat} {h : ZH} (hd : 13 ≤ d) (Sc : Stc E h) (hE : E 0 ≤ p) (hz : zsz h = p + 1) (ht : ztag h p = 1) (kQ : ∀ h', zsz h' = p + 12 → ztot h' = ztot h + 152 → Ag (fun a => a < p ∨ p + 12 ≤ a) h h' → (ztag h' p = 1 ∧ zR h' p 0 = r1 + 1 ∧ zR h' p 1 = r2 + 1 ∧ zR h' p 2 = p + 1 + 1 ∧ zR h' p 3 = p + 8 + 1 ∧ zAr h' p 11 (p + 9) 15 8 ∧ zAr h' p 12 (p + 10) 14 5 ∧ zAr h' p 13 (p + 11) 14 16) → PgR h' (p + 1) tp_t0 (fun _ => 3) → ztag h' (p + 8) = 2 → (∀ i, zI h' p i = zI h p i) → (∀ i, 4 ≤ i → i ≤ 6 → zR h' p i = zR h p i) → (∀ i, zI h' (p + 9) i = 0) → Q none h') : Ct E d 13 [.ref p, .ref r1, .ref r2] h Q := by
  obtain ⟨d, rfl⟩ : ∃ n, d = n + 1 := ⟨d - 1, by omega⟩
  have w := znew_at h 3 (zN 3)
  have gn := Gr.new h 3 (zN 3)
  have yn : Ag (fun a => a < p + 1 ∨ p + 2 ≤ a) h (znew h 3 (zN 3)) := gn.2.2.wk (fun a ha => by omega)
  refine ok_13 ⟨by omega, nm_e (nm_e ⟨w.1, ?_⟩)⟩
  rw [hz] at w ⊢
  have z1 : zsz (znew h 3 (zN 3)) = p + 1 + 1 := by rw [gn.1, hz]
  have t1 : ztot (znew h 3 (zN 3)) = ztot h + zN 3 := gn.2.1
  generalize znew h 3 (zN 3) = h1 at w yn z1 t1 ⊢
  refine ct_29 (by omega) (Sc.ag (yn.wk (fun a ha => by omega))) (by omega) z1 w.1 (fun h2 z2 t2 y2 P2 => ⟨rfl, by rw [y2.T (Or.inl (by omega)), yn.T (by omega)]; exact ht, nm_e ?_⟩)
  have y2' : Ag (fun a => a < p ∨ p + 8 ≤ a) h h2 := (yn.wk (fun a ha => by omega)).tr (y2.wk (fun a ha => by omega))
  have T3 : ztag (zuR h2 p 2 (p + 1 + 1)) p = 1 := by rw [ztag_uR, y2.T (Or.inl (by omega)), yn.T (by omega)]; exact ht
  have I3 : ∀ i, zI (zuR h2 p 2 (p + 1 + 1)) p i = zI h p i := fun i => by rw [zI_uR, y2.I (Or.inl (by omega)), yn.I (by omega)]
  have R3 : ∀ i, i ≠ 2 → zR (zuR h2 p 2 (p + 1 + 1)) p i = zR h p i := fun i hi => by rw [zR_uR, if_neg (by omega), y2.R (Or.inl (by omega)), yn.R (by omega)]
  have Q3 : zR (zuR h2 p 2 (p + 1 + 1)) p 2 = p + 1 + 1 := by rw [zR_uR, if_pos ⟨rfl, rfl⟩]
  have y3 : Ag (fun a => a < p ∨ p + 8 ≤ a) h (zuR h2 p 2 (p + 1 + 1)) := y2'.uR (by omega)
  have P3 : PgR (zuR h2 p 2 (p + 1 + 1)) (p + 1) tp_t0 (fun _ => 3) := P2.ag (Ag.rf.uR (fun q => by unfold Rg at q; omega))
  have z3 : zsz (zuR h2 p 2 (p + 1 + 1)) = p + 8 := show zsz h2 = _ by omega
  have t3 : ztot (zuR h2 p 2 (p + 1 + 1)) = ztot h2 := rfl
  generalize zuR h2 p 2 (p + 1 + 1) = h3 at T3 I3 R3 Q3 y3 P3 z3 t3 ⊢
  have w4 := znew_at h3 2 (zN 2)
  have g4 := Gr.new h3 2 (zN 2)
  refine nm_e (nm_e ⟨w4.1, ct_23 (by omega) ⟨rfl, by rw [g4.2.2.T (Or.inl (by omega))]; exact T3, nm_e ?_⟩⟩)
  have N4 := Nw.of (s := 3) (tg := 2) (n := zN 2) (show p < zsz h3 by omega)
  generalize zuR (znew h3 2 (zN 2)) p 3 (zsz h3 + 1) = h4 at N4 ⊢
  have T4 : ztag h4 p = 1 := by rw [N4.2.2.2.1.1]; exact T3
  have e4 : zsz h4 = p + 9 := by rw [N4.1, z3]
  refine na (by omega) T4 (fun h5 N5 T5 => ?_)
  have e5 : zsz h5 = p + 10 := by rw [N5.1, e4]
  refine na (by omega) T5 (fun h6 N6 T6 => ?_)
  have e6 : zsz h6 = p + 11 := by rw [N6.1, e5]
  refine na (by omega) T6 (fun h7 N7 T7 => ?_)
  have e7 : zsz h7 = p + 12 := by rw [N7.1, e6]
  have a4 := N4.ar z3
  have a5 := N5.ar e4
  have a6 := N6.ar e5
  have a7 := N7.ar e6
  have b4 := N7.keep (N6.keep (N5.keep a4 (by omega) (by omega) (by omega)) (by omega) (by omega) (by omega)) (by omega) (by omega) (by omega)
  have b5 := N7.keep (N6.keep a5 (by omega) (by omega) (by omega)) (by omega) (by omega) (by omega)
  have b6 := N7.keep a6 (by omega) (by omega) (by omega)
  have R7 : ∀ i, i ≠ 3 → i ≠ 11 → i ≠ 12 → i ≠ 13 → zR h7 p i = zR h3 p i := fun i q1 q2 q3 q4 => by rw [N7.zR q4, N6.zR q3, N5.zR q2, N4.zR q1]
  have y7 : Ag (fun a => a < p ∨ (p < a ∧ a < p + 8) ∨ p + 12 ≤ a) h3 h7 := (((N4.ag z3).wk (fun a ha => ⟨by omega, by omega⟩)).tr ((N5.ag e4).wk (fun a ha => ⟨by omega, by omega⟩))).tr (((N6.ag e5).wk (fun a ha => ⟨by omega, by omega⟩)).tr ((N7.ag e6).wk (fun a ha => ⟨by omega, by omega⟩)))
  have i9 : ∀ i, zI h7 (p + 9) i = 0 := fun i => by rw [(N7.ag e6).I ⟨by omega, by omega⟩, (N6.ag e5).I ⟨by omega, by omega⟩]; exact N5.nI e4 i
  have tt : ztot h7 = ztot h + 152 := by
    have q4 := N4.2.1
    have q5 := N5.2.1
    have q6 := N6.2.1
    have q7 := N7.2.1
    have n3 : zN 3 = 7 := rfl
    have n2 : zN 2 = 9 := rfl
    omega
  refine ⟨T7, nm_e ⟨by rw [ztag_uR]; exact T7, nm_e ?_⟩⟩
  have nn : ∀ {s r tg n : Nat}, s ≠ 0 → s ≠ 1 → zAr h7 p s r tg n → zAr (zuR (zuR h7 p 0 (r1 + 1)) p 1 (r2 + 1)) p s r tg n := fun q1 q2 a => ⟨by rw [zR_uR, if_neg (by omega), zR_uR, if_neg (by omega)]; exact a.1, a.2.1, a.2.2⟩
  refine kQ _ (show zsz h7 = _ from e7) (show ztot h7 = _ from tt) ((((y3.wk (fun a ha => by omega)).tr (y7.wk (fun a ha => by omega))).uR (by omega)).uR (by omega)) ⟨T7, by rw [zR_uR, if_neg (by omega), zR_uR, if_pos ⟨rfl, rfl⟩], by rw [zR_uR, if_pos ⟨rfl, rfl⟩], by rw [zR_uR, if_neg (by omega), zR_uR, if_neg (by omega), R7 2 (by omega) (by omega) (by omega) (by omega)]; exact Q3, (nn (by omega) (by omega) b4).1, nn (by omega) (by omega) b5, nn (by omega) (by omega) b6, nn (by omega) (by omega) a7⟩ ((P3.ag (y7.wk (fun a ha => by unfold Rg at ha; omega))).ag ((Ag.rf.uR (fun q => by unfold Rg at q; omega)).uR (fun q => by unfold Rg at q; omega))) b4.2.1 (fun i => by rw [zI_uR, zI_uR, N7.zI, N6.zI, N5.zI, N4.zI, I3]) (fun i q1 q2 => by rw [zR_uR, if_neg (by omega), zR_uR, if_neg (by omega), R7 i (by omega) (by omega) (by omega) (by omega), R3 i (by omega)]) (fun i => by rw [zI_uR, zI_uR]; exact i9 i)
end MAK
