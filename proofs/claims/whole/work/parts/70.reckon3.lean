/-! THE CLASS'S SPREAD: reckon, its end -/
section SR3
variable {E : Nat → Nat} {b p sp ac g : Nat} {t u : Nat → Nat}
theorem l73z {d : Nat} {h0 : ZH} {A B C D nn : Nat} {G : Nat → Int} {pl : Nat → Nat} {Q : Option Value → ZH → Prop} (S0 : SpS h0 sp A B C D) (hnn : nn ≤ 1323) (hpl : ∀ j, j < nn → pl j < 1323 ∧ zI h0 C j = jI (pl j : Int)) (i4 : zI h0 sp 4 = jI (nn : Int)) (kB : ∀ h', Fr (fun a _ => a = A) h0 h' → (∀ x, x < 1323 → zL h' A x = jL (tp_gz G pl nn x)) → wb_73_80 E d Q sp b p h') : ∀ r i h1, i + r = nn → Fr (fun a _ => a = A) h0 h1 → (∀ x, x < 1323 → zL h1 A x = jL (tp_gz G pl i x)) → wl_73_66 E d Q (r + 1) sp b p (jI (i : Int)) h1
  | 0, i, h1, er, F1, z1 => by
    have ei : i = nn := by omega
    subst ei
    have S1 := S0.fr F1
    have oAB := S0.2.2.2.2.2.2.2.1
    rw [wl_73_66]
    refine ⟨S1.1, fun _ => kB h1 F1 z1, fun c => ?_⟩
    exfalso
    apply c
    rw [F1.I (by omega), i4, jI_len (by omega) (by omega)]
    exact Nat.le_refl _
  | r + 1, i, h1, er, F1, z1 => by
    have S1 := S0.fr F1
    have oAB := S0.2.2.2.2.2.2.2.1
    have oCD := S0.2.2.2.2.2.2.2.2
    obtain ⟨q1, q2⟩ := hpl i (by omega)
    have eC : zI h1 C (jI (i : Int)).toNatClampNeg = jI (pl i : Int) := by rw [jI_cln (by omega), F1.I (by omega)]; exact q2
    rw [wl_73_66]
    refine ⟨S1.1, fun c => ?_, fun _ => ⟨A, S1.2.1.1, C, S1.2.2.2.1.1, S1.2.2.2.1.ti, S1.2.2.2.1.inn (by omega) (by omega), S1.2.1.tg, by rw [eC]; exact S1.2.1.inn q1 (by omega), nm_r (e' := zuL h1 A (pl i) (jL 0)) (by rw [eC, jI_cln (by omega)]; rfl) (nm_r (e' := jI ((i + 1 : Nat) : Int)) (by rw [show (1 : Int32) = jI 1 from rfl, jI_add]; rfl) (l73z S0 hnn hpl i4 kB r (i + 1) _ (by omega) (F1.uL rfl) (fun x hx => ?_)))⟩⟩
    · exfalso
      rw [F1.I (by omega), i4, jI_len (by omega) (by omega)] at c
      omega
    · show _ = jL (if x = pl i then 0 else tp_gz G pl i x)
      by_cases cx : x = pl i
      · subst cx
        rw [zL_here, if_pos rfl]
      · rw [zL_offi cx, if_neg cx]
        exact z1 x hx
set_option maxHeartbeats 2000000 in
/-- Spread.reckon: what is expected of the page -/
theorem ct_73 {d : Nat} {h : ZH} {Q : Option Value → ZH → Prop} (hd : 42 ≤ d) (ok : tp_Ok t) (ou : tp_Ou u) (hpb : p + 6 < b) (hps : p + 6 < sp) (hsb : sp + 5 < b ∨ b + 26 < sp) (hg : g + 1 < 1000000) (P : PgR h p t u) (A0 : BAl h b p ac g t u (tp_pr t)) (M : SpM h sp) (kQ : ∀ h', FrR (tp_S73 b sp) (tp_Z73 sp) h h' → BAl h' b p ac g t u (tp_pr t) → SpM h' sp → zL h' sp 7 = jL (tp_wh t u 0) → (∀ j, j < 4 → zL h' sp (8 + j) = jL (tp_F t u j (tp_T t) 0 0 0 0 (t 15))) → Q none h') : Ct E d 73 [.ref sp, .ref b] h Q := by
  obtain ⟨d, rfl⟩ : ∃ n, d = n + 1 := ⟨d - 1, by omega⟩
  have hT := ok.T
  have h15 : t 15 ≤ 2 := ok.2.2.2.2.2.2.2.2.2.2.2.2.2.2.1
  obtain ⟨A, B, C, D, S0, zA, zB, j5⟩ := M
  have oAB := S0.2.2.2.2.2.2.2.1
  have oCD := S0.2.2.2.2.2.2.2.2
  refine ok_73 ⟨A0.1.1, p, A0.2.1.1, ct_9 (c := 0) (m := 0) (k := 0) ok ou (tp_pr_ok ok) hpb (dd := 0) (by omega) (by omega) hg P A0 (by omega) (by omega) (by omega) (fun h3 ac' g' F3 A3 V3 D3 g1 g2 g3 => ?_)⟩
  obtain ⟨rfl, rfl⟩ := g3 (Or.inl rfl)
  have S3 := S0.fr F3
  have P3 : PgR h3 p t u := P.fr F3 (fun a i ha hb => by unfold tp_S9; omega)
  have z3A : ∀ x, x < 1323 → zL h3 A x = jL 0 := fun x hx => by rw [F3.L (by unfold tp_S9; omega)]; exact zA x hx
  have z3B : ∀ x, x < 1323 → zL h3 B x = jL 0 := fun x hx => by rw [F3.L (by unfold tp_S9; omega)]; exact zB x hx
  have F8 : Fr (fun a i => a = sp ∧ 8 ≤ i ∧ i ≤ 11) h3 (zuL (zuL (zuL (zuL h3 sp 8 0) sp 9 0) sp 10 0) sp 11 0) := Fr.uL (Fr.uL (Fr.uL (Fr.uL Fr.rf (by omega)) (by omega)) (by omega)) (by omega)
  have X8 : SpE (zuL (zuL (zuL (zuL h3 sp 8 0) sp 9 0) sp 10 0) sp 11 0) sp (fun _ => 0) := by
    intro j hj
    have : j = 0 ∨ j = 1 ∨ j = 2 ∨ j = 3 := by omega
    rcases this with q | q | q | q <;> subst q
    · rw [zL_offi (by omega), zL_offi (by omega), zL_offi (by omega), zL_here]; rfl
    · rw [zL_offi (by omega), zL_offi (by omega), zL_here]; rfl
    · rw [zL_offi (by omega), zL_here]; rfl
    · rw [zL_here]; rfl
  refine ⟨rfl, S3.1, nm_e (nm_e (nm_e (nm_e ?_)))⟩
  generalize zuL (zuL (zuL (zuL h3 sp 8 0) sp 9 0) sp 10 0) sp 11 0 = h8 at F8 X8 ⊢
  have P8 : PgR h8 p t u := P3.fr F8 (fun a i ha hb => by omega)
  have S8 := S3.fr F8
  have e15 : zI h8 (p + 1) 15 = jI (t 15 : Int) := P8.1.2.1 15 (by omega)
  refine ⟨P8.1.1.1, p + 1, P8.1.1.2.1.1, P8.1.1.2.1.ti, P8.1.1.2.1.inc (by decide), ?_⟩
  rw [e15]
  have j58 : zI h8 sp 5 = jI ((0 : Nat) : Int) := by rw [F8.I (by omega), F3.I (by unfold tp_S9; omega)]; exact j5
  refine ct_75 (n := 0) (G := fun _ => 0) (p := 1) (by omega) S8 ⟨fun x hx => by rw [F8.L (by omega)]; exact z3B x hx, fun _ => Int.le_refl 0, fun _ => 0, fun i hi => by omega, fun i j hi => by omega, fun x hx gx => absurd gx (Int.lt_irrefl 0)⟩ j58 (show t 15 < 1323 by omega) (by omega) (by omega) (fun h12 n12 F12 L12 j512 => ⟨rfl, tp_T t + 1, ?_⟩)
  have F12' : FrR (tp_S73 b sp) (tp_Z73 sp) h h12 := ((F3.wd (fun a i e => Or.inr e)).tr ((F8.wd (fun a i e => Or.inl (by omega))).tr (F12.wd (fun a i e => Or.inl (by omega))))).R
  have A8 : BAl h8 b p ac' g' t u (tp_pr t) := A3.frR (F8.R (Z := fun _ _ => False)) (fun a i _ _ z => z) (fun a i ha => by omega)
  have A12 : BAl h12 b p ac' g' t u (tp_pr t) := A8.frR (F12.R (Z := fun _ _ => False)) (fun a i _ _ z => z) (fun a i ha => by omega)
  have bs12 : ∀ d' c' m' k', BSd h12 b d' c' m' k' ↔ BSd h3 b d' c' m' k' := fun d' c' m' k' => by
    rw [BSd.fr F12 (by omega) (by omega) (by omega), BSd.fr F8 (by omega) (by omega) (by omega)]
  have key : ∀ F : Nat → Int, tp_sr (fun i => (if i = t 15 then (0 : Int) + 1 else 0) * F i) 0 1323 = F (t 15) := fun F => by
    have z : tp_sr (fun i => (0 : Int) * F i) 0 1323 = 0 := tp_sr_zero 1323 0 (fun i _ _ => by simp)
    have := tp_sr_up (f := fun i => (0 : Int) * F i) (g := fun i => (if i = t 15 then (0 : Int) + 1 else 0) * F i) (a := F (t 15)) (p := t 15) 1323 0 (by omega) (by omega) (fun i hi => by (try dsimp only); rw [if_neg hi]) (by (try dsimp only); rw [if_pos rfl]; omega)
    omega
  refine l73d (h0 := h) (K := fun j => tp_F t u j (tp_T t) 0 0 0 0 (t 15)) (by omega) ok ou hpb hps hsb P (fun h13 I13 => ?_) (tp_T t) 0 h12 (by omega) ⟨F12', A12, (bs12 _ _ _ _).mpr D3, A, B, C, D, n12, _, (fun _ => 0), S8.fr F12, fun x hx => ?_, L12, j512, fun i hi gi hT2 => ?_, fun j hj => ?_, ?_, fun j hj => ?_⟩
  · obtain ⟨F13, A13, Z13, A', B', C', D', nn, G, e, S13, z13, L13, i5, D13, X13, M13, T13⟩ := I13
    obtain ⟨l1, l2, pl, l3, l4, l5⟩ := L13
    have hnn : nn ≤ 1323 := tp_pig 1323 nn pl (fun i hi => (l3 i hi).1) l4
    have oAB' := S13.2.2.2.2.2.2.2.1
    have oCD' := S13.2.2.2.2.2.2.2.2
    refine ⟨S13.1, ct_74 (by omega) S13 (fun h14 F14 S14 q4 q5 => ⟨rfl, nn + 1, ?_⟩)⟩
    have F14' : FrR (tp_S73 b sp) (tp_Z73 sp) h13 h14 := F14.wd (fun a i e => Or.inl (by omega)) (fun a i e => e)
    have A14 : BAl h14 b p ac' g' t u (tp_pr t) := A13.frR F14 (fun a i ha hb z => by omega) (fun a i ha => by omega)
    refine l73z (h0 := h14) (G := G) (pl := pl) S14 hnn (fun j hj => ⟨(l3 j hj).1, by rw [F14.I (by omega)]; exact (l3 j hj).2.1⟩) (by rw [q4]; exact i5) (fun h15 F15 z15 => ?_) nn 0 h14 (by omega) Fr.rf (fun x hx => by rw [F14.L (by omega)]; exact l1 x hx)
    have F15' : FrR (tp_S73 b sp) (tp_Z73 sp) h14 h15 := (F15.wd (fun a i e => Or.inl (by omega))).R
    have A15 : BAl h15 b p ac' g' t u (tp_pr t) := A14.frR (F15.R (Z := fun _ _ => False)) (fun a i _ _ z => z) (fun a i ha => by omega)
    have FA := (F13.tr F14').tr F15'
    have P15 : PgR h15 p t u := P.frR FA (fun j z => by unfold tp_Z73 at z; omega) (fun a j ha hb => by unfold tp_S73 tp_S9; omega)
    have S15 := S14.fr F15
    have e15' : zI h15 (p + 1) 15 = jI (t 15 : Int) := P15.1.2.1 15 (by omega)
    refine ⟨P15.1.1.1, p + 1, P15.1.1.2.1.1, P15.1.1.2.1.ti, P15.1.1.2.1.inc (by decide), A15.1.1, ?_⟩
    rw [e15']
    have Z15 : BSd h15 b 0 0 0 0 := by
      rw [BSd.fr F15 (by omega) (by omega) (by omega), BSd.frR F14 (fun i => by omega) (by omega) (by omega)]
      exact Z13
    have gzz : ∀ x, x < 1323 → tp_gz G pl nn x = 0 := fun x hx => tp_gz_all l2 l5 hx
    refine ct_12 (dd := 0) (c := 0) (m := 0) (k := 0) ok ou (tp_pr_ok ok) hpb (by omega) (by omega) P15 A15.1 A15.2.1 A15.2.2.1 ⟨by omega, by omega, by omega, by omega⟩ Z15 (show t 15 < 3 by omega) (fun h16 F16 w16 => ⟨_, rfl, ?_⟩)
    have F17 : Fr (fun a i => a = sp ∧ i = 7) h16 (zuL h16 sp 7 (zL h16 b 11)) := Fr.uL Fr.rf ⟨rfl, rfl⟩
    have A16 : BAl h16 b p ac' g' t u (tp_pr t) := A15.frR (F16.R (Z := fun _ _ => False)) (fun a i _ _ z => z) (fun a i ha => by unfold tp_S12; omega)
    have S16 := S15.fr F16
    refine ⟨A16.1.1, S16.1, nm_e (kQ _ ((FA.tr ((F16.wd (fun a i e => Or.inr (by unfold tp_S12 at e; unfold tp_S9; omega))).R)).tr ((F17.wd (fun a i e => Or.inl (by omega))).R)) (A16.frR (F17.R (Z := fun _ _ => False)) (fun a i _ _ z => z) (fun a i ha => by omega)) ⟨B', A', D', C', S16.fr F17, fun x hx => ?_, fun x hx => ?_, ?_⟩ ?_ (fun j hj => ?_))⟩
    · rw [F17.L (by omega), F16.L (by unfold tp_S12; omega), z15 x hx, gzz x hx]
    · rw [F17.L (by omega), F16.L (by unfold tp_S12; omega), F15.L (by omega), F14.L (by omega)]
      exact z13 x hx
    · rw [F17.I (by omega), F16.I (by unfold tp_S12; omega), F15.I (by omega)]
      exact q5
    · rw [zL_here, w16]
      rfl
    · rw [F17.L (by omega), F16.L (by unfold tp_S12; omega), F15.L (by omega), F14.L (by omega), X13 j hj]
      have T := T13 j hj
      rw [tp_sr_zero 1323 0 (fun x _ _ => by show G x * 0 = 0; omega), Int.add_zero] at T
      rw [T]
  · rw [F12.L (by omega), F8.L (by omega)]
    exact z3A x hx
  · have ei : i = t 15 := by
      dsimp only at gi
      by_cases c : i = t 15
      · exact c
      · rw [if_neg c] at gi; omega
    subst ei
    rw [show t 15 / 3 = 0 by omega]
    exact (bs12 _ _ _ _).mpr D3
  · rw [F12.L (by omega)]
    exact X8 j hj
  · have := key (fun _ => 1)
    rw [tp_sr_ext 1323 0 (g := fun i => (if i = t 15 then (0 : Int) + 1 else 0) * (fun _ => (1 : Int)) i) (fun i _ _ => by (try dsimp only); rw [Int.mul_one])]
    exact this
  · have := key (tp_Fo t u j (tp_T t) 0)
    show (0 : Int) + tp_sr (fun x => (if x = t 15 then (0 : Int) + 1 else 0) * tp_Fo t u j (tp_T t) 0 x) 0 1323 = tp_F t u j (tp_T t) 0 0 0 0 (t 15)
    rw [this]
    unfold tp_Fo
    rw [show t 15 / 3 = 0 by omega, show t 15 % 3 = t 15 by omega]
    show 0 + tp_F t u j (tp_T t) 0 0 0 0 (t 15) = _
    omega
end SR3
