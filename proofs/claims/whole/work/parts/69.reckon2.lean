/-! THE CLASS'S SPREAD: reckon -/
section SR2
variable {E : Nat → Nat} {b p sp ac g : Nat} {t u : Nat → Nat}
/-- a day's places are gone through: i of them so far -/
def SpIn (h0 : ZH) (b p sp ac g : Nat) (t u : Nat → Nat) (A B C D : Nat) (n dd nn : Nat) (G : Nat → Int) (pl : Nat → Nat) (K : Nat → Int) (i : Nat) (h1 : ZH) (nn' : Nat) (G' e : Nat → Int) : Prop := FrR (tp_S73 b sp) (tp_Z73 sp) h0 h1 ∧ BAl h1 b p ac g t u (tp_pr t) ∧ BSd h1 b 0 0 0 0 ∧ SpS h1 sp A B C D ∧ (∀ x, x < 1323 → zL h1 A x = jL (tp_gz G pl i x)) ∧ (∀ j, j < nn → zI h1 C j = jI (pl j : Int)) ∧ zI h1 sp 4 = jI (nn : Int) ∧ SpL h1 B D nn' G' ∧ zI h1 sp 5 = jI (nn' : Int) ∧ SpD h1 b t dd G ∧ SpD h1 b t (dd + 1) G' ∧ SpE h1 sp e ∧ tp_sr G' 0 1323 + 4 * tp_sr (tp_gz G pl i) 0 1323 = 4 * tp_sr G 0 1323 ∧ ∀ j, j < 4 → e j + tp_sr (fun x => G' x * tp_Fo t u j n (dd + 1) x) 0 1323 + tp_sr (fun x => tp_gz G pl i x * tp_Fo t u j (n + 1) dd x) 0 1323 = K j
set_option maxHeartbeats 4000000 in
theorem l73i {d n : Nat} {h0 : ZH} {A B C D dd nn : Nat} {G K : Nat → Int} {pl : Nat → Nat} {L : Nat → Nat → Nat → Int32 → ZH → Prop} {Q : Option Value → ZH → Prop} (hd : 12 ≤ d) (ok : tp_Ok t) (ou : tp_Ou u) (hpb : p + 6 < b) (hps : p + 6 < sp) (hsb : sp + 5 < b ∨ b + 26 < sp) (hn : dd + 1 + n = tp_T t) (P0 : PgR h0 p t u) (hnn : nn ≤ 1323) (hpl : ∀ j, j < nn → pl j < 1323 ∧ 0 < G (pl j)) (hin : ∀ i j, i < nn → j < nn → pl i = pl j → i = j) (hG0 : ∀ x, 0 ≤ G x) (hG : 4 * tp_sr G 0 1323 ≤ 1099511627776) (kL : ∀ h' nn' G' e, SpIn h0 b p sp ac g t u A B C D n dd nn G pl K nn h' nn' G' e → L sp b p (jI ((dd + 1 : Nat) : Int)) h') : ∀ r i h1 nn' G' e, i + r = nn → SpIn h0 b p sp ac g t u A B C D n dd nn G pl K i h1 nn' G' e → wl_73_38 E d Q L (r + 1) sp b p (jI (dd : Int)) (jI (i : Int)) h1
  | 0, i, h1, nn', G', e, er, I => by
    have ei : i = nn := by omega
    subst ei
    have I' := I
    obtain ⟨F1, A1, Zs, S1, z1, c1, i4, -⟩ := I
    rw [wl_73_38]
    refine ⟨S1.1, fun _ => nm_r (e' := jI ((dd + 1 : Nat) : Int)) (by rw [show (1 : Int32) = jI 1 from rfl, jI_add]; rfl) (kL h1 nn' G' e I'), fun c => ?_⟩
    exfalso
    apply c
    rw [i4, jI_len (by omega) (by omega)]
    exact Nat.le_refl _
  | r + 1, i, h1, nn', G', e, er, I => by
    have IH := l73i (Q := Q) hd ok ou hpb hps hsb hn P0 hnn hpl hin hG0 hG kL r (i + 1)
    have hT := ok.T
    obtain ⟨F1, A1, Zs, S1, z1, c1, i4, L1, i5, DG, D1, X1, M1, T1⟩ := I
    have P1 : PgR h1 p t u := P0.frR F1 (fun j z => by unfold tp_Z73 at z; omega) (fun a j ha hb => by unfold tp_S73 tp_S9; omega)
    obtain ⟨q1, q2⟩ := hpl i (by omega)
    have gzi : tp_gz G pl i (pl i) = G (pl i) := tp_gz_out i (pl i) (fun j hj e => by have := hin j i (by omega) (by omega) e; omega)
    have gz0 : ∀ x, 0 ≤ tp_gz G pl i x := by
      intro x
      by_cases c : ∃ j, j < i ∧ pl j = x
      · rw [tp_gz_in i x c]; exact Int.le_refl 0
      · rw [tp_gz_out i x (fun j hj e => c ⟨j, hj, e⟩)]; exact hG0 x
    have gle : G (pl i) ≤ tp_sr (tp_gz G pl i) 0 1323 := by
      have := tp_sr_le (f := tp_gz G pl i) (p := pl i) 1323 0 (fun x _ _ => gz0 x) (Nat.zero_le _) (by omega)
      rw [gzi] at this
      exact this
    have S1' := S1
    obtain ⟨s0, sA, sB, sC, sD, s6, s5, oAB, oCD⟩ := S1
    have eC : zI h1 C (jI (i : Int)).toNatClampNeg = jI (pl i : Int) := by rw [jI_cln (by omega)]; exact c1 i (by omega)
    rw [wl_73_38]
    refine ⟨s0, fun c => ?_, fun _ => ⟨C, sC.1, sC.ti, sC.inn (by omega) (by omega), ?_⟩⟩
    · exfalso
      rw [i4, jI_len (by omega) (by omega)] at c
      omega
    · rw [eC]
      refine ct_76 (n := n) (e := e) hd ok ou hpb hps hsb hn P1 A1 S1' q1 (by rw [z1 _ q1, gzi]) q2 L1 i5 (DG _ q1 q2 (by omega)) D1 X1 (by omega) (fun h2 n2 G2 e2 F2 L2 j5 D2 X2 M2 T2 => ?_)
      have S2 := S1'.fr F2
      have F2' : FrR (tp_S73 b sp) (tp_Z73 sp) h1 h2 := (F2.wd (fun a j e => by
        rcases e with e | e | e | e | e
        · refine Or.inr ?_
          unfold tp_S12 at e
          unfold tp_S9
          omega
        · exact Or.inl (by omega)
        · exact Or.inl (by omega)
        · exact Or.inl (by omega)
        · exact Or.inl (by omega))).R
      have A2 : BAl h2 b p ac g t u (tp_pr t) := A1.frR (F2.R (Z := fun _ _ => False)) (fun a j _ _ z => z) (fun a j ha => by unfold tp_S76 tp_S12; omega)
      have bs : ∀ d' c' m' k', BSd h2 b d' c' m' k' ↔ BSd h1 b d' c' m' k' := fun d' c' m' k' => BSd.fr F2 (by unfold tp_S76 tp_S12; omega) (by unfold tp_S76 tp_S12; omega) (by unfold tp_S76 tp_S12; omega)
      have eC2 : zI h2 C (jI (i : Int)).toNatClampNeg = jI (pl i : Int) := by rw [F2.I (by unfold tp_S76 tp_S12; omega)]; exact eC
      have sA2 := S2.2.1
      have sC2 := S2.2.2.2.1
      refine ⟨rfl, S2.1, A, sA2.1, C, sC2.1, sC2.ti, sC2.inn (by omega) (by omega), sA2.tg, by rw [eC2]; exact sA2.inn q1 (by omega), nm_r (e' := zuL h2 A (pl i) (jL 0)) (by rw [eC2, jI_cln (by omega)]; rfl) (nm_r (e' := jI ((i + 1 : Nat) : Int)) (by rw [show (1 : Int32) = jI 1 from rfl, jI_add]; rfl) (IH _ n2 G2 e2 (by omega) ?_))⟩
      have F3 : Fr (fun a (j : Nat) => a = A) h2 (zuL h2 A (pl i) (jL 0)) := Fr.uL Fr.rf rfl
      have F3' : FrR (tp_S73 b sp) (tp_Z73 sp) h2 (zuL h2 A (pl i) (jL 0)) := (F3.wd (fun a j e => Or.inl (by omega))).R
      have uu := fun F => tp_upN (N := 1323) (L' := tp_gz G pl i) (G := tp_gz G pl (i + 1)) (F := F) (a := - G (pl i)) q1 (fun x hx => by show (if x = pl i then 0 else tp_gz G pl i x) = _; rw [if_neg hx]) (by show (if pl i = pl i then 0 else tp_gz G pl i (pl i)) = _; rw [if_pos rfl, gzi]; omega)
      refine ⟨(F1.tr F2').tr F3', A2.frR (F3.R (Z := fun _ _ => False)) (fun a j _ _ z => z) (fun a j ha => by omega), by rw [BSd.fr F3 (by omega) (by omega) (by omega), bs]; exact Zs, S2.fr F3, fun x hx => ?_, fun j hj => ?_, ?_, L2.fr F3 (fun x => by omega) (fun x => by omega), ?_, fun x hx gx hT => ?_, fun x hx gx hT => ?_, fun j hj => ?_, ?_, fun j hj => ?_⟩
      · show _ = jL (if x = pl i then 0 else tp_gz G pl i x)
        by_cases cx : x = pl i
        · subst cx
          rw [zL_here, if_pos rfl]
        · rw [zL_offi cx, if_neg cx, F2.L (by unfold tp_S76 tp_S12; omega)]
          exact z1 x hx
      · show zI h2 C j = _
        rw [F2.I (by unfold tp_S76 tp_S12; omega)]
        exact c1 j hj
      · show zI h2 sp 4 = _
        rw [F2.I (by unfold tp_S76 tp_S12; omega)]
        exact i4
      · exact j5
      · rw [BSd.fr F3 (by omega) (by omega) (by omega), bs]
        exact DG x hx gx hT
      · rw [BSd.fr F3 (by omega) (by omega) (by omega)]
        exact D2 x hx gx hT
      · rw [F3.L (by omega)]
        exact X2 j hj
      · rw [(uu (fun _ => 0)).2, M2]
        omega
      · have T := T1 j hj
        have TT := T2 j hj
        rw [(uu _).1, Int.neg_mul]
        omega
/-- between two days -/
def SpDy (h0 : ZH) (b p sp ac g : Nat) (t u : Nat → Nat) (K : Nat → Int) (n dd : Nat) (h1 : ZH) : Prop := FrR (tp_S73 b sp) (tp_Z73 sp) h0 h1 ∧ BAl h1 b p ac g t u (tp_pr t) ∧ BSd h1 b 0 0 0 0 ∧ ∃ A B C D nn G e, SpS h1 sp A B C D ∧ (∀ x, x < 1323 → zL h1 A x = jL 0) ∧ SpL h1 B D nn G ∧ zI h1 sp 5 = jI (nn : Int) ∧ SpD h1 b t dd G ∧ SpE h1 sp e ∧ tp_sr G 0 1323 = 4 ^ dd ∧ ∀ j, j < 4 → e j + tp_sr (fun x => G x * tp_Fo t u j n dd x) 0 1323 = K j
theorem tp_gz_all {G : Nat → Int} {pl : Nat → Nat} {nn : Nat} (h0 : ∀ x, 0 ≤ G x) (h : ∀ x, x < 1323 → 0 < G x → ∃ j, j < nn ∧ pl j = x) {x : Nat} (hx : x < 1323) : tp_gz G pl nn x = 0 := by
  by_cases c : ∃ j, j < nn ∧ pl j = x
  · exact tp_gz_in nn x c
  · rw [tp_gz_out nn x (fun j hj e => c ⟨j, hj, e⟩)]
    by_cases c2 : 0 < G x
    · exact absurd (h x hx c2) c
    · have := h0 x; omega
set_option maxHeartbeats 2000000 in
theorem l73d {d : Nat} {h0 : ZH} {K : Nat → Int} {Q : Option Value → ZH → Prop} (hd : 12 ≤ d) (ok : tp_Ok t) (ou : tp_Ou u) (hpb : p + 6 < b) (hps : p + 6 < sp) (hsb : sp + 5 < b ∨ b + 26 < sp) (P0 : PgR h0 p t u) (kB : ∀ h', SpDy h0 b p sp ac g t u K 0 (tp_T t) h' → wb_73_62 E d Q sp b p h') : ∀ r dd h1, dd + r = tp_T t → SpDy h0 b p sp ac g t u K r dd h1 → wl_73_30 E d Q (r + 1) sp b p (jI (dd : Int)) h1
  | 0, dd, h1, er, I => by
    have hT := ok.T
    have P1 : PgR h1 p t u := P0.frR I.1 (fun j z => by unfold tp_Z73 at z; omega) (fun a j ha hb => by unfold tp_S73 tp_S9; omega)
    have ed : dd = tp_T t := by omega
    subst ed
    rw [wl_73_30]
    refine ⟨P1.1.1.1, fun _ => kB h1 I, fun c => ?_⟩
    exfalso
    apply c
    rw [P1.2.2.2.2.2, jI_len (by omega) (by omega)]
    exact Nat.le_refl _
  | r + 1, dd, h1, er, I => by
    have hT := ok.T
    have IH := l73d (Q := Q) hd ok ou hpb hps hsb P0 kB r (dd + 1)
    obtain ⟨F1, A1, Zs, A, B, C, D, nn, G, e, S1, z1, L1, i5, D1, X1, M1, T1⟩ := I
    have P1 : PgR h1 p t u := P0.frR F1 (fun j z => by unfold tp_Z73 at z; omega) (fun a j ha hb => by unfold tp_S73 tp_S9; omega)
    obtain ⟨l1, l2, pl, l3, l4, l5⟩ := L1
    have oAB := S1.2.2.2.2.2.2.2.1
    have oCD := S1.2.2.2.2.2.2.2.2
    have hnn : nn ≤ 1323 := tp_pig 1323 nn pl (fun i hi => (l3 i hi).1) l4
    rw [wl_73_30]
    refine ⟨P1.1.1.1, fun c => ?_, fun _ => ⟨S1.1, ct_74 (by omega) S1 (fun h2 F2 S2 j4 j5 => ⟨rfl, nn + 1, ?_⟩)⟩⟩
    · exfalso
      rw [P1.2.2.2.2.2, jI_len (by omega) (by omega)] at c
      omega
    have F2' : FrR (tp_S73 b sp) (tp_Z73 sp) h1 h2 := F2.wd (fun a i e => Or.inl (by omega)) (fun a i e => e)
    have A2 : BAl h2 b p ac g t u (tp_pr t) := A1.frR F2 (fun a i ha hb z => by omega) (fun a i ha => by omega)
    have bs : ∀ d' c' m' k', BSd h2 b d' c' m' k' ↔ BSd h1 b d' c' m' k' := fun d' c' m' k' => BSd.frR F2 (fun i => by omega) (by omega) (by omega)
    have h4 : 4 * tp_sr G 0 1323 ≤ 1099511627776 := by
      have := tp_4pow (show dd + 1 ≤ 20 by omega)
      rw [M1]
      rw [Int.pow_succ] at this
      omega
    refine l73i (n := r) (K := K) (pl := pl) (G := G) hd ok ou hpb hps hsb (by omega) P0 hnn (fun j hj => ⟨(l3 j hj).1, (l3 j hj).2.2⟩) l4 l2 h4 (fun h3 n3 G3 e3 I3 => IH h3 (by omega) ?_) nn 0 h2 0 (fun _ => 0) e (by omega) ⟨F1.tr F2', A2, (bs _ _ _ _).mpr Zs, S2, fun x hx => ?_, fun j hj => ?_, ?_, ⟨fun x hx => ?_, fun _ => Int.le_refl 0, fun _ => 0, fun i hi => by omega, fun i j hi => by omega, fun x hx gx => absurd gx (Int.lt_irrefl 0)⟩, j5, fun x hx gx hT2 => (bs _ _ _ _).mpr (D1 x hx gx hT2), fun x hx gx => absurd gx (Int.lt_irrefl 0), fun j hj => ?_, ?_, fun j hj => ?_⟩
    · obtain ⟨F3, A3, Zs3, S3, z3, c3, i43, L3, i53, DG3, D3, X3, M3, T3⟩ := I3
      have gzz : ∀ x, x < 1323 → tp_gz G pl nn x = 0 := fun x hx => tp_gz_all l2 l5 hx
      refine ⟨F3, A3, Zs3, B, A, D, C, n3, G3, e3, S3, fun x hx => by rw [z3 x hx, gzz x hx], L3, i53, D3, X3, ?_, fun j hj => ?_⟩
      · have : tp_sr (tp_gz G pl nn) 0 1323 = 0 := tp_sr_zero 1323 0 (fun x _ hx => gzz x (by omega))
        rw [Int.pow_succ, ← M1]
        omega
      · have T := T3 j hj
        have zz : tp_sr (fun x => tp_gz G pl nn x * tp_Fo t u j (r + 1) dd x) 0 1323 = 0 := tp_sr_zero 1323 0 (fun x _ hx => by rw [gzz x (by omega)]; simp)
        rw [zz, Int.add_zero] at T
        exact T
    · rw [F2.L (by omega)]
      exact l1 x hx
    · rw [F2.I (by omega)]
      exact (l3 j hj).2.1
    · rw [j4]
      exact i5
    · rw [F2.L (by omega)]
      exact z1 x hx
    · rw [F2.L (by omega)]
      exact X1 j hj
    · rw [tp_sr_zero 1323 0 (fun _ _ _ => rfl)]
      show 0 + 4 * tp_sr G 0 1323 = _
      omega
    · have : tp_sr (fun x => (fun _ => (0 : Int)) x * tp_Fo t u j r (dd + 1) x) 0 1323 = 0 := tp_sr_zero 1323 0 (fun x _ _ => by simp)
      rw [this, Int.add_zero]
      exact T1 j hj
end SR2
