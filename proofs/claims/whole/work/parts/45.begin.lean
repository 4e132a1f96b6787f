/-! THE CLASS'S BEST: begin, setPrice, open; a frame in which references may change -/
/-- only numbers at places of S, references at places of Z differ; nothing is made -/
def FrR (S Z : Nat → Nat → Prop) (h h' : ZH) : Prop := h'.1 = h.1 ∧ ztag h' = ztag h ∧ zlen h' = zlen h ∧ (∀ a i, ¬ Z a i → zR h' a i = zR h a i) ∧ ∀ a i, ¬ S a i → zI h' a i = zI h a i ∧ zL h' a i = zL h a i
theorem Fr.R {S Z : Nat → Nat → Prop} {h h1 : ZH} (x : Fr S h h1) : FrR S Z h h1 := ⟨x.1, x.2.1, x.2.2.1, fun a i _ => x.rr a i, x.2.2.2.2⟩
section FRR
variable {S T Z Y : Nat → Nat → Prop} {h h1 h2 : ZH}
theorem FrR.tr (x : FrR S Z h h1) (y : FrR S Z h1 h2) : FrR S Z h h2 := ⟨y.1.trans x.1, y.2.1.trans x.2.1, y.2.2.1.trans x.2.2.1, fun a i ha => (y.2.2.2.1 a i ha).trans (x.2.2.2.1 a i ha), fun a i ha => ⟨(y.2.2.2.2 a i ha).1.trans (x.2.2.2.2 a i ha).1, (y.2.2.2.2 a i ha).2.trans (x.2.2.2.2 a i ha).2⟩⟩
theorem FrR.wd (x : FrR S Z h h1) (hST : ∀ a i, S a i → T a i) (hZY : ∀ a i, Z a i → Y a i) : FrR T Y h h1 := ⟨x.1, x.2.1, x.2.2.1, fun a i ha => x.2.2.2.1 a i (fun z => ha (hZY a i z)), fun a i ha => x.2.2.2.2 a i (fun z => ha (hST a i z))⟩
theorem FrR.I (x : FrR S Z h h1) {b j : Nat} (hb : ¬ S b j) : zI h1 b j = zI h b j := (x.2.2.2.2 b j hb).1
theorem FrR.L (x : FrR S Z h h1) {b j : Nat} (hb : ¬ S b j) : zL h1 b j = zL h b j := (x.2.2.2.2 b j hb).2
theorem FrR.tg (x : FrR S Z h h1) (b : Nat) : ztag h1 b = ztag h b := by rw [x.2.1]
theorem FrR.ln (x : FrR S Z h h1) (b : Nat) : zlen h1 b = zlen h b := by rw [x.2.2.1]
theorem FrR.rr (x : FrR S Z h h1) {b j : Nat} (hb : ¬ Z b j) : zR h1 b j = zR h b j := x.2.2.2.1 b j hb
theorem FrR.uR {a i r : Nat} (ha : Z a i) : FrR S Z h (zuR h a i r) := ⟨rfl, rfl, rfl, fun b j hb => by
  have : ¬ (b = a ∧ j = i) := fun e => hb (e.1 ▸ e.2 ▸ ha)
  simp [zR_uR, this], fun _ _ _ => ⟨rfl, rfl⟩⟩
theorem zAr.frR {m s r tg n : Nat} (x : zAr h m s r tg n) (y : FrR S Z h h1) (hz : ¬ Z m s) : zAr h1 m s r tg n := by
  unfold zAr at x ⊢
  rw [y.2.1, y.2.2.1, y.rr hz]
  exact x
theorem PSh.frR {m : Nat} (x : PSh h m) (y : FrR S Z h h1) (hz : ∀ i, ¬ Z m i) : PSh h1 m := by
  obtain ⟨s0, s1, s2, s3, s4, s5, s6⟩ := x
  exact ⟨by rw [y.tg]; exact s0, s1.frR y (hz _), s2.frR y (hz _), s3.frR y (hz _), s4.frR y (hz _), s5.frR y (hz _), s6.frR y (hz _)⟩
theorem PgR.frR {p : Nat} {t u : Nat → Nat} (x : PgR h p t u) (y : FrR S Z h h1) (hz : ∀ i, ¬ Z p i) (hS : ∀ a i, p ≤ a → a ≤ p + 6 → ¬ S a i) : PgR h1 p t u := by
  refine ⟨⟨x.1.1.frR y hz, fun k hk => ?_, fun k hk => ?_⟩, fun k hk => ?_, fun k hk => ?_, fun k hk => ?_, fun k hk => ?_, ?_⟩
  · rw [y.I (hS _ _ (by omega) (by omega))]; exact x.1.2.1 k hk
  · rw [y.I (hS _ _ (by omega) (by omega))]; exact x.1.2.2 k hk
  · rw [y.I (hS _ _ (by omega) (by omega))]; exact x.2.1 k hk
  · rw [y.I (hS _ _ (by omega) (by omega))]; exact x.2.2.1 k hk
  · rw [y.I (hS _ _ (by omega) (by omega))]; exact x.2.2.2.1 k hk
  · rw [y.I (hS _ _ (by omega) (by omega))]; exact x.2.2.2.2.1 k hk
  · rw [y.I (hS _ _ (by omega) (by omega))]; exact x.2.2.2.2.2
theorem BSh.frR {b : Nat} (x : BSh h b) (y : FrR S Z h h1) (hz : ∀ i, i < 6 → ¬ Z b i) (hz3 : ∀ i, ¬ Z (b + 3) i) : BSh h1 b := by
  obtain ⟨s0, s1, s2, s3, s4, s5, s6, sm⟩ := x
  refine ⟨by rw [y.tg]; exact s0, s1.frR y (hz _ (by omega)), s2.frR y (hz _ (by omega)), s3.frR y (hz _ (by omega)), s4.frR y (hz _ (by omega)), s5.frR y (hz _ (by omega)), s6.frR y (hz _ (by omega)), fun i hi => ?_⟩
  rw [y.rr (hz3 i), y.tg]
  exact sm i hi
end FRR
theorem jshl : ∀ k : Nat, k < 21 → ((1 : Int64) <<< ((jI (2 * (k : Int))).toInt64 &&& 63)) = jL (4 ^ k) := by decide
section BBG
variable {E : Nat → Nat} {b p g : Nat} {t u : Nat → Nat} {pr : Nat → Nat → Nat}
/-- what open may change -/
def tp_S1 (b : Nat) : Nat → Nat → Prop := fun a i => (a = b ∧ (i = 7 ∨ i = 9 ∨ i = 10)) ∨ (b + 4 ≤ a ∧ a ≤ b + 6)
def tp_Z1 (b : Nat) : Nat → Nat → Prop := fun a i => a = b ∧ i = 6
theorem l3 {d : Nat} {h0 : ZH} {Q : Option Value → ZH → Prop} (ok : tp_Ok t) (hpb : p + 6 < b) (kQ : ∀ h', Fr (fun a _ => a = b + 6) h0 h' → (∀ dd, dd ≤ tp_T t → zL h' (b + 6) dd = jL (4 ^ (tp_T t - dd))) → Q none h') : ∀ r j h1, j + r = tp_T t + 1 → Fr (fun a _ => a = b + 6) h0 h1 → PgR h1 p t u → BSh h1 b → (∀ dd, dd < j → zL h1 (b + 6) dd = jL (4 ^ (tp_T t - dd))) → wl_3_18 E d Q (r + 1) b p (jI (j : Int)) h1
  | 0, j, h1, e, F1, P1, B1, I1 => by
    have hT := ok.T
    rw [wl_3_18]
    refine ⟨P1.1.1.1, fun _ => kQ h1 F1 (fun dd hdd => I1 dd (by omega)), fun q => ?_⟩
    exfalso
    apply q
    rw [P1.2.2.2.2.2, jI_ltn (by omega) (by omega)]
    omega
  | r + 1, j, h1, e, F1, P1, B1, I1 => by
    have hT := ok.T
    have B1' := B1
    obtain ⟨b0, b1, b2, b3, b4, b5, b6, bm⟩ := B1
    rw [wl_3_18]
    refine ⟨P1.1.1.1, fun q => ?_, fun _ => ⟨b0, b + 6, b6.1, b6.tg, b6.inn (by omega) (by omega), nm_r (e' := zuL h1 (b + 6) j (jL (4 ^ (tp_T t - j)))) ?_ (nm_r (e' := jI ((j + 1 : Nat) : Int)) (by rw [show (1 : Int32) = jI 1 from rfl, jI_add]; rfl) ?_)⟩⟩
    · exfalso
      rw [P1.2.2.2.2.2, jI_ltn (by omega) (by omega)] at q
      omega
    · rw [jI_cln (by omega), P1.2.2.2.2.2, show (2 : Int32) = jI 2 from rfl, jI_sub, jI_mul, show (2 * ((tp_T t : Int) - (j : Int))) = 2 * ((tp_T t - j : Nat) : Int) by omega, jshl _ (by omega)]
    · have F2 : Fr (fun a (_ : Nat) => a = b + 6) h1 (zuL h1 (b + 6) j (jL (4 ^ (tp_T t - j)))) := Fr.uL Fr.rf rfl
      refine l3 ok hpb kQ r (j + 1) _ (by omega) (F1.tr F2) (P1.fr F2 (fun a i ha hb => by omega)) (B1'.fr F2) (fun dd hdd => ?_)
      by_cases c : dd = j
      · subst c
        rw [zL_here]
      · rw [zL_offi c]
        exact I1 dd (by omega)
/-- begin: another page, a new stamp -/
theorem ct_3 {d : Nat} {h : ZH} {Q : Option Value → ZH → Prop} (ok : tp_Ok t) (hpb : p + 6 < b) (hd : 1 ≤ d) (P : PgR h p t u) (B : BSh h b) (hg : zI h b 10 = jI (g : Int)) (kQ : ∀ h', FrR (fun a i => (a = b ∧ (i = 7 ∨ i = 9 ∨ i = 10)) ∨ a = b + 6) (tp_Z1 b) h h' → zR h' b 6 = p + 1 → zI h' b 7 = jI ((g + 1 : Nat) : Int) → zI h' b 9 = jI 0 → zI h' b 10 = jI ((g + 1 : Nat) : Int) → (∀ dd, dd ≤ tp_T t → zL h' (b + 6) dd = jL (4 ^ (tp_T t - dd))) → Q none h') : Ct E d 3 [.ref b, .ref p] h Q := by
  obtain ⟨d, rfl⟩ : ∃ n, d = n + 1 := ⟨d - 1, by omega⟩
  refine ok_3 ⟨B.1, nm_e ⟨B.1, nm_r (e' := zuI (zuR h b 6 (p + 1)) b 10 (jI ((g + 1 : Nat) : Int))) ?_ (nm_r (e' := zuI (zuI (zuR h b 6 (p + 1)) b 10 (jI ((g + 1 : Nat) : Int))) b 7 (jI ((g + 1 : Nat) : Int))) ?_ (nm_e ⟨tp_T t + 1 + 1, ?_⟩))⟩⟩
  · show zuI _ b 10 (zI h b 10 + 1) = _
    rw [hg, show (1 : Int32) = jI 1 from rfl, jI_add]
    rfl
  · rw [zI_here]
  · have Fa : FrR (fun a i => (a = b ∧ (i = 7 ∨ i = 9 ∨ i = 10)) ∨ a = b + 6) (tp_Z1 b) h (zuR h b 6 (p + 1)) := FrR.uR ⟨rfl, rfl⟩
    have Fb : Fr (fun a i => (a = b ∧ (i = 7 ∨ i = 9 ∨ i = 10)) ∨ a = b + 6) (zuR h b 6 (p + 1)) (zuI (zuI (zuI (zuR h b 6 (p + 1)) b 10 (jI ((g + 1 : Nat) : Int))) b 7 (jI ((g + 1 : Nat) : Int))) b 9 0) := Fr.uI (Fr.uI (Fr.uI Fr.rf (by omega)) (by omega)) (by omega)
    have Fc := Fa.tr Fb.R
    have P1 : PgR _ p t u := P.frR Fc (fun i z => by unfold tp_Z1 at z; omega) (fun a i ha hb => by omega)
    have B1 := B.frR Fc (fun i hi z => by unfold tp_Z1 at z; omega) (fun i z => by unfold tp_Z1 at z; omega)
    refine l3 (h0 := zuI (zuI (zuI (zuR h b 6 (p + 1)) b 10 (jI ((g + 1 : Nat) : Int))) b 7 (jI ((g + 1 : Nat) : Int))) b 9 0) ok hpb (fun h' F' L' => kQ h' (Fc.tr ((F'.wd (fun a i e => Or.inr e)).R)) ?_ ?_ ?_ ?_ L') (tp_T t + 1) 0 _ (by omega) Fr.rf P1 B1 (fun dd hdd => by omega)
    · rw [F'.rr]
      show zR (zuR h b 6 (p + 1)) b 6 = p + 1
      simp [zR_uR]
    · rw [F'.I (by omega), zI_offi (by omega), zI_here]
    · rw [F'.I (by omega), zI_here]
      rfl
    · rw [F'.I (by omega), zI_offi (by omega), zI_offi (by omega), zI_here]
theorem ct_4 {d : Nat} {h : ZH} {dd s f : Nat} {Q : Option Value → ZH → Prop} (ok : tp_Ok t) (hpb : p + 6 < b) (hd : 2 ≤ d) (P : PgR h p t u) (B : BSh h b) (R6 : zR h b 6 = p + 1) (hdd : dd < tp_T t) (hs : s < 3) (kQ : ∀ h', h' = zuI (zuI h (b + 4) (3 * dd + s) (jI (f : Int))) (b + 5) (3 * dd + s) (jI (tp_un t f 4 : Int)) → Q none h') : Ct E d 4 [.ref b, .int (jI (dd : Int)), .int (jI (s : Int)), .int (jI (f : Int))] h Q := by
  obtain ⟨d, rfl⟩ : ∃ n, d = n + 1 := ⟨d - 1, by omega⟩
  have hT := ok.T
  have B' := B
  obtain ⟨b0, b1, b2, b3, b4, b5, b6, bm⟩ := B
  have e1 : (3 * jI (dd : Int) + jI (s : Int) : Int32) = jI ((3 * dd + s : Nat) : Int) := by
    rw [show (3 : Int32) = jI 3 from rfl, jI_mul, jI_add]; congr 1
  refine ok_4 ?_
  unfold w_4
  rw [e1]
  have F1 : Fr (fun a (_ : Nat) => a = b + 4) h (zuI h (b + 4) (3 * dd + s) (jI (f : Int))) := Fr.uI Fr.rf rfl
  have P1 : PgR (zuI h (b + 4) (3 * dd + s) (jI (f : Int))) p t u := P.fr F1 (fun a i ha hb => by omega)
  refine ⟨b0, b + 4, b4.1, b4.tg, b4.inn (by omega) (by omega), nm_r (e' := zuI h (b + 4) (3 * dd + s) (jI (f : Int))) (by rw [jI_cln (by omega)]) ⟨b + 5, b5.1, p, R6, P1.1.1.1, by omega, sz47 P1.1, b5.tg, b5.inn (by omega) (by omega), nm_r (e' := zuI (zuI h (b + 4) (3 * dd + s) (jI (f : Int))) (b + 5) (3 * dd + s) (jI (tp_un t f 4 : Int))) ?_ (kQ _ rfl)⟩⟩
  rw [jI_cln (by omega)]
  congr 1
  exact fz47 (n := 4) ok P1.1
end BBG
