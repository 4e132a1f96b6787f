/-! THE READER, the class's: how, who, numbers -/
theorem jor : ∀ a : Nat, a < 8 → ∀ w : Nat, w < 3 → ¬ a / 2 ^ w % 2 = 1 → (jI (a : Int)) ||| ((1 : Int32) <<< ((jI (w : Int)) &&& 31)) = jI ((a + 2 ^ w : Nat) : Int) := by decide +kernel
section RDE
variable {E : Nat → Nat} {h : ZH} {x tn p d pl : Nat} {tb : Nat → Int32} {ln sl tm : Nat} {to : Nat → Bool} {t : Nat → Nat} {k : TkT} {Q : Option Value → ZH → Prop}
theorem s59 {f n : Nat} (X : XSh h x) (T : TkC h x k) (O : TkO tn p k) (hf : f < 100) (hn : n < 100) : sz_59 E h (x + 10) (jI (f : Int)) (jI (n : Int)) ∧ (fz_59 E h (x + 10) (jI (f : Int)) (jI (n : Int)) = 0 ↔ ¬ (k.1 = 1 ∧ f ≤ k.2.1.toNat ∧ k.2.1.toNat < f + n)) := by
  refine ⟨⟨X.t10, x + 8, X.rt, X.t8.1, trivial⟩, ?_⟩
  show (if ¬ (zI h (zR h (x + 10) 0 - 1) 3 : Int32) = 1 then (0 : Int32) else if (zI h (zR h (x + 10) 0 - 1) 4 : Int32) < jI (f : Int) then 0 else if (jI (f : Int) + jI (n : Int) : Int32) ≤ (zI h (zR h (x + 10) 0 - 1) 4 : Int32) then 0 else 1) = 0 ↔ _
  rw [X.rt, show x + 8 + 1 - 1 = x + 8 from rfl, T.1, T.2.1, jI_add]
  have k1 : (jI (k.1 : Int) = 1 ↔ k.1 = 1) := jI_eqn (b := 1) (by have := O.1; omega) (by omega)
  by_cases c : k.1 = 1
  · have O1 := O.2.1 c
    rw [if_neg (fun q => q (k1.mpr c))]
    by_cases c1 : k.2.1 < (f : Int)
    · rw [if_pos ((jI_lt (by omega) (by omega) (by omega) (by omega)).mpr c1)]
      exact ⟨fun _ => by omega, fun _ => rfl⟩
    · rw [if_neg (fun q => c1 ((jI_lt (by omega) (by omega) (by omega) (by omega)).mp q))]
      by_cases c2 : (f : Int) + (n : Int) ≤ k.2.1
      · rw [if_pos ((jI_le (by omega) (by omega) (by omega) (by omega)).mpr c2)]
        exact ⟨fun _ => by omega, fun _ => rfl⟩
      · rw [if_neg (fun q => c2 ((jI_le (by omega) (by omega) (by omega) (by omega)).mp q))]
        exact ⟨fun q => absurd q (by decide), fun q => absurd ⟨c, by omega, by omega⟩ q⟩
  · rw [if_pos (fun q => c (k1.mp q))]
    exact ⟨fun _ q => c q.1, fun _ => rfl⟩
theorem ct_60 (hd : 2 ≤ d) (X : XSh h x) (R : RdC h x 8 sl tm to t) (hs : sl < 100) (T : TkC h x k) (O : TkO tn p k) (qF : ¬ (stM sl tm to t k).1 = 0 → ∀ h', Fr (rc_S x) h h' → FlC h' x (stM sl tm to t k).1 k.2.2.1 → Q none h') (qS : (stM sl tm to t k).1 = 0 → ∀ h', Fr (rc_S x) h h' → RdD h' x (stM sl tm to t k).2 → Q none h') : Ct E d 60 [.ref (x + 10)] h Q := by
  obtain ⟨d, rfl⟩ : ∃ n, d = n + 1 := ⟨d - 1, by omega⟩
  obtain ⟨f0, i5, i67, Tl, D⟩ := R
  obtain ⟨i6, i7⟩ := i67 (by omega)
  obtain ⟨s5, f5⟩ := s59 (E := E) (f := 17) (n := 2) X T O (by omega) (by omega)
  have P := X.s11.2.1
  unfold stM at qF qS
  refine ok_60 ⟨X.t10, by omega, s5, ?_⟩
  have f5 : fz_59 E h (x + 10) 17 2 = 0 ↔ ¬(k.1 = 1 ∧ 17 ≤ k.2.1.toNat ∧ k.2.1.toNat < 19) := f5
  rw [f5]
  refine ⟨fun w => ?_, fun w => ?_⟩
  · rw [if_neg w] at qS
    rw [Classical.not_not] at w
    have O1 := O.2.1 w.1
    obtain ⟨v, hv⟩ : ∃ n : Nat, k.2.1 = (n : Int) := ⟨k.2.1.toNat, by omega⟩
    rw [hv, Int.toNat_natCast] at qS w
    refine ⟨x + 11, X.rg, X.s11.1, x + 11 + 1, P.1, x + 8, X.rt, X.t8.1, P.tg, P.inn (a := 9) (by omega) (by omega), nm_r (e' := zuI h (x + 12) 9 (jI ((v - 16 : Nat) : Int))) ?_ (nm_r (e' := zuI (zuI h (x + 12) 9 (jI ((v - 16 : Nat) : Int))) (x + 10) 6 (jI ((sl + 1 : Nat) : Int))) ?_ (qS rfl _ (Fr.uI (Fr.uI Fr.rf (by unfold rc_S; omega)) (by unfold rc_S; omega)) ⟨?_, ?_, fun _ => ⟨?_, ?_⟩, ?_, fun k hk => ?_⟩))⟩
    · rw [T.2.1, hv, show (17 : Int32) = jI 17 from rfl, jI_sub, show (1 : Int32) = jI 1 from rfl, jI_add, show (v : Int) - 17 + 1 = ((v - 16 : Nat) : Int) by omega]
    · rw [zI_offa (by omega), i6, show (1 : Int32) = jI 1 from rfl, jI_add]; rfl
    · rw [zI_offi (by omega), zI_offa (by omega)]; exact f0
    · rw [zI_offi (by omega), zI_offa (by omega)]; exact i5
    · rw [zI_here]
    · rw [zI_offi (by omega), zI_offa (by omega)]; exact i7
    · rw [zI_offi (by omega), zI_offa (by omega)]; exact Tl
    · show _ = jI ((upt t 9 (v - 16) k : Nat) : Int)
      rw [zI_offa (by omega)]
      by_cases e : k = 9
      · rw [e, upt_e, zI_here]
      · rw [upt_n e, zI_offi e]; exact D k hk
  · rw [Classical.not_not] at w
    rw [if_pos w] at qF
    exact ct_54 (c := 2) (by omega) X f0 T.2.2.1 (fun h' F G => ⟨rfl, qF (by show ¬ 2 = 0; omega) h' (fl_rc F) G⟩)
theorem ct_61 (hd : 3 ≤ d) (X : XSh h x) (R : RdC h x 12 sl tm to t) (hs : sl < 100) (K : t 13 ≤ 7 ∧ ∀ w, w < 3 → (t 13 / 2 ^ w % 2 = 1 ↔ to (23 + w) = true)) (T : TkC h x k) (O : TkO tn p k) (qF : ¬ (stF sl tm to t k).1 = 0 → ∀ h', Fr (rc_S x) h h' → FlC h' x (stF sl tm to t k).1 k.2.2.1 → Q none h') (qS : (stF sl tm to t k).1 = 0 → ∀ h', Fr (rc_S x) h h' → RdD h' x (stF sl tm to t k).2 → Q none h') : Ct E d 61 [.ref (x + 10)] h Q := by
  obtain ⟨d, rfl⟩ : ∃ n, d = n + 1 := ⟨d - 1, by omega⟩
  obtain ⟨f0, i5, i67, Tl, D⟩ := R
  obtain ⟨i6, i7⟩ := i67 (by omega)
  obtain ⟨s5, f5⟩ := s59 (E := E) (f := 19) (n := 3) X T O (by omega) (by omega)
  unfold stF at qF qS
  refine ok_61 ⟨X.t10, by omega, s5, ?_⟩
  have f5 : fz_59 E h (x + 10) 19 3 = 0 ↔ ¬(k.1 = 1 ∧ 19 ≤ k.2.1.toNat ∧ k.2.1.toNat < 22) := f5
  rw [f5]
  refine ⟨fun w => ?_, fun w => ?_⟩
  · rw [if_neg w] at qS qF
    rw [Classical.not_not] at w
    have O1 := O.2.1 w.1
    obtain ⟨v, hv⟩ : ∃ n : Nat, k.2.1 = (n : Int) := ⟨k.2.1.toNat, by omega⟩
    rw [hv, Int.toNat_natCast] at qS qF w
    refine ⟨x + 8, X.rt, X.t8.1, nm_r (e' := jI ((v - 19 : Nat) : Int)) ?_ ?_⟩
    · rw [T.2.1, hv, show (19 : Int32) = jI 19 from rfl, jI_sub, show (v : Int) - 19 = ((v - 19 : Nat) : Int) by omega]
    rw [show (23 : Int32) + jI ((v - 19 : Nat) : Int) = jI ((4 + v : Nat) : Int) by rw [show (23 : Int32) = jI 23 from rfl, jI_add, show 23 + ((v - 19 : Nat) : Int) = ((4 + v : Nat) : Int) by omega]]
    refine ct_56 (by omega) (by omega) X f0 Tl T.2.2.1 (fun c h1 F1 G1 => ?_) (fun c h1 F1 T1 => ?_)
    · rw [if_pos c] at qF
      have X1 := X.fr F1
      have P := X1.s11.2.1
      refine ⟨rfl, X1.t10, x + 11, X1.rg, X1.s11.1, x + 11 + 1, P.1, P.ti, P.inn (a := 13) (by omega) (by omega), P.tg, P.inn (a := 13) (by omega) (by omega), nm_e (nm_e (qF (by show ¬ 4 = 0; omega) _ (Fr.uI (Fr.uI (fl_rc F1) (by unfold rc_S; omega)) (by unfold rc_S; omega)) ⟨?_, ?_⟩))⟩
      · rw [zI_offi (by omega), zI_offa (by omega)]; exact G1.1
      · rw [zI_offi (by omega), zI_offa (by omega)]; exact G1.2
    · rw [if_neg c] at qS
      have X1 := X.fr F1
      have P := X1.s11.2.1
      have f13 : ¬ t 13 / 2 ^ (v - 19) % 2 = 1 := fun q => c (by rw [show 4 + v = 23 + (v - 19) by omega]; exact (K.2 (v - 19) (by omega)).mp q)
      refine ⟨rfl, X1.t10, x + 11, X1.rg, X1.s11.1, x + 11 + 1, P.1, P.ti, P.inn (a := 13) (by omega) (by omega), P.tg, P.inn (a := 13) (by omega) (by omega), nm_r (e' := zuI h1 (x + 12) 13 (jI ((t 13 + 2 ^ (v - 19) : Nat) : Int))) ?_ (nm_r (e' := zuI (zuI h1 (x + 12) 13 (jI ((t 13 + 2 ^ (v - 19) : Nat) : Int))) (x + 10) 6 (jI ((sl + 1 : Nat) : Int))) ?_ (qS rfl _ (Fr.uI (Fr.uI (F1.wd (fun a i q => by unfold rc_S; omega)) (by unfold rc_S; omega)) (by unfold rc_S; omega)) ⟨?_, ?_, fun _ => ⟨?_, ?_⟩, ?_, fun k hk => ?_⟩))⟩
      · rw [show x + 11 + 1 = x + 12 from rfl, F1.I (by omega), D 13 (by omega), jor (t 13) (by omega) (v - 19) (by omega) f13]
      · rw [zI_offa (by omega), F1.I (by omega), i6, show (1 : Int32) = jI 1 from rfl, jI_add]; rfl
      · rw [zI_offi (by omega), zI_offa (by omega), F1.I (by omega)]; exact f0
      · rw [zI_offi (by omega), zI_offa (by omega), F1.I (by omega)]; exact i5
      · rw [zI_here]
      · rw [zI_offi (by omega), zI_offa (by omega), F1.I (by omega)]; exact i7
      · rw [zI_offi (by omega), zI_offa (by omega)]; exact T1
      · show _ = jI ((upt t 13 (t 13 + 2 ^ (v - 19)) k : Nat) : Int)
        rw [zI_offa (by omega)]
        by_cases e : k = 13
        · rw [e, upt_e, zI_here]
        · rw [upt_n e, zI_offi e, F1.I (by omega)]; exact D k hk
  · rw [Classical.not_not] at w
    rw [if_pos w] at qF
    exact ct_54 (c := 2) (by omega) X f0 T.2.2.1 (fun h' F G => ⟨rfl, qF (by show ¬ 2 = 0; omega) h' (fl_rc F) G⟩)
/-- which state -/
theorem ct_64 {v : Nat} (hd : 3 ≤ d) (X : XSh h x) (hl : ln = 14 ∨ ln = 15) (R : RdC h x ln 0 tm to t) (hv : v ≤ 2) (T4 : zI h (x + 8) 4 = jI (v : Int)) (T5 : zI h (x + 8) 5 = jI (pl : Int)) (qF : to ((if ln = 14 then 17 else 20) + v) = true → ∀ h', Fr (rc_S x) h h' → FlC h' x 4 pl → Q none h') (qS : ¬ to ((if ln = 14 then 17 else 20) + v) = true → ∀ h', Fr (rc_S x) h h' → RdC h' x ln 0 (tm + (if ln = 14 then 1 else 3) * v) (mkd to ((if ln = 14 then 17 else 20) + v)) t → Q none h') : Ct E d 64 [.ref (x + 10)] h Q := by
  obtain ⟨d, rfl⟩ : ∃ n, d = n + 1 := ⟨d - 1, by omega⟩
  obtain ⟨f0, i5, i67, Tl, D⟩ := R
  obtain ⟨i6, i7⟩ := i67 (by omega)
  have l14 : (zI h (x + 10) 5 = 14 ↔ ln = 14) := by rw [i5]; exact lnI_e (j := 14) (by omega) (by omega)
  refine ok_64 ⟨X.t10, nm_r (e' := if ln = 14 then (1 : Int32) else 0) ?_ ⟨x + 8, X.rt, X.t8.1, ?_⟩⟩
  · by_cases c : ln = 14
    · rw [if_neg (fun q => q (l14.mpr c)), if_pos c]
    · rw [if_pos (fun q => c (l14.mp q)), if_neg c]
  have eb : (if (if ln = 14 then (1 : Int32) else 0) = 0 then (20 : Int32) else 17) + zI h (x + 8) 4 = jI (((if ln = 14 then 17 else 20) + v : Nat) : Int) := by
    rw [T4]
    rcases hl with rfl | rfl
    · show (17 : Int32) + jI (v : Int) = jI ((17 + v : Nat) : Int)
      rw [show (17 : Int32) = jI 17 from rfl, jI_add]; rfl
    · show (20 : Int32) + jI (v : Int) = jI ((20 + v : Nat) : Int)
      rw [show (20 : Int32) = jI 20 from rfl, jI_add]; rfl
  rw [eb]
  have hb : (if ln = 14 then 17 else 20) + v < 26 := by split <;> omega
  generalize (if ln = 14 then 17 else 20) + v = b at qF qS hb ⊢
  refine ct_56 (by omega) hb X f0 Tl T5 (fun c h1 F1 G1 => ?_) (fun c h1 F1 T1 => ?_)
  · have X1 := X.fr F1
    have nn : ¬ zR h1 (x + 10) 0 = 0 ∧ ztag h1 (zR h1 (x + 10) 0 - 1) = 8 ∧ True := by rw [X1.rt]; exact ⟨by omega, X1.t8.1, trivial⟩
    refine ⟨rfl, X1.t10, ⟨fun _ => nn, fun _ => nn⟩, nm_e (qF c _ (Fr.uI (fl_rc F1) (by unfold rc_S; omega)) ⟨?_, ?_⟩)⟩
    · rw [zI_offi (by omega)]; exact G1.1
    · rw [zI_offi (by omega)]; exact G1.2
  · have X1 := X.fr F1
    have nn : ¬ zR h1 (x + 10) 0 = 0 ∧ ztag h1 (zR h1 (x + 10) 0 - 1) = 8 ∧ True := by rw [X1.rt]; exact ⟨by omega, X1.t8.1, trivial⟩
    refine ⟨rfl, X1.t10, ⟨fun _ => nn, fun _ => nn⟩, nm_r (e' := zuI h1 (x + 10) 7 (jI ((tm + (if ln = 14 then 1 else 3) * v : Nat) : Int))) ?_ (qS c _ (Fr.uI (F1.wd (fun a i q => by unfold rc_S; omega)) (by unfold rc_S; omega)) ⟨?_, ?_, fun _ => ⟨?_, ?_⟩, ?_, fun k hk => ?_⟩)⟩
    · rw [X1.rt, show x + 8 + 1 - 1 = x + 8 from rfl, F1.I (by omega), F1.I (by omega), i7, T4]
      rcases hl with rfl | rfl
      · show zuI h1 (x + 10) 7 (jI (tm : Int) + jI (v : Int)) = zuI h1 (x + 10) 7 (jI ((tm + 1 * v : Nat) : Int))
        rw [jI_add, Nat.one_mul]; rfl
      · show zuI h1 (x + 10) 7 (jI (tm : Int) + 3 * jI (v : Int)) = zuI h1 (x + 10) 7 (jI ((tm + 3 * v : Nat) : Int))
        rw [show (3 : Int32) = jI 3 from rfl, jI_mul, jI_add]; rfl
    · rw [zI_offi (by omega), F1.I (by omega)]; exact f0
    · rw [zI_offi (by omega), F1.I (by omega)]; exact i5
    · rw [zI_offi (by omega), F1.I (by omega)]; exact i6
    · rw [zI_here]
    · rw [zI_offi (by omega)]; exact T1
    · rw [zI_offa (by omega), F1.I (by omega)]; exact D k hk
end RDE
