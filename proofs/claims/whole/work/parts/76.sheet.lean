/-! SHEETS -/
theorem jI_cond (x : Int32) : x.toInt = if 2 * x.toBitVec.toNat < 4294967296 then (x.toBitVec.toNat : Int) else (x.toBitVec.toNat : Int) - 4294967296 := BitVec.toInt_eq_toNat_cond _
theorem jsh24 (v : Int32) : (v <<< ((24 : Int32) &&& 31)) >>> ((24 : Int32) &&& 31) = v.toInt8.toInt32 := by
  apply Int32.toInt_inj.mp
  have e : (v <<< ((24 : Int32) &&& 31)).toBitVec.toNat = v.toBitVec.toNat * 2 ^ 24 % 2 ^ 32 := pk_shl _ _ 24 (by decide)
  have hv : v.toBitVec.toNat < 4294967296 := v.toBitVec.isLt
  rw [pk_shr _ _ 24 (by decide), jI_cond (v <<< _), e, Int8.toInt_toInt32, Int32.toInt_toInt8, jI_cond v, Int.shiftRight_eq_div_pow, Int.bmod_def]
  generalize v.toBitVec.toNat = n at hv ⊢
  (repeat' split) <;> omega
theorem jsh16 (v : Int32) : (v <<< ((16 : Int32) &&& 31)) >>> ((16 : Int32) &&& 31) = v.toInt16.toInt32 := by
  apply Int32.toInt_inj.mp
  have e : (v <<< ((16 : Int32) &&& 31)).toBitVec.toNat = v.toBitVec.toNat * 2 ^ 16 % 2 ^ 32 := pk_shl _ _ 16 (by decide)
  have hv : v.toBitVec.toNat < 4294967296 := v.toBitVec.isLt
  rw [pk_shr _ _ 16 (by decide), jI_cond (v <<< _), e, Int16.toInt_toInt32, Int32.toInt_toInt16, jI_cond v, Int.shiftRight_eq_div_pow, Int.bmod_def]
  generalize v.toBitVec.toNat = n at hv ⊢
  (repeat' split) <;> omega
section SHT
variable {E : Nat → Nat} {h : ZH} {x m : Nat} {Q : Option Value → ZH → Prop} {la sz : Nat → Int} {ce : Nat → Nat → Int32}
def ShB (la sz : Nat → Int) : Prop := ∀ k, (la k = -4 ∨ (0 ≤ la k ∧ la k ≤ 2)) ∧ 0 ≤ sz k ∧ sz k ≤ 48
def ShC (h : ZH) (x : Nat) (la sz : Nat → Int) (ce : Nat → Nat → Int32) : Prop := ∀ k, k < 4 → zI h (x + 37 + 2 * k) 1 = jI (la k) ∧ zI h (x + 37 + 2 * k) 2 = jI (sz k) ∧ ∀ i, i < 48 → zI h (x + 38 + 2 * k) i = ce k i
def ShM (h : ZH) (m : Nat) (la sz : Nat → Int) (ce : Nat → Nat → Int32) : Prop := ∀ k, k < 4 → zI h (m + 22) k = jI (la k) ∧ zI h (m + 23) k = jI (sz k) ∧ ∀ i, i < 48 → zI h (m + 24) (48 * k + i) = ce k i
/-- what a sheet's cell takes of a number -/
def sh_nar (l : Int) (v : Int32) : Int32 := if l = 0 then v.toInt8.toInt32 else if l = 1 then v.toInt16.toInt32 else v
def sh_la (la : Nat → Int) (k : Nat) (l : Int) : Nat → Int := fun j => if j = k then l else la j
def sh_c0 (ce : Nat → Nat → Int32) (k : Nat) : Nat → Nat → Int32 := fun j i => if j = k then 0 else ce j i
def sh_c1 (ce : Nat → Nat → Int32) (k i : Nat) (v : Int32) : Nat → Nat → Int32 := fun j i' => if j = k ∧ i' = i then v else ce j i'
theorem fz124 {z : Int} (h1 : -2147483648 ≤ z) (h2 : z < 2147483648) : fz_124 E h (jI z) = if 0 ≤ z ∧ z < 4 then 1 else 0 := by
  unfold fz_124
  rw [show (0 : Int32) = jI 0 from rfl, show (4 : Int32) = jI 4 from rfl]
  simp (disch := omega) only [jI_lt, jI_le]
  by_cases c : 0 ≤ z ∧ z < 4
  · rw [if_neg (by omega), if_neg (by omega), if_pos c]
  · rw [if_neg c]
    split
    · rfl
    · rw [if_pos (by omega)]
theorem fz125 {z : Int} (h1 : -2147483648 ≤ z) (h2 : z < 2147483648) : fz_125 E h (jI z) = if 0 ≤ z ∧ z < 3 then 1 else 0 := by
  unfold fz_125
  rw [show (0 : Int32) = jI 0 from rfl, show (3 : Int32) = jI 3 from rfl]
  simp (disch := omega) only [jI_lt, jI_le]
  by_cases c : 0 ≤ z ∧ z < 3
  · rw [if_neg (by omega), if_neg (by omega), if_pos c]
  · rw [if_neg c]
    split
    · rfl
    · rw [if_pos (by omega)]
theorem l68 {d s : Nat} {h0 : ZH} (S : SSh h0 s) (kQ : ∀ h', Fr (fun a _ => a = s + 1) h0 h' → (∀ i, i < 48 → zI h' (s + 1) i = 0) → Q none h') : ∀ r i h1, i + r = 48 → Fr (fun a _ => a = s + 1) h0 h1 → (∀ j, j < i → zI h1 (s + 1) j = 0) → wl_68_8 E d Q (r + 1) s (jI (i : Int)) h1
  | 0, i, h1, e, F1, I1 => by
    rw [wl_68_8]
    refine ⟨fun _ => kQ h1 F1 (fun j hj => I1 j (by omega)), fun c => ?_⟩
    exfalso
    apply c
    rw [show (48 : Int32) = jI ((48 : Nat) : Int) from rfl, jI_len (by omega) (by omega)]
    omega
  | r + 1, i, h1, e, F1, I1 => by
    have S1 := S.fr F1
    rw [wl_68_8]
    refine ⟨fun c => ?_, fun _ => ⟨S1.1, s + 1, S1.2.1, S1.2.tg, S1.2.inn (by omega) (by omega), nm_r (e' := zuI h1 (s + 1) i 0) (by rw [jI_cln (by omega)]) (nm_r (e' := jI ((i + 1 : Nat) : Int)) (by rw [show (1 : Int32) = jI 1 from rfl, jI_add]; rfl) (l68 S kQ r (i + 1) _ (by omega) (F1.uI rfl) (fun j hj => ?_)))⟩⟩
    · exfalso
      rw [show (48 : Int32) = jI ((48 : Nat) : Int) from rfl, jI_len (by omega) (by omega)] at c
      omega
    · by_cases cj : j = i
      · subst cj; rw [zI_here]
      · rw [zI_offi cj]; exact I1 j (by omega)
theorem ct_68 {d s : Nat} {l n : Int32} (hd : 1 ≤ d) (S : SSh h s) (kQ : ∀ h', Fr (fun a _ => a = s ∨ a = s + 1) h h' → zI h' s 1 = l → zI h' s 2 = n → (∀ i, i < 48 → zI h' (s + 1) i = 0) → Q none h') : Ct E d 68 [.ref s, .int l, .int n] h Q := by
  obtain ⟨d, rfl⟩ : ∃ n, d = n + 1 := ⟨d - 1, by omega⟩
  have F0 : Fr (fun a (_ : Nat) => a = s ∨ a = s + 1) h (zuI (zuI h s 1 l) s 2 n) := Fr.uI (Fr.uI Fr.rf (Or.inl rfl)) (Or.inl rfl)
  refine ok_68 ⟨S.1, nm_e (nm_e ⟨49, l68 (h0 := zuI (zuI h s 1 l) s 2 n) (S.fr F0) (fun h' F' z => kQ h' (F0.tr (F'.wd (fun a i e => Or.inr e))) ?_ ?_ z) 48 0 _ (by omega) Fr.rf (fun j hj => by omega)⟩)⟩
  · rw [F'.I (by omega), zI_offi (by omega), zI_here]
  · rw [F'.I (by omega), zI_here]
/-- what sheet() may change in the class -/
def tp_Sx (x : Nat) : Nat → Nat → Prop := fun a _ => x + 37 ≤ a ∧ a ≤ x + 44
theorem ct_115 {d : Nat} {k l n : Int} (hd : 3 ≤ d) (X : XSh h x) (C : ShC h x la sz ce) (hk : -2147483648 ≤ k ∧ k < 2147483648) (hl : -2147483648 ≤ l ∧ l < 2147483648) (hn : -2147483648 ≤ n ∧ n < 2147483648) (q1 : ¬ ((0 ≤ k ∧ k < 4) ∧ (0 ≤ l ∧ l < 3) ∧ n ≤ 48) → Q (some (.int (-1))) h) (q2 : (0 ≤ k ∧ k < 4) → (0 ≤ l ∧ l < 3) → n < 0 → Q (some (.int (-14))) h) (q3 : (0 ≤ k ∧ k < 4) → (0 ≤ l ∧ l < 3) → 0 ≤ n → n ≤ 48 → ∀ h', Fr (tp_Sx x) h h' → ShC h' x (sh_la la k.toNat l) (sh_la sz k.toNat n) (sh_c0 ce k.toNat) → Q (some (.int 1)) h') : Ct E d 115 [.ref x, .int (jI k), .int (jI l), .int (jI n)] h Q := by
  obtain ⟨d, rfl⟩ : ∃ n, d = n + 1 := ⟨d - 1, by omega⟩
  refine ok_115 ⟨by omega, trivial, ?_⟩
  rw [fz124 hk.1 hk.2]
  by_cases c1 : 0 ≤ k ∧ k < 4
  · rw [if_pos c1]
    refine ⟨fun q => absurd q (by decide), fun _ => ⟨by omega, trivial, ?_⟩⟩
    rw [fz125 hl.1 hl.2]
    by_cases c2 : 0 ≤ l ∧ l < 3
    · rw [if_pos c2]
      refine ⟨fun q => absurd q (by decide), fun _ => ?_⟩
      rw [show (48 : Int32) = jI 48 from rfl, show (0 : Int32) = jI 0 from rfl, jI_le (by omega) (by omega) (by omega) (by omega), jI_le (by omega) (by omega) (by omega) (by omega)]
      refine ⟨fun c3 => ⟨fun c4 => ?_, fun c4 => q2 c1 c2 (by omega)⟩, fun c3 => q1 (fun q => c3 q.2.2)⟩
      obtain ⟨K, rfl⟩ : ∃ K : Nat, k = (K : Int) := ⟨k.toNat, by omega⟩
      obtain ⟨⟨x0, -, -, -, -, -, -, -, a7⟩, sh, -⟩ := X
      obtain ⟨s1, s2⟩ := sh K (by omega)
      refine ⟨x0, x + 36, a7.1, Or.inr a7.tg, a7.inn (by omega) (by omega), x + 37 + 2 * K, by rw [jI_cln (by omega)]; exact s1, s2.1, ct_68 (by omega) s2 (fun h' F' i1 i2 z => ⟨rfl, q3 c1 c2 c4 c3 h' (F'.wd (fun a i e => by unfold tp_Sx; omega)) (fun k' hk' => ?_)⟩)⟩
      have eK : ((K : Int)).toNat = K := Int.toNat_natCast K
      rw [eK]
      unfold sh_la sh_c0
      by_cases ck : k' = K
      · subst ck
        rw [if_pos rfl, if_pos rfl]
        exact ⟨i1, i2, fun i hi => by rw [if_pos rfl, show x + 38 + 2 * k' = x + 37 + 2 * k' + 1 by omega]; exact z i hi⟩
      · rw [if_neg ck, if_neg ck]
        obtain ⟨e1, e2, e3⟩ := C k' hk'
        refine ⟨by rw [F'.I (by omega)]; exact e1, by rw [F'.I (by omega)]; exact e2, fun i hi => by rw [if_neg ck, F'.I (by omega)]; exact e3 i hi⟩
    · rw [if_neg c2]
      exact ⟨fun _ => q1 (fun q => c2 q.2.1), fun q => absurd rfl q⟩
  · rw [if_neg c1]
    exact ⟨fun _ => q1 (fun q => c1 q.1), fun q => absurd rfl q⟩
theorem l214 {d K : Nat} {h0 : ZH} (hK : K < 4) (S : MSh h0 m) (kQ : ∀ h', Fr (fun a _ => a = m + 24) h0 h' → (∀ i, i < 48 → zI h' (m + 24) (48 * K + i) = 0) → (∀ j, (j < 48 * K ∨ 48 * K + 48 ≤ j) → zI h' (m + 24) j = zI h0 (m + 24) j) → Q (some (.int 1)) h') : ∀ r i h1, i + r = 48 → Fr (fun a _ => a = m + 24) h0 h1 → (∀ j, j < i → zI h1 (m + 24) (48 * K + j) = 0) → (∀ j, (j < 48 * K ∨ 48 * K + 48 ≤ j) → zI h1 (m + 24) j = zI h0 (m + 24) j) → wl_214_33 E d Q (r + 1) m (jI (K : Int)) (jI (i : Int)) h1
  | 0, i, h1, e, F1, I1, O1 => by
    rw [wl_214_33]
    refine ⟨fun _ => kQ h1 F1 (fun j hj => I1 j (by omega)) O1, fun c => ?_⟩
    exfalso
    apply c
    rw [show (48 : Int32) = jI ((48 : Nat) : Int) from rfl, jI_len (by omega) (by omega)]
    omega
  | r + 1, i, h1, e, F1, I1, O1 => by
    have S1 := S.fr F1
    have ei : (48 * jI (K : Int) + jI (i : Int) : Int32) = jI ((48 * K + i : Nat) : Int) := by
      rw [show (48 : Int32) = jI 48 from rfl, jI_mul, jI_add]; congr 1
    rw [wl_214_33]
    refine ⟨fun c => ?_, fun _ => ⟨S1.1, m + 24, S1.a50.1, S1.a50.tg, by rw [ei]; exact S1.a50.inn (by omega) (by omega), nm_r (e' := zuI h1 (m + 24) (48 * K + i) 0) (by rw [ei, jI_cln (by omega)]) (nm_r (e' := jI ((i + 1 : Nat) : Int)) (by rw [show (1 : Int32) = jI 1 from rfl, jI_add]; rfl) (l214 hK S kQ r (i + 1) _ (by omega) (F1.uI rfl) (fun j hj => ?_) (fun j hj => ?_)))⟩⟩
    · exfalso
      rw [show (48 : Int32) = jI ((48 : Nat) : Int) from rfl, jI_len (by omega) (by omega)] at c
      omega
    · by_cases cj : j = i
      · subst cj; rw [zI_here]
      · rw [zI_offi (by omega)]; exact I1 j (by omega)
    · rw [zI_offi (by omega)]; exact O1 j hj
def tp_Sy (m : Nat) : Nat → Nat → Prop := fun a _ => m + 22 ≤ a ∧ a ≤ m + 24
theorem ct_214 {d : Nat} {k l n : Int} (hd : 3 ≤ d) (S : MSh h m) (C : ShM h m la sz ce) (hk : -2147483648 ≤ k ∧ k < 2147483648) (hl : -2147483648 ≤ l ∧ l < 2147483648) (hn : -2147483648 ≤ n ∧ n < 2147483648) (q1 : ¬ ((0 ≤ k ∧ k < 4) ∧ (0 ≤ l ∧ l < 3) ∧ n ≤ 48) → Q (some (.int (-1))) h) (q2 : (0 ≤ k ∧ k < 4) → (0 ≤ l ∧ l < 3) → n < 0 → Q (some (.int (-14))) h) (q3 : (0 ≤ k ∧ k < 4) → (0 ≤ l ∧ l < 3) → 0 ≤ n → n ≤ 48 → ∀ h', Fr (tp_Sy m) h h' → ShM h' m (sh_la la k.toNat l) (sh_la sz k.toNat n) (sh_c0 ce k.toNat) → Q (some (.int 1)) h') : Ct E d 214 [.ref m, .int (jI k), .int (jI l), .int (jI n)] h Q := by
  obtain ⟨d, rfl⟩ : ∃ n, d = n + 1 := ⟨d - 1, by omega⟩
  refine ok_214 ⟨by omega, trivial, ?_⟩
  rw [show (0 : Int64) = jL 0 from rfl, show (3 : Int64) = jL 3 from rfl, show (2 : Int64) = jL 2 from rfl, fz135l hk.1 hk.2 (by omega) (by omega) (by omega) (by omega), fz135l hl.1 hl.2 (by omega) (by omega) (by omega) (by omega)]
  by_cases c1 : 0 ≤ k ∧ k < 4
  · rw [if_pos (by omega : 0 ≤ k ∧ k ≤ 3)]
    refine ⟨fun q => absurd q (by decide), fun _ => ⟨by omega, trivial, ?_⟩⟩
    by_cases c2 : 0 ≤ l ∧ l < 3
    · rw [if_pos (by omega : 0 ≤ l ∧ l ≤ 2)]
      refine ⟨fun q => absurd q (by decide), fun _ => ?_⟩
      rw [show (48 : Int32) = jI 48 from rfl, show (0 : Int32) = jI 0 from rfl, jI_le (by omega) (by omega) (by omega) (by omega), jI_le (by omega) (by omega) (by omega) (by omega)]
      refine ⟨fun c3 => ⟨fun c4 => ?_, fun c4 => q2 c1 c2 (by omega)⟩, fun c3 => q1 (fun q => c3 q.2.2)⟩
      obtain ⟨K, rfl⟩ : ∃ K : Nat, k = (K : Int) := ⟨k.toNat, by omega⟩
      have eK : ((K : Int)).toNat = K := Int.toNat_natCast K
      rw [eK] at q3
      have F2 : Fr (tp_Sy m) h (zuI (zuI h (m + 22) K (jI l)) (m + 23) K (jI n)) := Fr.uI (Fr.uI Fr.rf (by unfold tp_Sy; omega)) (by unfold tp_Sy; omega)
      refine ⟨S.1, m + 22, S.a48.1, S.a48.tg, S.a48.inn (by omega) (by omega), nm_r (e' := zuI h (m + 22) K (jI l)) (by rw [jI_cln (by omega)]) ⟨m + 23, S.a49.1, S.a49.tg, S.a49.inn (by omega) (by omega), nm_r (e' := zuI (zuI h (m + 22) K (jI l)) (m + 23) K (jI n)) (by rw [jI_cln (by omega)]) ⟨49, l214 (h0 := zuI (zuI h (m + 22) K (jI l)) (m + 23) K (jI n)) (by omega) (S.fr F2) (fun h' F' z o => q3 c1 c2 c4 c3 h' (F2.tr (F'.wd (fun a i e => by unfold tp_Sy; omega))) (fun k' hk' => ?_)) 48 0 _ (by omega) Fr.rf (fun j hj => by omega) (fun j hj => rfl)⟩⟩⟩
      unfold sh_la sh_c0
      obtain ⟨e1, e2, e3⟩ := C k' hk'
      rw [F'.I (by omega), F'.I (by omega), zI_offa (by omega : m + 22 ≠ m + 23)]
      by_cases ck : k' = K
      · subst ck
        rw [if_pos rfl, if_pos rfl, zI_here, zI_here]
        exact ⟨rfl, rfl, fun i hi => by rw [if_pos rfl]; exact z i hi⟩
      · rw [if_neg ck, if_neg ck, zI_offi ck, zI_offi ck, zI_offa (by omega : m + 23 ≠ m + 22)]
        refine ⟨e1, e2, fun i hi => ?_⟩
        rw [if_neg ck, o _ (by omega), zI_offa (by omega), zI_offa (by omega)]
        exact e3 i hi
    · rw [if_neg (by omega : ¬ (0 ≤ l ∧ l ≤ 2))]
      exact ⟨fun _ => q1 (fun q => c2 q.2.1), fun q => absurd rfl q⟩
  · rw [if_neg (by omega : ¬ (0 ≤ k ∧ k ≤ 3))]
    exact ⟨fun _ => q1 (fun q => c1 q.1), fun q => absurd rfl q⟩
end SHT
