/-! the Model's constructor -/
def mk_s (k : Nat) : Nat := [0, 9, 10, 11, 12, 13, 14, 15, 16, 20, 27, 28, 32, 33, 34, 35, 37, 38, 39, 40, 47, 48, 49, 50].getD k 0
def mk_t (k : Nat) : Nat := [13, 13, 13, 13, 13, 13, 13, 13, 13, 13, 14, 13, 14, 14, 14, 13, 13, 13, 13, 13, 13, 13, 13, 13].getD k 0
def mk_n (k : Nat) : Nat := [320, 23, 113, 17, 28, 16, 16, 28, 28, 20, 154791, 154791, 7371, 7371, 4, 28, 20, 20, 20, 20, 51597, 4, 4, 192].getD k 0
def mk_v (k : Nat) : List Int32 := match k with
  | 1 => [0, 5, 9, 17, 20, 24, 28, 33, 42, 46, 50, 57, 63, 67, 71, 76, 82, 87, 92, 96, 102, 108, 113]
  | 2 => [121, 101, 97, 114, 115, 100, 97, 121, 115, 113, 117, 97, 110, 116, 105, 116, 121, 100, 97, 121, 112, 97, 105, 100, 98, 97, 115, 101, 105, 110, 100, 101, 120, 115, 117, 114, 99, 104, 97, 114, 103, 101, 109, 97, 100, 101, 114, 101, 115, 116, 99, 97, 114, 114, 105, 101, 100, 110, 111, 116, 105, 99, 101, 102, 114, 101, 101, 99, 111, 115, 116, 112, 114, 105, 99, 101, 99, 104, 97, 110, 99, 101, 115, 116, 97, 114, 116, 102, 105, 114, 115, 116, 108, 97, 115, 116, 110, 111, 98, 111, 100, 121, 115, 101, 108, 108, 101, 114, 98, 117, 121, 101, 114]
  | 3 => [0, 1, 2, 3, 5, 6, 7, 8, 9, 10, 11, 12, 13, 14, 16, 19, 15]
  | 4 => [2, 4, 8, 0, 3, 80, 20, 0, 0, 0, 0, 0, 0, 0, 10, 1, 15, 20, 30, 2, 1, 1, 1, 2, 1, 1, 1, 2]
  | 5 => [1, 1, 1, 0, 0, 0, 1, 0, 0, 0, 0, 0, 0, 0, 0, 0]
  | 6 => [4, 5, 16, 4, 4, 100, 60, 100, 20, 0, 60, 0, 0, 0, 60, 2]
  | 7 => [2, 4, 8, 0, 3, 80, 20, 0, 0, 0, 0, 0, 0, 0, 10, 1, 15, 20, 30, 2, 1, 1, 1, 2, 1, 1, 1, 2]
  | 9 => [(-4), (-4), (-4), (-4), (-4), (-4), (-4), (-4), (-4), (-4), (-4), (-4), (-4), (-4), (-4), (-4), (-4), (-4), (-4), (-4)]
  | 21 => [(-4), (-4), (-4), (-4)]
  | _ => []
def mk_T : Nat → Nat
  | 0 => 0
  | k + 1 => mk_T k + mk_n k
def Wl (r : Nat) : List Int32 → Nat → ZH → (ZH → Prop) → Prop
  | [], _, h, R => R h
  | v :: vs, k, h, R => zin (Int32.ofNat k) (zlen h r) = true ∧ ∀ h' : ZH, h' = (zuI h r k v) → Wl r vs (k + 1) h' R
theorem Wl.of {r n : Nat} (hn : n ≤ 1000000) : ∀ (vs : List Int32) (k : Nat) (h : ZH) (R : ZH → Prop), zlen h r = n → k + vs.length ≤ n → (∀ h', Fr (fun a _ => a = r) h h' → (∀ i, i < k → zI h' r i = zI h r i) → (∀ i, i < vs.length → zI h' r (k + i) = vs.getD i 0) → (∀ i, k + vs.length ≤ i → zI h' r i = zI h r i) → R h') → Wl r vs k h R
  | [], k, h, R, _, _, q => q h Fr.rf (fun _ _ => rfl) (fun i hi => absurd hi (Nat.not_lt_zero i)) (fun _ _ => rfl)
  | v :: vs, k, h, R, hl, hk, q => by
    have hk' : k + (vs.length + 1) ≤ n := hk
    refine ⟨?_, ?_⟩
    · rw [hl]
      unfold zin
      rw [show Int32.ofNat k = jI (k : Int) from jI_n k, Bool.and_eq_true]
      exact ⟨decide_eq_true ((jI_len (a := 0) (by omega) (by omega)).mpr (by omega)), decide_eq_true (by rw [jI_cln (by omega)]; omega)⟩
    · rintro h1 rfl
      refine Wl.of hn vs (k + 1) _ R hl (by omega) (fun h' F1 I1 I2 I3 => q h' (Fr.tr (S := fun a _ => a = r) (Fr.uI Fr.rf rfl) F1) (fun i hi => ?_) (fun i hi => ?_) (fun i hi => ?_))
      · rw [I1 i (by omega), zI_offi (by omega)]
      · cases i with
        | zero =>
          rw [Nat.add_zero, I1 k (by omega), zI_here]
          rfl
        | succ i =>
          have hi' : i + 1 < vs.length + 1 := hi
          have := I2 i (by omega)
          rw [show k + (i + 1) = k + 1 + i by omega, this]
          rfl
      · have hi' : k + (vs.length + 1) ≤ i := hi
        rw [I3 i (by omega), zI_offi (by omega)]
section MKM
variable {E : Nat → Nat} {Q : Option Value → ZH → Prop} {m k : Nat} {h0 hc : ZH} {R : ZH → Prop}
def MB (m k : Nat) (h0 h : ZH) : Prop := zsz h = m + 1 + k ∧ ztot h = ztot h0 + mk_T k ∧ Ag (fun a => a < m) h0 h ∧ ztag h m = 11 ∧ (∀ i, zI h m i = 0) ∧ (∀ j, j < k → zAr h m (mk_s j) (m + 1 + j) (mk_t j) (mk_n j)) ∧ ∀ j, j < k → ∀ i, zI h (m + 1 + j) i = (mk_v j).getD i 0
theorem MB.next {h' : ZH} (B : MB m k h0 hc) (hs : ∀ j, j < k → mk_s j ≠ mk_s k) (z : zsz h' = zsz hc + 1) (w : ztot h' = ztot hc + mk_n k) (y : Ag (fun a => a ≠ m ∧ a ≠ zsz hc) hc h') (t1 : ztag h' m = 11) (i1 : ∀ i, zI h' m i = zI hc m i) (r1 : ∀ i, i ≠ mk_s k → zR h' m i = zR hc m i) (a1 : zAr h' m (mk_s k) (zsz hc) (mk_t k) (mk_n k)) (v1 : ∀ i, zI h' (zsz hc) i = (mk_v k).getD i 0) : MB m (k + 1) h0 h' := by
  obtain ⟨b1, b2, b3, b4, b5, b6, b7⟩ := B
  rw [b1] at y a1 v1
  refine ⟨by rw [z, b1]; omega, by rw [w, b2]; show _ = ztot h0 + (mk_T k + mk_n k); omega, b3.tr (y.wk (fun a ha => ⟨by omega, by omega⟩)), t1, fun i => by rw [i1, b5], fun j hj => ?_, fun j hj i => ?_⟩
  · by_cases cj : j = k
    · subst cj; exact a1
    · have a := b6 j (by omega)
      refine ⟨by rw [r1 _ (hs j (by omega))]; exact a.1, by rw [y.T ⟨by omega, by omega⟩]; exact a.2.1, by rw [y.N ⟨by omega, by omega⟩]; exact a.2.2⟩
  · by_cases cj : j = k
    · subst cj; exact v1 i
    · rw [y.I ⟨by omega, by omega⟩]; exact b7 j (by omega) i
theorem mb_new (B : MB m k h0 hc) (hs : ∀ j, j < k → mk_s j ≠ mk_s k) (hv : mk_v k = []) (q : ∀ h', MB m (k + 1) h0 h' → R h') : ∀ h1 : ZH, h1 = (znew hc (mk_t k) (mk_n k)) → ∀ r2 : Nat, r2 = (zsz hc) → ztag h1 m = 11 ∧ ∀ h4 : ZH, h4 = (zuR h1 m (mk_s k) (r2 + 1)) → R h4 := by
  have hb : m < zsz hc := by rw [B.1]; omega
  refine na hb B.2.2.2.1 (fun h' N T' => q h' (B.next hs N.1 N.2.1 N.2.2.1 T' N.zI (fun i hi => N.zR hi) N.2.2.2.2.1 (fun i => ?_)))
  rw [N.2.2.2.2.2.1 i, hv]
  rfl
theorem mb_lit (B : MB m k h0 hc) (hs : ∀ j, j < k → mk_s j ≠ mk_s k) (ht : mk_t k = 13) (hn : mk_n k ≤ 1000000) (hv : (mk_v k).length ≤ mk_n k) (q : ∀ h', MB m (k + 1) h0 h' → R h') : ∀ h1 : ZH, h1 = (znew hc (mk_t k) (mk_n k)) → ∀ r2 : Nat, r2 = (zsz hc) → ztag h1 r2 = 13 ∧ Wl r2 (mk_v k) 0 h1 (fun hA => ztag hA m = 11 ∧ ∀ h4 : ZH, h4 = (zuR hA m (mk_s k) (r2 + 1)) → R h4) := by
  have hb : m < zsz hc := by rw [B.1]; omega
  rintro h1 rfl r2 rfl
  obtain ⟨w1, w2, w3, w4, w5⟩ := znew_at hc (mk_t k) (mk_n k)
  obtain ⟨g1, g2, g3⟩ := Gr.new hc (mk_t k) (mk_n k)
  refine ⟨by rw [w1, ht], Wl.of hn (mk_v k) 0 _ _ w2 (by omega) (fun hA F _ I2 I3 => ⟨by rw [F.tg, g3.T (Or.inl hb)]; exact B.2.2.2.1, ?_⟩)⟩
  rintro h4 rfl
  have yA : Ag (fun a => a < zsz hc ∨ zsz hc + 1 ≤ a) hc hA := g3.tr (F.ag (fun a i ha => by omega))
  refine q _ (B.next hs ?_ ?_ ?_ (by rw [ztag_uR, yA.T (Or.inl hb)]; exact B.2.2.2.1) (fun i => by rw [zI_uR, yA.I (Or.inl hb)]) (fun i hi => by rw [zR_uR, if_neg (by omega), yA.R (Or.inl hb)]) ⟨by rw [zR_uR, if_pos ⟨rfl, rfl⟩], by rw [ztag_uR, F.tg, w1], by rw [zlen_uR, F.ln, w2]⟩ (fun i => ?_))
  · show zsz hA = _
    rw [F.sz, g1]
  · show ztot hA = _
    have : ztot hA = ztot (znew hc (mk_t k) (mk_n k)) := by unfold ztot; rw [F.1]
    rw [this, g2]
  · exact (yA.wk (fun a ha => by omega)).uR (by omega)
  · rw [zI_uR]
    by_cases ci : i < (mk_v k).length
    · have := I2 i ci
      rw [Nat.zero_add] at this
      exact this
    · rw [I3 i (by omega), w3, List.getD_eq_getElem?_getD, List.getElem?_eq_none (by omega)]
      rfl
set_option maxRecDepth 40000 in
set_option maxHeartbeats 8000000 in
theorem ct_134 {d : Nat} {h : ZH} (hd : 6 ≤ d) (hz : zsz h = m + 1) (ht : ztag h m = 11) (hI : ∀ i, zI h m i = 0) (kQ : ∀ h', MB m 24 h h' → Q none h') : Ct E d 134 [.ref m] h Q := by
  obtain ⟨d, rfl⟩ : ∃ n, d = n + 1 := ⟨d - 1, by omega⟩
  have B0 : MB m 0 h h := ⟨hz, rfl, Ag.rf, ht, hI, fun j hj => by omega, fun j hj => by omega⟩
  refine ok_134 ⟨by omega, ?_⟩
  refine mb_new B0 (by decide) rfl (fun h1 B1 => ?_)
  refine mb_lit B1 (by decide) rfl (by decide) (by decide) (fun h2 B2 => ?_)
  refine mb_lit B2 (by decide) rfl (by decide) (by decide) (fun h3 B3 => ?_)
  refine mb_lit B3 (by decide) rfl (by decide) (by decide) (fun h4 B4 => ?_)
  refine mb_lit B4 (by decide) rfl (by decide) (by decide) (fun h5 B5 => ?_)
  refine mb_lit B5 (by decide) rfl (by decide) (by decide) (fun h6 B6 => ?_)
  refine mb_lit B6 (by decide) rfl (by decide) (by decide) (fun h7 B7 => ?_)
  refine mb_lit B7 (by decide) rfl (by decide) (by decide) (fun h8 B8 => ?_)
  refine mb_new B8 (by decide) rfl (fun h9 B9 => ?_)
  refine mb_lit B9 (by decide) rfl (by decide) (by decide) (fun h10 B10 => ?_)
  refine mb_new B10 (by decide) rfl (fun h11 B11 => ?_)
  refine mb_new B11 (by decide) rfl (fun h12 B12 => ?_)
  refine mb_new B12 (by decide) rfl (fun h13 B13 => ?_)
  refine mb_new B13 (by decide) rfl (fun h14 B14 => ?_)
  refine mb_new B14 (by decide) rfl (fun h15 B15 => ?_)
  refine mb_new B15 (by decide) rfl (fun h16 B16 => ?_)
  refine mb_new B16 (by decide) rfl (fun h17 B17 => ?_)
  refine mb_new B17 (by decide) rfl (fun h18 B18 => ?_)
  refine mb_new B18 (by decide) rfl (fun h19 B19 => ?_)
  refine mb_new B19 (by decide) rfl (fun h20 B20 => ?_)
  refine mb_new B20 (by decide) rfl (fun h21 B21 => ?_)
  refine mb_lit B21 (by decide) rfl (by decide) (by decide) (fun h22 B22 => ?_)
  refine mb_new B22 (by decide) rfl (fun h23 B23 => ?_)
  refine mb_new B23 (by decide) rfl (fun h24 B24 => ?_)
  exact kQ h24 B24
end MKM
