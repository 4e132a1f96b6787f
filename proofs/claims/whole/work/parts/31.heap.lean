/-! HEAPS: what an update leaves, what a method may change -/
section HP
variable (h : ZH) (a i b j : Nat) (v : Int32) (w : Int64) (r : Nat) (f : Nat → Int32)
theorem ztag_uI : ztag (zuI h a i v) = ztag h := rfl
theorem ztag_uL : ztag (zuL h a i w) = ztag h := rfl
theorem ztag_uR : ztag (zuR h a i r) = ztag h := rfl
theorem ztag_uA : ztag (zuA h a f) = ztag h := rfl
theorem zlen_uI : zlen (zuI h a i v) = zlen h := rfl
theorem zlen_uL : zlen (zuL h a i w) = zlen h := rfl
theorem zlen_uR : zlen (zuR h a i r) = zlen h := rfl
theorem zlen_uA : zlen (zuA h a f) = zlen h := rfl
theorem zsz_uI : zsz (zuI h a i v) = zsz h := rfl
theorem zsz_uL : zsz (zuL h a i w) = zsz h := rfl
theorem zsz_uR : zsz (zuR h a i r) = zsz h := rfl
theorem zsz_uA : zsz (zuA h a f) = zsz h := rfl
theorem zI_uL : zI (zuL h a i w) = zI h := rfl
theorem zI_uR : zI (zuR h a i r) = zI h := rfl
theorem zL_uI : zL (zuI h a i v) = zL h := rfl
theorem zL_uR : zL (zuR h a i r) = zL h := rfl
theorem zL_uA : zL (zuA h a f) = zL h := rfl
theorem zR_uI : zR (zuI h a i v) = zR h := rfl
theorem zR_uL : zR (zuL h a i w) = zR h := rfl
theorem zR_uA : zR (zuA h a f) = zR h := rfl
theorem zI_uI : zI (zuI h a i v) b j = if b = a ∧ j = i then v else zI h b j := rfl
theorem zL_uL : zL (zuL h a i w) b j = if b = a ∧ j = i then w else zL h b j := rfl
theorem zR_uR : zR (zuR h a i r) b j = if b = a ∧ j = i then r else zR h b j := rfl
theorem zI_uA : zI (zuA h a f) b j = if b = a then f j else zI h b j := rfl
theorem zI_here : zI (zuI h a i v) a i = v := by simp [zI_uI]
theorem zL_here : zL (zuL h a i w) a i = w := by simp [zL_uL]
end HP
section HQ
variable {h : ZH} {a i b j : Nat} {v : Int32} {w : Int64} {f : Nat → Int32}
theorem zI_offa (hb : b ≠ a) : zI (zuI h a i v) b j = zI h b j := by simp [zI_uI, hb]
theorem zI_offi (hb : j ≠ i) : zI (zuI h a i v) b j = zI h b j := by simp [zI_uI, hb]
theorem zL_offa (hb : b ≠ a) : zL (zuL h a i w) b j = zL h b j := by simp [zL_uL, hb]
theorem zL_offi (hb : j ≠ i) : zL (zuL h a i w) b j = zL h b j := by simp [zL_uL, hb]
theorem zI_offA (hb : b ≠ a) : zI (zuA h a f) b j = zI h b j := by simp [zI_uA, hb]
theorem zI_hereA : zI (zuA h a f) a j = f j := by simp [zI_uA]
end HQ
/-- nothing is made, no reference written, and only numbers at places of S differ -/
def Fr (S : Nat → Nat → Prop) (h h' : ZH) : Prop := h'.1 = h.1 ∧ ztag h' = ztag h ∧ zlen h' = zlen h ∧ zR h' = zR h ∧ ∀ a i, ¬ S a i → zI h' a i = zI h a i ∧ zL h' a i = zL h a i
section FRM
variable {S T : Nat → Nat → Prop} {h h1 h2 : ZH} {a i : Nat} {v : Int32} {w : Int64} {f : Nat → Int32}
theorem Fr.rf : Fr S h h := ⟨rfl, rfl, rfl, rfl, fun _ _ _ => ⟨rfl, rfl⟩⟩
theorem Fr.tr (x : Fr S h h1) (y : Fr S h1 h2) : Fr S h h2 := ⟨y.1.trans x.1, y.2.1.trans x.2.1, y.2.2.1.trans x.2.2.1, y.2.2.2.1.trans x.2.2.2.1, fun a i ha => ⟨(y.2.2.2.2 a i ha).1.trans (x.2.2.2.2 a i ha).1, (y.2.2.2.2 a i ha).2.trans (x.2.2.2.2 a i ha).2⟩⟩
theorem Fr.wd (x : Fr S h h1) (hST : ∀ a i, S a i → T a i) : Fr T h h1 := ⟨x.1, x.2.1, x.2.2.1, x.2.2.2.1, fun a i ha => x.2.2.2.2 a i (fun z => ha (hST a i z))⟩
theorem Fr.uI (x : Fr S h h1) (ha : S a i) : Fr S h (zuI h1 a i v) := ⟨x.1, x.2.1, x.2.2.1, x.2.2.2.1, fun b j hb => ⟨by
  rw [← (x.2.2.2.2 b j hb).1]
  have : ¬ (b = a ∧ j = i) := fun e => hb (e.1 ▸ e.2 ▸ ha)
  simp [zI_uI, this], (x.2.2.2.2 b j hb).2⟩⟩
theorem Fr.uL (x : Fr S h h1) (ha : S a i) : Fr S h (zuL h1 a i w) := ⟨x.1, x.2.1, x.2.2.1, x.2.2.2.1, fun b j hb => ⟨(x.2.2.2.2 b j hb).1, by
  rw [← (x.2.2.2.2 b j hb).2]
  have : ¬ (b = a ∧ j = i) := fun e => hb (e.1 ▸ e.2 ▸ ha)
  simp [zL_uL, this]⟩⟩
theorem Fr.uA (x : Fr S h h1) (ha : ∀ i, S a i) : Fr S h (zuA h1 a f) := ⟨x.1, x.2.1, x.2.2.1, x.2.2.2.1, fun b j hb => ⟨by
  rw [← (x.2.2.2.2 b j hb).1]
  have : b ≠ a := fun e => hb (e ▸ ha j)
  simp [zI_uA, this], (x.2.2.2.2 b j hb).2⟩⟩
theorem Fr.I (x : Fr S h h1) {b j : Nat} (hb : ¬ S b j) : zI h1 b j = zI h b j := (x.2.2.2.2 b j hb).1
theorem Fr.L (x : Fr S h h1) {b j : Nat} (hb : ¬ S b j) : zL h1 b j = zL h b j := (x.2.2.2.2 b j hb).2
theorem Fr.tg (x : Fr S h h1) (b : Nat) : ztag h1 b = ztag h b := by rw [x.2.1]
theorem Fr.ln (x : Fr S h h1) (b : Nat) : zlen h1 b = zlen h b := by rw [x.2.2.1]
theorem Fr.rr (x : Fr S h h1) (b j : Nat) : zR h1 b j = zR h b j := by rw [x.2.2.2.1]
theorem Fr.sz (x : Fr S h h1) : zsz h1 = zsz h := by unfold zsz; rw [x.1]
end FRM
/-! SHAPES: where the cells of an object lie; nothing of this ever changes -/
def zAr (h : ZH) (m s r tg n : Nat) : Prop := zR h m s = r + 1 ∧ ztag h r = tg ∧ zlen h r = n
theorem zAr.fr {S : Nat → Nat → Prop} {h h1 : ZH} {m s r tg n : Nat} (x : zAr h m s r tg n) (y : Fr S h h1) : zAr h1 m s r tg n := by
  unfold zAr at x ⊢
  rw [y.2.1, y.2.2.1, y.2.2.2.1]
  exact x
theorem zAr.sub {h : ZH} {m s r tg n : Nat} (x : zAr h m s r tg n) : zR h m s - 1 = r := by rw [x.1]; rfl
theorem zAr.ne {h : ZH} {m s r tg n : Nat} (x : zAr h m s r tg n) : ¬ zR h m s = 0 := by rw [x.1]; omega
theorem zAr.ti {h : ZH} {m s r n : Nat} (x : zAr h m s r 13 n) : ztag h r = 13 ∨ ztag h r = 19 := Or.inl x.2.1
theorem zAr.tz {h : ZH} {m s r n : Nat} (x : zAr h m s r 15 n) : ztag h r = 12 ∨ ztag h r = 15 := Or.inr x.2.1
theorem zAr.tb {h : ZH} {m s r n : Nat} (x : zAr h m s r 12 n) : ztag h r = 12 ∨ ztag h r = 15 := Or.inl x.2.1
theorem zAr.inb {h : ZH} {m s r tg n : Nat} (x : zAr h m s r tg n) {a : Int} (h0 : 0 ≤ a) (h' : a < n) (hn : n ≤ 1000000) : zin (jI a) (zlen h r) = true := by
  rw [x.2.2]
  exact zin_j h0 h' hn
def MSh (h : ZH) (m : Nat) : Prop := ztag h m = 11 ∧ zAr h m 0 (m + 1) 13 320 ∧ zAr h m 9 (m + 2) 13 23 ∧ zAr h m 10 (m + 3) 13 113 ∧ zAr h m 11 (m + 4) 13 17 ∧ zAr h m 12 (m + 5) 13 28 ∧ zAr h m 13 (m + 6) 13 16 ∧ zAr h m 14 (m + 7) 13 16 ∧ zAr h m 15 (m + 8) 13 28 ∧ zAr h m 16 (m + 9) 13 28 ∧ zAr h m 20 (m + 10) 13 20 ∧ zAr h m 27 (m + 11) 14 154791 ∧ zAr h m 28 (m + 12) 13 154791 ∧ zAr h m 32 (m + 13) 14 7371 ∧ zAr h m 33 (m + 14) 14 7371 ∧ zAr h m 34 (m + 15) 14 4 ∧ zAr h m 35 (m + 16) 13 28 ∧ zAr h m 37 (m + 17) 13 20 ∧ zAr h m 38 (m + 18) 13 20 ∧ zAr h m 39 (m + 19) 13 20 ∧ zAr h m 40 (m + 20) 13 20 ∧ zAr h m 47 (m + 21) 13 51597 ∧ zAr h m 48 (m + 22) 13 4 ∧ zAr h m 49 (m + 23) 13 4 ∧ zAr h m 50 (m + 24) 13 192
def PSh (h : ZH) (m : Nat) : Prop := ztag h m = 3 ∧ zAr h m 0 (m + 1) 13 39 ∧ zAr h m 1 (m + 2) 13 20 ∧ zAr h m 2 (m + 3) 13 4 ∧ zAr h m 3 (m + 4) 13 4 ∧ zAr h m 4 (m + 5) 13 20 ∧ zAr h m 5 (m + 6) 15 20
def TSh (h : ZH) (m : Nat) : Prop := ztag h m = 8 ∧ zAr h m 0 (m + 1) 12 320
def RSh (h : ZH) (m : Nat) : Prop := ztag h m = 5 ∧ zAr h m 0 (m + 1) 13 20 ∧ zAr h m 1 (m + 2) 13 20
def SSh (h : ZH) (m : Nat) : Prop := ztag h m = 6 ∧ zAr h m 0 (m + 1) 13 48
section SHF
variable {S : Nat → Nat → Prop} {h h1 : ZH} {m : Nat}
theorem MSh.fr (x : MSh h m) (y : Fr S h h1) : MSh h1 m := by
  unfold MSh zAr at x ⊢
  rw [y.2.1, y.2.2.1, y.2.2.2.1]
  exact x
theorem PSh.fr (x : PSh h m) (y : Fr S h h1) : PSh h1 m := by
  unfold PSh zAr at x ⊢
  rw [y.2.1, y.2.2.1, y.2.2.2.1]
  exact x
theorem TSh.fr (x : TSh h m) (y : Fr S h h1) : TSh h1 m := by
  unfold TSh zAr at x ⊢
  rw [y.2.1, y.2.2.1, y.2.2.2.1]
  exact x
theorem RSh.fr (x : RSh h m) (y : Fr S h h1) : RSh h1 m := by
  unfold RSh zAr at x ⊢
  rw [y.2.1, y.2.2.1, y.2.2.2.1]
  exact x
theorem SSh.fr (x : SSh h m) (y : Fr S h h1) : SSh h1 m := by
  unfold SSh zAr at x ⊢
  rw [y.2.1, y.2.2.1, y.2.2.2.1]
  exact x
end SHF
/-! the rows that nobody writes -/
def zst (k : Nat) : List Int32 := match k with
  | 1 => [2, 4, 8, 0, 3, 80, 20, 0, 0, 0, 0, 0, 0, 0, 10, 1, 0, 0, 0, 0, 15, 20, 30, 0, 0, 0, 0, 0, 0, 0, 2, 1, 1, 1, 2, 1, 1, 1, 2]
  | 2 => [5, 7, 8, 9, 11, 12, 13, 3]
  | 3 => [0, 1, 2, 3, 5, 6, 7, 8, 9, 10, 11, 12, 13, 14, 20, 30, 15]
  | 4 => [1, 1, 1, 2, 1, 1, 1, 1, 1, 1, 0, 0, 1, 1, 2, 4, 1]
  | 5 => [1, 1, 1, 0, 0, 1, 0, 0, 0, 0, 0, 0, 0, 0, 1, 0, 0]
  | 6 => [4, 5, 16, 4, 100, 60, 100, 20, 0, 60, 0, 0, 0, 60, 60, 4, 2]
  | _ => []
def Stc (E : Nat → Nat) (h : ZH) : Prop := (∀ k, 1 ≤ k → k < 7 → E k < E 0 ∧ ztag h (E k) = 19 ∧ zlen h (E k) = (zst k).length ∧ ∀ j, j < (zst k).length → zI h (E k) j = (zst k).getD j 0) ∧ (E 7 < E 0 ∧ ztag h (E 7) = 18 ∧ zlen h (E 7) = 135 ∧ zI h (E 7) = fun j => zNames.getD j 0)
theorem Stc.fr {S : Nat → Nat → Prop} {E : Nat → Nat} {h h1 : ZH} (x : Stc E h) (y : Fr S h h1) (hS : ∀ a i, a < E 0 → ¬ S a i) : Stc E h1 := by
  refine ⟨fun k h1 h2 => ?_, ?_⟩
  · obtain ⟨a, b, c, e⟩ := x.1 k h1 h2
    refine ⟨a, by rw [y.tg]; exact b, by rw [y.ln]; exact c, fun j hj => ?_⟩
    rw [y.I (hS _ _ a)]
    exact e j hj
  · obtain ⟨a, b, c, e⟩ := x.2
    refine ⟨a, by rw [y.tg]; exact b, by rw [y.ln]; exact c, ?_⟩
    rw [← e]
    funext j
    exact y.I (hS _ _ a)
