/-! what each method needs and does, printed by wip/whole/dec.py: part 2 -/
theorem zi_63_0 : (zM 63).1[0]? = some (.aload 0) := by rfl
theorem zi_63_1 : (zM 63).1[1]? = some (.getfield 4005) := by rfl
theorem zi_63_2 : (zM 63).1[2]? = some (.iconst 15) := by rfl
theorem zi_63_3 : (zM 63).1[3]? = some (.if_icmp .ne ((10 : Nat) : Int)) := by rfl
theorem zi_63_4 : (zM 63).1[4]? = some (.aload 0) := by rfl
theorem zi_63_5 : (zM 63).1[5]? = some (.getfield 4006) := by rfl
theorem zi_63_6 : (zM 63).1[6]? = some (.iconst 3) := by rfl
theorem zi_63_7 : (zM 63).1[7]? = some (.if_icmp .ne ((10 : Nat) : Int)) := by rfl
theorem zi_63_8 : (zM 63).1[8]? = some (.iconst 1) := by rfl
theorem zi_63_9 : (zM 63).1[9]? = some (.goto ((11 : Nat) : Int)) := by rfl
theorem zi_63_10 : (zM 63).1[10]? = some (.iconst 0) := by rfl
theorem zi_63_11 : (zM 63).1[11]? = some (.istore 1) := by rfl
theorem zi_63_12 : (zM 63).1[12]? = some (.iload 1) := by rfl
theorem zi_63_13 : (zM 63).1[13]? = some (.ifCond .eq ((37 : Nat) : Int)) := by rfl
theorem zi_63_14 : (zM 63).1[14]? = some (.aload 0) := by rfl
theorem zi_63_15 : (zM 63).1[15]? = some (.getfield 4201) := by rfl
theorem zi_63_16 : (zM 63).1[16]? = some (.getfield 3200) := by rfl
theorem zi_63_17 : (zM 63).1[17]? = some (.aload 0) := by rfl
theorem zi_63_18 : (zM 63).1[18]? = some (.getfield 4007) := by rfl
theorem zi_63_19 : (zM 63).1[19]? = some (.iconst 2) := by rfl
theorem zi_63_20 : (zM 63).1[20]? = some (.isub) := by rfl
theorem zi_63_21 : (zM 63).1[21]? = some (.iaload) := by rfl
theorem zi_63_22 : (zM 63).1[22]? = some (.aload 0) := by rfl
theorem zi_63_23 : (zM 63).1[23]? = some (.getfield 4201) := by rfl
theorem zi_63_24 : (zM 63).1[24]? = some (.getfield 3200) := by rfl
theorem zi_63_25 : (zM 63).1[25]? = some (.aload 0) := by rfl
theorem zi_63_26 : (zM 63).1[26]? = some (.getfield 4007) := by rfl
theorem zi_63_27 : (zM 63).1[27]? = some (.iconst 1) := by rfl
theorem zi_63_28 : (zM 63).1[28]? = some (.isub) := by rfl
theorem zi_63_29 : (zM 63).1[29]? = some (.iaload) := by rfl
theorem zi_63_30 : (zM 63).1[30]? = some (.iadd) := by rfl
theorem zi_63_31 : (zM 63).1[31]? = some (.aload 0) := by rfl
theorem zi_63_32 : (zM 63).1[32]? = some (.getfield 4200) := by rfl
theorem zi_63_33 : (zM 63).1[33]? = some (.getfield 8004) := by rfl
theorem zi_63_34 : (zM 63).1[34]? = some (.iadd) := by rfl
theorem zi_63_35 : (zM 63).1[35]? = some (.iconst 4) := by rfl
theorem zi_63_36 : (zM 63).1[36]? = some (.if_icmp .ne ((39 : Nat) : Int)) := by rfl
theorem zi_63_37 : (zM 63).1[37]? = some (.iconst 1) := by rfl
theorem zi_63_38 : (zM 63).1[38]? = some (.goto ((40 : Nat) : Int)) := by rfl
theorem zi_63_39 : (zM 63).1[39]? = some (.iconst 0) := by rfl
theorem zi_63_40 : (zM 63).1[40]? = some (.ireturn) := by rfl
/-- TakeOrPay$Reader.fitsChances()Z -/
def w_63 (E : Nat → Nat) (d : Nat) (a0 : Nat) (h : ZH) (Q : Option Value → ZH → Prop) : Prop := ztag h a0 = 4 ∧ (((¬ (zI h a0 5 : Int32) = 15 → (True)) ∧ (¬ (¬ (zI h a0 5 : Int32) = 15) → (ztag h a0 = 4 ∧ True))) ∧ ∀ x1 : Int32, x1 = if ¬ (zI h a0 5 : Int32) = 15 then 0 else if ¬ (zI h a0 6 : Int32) = 3 then 0 else 1 → (((x1 = 0 → (True)) ∧ (¬ (x1 = 0) → (ztag h a0 = 4 ∧ ∃ r2 : Nat, zR h a0 1 = r2 + 1 ∧ ztag h r2 = 3 ∧ ∃ r3 : Nat, zR h r2 0 = r3 + 1 ∧ ztag h a0 = 4 ∧ (ztag h r3 = 13 ∨ ztag h r3 = 19) ∧ zin ((zI h a0 7) - 2) (zlen h r3) = true ∧ ztag h a0 = 4 ∧ ∃ r4 : Nat, zR h a0 1 = r4 + 1 ∧ ztag h r4 = 3 ∧ ∃ r5 : Nat, zR h r4 0 = r5 + 1 ∧ ztag h a0 = 4 ∧ (ztag h r5 = 13 ∨ ztag h r5 = 19) ∧ zin ((zI h a0 7) - 1) (zlen h r5) = true ∧ ztag h a0 = 4 ∧ ∃ r6 : Nat, zR h a0 0 = r6 + 1 ∧ ztag h r6 = 8 ∧ True))) ∧ Q (some (.int (if x1 = 0 then 1 else if ¬ (((zI h r3 ((zI h a0 7) - 2 : Int32).toNatClampNeg) + (zI h r5 ((zI h a0 7) - 1 : Int32).toNatClampNeg)) + (zI h r6 4) : Int32) = 4 then 0 else 1))) h))
set_option maxRecDepth 20000 in
theorem ok_63 {E : Nat → Nat} {d : Nat} {a0 : Nat} {h : ZH} {Q : Option Value → ZH → Prop} (hw : w_63 E d a0 h Q) : Ct E (d + 1) 63 [.ref a0] h Q := by
  unfold w_63 at hw
  show Gx E (d + 1) 63 0 [.ref a0, .retAddr 0] [] h Q
  refine zg_aload zi_63_0 rfl ?_
  obtain ⟨ht, hw⟩ := hw
  refine zg_getI (v := .int (zI h a0 5)) zi_63_1 ht (by rfl) rfl ?_
  refine zg_const (v := 15) zi_63_2 (by rfl) ?_
  obtain ⟨hsd3, hw⟩ := hw
  have g3 : Gx E (d + 1) 63 11 [.ref a0, .retAddr 0] [.int (if ¬ (zI h a0 5 : Int32) = 15 then 0 else if ¬ (zI h a0 6 : Int32) = 3 then 0 else 1)] h Q := by
    refine zg_nameI fun x1 ex1 => ?_
    have hw := hw x1 ex1
    refine zg_istore (ls1 := [.ref a0, .int x1]) zi_63_11 (by decide) rfl ?_
    refine zg_iload zi_63_12 rfl ?_
    obtain ⟨hsd13, hw⟩ := hw
    have g13 : Gx E (d + 1) 63 40 [.ref a0, .int x1] [.int (if x1 = 0 then 1 else if ¬ (((zI h r3 ((zI h a0 7) - 2 : Int32).toNatClampNeg) + (zI h r5 ((zI h a0 7) - 1 : Int32).toNatClampNeg)) + (zI h r6 4) : Int32) = 4 then 0 else 1)] h Q := by
      exact zg_zreturn zi_63_40 (by (repeat' split) <;> first | (left; rfl) | (right; rfl)) hw
    refine zg_if_eq zi_63_13 (fun hc13 => ?_) (fun hc13 => ?_)
    · have hw := hsd13.1 hc13
      refine zg_const (v := 1) zi_63_37 (by rfl) ?_
      refine zg_goto zi_63_38 ?_
      have hg := g13
      simp only [if_pos hc13] at hg
      exact hg
    · have hw := hsd13.2 hc13
      refine zg_aload zi_63_14 rfl ?_
      obtain ⟨ht, hw⟩ := hw
      obtain ⟨r2, hr, hw⟩ := hw
      refine zg_getR (v := .ref r2) zi_63_15 ht (by rfl) (by show zrv (zR h a0 1) = _; rw [hr]; rfl) ?_
      obtain ⟨ht, hw⟩ := hw
      obtain ⟨r3, hr, hw⟩ := hw
      refine zg_getR (v := .ref r3) zi_63_16 ht (by rfl) (by show zrv (zR h r2 0) = _; rw [hr]; rfl) ?_
      refine zg_aload zi_63_17 rfl ?_
      obtain ⟨ht, hw⟩ := hw
      refine zg_getI (v := .int (zI h a0 7)) zi_63_18 ht (by rfl) rfl ?_
      refine zg_const (v := 2) zi_63_19 (by rfl) ?_
      refine zg_isub zi_63_20 ?_
      obtain ⟨ht, hb, hw⟩ := hw
      refine zg_iaload (v := .int (zI h r3 ((zI h a0 7) - 2 : Int32).toNatClampNeg)) zi_63_21 ht hb rfl ?_
      refine zg_aload zi_63_22 rfl ?_
      obtain ⟨ht, hw⟩ := hw
      obtain ⟨r4, hr, hw⟩ := hw
      refine zg_getR (v := .ref r4) zi_63_23 ht (by rfl) (by show zrv (zR h a0 1) = _; rw [hr]; rfl) ?_
      obtain ⟨ht, hw⟩ := hw
      obtain ⟨r5, hr, hw⟩ := hw
      refine zg_getR (v := .ref r5) zi_63_24 ht (by rfl) (by show zrv (zR h r4 0) = _; rw [hr]; rfl) ?_
      refine zg_aload zi_63_25 rfl ?_
      obtain ⟨ht, hw⟩ := hw
      refine zg_getI (v := .int (zI h a0 7)) zi_63_26 ht (by rfl) rfl ?_
      refine zg_const (v := 1) zi_63_27 (by rfl) ?_
      refine zg_isub zi_63_28 ?_
      obtain ⟨ht, hb, hw⟩ := hw
      refine zg_iaload (v := .int (zI h r5 ((zI h a0 7) - 1 : Int32).toNatClampNeg)) zi_63_29 ht hb rfl ?_
      refine zg_iadd zi_63_30 ?_
      refine zg_aload zi_63_31 rfl ?_
      obtain ⟨ht, hw⟩ := hw
      obtain ⟨r6, hr, hw⟩ := hw
      refine zg_getR (v := .ref r6) zi_63_32 ht (by rfl) (by show zrv (zR h a0 0) = _; rw [hr]; rfl) ?_
      obtain ⟨ht, hw⟩ := hw
      refine zg_getI (v := .int (zI h r6 4)) zi_63_33 ht (by rfl) rfl ?_
      refine zg_iadd zi_63_34 ?_
      refine zg_const (v := 4) zi_63_35 (by rfl) ?_
      have g36 : Gx E (d + 1) 63 40 [.ref a0, .int x1] [.int (if ¬ (((zI h r3 ((zI h a0 7) - 2 : Int32).toNatClampNeg) + (zI h r5 ((zI h a0 7) - 1 : Int32).toNatClampNeg)) + (zI h r6 4) : Int32) = 4 then 0 else 1)] h Q := by
        have hg := g13
        simp only [if_neg hc13] at hg
        exact hg
      refine zg_icmp_ne zi_63_36 (fun hc36 => ?_) (fun hc36 => ?_)
      · skip
        refine zg_const (v := 0) zi_63_39 (by rfl) ?_
        have hg := g36
        simp only [if_pos hc36] at hg
        exact hg
      · skip
        refine zg_const (v := 1) zi_63_37 (by rfl) ?_
        refine zg_goto zi_63_38 ?_
        have hg := g36
        simp only [if_neg hc36] at hg
        exact hg
  refine zg_icmp_ne zi_63_3 (fun hc3 => ?_) (fun hc3 => ?_)
  · have hw := hsd3.1 hc3
    refine zg_const (v := 0) zi_63_10 (by rfl) ?_
    have hg := g3
    simp only [if_pos hc3] at hg
    exact hg
  · have hw := hsd3.2 hc3
    refine zg_aload zi_63_4 rfl ?_
    obtain ⟨ht, hw⟩ := hw
    refine zg_getI (v := .int (zI h a0 6)) zi_63_5 ht (by rfl) rfl ?_
    refine zg_const (v := 3) zi_63_6 (by rfl) ?_
    have g7 : Gx E (d + 1) 63 11 [.ref a0, .retAddr 0] [.int (if ¬ (zI h a0 6 : Int32) = 3 then 0 else 1)] h Q := by
      have hg := g3
      simp only [if_neg hc3] at hg
      exact hg
    refine zg_icmp_ne zi_63_7 (fun hc7 => ?_) (fun hc7 => ?_)
    · skip
      refine zg_const (v := 0) zi_63_10 (by rfl) ?_
      have hg := g7
      simp only [if_pos hc7] at hg
      exact hg
    · skip
      refine zg_const (v := 1) zi_63_8 (by rfl) ?_
      refine zg_goto zi_63_9 ?_
      have hg := g7
      simp only [if_neg hc7] at hg
      exact hg
def fz_63 (E : Nat → Nat) (h : ZH) (a0 : Nat) : Int32 := let x1 : Int32 := if ¬ (zI h a0 5 : Int32) = 15 then 0 else if ¬ (zI h a0 6 : Int32) = 3 then 0 else 1; if x1 = 0 then 1 else if ¬ (((zI h r3 ((zI h a0 7) - 2 : Int32).toNatClampNeg) + (zI h r5 ((zI h a0 7) - 1 : Int32).toNatClampNeg)) + (zI h r6 4) : Int32) = 4 then 0 else 1
def sz_63 (E : Nat → Nat) (h : ZH) (a0 : Nat) : Prop := ztag h a0 = 4 ∧ (((¬ (zI h a0 5 : Int32) = 15 → (True)) ∧ (¬ (¬ (zI h a0 5 : Int32) = 15) → (ztag h a0 = 4 ∧ True))) ∧ ∀ x1 : Int32, x1 = if ¬ (zI h a0 5 : Int32) = 15 then 0 else if ¬ (zI h a0 6 : Int32) = 3 then 0 else 1 → (((x1 = 0 → (True)) ∧ (¬ (x1 = 0) → (ztag h a0 = 4 ∧ ∃ r2 : Nat, zR h a0 1 = r2 + 1 ∧ ztag h r2 = 3 ∧ ∃ r3 : Nat, zR h r2 0 = r3 + 1 ∧ ztag h a0 = 4 ∧ (ztag h r3 = 13 ∨ ztag h r3 = 19) ∧ zin ((zI h a0 7) - 2) (zlen h r3) = true ∧ ztag h a0 = 4 ∧ ∃ r4 : Nat, zR h a0 1 = r4 + 1 ∧ ztag h r4 = 3 ∧ ∃ r5 : Nat, zR h r4 0 = r5 + 1 ∧ ztag h a0 = 4 ∧ (ztag h r5 = 13 ∨ ztag h r5 = 19) ∧ zin ((zI h a0 7) - 1) (zlen h r5) = true ∧ ztag h a0 = 4 ∧ ∃ r6 : Nat, zR h a0 0 = r6 + 1 ∧ ztag h r6 = 8 ∧ True))) ∧ True))
set_option maxRecDepth 20000 in
theorem fb_63 {E : Nat → Nat} {h : ZH} {a0 : Nat} : fz_63 E h a0 = 0 ∨ fz_63 E h a0 = 1 := by
  unfold fz_63
  (try dsimp only)
  (repeat' split) <;> first | (left; rfl) | (right; rfl)
set_option maxRecDepth 20000 in
theorem cz_63 {E : Nat → Nat} {d : Nat} {a0 : Nat} {h : ZH} {Q : Option Value → ZH → Prop} (hd : 1 ≤ d) (hs : sz_63 E h a0) (hq : Q (some (.int (fz_63 E h a0))) h) : Ct E d 63 [.ref a0] h Q := by
  obtain ⟨d, rfl⟩ : ∃ n, d = n + 1 := ⟨d - 1, by omega⟩
  refine ok_63 ?_
  unfold w_63
  unfold sz_63 at hs
  unfold fz_63 at hq
  refine ⟨hs.1, ?_⟩
  have hs := hs.2
  refine ⟨⟨fun hc => ?_, fun hc => ?_⟩, ?_⟩
  · have hs := hs.1.1 hc
    trivial
  · have hs := hs.1.2 hc
    refine ⟨hs.1, ?_⟩
    have hs := hs.2
    trivial
  have hs := hs.2
  intro x1 ex1
  have hs := hs x1 ex1
  subst ex1
  refine ⟨⟨fun hc => ?_, fun hc => ?_⟩, ?_⟩
  · have hs := hs.1.1 hc
    trivial
  · have hs := hs.1.2 hc
    refine ⟨hs.1, ?_⟩
    have hs := hs.2
    obtain ⟨r2, hr, hs⟩ := hs
    refine ⟨r2, hr, ?_⟩
    rw [hr] at hq
    simp only [Nat.add_sub_cancel] at hq
    refine ⟨hs.1, ?_⟩
    have hs := hs.2
    obtain ⟨r3, hr, hs⟩ := hs
    refine ⟨r3, hr, ?_⟩
    rw [hr] at hq
    simp only [Nat.add_sub_cancel] at hq
    refine ⟨hs.1, ?_⟩
    have hs := hs.2
    refine ⟨hs.1, ?_⟩
    have hs := hs.2
    refine ⟨hs.1, ?_⟩
    have hs := hs.2
    refine ⟨hs.1, ?_⟩
    have hs := hs.2
    obtain ⟨r4, hr, hs⟩ := hs
    refine ⟨r4, hr, ?_⟩
    rw [hr] at hq
    simp only [Nat.add_sub_cancel] at hq
    refine ⟨hs.1, ?_⟩
    have hs := hs.2
    obtain ⟨r5, hr, hs⟩ := hs
    refine ⟨r5, hr, ?_⟩
    rw [hr] at hq
    simp only [Nat.add_sub_cancel] at hq
    refine ⟨hs.1, ?_⟩
    have hs := hs.2
    refine ⟨hs.1, ?_⟩
    have hs := hs.2
    refine ⟨hs.1, ?_⟩
    have hs := hs.2
    refine ⟨hs.1, ?_⟩
    have hs := hs.2
    obtain ⟨r6, hr, hs⟩ := hs
    refine ⟨r6, hr, ?_⟩
    rw [hr] at hq
    simp only [Nat.add_sub_cancel] at hq
    refine ⟨hs.1, ?_⟩
    have hs := hs.2
    trivial
  have hs := hs.2
  exact hq
theorem zi_64_0 : (zM 64).1[0]? = some (.aload 0) := by rfl
theorem zi_64_1 : (zM 64).1[1]? = some (.getfield 4005) := by rfl
theorem zi_64_2 : (zM 64).1[2]? = some (.iconst 14) := by rfl
theorem zi_64_3 : (zM 64).1[3]? = some (.if_icmp .ne ((6 : Nat) : Int)) := by rfl
theorem zi_64_4 : (zM 64).1[4]? = some (.iconst 1) := by rfl
theorem zi_64_5 : (zM 64).1[5]? = some (.goto ((7 : Nat) : Int)) := by rfl
theorem zi_64_6 : (zM 64).1[6]? = some (.iconst 0) := by rfl
theorem zi_64_7 : (zM 64).1[7]? = some (.istore 1) := by rfl
theorem zi_64_8 : (zM 64).1[8]? = some (.aload 0) := by rfl
theorem zi_64_9 : (zM 64).1[9]? = some (.iload 1) := by rfl
theorem zi_64_10 : (zM 64).1[10]? = some (.ifCond .eq ((13 : Nat) : Int)) := by rfl
theorem zi_64_11 : (zM 64).1[11]? = some (.iconst 17) := by rfl
theorem zi_64_12 : (zM 64).1[12]? = some (.goto ((14 : Nat) : Int)) := by rfl
theorem zi_64_13 : (zM 64).1[13]? = some (.iconst 20) := by rfl
theorem zi_64_14 : (zM 64).1[14]? = some (.aload 0) := by rfl
theorem zi_64_15 : (zM 64).1[15]? = some (.getfield 4200) := by rfl
theorem zi_64_16 : (zM 64).1[16]? = some (.getfield 8004) := by rfl
theorem zi_64_17 : (zM 64).1[17]? = some (.iadd) := by rfl
theorem zi_64_18 : (zM 64).1[18]? = some (.invokevirtual 56) := by rfl
theorem zi_64_19 : (zM 64).1[19]? = some (.aload 0) := by rfl
theorem zi_64_20 : (zM 64).1[20]? = some (.dup) := by rfl
theorem zi_64_21 : (zM 64).1[21]? = some (.getfield 4007) := by rfl
theorem zi_64_22 : (zM 64).1[22]? = some (.iload 1) := by rfl
theorem zi_64_23 : (zM 64).1[23]? = some (.ifCond .eq ((28 : Nat) : Int)) := by rfl
theorem zi_64_24 : (zM 64).1[24]? = some (.aload 0) := by rfl
theorem zi_64_25 : (zM 64).1[25]? = some (.getfield 4200) := by rfl
theorem zi_64_26 : (zM 64).1[26]? = some (.getfield 8004) := by rfl
theorem zi_64_27 : (zM 64).1[27]? = some (.goto ((33 : Nat) : Int)) := by rfl
theorem zi_64_28 : (zM 64).1[28]? = some (.iconst 3) := by rfl
theorem zi_64_29 : (zM 64).1[29]? = some (.aload 0) := by rfl
theorem zi_64_30 : (zM 64).1[30]? = some (.getfield 4200) := by rfl
theorem zi_64_31 : (zM 64).1[31]? = some (.getfield 8004) := by rfl
theorem zi_64_32 : (zM 64).1[32]? = some (.imul) := by rfl
theorem zi_64_33 : (zM 64).1[33]? = some (.iadd) := by rfl
theorem zi_64_34 : (zM 64).1[34]? = some (.putfield 4007) := by rfl
theorem zi_64_35 : (zM 64).1[35]? = some (.return_) := by rfl
/-- TakeOrPay$Reader.takeState()V -/
def w_64 (E : Nat → Nat) (d : Nat) (a0 : Nat) (h : ZH) (Q : Option Value → ZH → Prop) : Prop := ztag h a0 = 4 ∧ ∀ x1 : Int32, x1 = if ¬ (zI h a0 5 : Int32) = 14 then 0 else 1 → ztag h a0 = 4 ∧ ∃ r2 : Nat, zR h a0 0 = r2 + 1 ∧ ztag h r2 = 8 ∧ ztag h a0 = 4 ∧ Ct E d 56 [.ref a0, .int ((if x1 = 0 then 20 else 17) + (zI h r2 4))] h (fun v h3 => v = none ∧ ztag h3 a0 = 4 ∧ (((x1 = 0 → (ztag h3 a0 = 4 ∧ ∃ r4 : Nat, zR h3 a0 0 = r4 + 1 ∧ ztag h3 r4 = 8 ∧ True)) ∧ (¬ (x1 = 0) → (ztag h3 a0 = 4 ∧ ∃ r5 : Nat, zR h3 a0 0 = r5 + 1 ∧ ztag h3 r5 = 8 ∧ True))) ∧ ztag h3 a0 = 4 ∧ ∀ h6 : ZH, h6 = zuI h3 a0 7 ((zI h3 a0 7) + (if x1 = 0 then 3 * (zI h3 r4 4) else zI h3 r5 4)) → Q none h6))
set_option maxRecDepth 20000 in
theorem ok_64 {E : Nat → Nat} {d : Nat} {a0 : Nat} {h : ZH} {Q : Option Value → ZH → Prop} (hw : w_64 E d a0 h Q) : Ct E (d + 1) 64 [.ref a0] h Q := by
  unfold w_64 at hw
  show Gx E (d + 1) 64 0 [.ref a0, .retAddr 0] [] h Q
  refine zg_aload zi_64_0 rfl ?_
  obtain ⟨ht, hw⟩ := hw
  refine zg_getI (v := .int (zI h a0 5)) zi_64_1 ht (by rfl) rfl ?_
  refine zg_const (v := 14) zi_64_2 (by rfl) ?_
  have g3 : Gx E (d + 1) 64 7 [.ref a0, .retAddr 0] [.int (if ¬ (zI h a0 5 : Int32) = 14 then 0 else 1)] h Q := by
    refine zg_nameI fun x1 ex1 => ?_
    have hw := hw x1 ex1
    refine zg_istore (ls1 := [.ref a0, .int x1]) zi_64_7 (by decide) rfl ?_
    refine zg_aload zi_64_8 rfl ?_
    refine zg_iload zi_64_9 rfl ?_
    have g10 : Gx E (d + 1) 64 14 [.ref a0, .int x1] [.int (if x1 = 0 then 20 else 17), .ref a0] h Q := by
      refine zg_aload zi_64_14 rfl ?_
      obtain ⟨ht, hw⟩ := hw
      obtain ⟨r2, hr, hw⟩ := hw
      refine zg_getR (v := .ref r2) zi_64_15 ht (by rfl) (by show zrv (zR h a0 0) = _; rw [hr]; rfl) ?_
      obtain ⟨ht, hw⟩ := hw
      refine zg_getI (v := .int (zI h r2 4)) zi_64_16 ht (by rfl) rfl ?_
      refine zg_iadd zi_64_17 ?_
      obtain ⟨ht, hw⟩ := hw
      refine Gx.call (as := [.ref a0, .int ((if x1 = 0 then 20 else 17) + (zI h r2 4))]) (rest := []) (n := 2) zi_64_18 (by rfl) rfl (by rfl) (by rfl) (by rfl) (by decide) (by simp only [zcat, List.map, List.sum_cons, List.sum_nil, Value.category]; decide) (zrv_v ht (by rfl) (by rfl)) (by decide) ?_
      refine Ct.mono hw ?_
      rintro v h3 ⟨rfl, hw⟩
      show Gx E (d + 1) 64 19 [.ref a0, .int x1] [] h3 Q
      refine zg_aload zi_64_19 rfl ?_
      refine zg_dup zi_64_20 rfl ?_
      obtain ⟨ht, hw⟩ := hw
      refine zg_getI (v := .int (zI h3 a0 7)) zi_64_21 ht (by rfl) rfl ?_
      refine zg_iload zi_64_22 rfl ?_
      obtain ⟨hsd23, hw⟩ := hw
      have g23 : Gx E (d + 1) 64 33 [.ref a0, .int x1] [.int (if x1 = 0 then 3 * (zI h3 r4 4) else zI h3 r5 4), .int (zI h3 a0 7), .ref a0] h3 Q := by
        refine zg_iadd zi_64_33 ?_
        obtain ⟨ht, hw⟩ := hw
        refine zg_putI (h1 := zuI h3 a0 7 ((zI h3 a0 7) + (if x1 = 0 then 3 * (zI h3 r4 4) else zI h3 r5 4))) zi_64_34 ht (by rfl) rfl ?_
        refine zg_nameH fun h6 eh6 => ?_
        have hw := hw h6 eh6
        exact zg_return zi_64_35 hw
      refine zg_if_eq zi_64_23 (fun hc23 => ?_) (fun hc23 => ?_)
      · have hw := hsd23.1 hc23
        refine zg_const (v := 3) zi_64_28 (by rfl) ?_
        refine zg_aload zi_64_29 rfl ?_
        obtain ⟨ht, hw⟩ := hw
        obtain ⟨r4, hr, hw⟩ := hw
        refine zg_getR (v := .ref r4) zi_64_30 ht (by rfl) (by show zrv (zR h3 a0 0) = _; rw [hr]; rfl) ?_
        obtain ⟨ht, hw⟩ := hw
        refine zg_getI (v := .int (zI h3 r4 4)) zi_64_31 ht (by rfl) rfl ?_
        refine zg_imul zi_64_32 ?_
        have hg := g23
        simp only [if_pos hc23] at hg
        exact hg
      · have hw := hsd23.2 hc23
        refine zg_aload zi_64_24 rfl ?_
        obtain ⟨ht, hw⟩ := hw
        obtain ⟨r5, hr, hw⟩ := hw
        refine zg_getR (v := .ref r5) zi_64_25 ht (by rfl) (by show zrv (zR h3 a0 0) = _; rw [hr]; rfl) ?_
        obtain ⟨ht, hw⟩ := hw
        refine zg_getI (v := .int (zI h3 r5 4)) zi_64_26 ht (by rfl) rfl ?_
        refine zg_goto zi_64_27 ?_
        have hg := g23
        simp only [if_neg hc23] at hg
        exact hg
    refine zg_if_eq zi_64_10 (fun hc10 => ?_) (fun hc10 => ?_)
    · skip
      refine zg_const (v := 20) zi_64_13 (by rfl) ?_
      have hg := g10
      simp only [if_pos hc10] at hg
      exact hg
    · skip
      refine zg_const (v := 17) zi_64_11 (by rfl) ?_
      refine zg_goto zi_64_12 ?_
      have hg := g10
      simp only [if_neg hc10] at hg
      exact hg
  refine zg_icmp_ne zi_64_3 (fun hc3 => ?_) (fun hc3 => ?_)
  · skip
    refine zg_const (v := 0) zi_64_6 (by rfl) ?_
    have hg := g3
    simp only [if_pos hc3] at hg
    exact hg
  · skip
    refine zg_const (v := 1) zi_64_4 (by rfl) ?_
    refine zg_goto zi_64_5 ?_
    have hg := g3
    simp only [if_neg hc3] at hg
    exact hg
theorem zi_62_0 : (zM 62).1[0]? = some (.aload 0) := by rfl
theorem zi_62_1 : (zM 62).1[1]? = some (.getfield 4006) := by rfl
theorem zi_62_2 : (zM 62).1[2]? = some (.ifCond .ne ((13 : Nat) : Int)) := by rfl
theorem zi_62_3 : (zM 62).1[3]? = some (.aload 0) := by rfl
theorem zi_62_4 : (zM 62).1[4]? = some (.getfield 4005) := by rfl
theorem zi_62_5 : (zM 62).1[5]? = some (.iconst 14) := by rfl
theorem zi_62_6 : (zM 62).1[6]? = some (.if_icmp .eq ((11 : Nat) : Int)) := by rfl
theorem zi_62_7 : (zM 62).1[7]? = some (.aload 0) := by rfl
theorem zi_62_8 : (zM 62).1[8]? = some (.getfield 4005) := by rfl
theorem zi_62_9 : (zM 62).1[9]? = some (.iconst 15) := by rfl
theorem zi_62_10 : (zM 62).1[10]? = some (.if_icmp .ne ((13 : Nat) : Int)) := by rfl
theorem zi_62_11 : (zM 62).1[11]? = some (.iconst 1) := by rfl
theorem zi_62_12 : (zM 62).1[12]? = some (.goto ((14 : Nat) : Int)) := by rfl
theorem zi_62_13 : (zM 62).1[13]? = some (.iconst 0) := by rfl
theorem zi_62_14 : (zM 62).1[14]? = some (.istore 1) := by rfl
theorem zi_62_15 : (zM 62).1[15]? = some (.iload 1) := by rfl
theorem zi_62_16 : (zM 62).1[16]? = some (.ifCond .eq ((19 : Nat) : Int)) := by rfl
theorem zi_62_17 : (zM 62).1[17]? = some (.iconst 2) := by rfl
theorem zi_62_18 : (zM 62).1[18]? = some (.goto ((23 : Nat) : Int)) := by rfl
theorem zi_62_19 : (zM 62).1[19]? = some (.getstatic 6) := by rfl
theorem zi_62_20 : (zM 62).1[20]? = some (.aload 0) := by rfl
theorem zi_62_21 : (zM 62).1[21]? = some (.getfield 4005) := by rfl
theorem zi_62_22 : (zM 62).1[22]? = some (.iaload) := by rfl
theorem zi_62_23 : (zM 62).1[23]? = some (.istore 2) := by rfl
theorem zi_62_24 : (zM 62).1[24]? = some (.iload 1) := by rfl
theorem zi_62_25 : (zM 62).1[25]? = some (.ifCond .eq ((28 : Nat) : Int)) := by rfl
theorem zi_62_26 : (zM 62).1[26]? = some (.iconst 0) := by rfl
theorem zi_62_27 : (zM 62).1[27]? = some (.goto ((32 : Nat) : Int)) := by rfl
theorem zi_62_28 : (zM 62).1[28]? = some (.getstatic 5) := by rfl
theorem zi_62_29 : (zM 62).1[29]? = some (.aload 0) := by rfl
theorem zi_62_30 : (zM 62).1[30]? = some (.getfield 4005) := by rfl
theorem zi_62_31 : (zM 62).1[31]? = some (.iaload) := by rfl
theorem zi_62_32 : (zM 62).1[32]? = some (.istore 3) := by rfl
theorem zi_62_33 : (zM 62).1[33]? = some (.aload 0) := by rfl
theorem zi_62_34 : (zM 62).1[34]? = some (.getfield 4005) := by rfl
theorem zi_62_35 : (zM 62).1[35]? = some (.iconst 3) := by rfl
theorem zi_62_36 : (zM 62).1[36]? = some (.if_icmp .ne ((47 : Nat) : Int)) := by rfl
theorem zi_62_37 : (zM 62).1[37]? = some (.aload 0) := by rfl
theorem zi_62_38 : (zM 62).1[38]? = some (.getfield 4006) := by rfl
theorem zi_62_39 : (zM 62).1[39]? = some (.iconst 1) := by rfl
theorem zi_62_40 : (zM 62).1[40]? = some (.if_icmp .ne ((47 : Nat) : Int)) := by rfl
theorem zi_62_41 : (zM 62).1[41]? = some (.aload 0) := by rfl
theorem zi_62_42 : (zM 62).1[42]? = some (.getfield 4201) := by rfl
theorem zi_62_43 : (zM 62).1[43]? = some (.getfield 3200) := by rfl
theorem zi_62_44 : (zM 62).1[44]? = some (.iconst 3) := by rfl
theorem zi_62_45 : (zM 62).1[45]? = some (.iaload) := by rfl
theorem zi_62_46 : (zM 62).1[46]? = some (.istore 3) := by rfl
theorem zi_62_47 : (zM 62).1[47]? = some (.aload 0) := by rfl
theorem zi_62_48 : (zM 62).1[48]? = some (.getfield 4200) := by rfl
theorem zi_62_49 : (zM 62).1[49]? = some (.getfield 8003) := by rfl
theorem zi_62_50 : (zM 62).1[50]? = some (.iconst 2) := by rfl
theorem zi_62_51 : (zM 62).1[51]? = some (.if_icmp .eq ((56 : Nat) : Int)) := by rfl
theorem zi_62_52 : (zM 62).1[52]? = some (.aload 0) := by rfl
theorem zi_62_53 : (zM 62).1[53]? = some (.iconst 2) := by rfl
theorem zi_62_54 : (zM 62).1[54]? = some (.invokevirtual 54) := by rfl
theorem zi_62_55 : (zM 62).1[55]? = some (.goto ((93 : Nat) : Int)) := by rfl
theorem zi_62_56 : (zM 62).1[56]? = some (.aload 0) := by rfl
theorem zi_62_57 : (zM 62).1[57]? = some (.getfield 4200) := by rfl
theorem zi_62_58 : (zM 62).1[58]? = some (.getfield 8004) := by rfl
theorem zi_62_59 : (zM 62).1[59]? = some (.iload 3) := by rfl
theorem zi_62_60 : (zM 62).1[60]? = some (.if_icmp .lt ((69 : Nat) : Int)) := by rfl
theorem zi_62_61 : (zM 62).1[61]? = some (.aload 0) := by rfl
theorem zi_62_62 : (zM 62).1[62]? = some (.getfield 4200) := by rfl
theorem zi_62_63 : (zM 62).1[63]? = some (.getfield 8004) := by rfl
theorem zi_62_64 : (zM 62).1[64]? = some (.iload 2) := by rfl
theorem zi_62_65 : (zM 62).1[65]? = some (.if_icmp .gt ((69 : Nat) : Int)) := by rfl
theorem zi_62_66 : (zM 62).1[66]? = some (.aload 0) := by rfl
theorem zi_62_67 : (zM 62).1[67]? = some (.invokevirtual 63) := by rfl
theorem zi_62_68 : (zM 62).1[68]? = some (.ifCond .ne ((73 : Nat) : Int)) := by rfl
theorem zi_62_69 : (zM 62).1[69]? = some (.aload 0) := by rfl
theorem zi_62_70 : (zM 62).1[70]? = some (.iconst 3) := by rfl
theorem zi_62_71 : (zM 62).1[71]? = some (.invokevirtual 54) := by rfl
theorem zi_62_72 : (zM 62).1[72]? = some (.goto ((93 : Nat) : Int)) := by rfl
theorem zi_62_73 : (zM 62).1[73]? = some (.iload 1) := by rfl
theorem zi_62_74 : (zM 62).1[74]? = some (.ifCond .eq ((78 : Nat) : Int)) := by rfl
theorem zi_62_75 : (zM 62).1[75]? = some (.aload 0) := by rfl
theorem zi_62_76 : (zM 62).1[76]? = some (.invokevirtual 64) := by rfl
theorem zi_62_77 : (zM 62).1[77]? = some (.goto ((93 : Nat) : Int)) := by rfl
theorem zi_62_78 : (zM 62).1[78]? = some (.aload 0) := by rfl
theorem zi_62_79 : (zM 62).1[79]? = some (.getfield 4201) := by rfl
theorem zi_62_80 : (zM 62).1[80]? = some (.getfield 3200) := by rfl
theorem zi_62_81 : (zM 62).1[81]? = some (.aload 0) := by rfl
theorem zi_62_82 : (zM 62).1[82]? = some (.getfield 4007) := by rfl
theorem zi_62_83 : (zM 62).1[83]? = some (.aload 0) := by rfl
theorem zi_62_84 : (zM 62).1[84]? = some (.getfield 4200) := by rfl
theorem zi_62_85 : (zM 62).1[85]? = some (.getfield 8004) := by rfl
theorem zi_62_86 : (zM 62).1[86]? = some (.iastore) := by rfl
theorem zi_62_87 : (zM 62).1[87]? = some (.aload 0) := by rfl
theorem zi_62_88 : (zM 62).1[88]? = some (.dup) := by rfl
theorem zi_62_89 : (zM 62).1[89]? = some (.getfield 4007) := by rfl
theorem zi_62_90 : (zM 62).1[90]? = some (.iconst 1) := by rfl
theorem zi_62_91 : (zM 62).1[91]? = some (.iadd) := by rfl
theorem zi_62_92 : (zM 62).1[92]? = some (.putfield 4007) := by rfl
theorem zi_62_93 : (zM 62).1[93]? = some (.aload 0) := by rfl
theorem zi_62_94 : (zM 62).1[94]? = some (.dup) := by rfl
theorem zi_62_95 : (zM 62).1[95]? = some (.getfield 4006) := by rfl
theorem zi_62_96 : (zM 62).1[96]? = some (.iconst 1) := by rfl
theorem zi_62_97 : (zM 62).1[97]? = some (.iadd) := by rfl
theorem zi_62_98 : (zM 62).1[98]? = some (.putfield 4006) := by rfl
theorem zi_62_99 : (zM 62).1[99]? = some (.return_) := by rfl
def wb_62_93 (E : Nat → Nat) (d : Nat) (Q : Option Value → ZH → Prop) (a0 : Nat) (h : ZH) : Prop := ztag h a0 = 4 ∧ ztag h a0 = 4 ∧ ∀ h10 : ZH, h10 = zuI h a0 6 ((zI h a0 6) + 1) → Q none h10
set_option maxRecDepth 20000 in
theorem okb_62_93 {E : Nat → Nat} {d : Nat} {Q : Option Value → ZH → Prop} {a0 : Nat} {h : ZH} (hw : wb_62_93 E d Q a0 h) : Gx E (d + 1) 62 93 [.ref a0, .retAddr 0, .retAddr 0, .retAddr 0] [] h Q := by
  unfold wb_62_93 at hw
  refine zg_aload zi_62_93 rfl ?_
  refine zg_dup zi_62_94 rfl ?_
  obtain ⟨ht, hw⟩ := hw
  refine zg_getI (v := .int (zI h a0 6)) zi_62_95 ht (by rfl) rfl ?_
  refine zg_const (v := 1) zi_62_96 (by rfl) ?_
  refine zg_iadd zi_62_97 ?_
  obtain ⟨ht, hw⟩ := hw
  refine zg_putI (h1 := zuI h a0 6 ((zI h a0 6) + 1)) zi_62_98 ht (by rfl) rfl ?_
  refine zg_nameH fun h10 eh10 => ?_
  have hw := hw h10 eh10
  exact zg_return zi_62_99 hw
/-- TakeOrPay$Reader.takeNumber()V -/
def w_62 (E : Nat → Nat) (d : Nat) (a0 : Nat) (h : ZH) (Q : Option Value → ZH → Prop) : Prop := ztag h a0 = 4 ∧ (((¬ (zI h a0 6 : Int32) = 0 → (True)) ∧ (¬ (¬ (zI h a0 6 : Int32) = 0) → (ztag h a0 = 4 ∧ ((((zI h a0 5 : Int32) = 14 → (True)) ∧ (¬ ((zI h a0 5 : Int32) = 14) → (ztag h a0 = 4 ∧ True))) ∧ True)))) ∧ ∀ x1 : Int32, x1 = if ¬ (zI h a0 6 : Int32) = 0 then 0 else if (zI h a0 5 : Int32) = 14 then 1 else if ¬ (zI h a0 5 : Int32) = 15 then 0 else 1 → (((x1 = 0 → (ztag h a0 = 4 ∧ (ztag h (E 6) = 13 ∨ ztag h (E 6) = 19) ∧ zin (zI h a0 5) (zlen h (E 6)) = true ∧ True)) ∧ (¬ (x1 = 0) → (True))) ∧ ∀ x2 : Int32, x2 = if x1 = 0 then zI h (E 6) (zI h a0 5 : Int32).toNatClampNeg else 2 → (((x1 = 0 → (ztag h a0 = 4 ∧ (ztag h (E 5) = 13 ∨ ztag h (E 5) = 19) ∧ zin (zI h a0 5) (zlen h (E 5)) = true ∧ True)) ∧ (¬ (x1 = 0) → (True))) ∧ ∀ x3 : Int32, x3 = if x1 = 0 then zI h (E 5) (zI h a0 5 : Int32).toNatClampNeg else 0 → ztag h a0 = 4 ∧ (((¬ (zI h a0 5 : Int32) = 3 → (True)) ∧ (¬ (¬ (zI h a0 5 : Int32) = 3) → (ztag h a0 = 4 ∧ (((¬ (zI h a0 6 : Int32) = 1 → (True)) ∧ (¬ (¬ (zI h a0 6 : Int32) = 1) → (ztag h a0 = 4 ∧ ∃ r4 : Nat, zR h a0 1 = r4 + 1 ∧ ztag h r4 = 3 ∧ ∃ r5 : Nat, zR h r4 0 = r5 + 1 ∧ (ztag h r5 = 13 ∨ ztag h r5 = 19) ∧ zin 3 (zlen h r5) = true ∧ ∀ x6 : Int32, x6 = zI h r5 3 → True))) ∧ True)))) ∧ ztag h a0 = 4 ∧ ∃ r7 : Nat, zR h a0 0 = r7 + 1 ∧ ztag h r7 = 8 ∧ (((zI h r7 3 : Int32) = 2 → (ztag h a0 = 4 ∧ ∃ r8 : Nat, zR h a0 0 = r8 + 1 ∧ ztag h r8 = 8 ∧ (((zI h r8 4 : Int32) < (if ¬ (zI h a0 5 : Int32) = 3 then x3 else if ¬ (zI h a0 6 : Int32) = 1 then x3 else x6 : Int32) → (ztag h a0 = 4 ∧ Ct E d 54 [.ref a0, .int 3] h (fun v h9 => v = none ∧ wb_62_93 E d Q a0 h9))) ∧ (¬ ((zI h r8 4 : Int32) < (if ¬ (zI h a0 5 : Int32) = 3 then x3 else if ¬ (zI h a0 6 : Int32) = 1 then x3 else x6 : Int32)) → (ztag h a0 = 4 ∧ ∃ r11 : Nat, zR h a0 0 = r11 + 1 ∧ ztag h r11 = 8 ∧ ((x2 < (zI h r11 4 : Int32) → (ztag h a0 = 4 ∧ Ct E d 54 [.ref a0, .int 3] h (fun v h12 => v = none ∧ wb_62_93 E d Q a0 h12))) ∧ (¬ (x2 < (zI h r11 4 : Int32)) → (ztag h a0 = 4 ∧ 1 ≤ d ∧ sz_63 E h a0 ∧ ((¬ (fz_63 E h a0 : Int32) = 0 → ((x1 = 0 → (ztag h a0 = 4 ∧ ∃ r13 : Nat, zR h a0 1 = r13 + 1 ∧ ztag h r13 = 3 ∧ ∃ r14 : Nat, zR h r13 0 = r14 + 1 ∧ ztag h a0 = 4 ∧ ztag h a0 = 4 ∧ ∃ r15 : Nat, zR h a0 0 = r15 + 1 ∧ ztag h r15 = 8 ∧ ztag h r14 = 13 ∧ zin (zI h a0 7) (zlen h r14) = true ∧ ∀ h16 : ZH, h16 = zuI h r14 (zI h a0 7 : Int32).toNatClampNeg (zI h r15 4) → ztag h16 a0 = 4 ∧ ztag h16 a0 = 4 ∧ ∀ h17 : ZH, h17 = zuI h16 a0 7 ((zI h16 a0 7) + 1) → wb_62_93 E d Q a0 h17)) ∧ (¬ (x1 = 0) → (ztag h a0 = 4 ∧ Ct E d 64 [.ref a0] h (fun v h18 => v = none ∧ wb_62_93 E d Q a0 h18))))) ∧ (¬ (¬ (fz_63 E h a0 : Int32) = 0) → (ztag h a0 = 4 ∧ Ct E d 54 [.ref a0, .int 3] h (fun v h19 => v = none ∧ wb_62_93 E d Q a0 h19)))))))))))) ∧ (¬ ((zI h r7 3 : Int32) = 2) → (ztag h a0 = 4 ∧ Ct E d 54 [.ref a0, .int 2] h (fun v h20 => v = none ∧ wb_62_93 E d Q a0 h20))))))))
set_option maxRecDepth 20000 in
theorem ok_62 {E : Nat → Nat} {d : Nat} {a0 : Nat} {h : ZH} {Q : Option Value → ZH → Prop} (hw : w_62 E d a0 h Q) : Ct E (d + 1) 62 [.ref a0] h Q := by
  unfold w_62 at hw
  show Gx E (d + 1) 62 0 [.ref a0, .retAddr 0, .retAddr 0, .retAddr 0] [] h Q
  refine zg_aload zi_62_0 rfl ?_
  obtain ⟨ht, hw⟩ := hw
  refine zg_getI (v := .int (zI h a0 6)) zi_62_1 ht (by rfl) rfl ?_
  obtain ⟨hsd2, hw⟩ := hw
  have g2 : Gx E (d + 1) 62 14 [.ref a0, .retAddr 0, .retAddr 0, .retAddr 0] [.int (if ¬ (zI h a0 6 : Int32) = 0 then 0 else if (zI h a0 5 : Int32) = 14 then 1 else if ¬ (zI h a0 5 : Int32) = 15 then 0 else 1)] h Q := by
    refine zg_nameI fun x1 ex1 => ?_
    have hw := hw x1 ex1
    refine zg_istore (ls1 := [.ref a0, .int x1, .retAddr 0, .retAddr 0]) zi_62_14 (by decide) rfl ?_
    refine zg_iload zi_62_15 rfl ?_
    obtain ⟨hsd16, hw⟩ := hw
    have g16 : Gx E (d + 1) 62 23 [.ref a0, .int x1, .retAddr 0, .retAddr 0] [.int (if x1 = 0 then zI h (E 6) (zI h a0 5 : Int32).toNatClampNeg else 2)] h Q := by
      refine zg_nameI fun x2 ex2 => ?_
      have hw := hw x2 ex2
      refine zg_istore (ls1 := [.ref a0, .int x1, .int x2, .retAddr 0]) zi_62_23 (by decide) rfl ?_
      refine zg_iload zi_62_24 rfl ?_
      obtain ⟨hsd25, hw⟩ := hw
      have g25 : Gx E (d + 1) 62 32 [.ref a0, .int x1, .int x2, .retAddr 0] [.int (if x1 = 0 then zI h (E 5) (zI h a0 5 : Int32).toNatClampNeg else 0)] h Q := by
        refine zg_nameI fun x3 ex3 => ?_
        have hw := hw x3 ex3
        refine zg_istore (ls1 := [.ref a0, .int x1, .int x2, .int x3]) zi_62_32 (by decide) rfl ?_
        refine zg_aload zi_62_33 rfl ?_
        obtain ⟨ht, hw⟩ := hw
        refine zg_getI (v := .int (zI h a0 5)) zi_62_34 ht (by rfl) rfl ?_
        refine zg_const (v := 3) zi_62_35 (by rfl) ?_
        obtain ⟨hsd36, hw⟩ := hw
        have g36 : Gx E (d + 1) 62 47 [.ref a0, .int x1, .int x2, .int (if ¬ (zI h a0 5 : Int32) = 3 then x3 else if ¬ (zI h a0 6 : Int32) = 1 then x3 else x6)] [] h Q := by
          refine zg_aload zi_62_47 rfl ?_
          obtain ⟨ht, hw⟩ := hw
          obtain ⟨r7, hr, hw⟩ := hw
          refine zg_getR (v := .ref r7) zi_62_48 ht (by rfl) (by show zrv (zR h a0 0) = _; rw [hr]; rfl) ?_
          obtain ⟨ht, hw⟩ := hw
          refine zg_getI (v := .int (zI h r7 3)) zi_62_49 ht (by rfl) rfl ?_
          refine zg_const (v := 2) zi_62_50 (by rfl) ?_
          refine zg_icmp_eq zi_62_51 (fun hc => ?_) (fun hc => ?_)
          · have hw := hw.1 hc
            refine zg_aload zi_62_56 rfl ?_
            obtain ⟨ht, hw⟩ := hw
            obtain ⟨r8, hr, hw⟩ := hw
            refine zg_getR (v := .ref r8) zi_62_57 ht (by rfl) (by show zrv (zR h a0 0) = _; rw [hr]; rfl) ?_
            obtain ⟨ht, hw⟩ := hw
            refine zg_getI (v := .int (zI h r8 4)) zi_62_58 ht (by rfl) rfl ?_
            refine zg_iload zi_62_59 rfl ?_
            refine zg_icmp_lt zi_62_60 (fun hc => ?_) (fun hc => ?_)
            · have hw := hw.1 hc
              refine zg_aload zi_62_69 rfl ?_
              refine zg_const (v := 3) zi_62_70 (by rfl) ?_
              obtain ⟨ht, hw⟩ := hw
              refine Gx.call (as := [.ref a0, .int 3]) (rest := []) (n := 2) zi_62_71 (by rfl) rfl (by rfl) (by rfl) (by rfl) (by decide) (by simp only [zcat, List.map, List.sum_cons, List.sum_nil, Value.category]; decide) (zrv_v ht (by rfl) (by rfl)) (by decide) ?_
              refine Ct.mono hw ?_
              rintro v h9 ⟨rfl, hw⟩
              show Gx E (d + 1) 62 72 [.ref a0, .int x1, .int x2, .int (if ¬ (zI h a0 5 : Int32) = 3 then x3 else if ¬ (zI h a0 6 : Int32) = 1 then x3 else x6)] [] h9 Q
              refine zg_goto zi_62_72 ?_
              exact Gx.forget ⟨Or.inl rfl, Or.inr rfl, Or.inr rfl, Or.inr rfl, trivial⟩ (okb_62_93 hw)
            · have hw := hw.2 hc
              refine zg_aload zi_62_61 rfl ?_
              obtain ⟨ht, hw⟩ := hw
              obtain ⟨r11, hr, hw⟩ := hw
              refine zg_getR (v := .ref r11) zi_62_62 ht (by rfl) (by show zrv (zR h a0 0) = _; rw [hr]; rfl) ?_
              obtain ⟨ht, hw⟩ := hw
              refine zg_getI (v := .int (zI h r11 4)) zi_62_63 ht (by rfl) rfl ?_
              refine zg_iload zi_62_64 rfl ?_
              refine zg_icmp_gt zi_62_65 (fun hc => ?_) (fun hc => ?_)
              · have hw := hw.1 hc
                refine zg_aload zi_62_69 rfl ?_
                refine zg_const (v := 3) zi_62_70 (by rfl) ?_
                obtain ⟨ht, hw⟩ := hw
                refine Gx.call (as := [.ref a0, .int 3]) (rest := []) (n := 2) zi_62_71 (by rfl) rfl (by rfl) (by rfl) (by rfl) (by decide) (by simp only [zcat, List.map, List.sum_cons, List.sum_nil, Value.category]; decide) (zrv_v ht (by rfl) (by rfl)) (by decide) ?_
                refine Ct.mono hw ?_
                rintro v h12 ⟨rfl, hw⟩
                show Gx E (d + 1) 62 72 [.ref a0, .int x1, .int x2, .int (if ¬ (zI h a0 5 : Int32) = 3 then x3 else if ¬ (zI h a0 6 : Int32) = 1 then x3 else x6)] [] h12 Q
                refine zg_goto zi_62_72 ?_
                exact Gx.forget ⟨Or.inl rfl, Or.inr rfl, Or.inr rfl, Or.inr rfl, trivial⟩ (okb_62_93 hw)
              · have hw := hw.2 hc
                refine zg_aload zi_62_66 rfl ?_
                obtain ⟨ht, hw⟩ := hw
                obtain ⟨hd, hs, hw⟩ := hw
                refine Gx.call (as := [.ref a0]) (rest := []) (n := 1) zi_62_67 (by rfl) rfl (by rfl) (by rfl) (by rfl) (by decide) (by simp only [zcat, List.map, List.sum_cons, List.sum_nil, Value.category]; decide) (zrv_v ht (by rfl) (by rfl)) (by decide) ?_
                refine cz_63 hd hs ?_
                show Gx E (d + 1) 62 68 [.ref a0, .int x1, .int x2, .int (if ¬ (zI h a0 5 : Int32) = 3 then x3 else if ¬ (zI h a0 6 : Int32) = 1 then x3 else x6)] [.int (fz_63 E h a0)] h Q
                refine zg_if_ne zi_62_68 (fun hc => ?_) (fun hc => ?_)
                · have hw := hw.1 hc
                  refine zg_iload zi_62_73 rfl ?_
                  refine zg_if_eq zi_62_74 (fun hc => ?_) (fun hc => ?_)
                  · have hw := hw.1 hc
                    refine zg_aload zi_62_78 rfl ?_
                    obtain ⟨ht, hw⟩ := hw
                    obtain ⟨r13, hr, hw⟩ := hw
                    refine zg_getR (v := .ref r13) zi_62_79 ht (by rfl) (by show zrv (zR h a0 1) = _; rw [hr]; rfl) ?_
                    obtain ⟨ht, hw⟩ := hw
                    obtain ⟨r14, hr, hw⟩ := hw
                    refine zg_getR (v := .ref r14) zi_62_80 ht (by rfl) (by show zrv (zR h r13 0) = _; rw [hr]; rfl) ?_
                    refine zg_aload zi_62_81 rfl ?_
                    obtain ⟨ht, hw⟩ := hw
                    refine zg_getI (v := .int (zI h a0 7)) zi_62_82 ht (by rfl) rfl ?_
                    refine zg_aload zi_62_83 rfl ?_
                    obtain ⟨ht, hw⟩ := hw
                    obtain ⟨r15, hr, hw⟩ := hw
                    refine zg_getR (v := .ref r15) zi_62_84 ht (by rfl) (by show zrv (zR h a0 0) = _; rw [hr]; rfl) ?_
                    obtain ⟨ht, hw⟩ := hw
                    refine zg_getI (v := .int (zI h r15 4)) zi_62_85 ht (by rfl) rfl ?_
                    obtain ⟨ht, hb, hw⟩ := hw
                    refine zg_iastore (h1 := zuI h r14 (zI h a0 7 : Int32).toNatClampNeg (zI h r15 4)) zi_62_86 ht hb rfl ?_
                    refine zg_nameH fun h16 eh16 => ?_
                    have hw := hw h16 eh16
                    refine zg_aload zi_62_87 rfl ?_
                    refine zg_dup zi_62_88 rfl ?_
                    obtain ⟨ht, hw⟩ := hw
                    refine zg_getI (v := .int (zI h16 a0 7)) zi_62_89 ht (by rfl) rfl ?_
                    refine zg_const (v := 1) zi_62_90 (by rfl) ?_
                    refine zg_iadd zi_62_91 ?_
                    obtain ⟨ht, hw⟩ := hw
                    refine zg_putI (h1 := zuI h16 a0 7 ((zI h16 a0 7) + 1)) zi_62_92 ht (by rfl) rfl ?_
                    refine zg_nameH fun h17 eh17 => ?_
                    have hw := hw h17 eh17
                    exact Gx.forget ⟨Or.inl rfl, Or.inr rfl, Or.inr rfl, Or.inr rfl, trivial⟩ (okb_62_93 hw)
                  · have hw := hw.2 hc
                    refine zg_aload zi_62_75 rfl ?_
                    obtain ⟨ht, hw⟩ := hw
                    refine Gx.call (as := [.ref a0]) (rest := []) (n := 1) zi_62_76 (by rfl) rfl (by rfl) (by rfl) (by rfl) (by decide) (by simp only [zcat, List.map, List.sum_cons, List.sum_nil, Value.category]; decide) (zrv_v ht (by rfl) (by rfl)) (by decide) ?_
                    refine Ct.mono hw ?_
                    rintro v h18 ⟨rfl, hw⟩
                    show Gx E (d + 1) 62 77 [.ref a0, .int x1, .int x2, .int (if ¬ (zI h a0 5 : Int32) = 3 then x3 else if ¬ (zI h a0 6 : Int32) = 1 then x3 else x6)] [] h18 Q
                    refine zg_goto zi_62_77 ?_
                    exact Gx.forget ⟨Or.inl rfl, Or.inr rfl, Or.inr rfl, Or.inr rfl, trivial⟩ (okb_62_93 hw)
                · have hw := hw.2 hc
                  refine zg_aload zi_62_69 rfl ?_
                  refine zg_const (v := 3) zi_62_70 (by rfl) ?_
                  obtain ⟨ht, hw⟩ := hw
                  refine Gx.call (as := [.ref a0, .int 3]) (rest := []) (n := 2) zi_62_71 (by rfl) rfl (by rfl) (by rfl) (by rfl) (by decide) (by simp only [zcat, List.map, List.sum_cons, List.sum_nil, Value.category]; decide) (zrv_v ht (by rfl) (by rfl)) (by decide) ?_
                  refine Ct.mono hw ?_
                  rintro v h19 ⟨rfl, hw⟩
                  show Gx E (d + 1) 62 72 [.ref a0, .int x1, .int x2, .int (if ¬ (zI h a0 5 : Int32) = 3 then x3 else if ¬ (zI h a0 6 : Int32) = 1 then x3 else x6)] [] h19 Q
                  refine zg_goto zi_62_72 ?_
                  exact Gx.forget ⟨Or.inl rfl, Or.inr rfl, Or.inr rfl, Or.inr rfl, trivial⟩ (okb_62_93 hw)
          · have hw := hw.2 hc
            refine zg_aload zi_62_52 rfl ?_
            refine zg_const (v := 2) zi_62_53 (by rfl) ?_
            obtain ⟨ht, hw⟩ := hw
            refine Gx.call (as := [.ref a0, .int 2]) (rest := []) (n := 2) zi_62_54 (by rfl) rfl (by rfl) (by rfl) (by rfl) (by decide) (by simp only [zcat, List.map, List.sum_cons, List.sum_nil, Value.category]; decide) (zrv_v ht (by rfl) (by rfl)) (by decide) ?_
            refine Ct.mono hw ?_
            rintro v h20 ⟨rfl, hw⟩
            show Gx E (d + 1) 62 55 [.ref a0, .int x1, .int x2, .int (if ¬ (zI h a0 5 : Int32) = 3 then x3 else if ¬ (zI h a0 6 : Int32) = 1 then x3 else x6)] [] h20 Q
            refine zg_goto zi_62_55 ?_
            exact Gx.forget ⟨Or.inl rfl, Or.inr rfl, Or.inr rfl, Or.inr rfl, trivial⟩ (okb_62_93 hw)
        refine zg_icmp_ne zi_62_36 (fun hc36 => ?_) (fun hc36 => ?_)
        · have hw := hsd36.1 hc36
          have hg := g36
          simp only [if_pos hc36] at hg
          exact hg
        · have hw := hsd36.2 hc36
          refine zg_aload zi_62_37 rfl ?_
          obtain ⟨ht, hw⟩ := hw
          refine zg_getI (v := .int (zI h a0 6)) zi_62_38 ht (by rfl) rfl ?_
          refine zg_const (v := 1) zi_62_39 (by rfl) ?_
          obtain ⟨hsd40, hw⟩ := hw
          have g40 : Gx E (d + 1) 62 47 [.ref a0, .int x1, .int x2, .int (if ¬ (zI h a0 6 : Int32) = 1 then x3 else x6)] [] h Q := by
            have hg := g36
            simp only [if_neg hc36] at hg
            exact hg
          refine zg_icmp_ne zi_62_40 (fun hc40 => ?_) (fun hc40 => ?_)
          · have hw := hsd40.1 hc40
            have hg := g40
            simp only [if_pos hc40] at hg
            exact hg
          · have hw := hsd40.2 hc40
            refine zg_aload zi_62_41 rfl ?_
            obtain ⟨ht, hw⟩ := hw
            obtain ⟨r4, hr, hw⟩ := hw
            refine zg_getR (v := .ref r4) zi_62_42 ht (by rfl) (by show zrv (zR h a0 1) = _; rw [hr]; rfl) ?_
            obtain ⟨ht, hw⟩ := hw
            obtain ⟨r5, hr, hw⟩ := hw
            refine zg_getR (v := .ref r5) zi_62_43 ht (by rfl) (by show zrv (zR h r4 0) = _; rw [hr]; rfl) ?_
            refine zg_const (v := 3) zi_62_44 (by rfl) ?_
            obtain ⟨ht, hb, hw⟩ := hw
            refine zg_iaload (v := .int (zI h r5 3)) zi_62_45 ht hb rfl ?_
            refine zg_nameI fun x6 ex6 => ?_
            have hw := hw x6 ex6
            refine zg_istore (ls1 := [.ref a0, .int x1, .int x2, .int x6]) zi_62_46 (by decide) rfl ?_
            have hg := g40
            simp only [if_neg hc40] at hg
            exact hg
      refine zg_if_eq zi_62_25 (fun hc25 => ?_) (fun hc25 => ?_)
      · have hw := hsd25.1 hc25
        refine zg_getstatic zi_62_28 ?_
        refine zg_aload zi_62_29 rfl ?_
        obtain ⟨ht, hw⟩ := hw
        refine zg_getI (v := .int (zI h a0 5)) zi_62_30 ht (by rfl) rfl ?_
        obtain ⟨ht, hb, hw⟩ := hw
        refine zg_iaload (v := .int (zI h (E 5) (zI h a0 5 : Int32).toNatClampNeg)) zi_62_31 ht hb rfl ?_
        have hg := g25
        simp only [if_pos hc25] at hg
        exact hg
      · have hw := hsd25.2 hc25
        refine zg_const (v := 0) zi_62_26 (by rfl) ?_
        refine zg_goto zi_62_27 ?_
        have hg := g25
        simp only [if_neg hc25] at hg
        exact hg
    refine zg_if_eq zi_62_16 (fun hc16 => ?_) (fun hc16 => ?_)
    · have hw := hsd16.1 hc16
      refine zg_getstatic zi_62_19 ?_
      refine zg_aload zi_62_20 rfl ?_
      obtain ⟨ht, hw⟩ := hw
      refine zg_getI (v := .int (zI h a0 5)) zi_62_21 ht (by rfl) rfl ?_
      obtain ⟨ht, hb, hw⟩ := hw
      refine zg_iaload (v := .int (zI h (E 6) (zI h a0 5 : Int32).toNatClampNeg)) zi_62_22 ht hb rfl ?_
      have hg := g16
      simp only [if_pos hc16] at hg
      exact hg
    · have hw := hsd16.2 hc16
      refine zg_const (v := 2) zi_62_17 (by rfl) ?_
      refine zg_goto zi_62_18 ?_
      have hg := g16
      simp only [if_neg hc16] at hg
      exact hg
  refine zg_if_ne zi_62_2 (fun hc2 => ?_) (fun hc2 => ?_)
  · have hw := hsd2.1 hc2
    refine zg_const (v := 0) zi_62_13 (by rfl) ?_
    have hg := g2
    simp only [if_pos hc2] at hg
    exact hg
  · have hw := hsd2.2 hc2
    refine zg_aload zi_62_3 rfl ?_
    obtain ⟨ht, hw⟩ := hw
    refine zg_getI (v := .int (zI h a0 5)) zi_62_4 ht (by rfl) rfl ?_
    refine zg_const (v := 14) zi_62_5 (by rfl) ?_
    obtain ⟨hsd6, hw⟩ := hw
    have g6 : Gx E (d + 1) 62 14 [.ref a0, .retAddr 0, .retAddr 0, .retAddr 0] [.int (if (zI h a0 5 : Int32) = 14 then 1 else if ¬ (zI h a0 5 : Int32) = 15 then 0 else 1)] h Q := by
      have hg := g2
      simp only [if_neg hc2] at hg
      exact hg
    refine zg_icmp_eq zi_62_6 (fun hc6 => ?_) (fun hc6 => ?_)
    · have hw := hsd6.1 hc6
      refine zg_const (v := 1) zi_62_11 (by rfl) ?_
      refine zg_goto zi_62_12 ?_
      have hg := g6
      simp only [if_pos hc6] at hg
      exact hg
    · have hw := hsd6.2 hc6
      refine zg_aload zi_62_7 rfl ?_
      obtain ⟨ht, hw⟩ := hw
      refine zg_getI (v := .int (zI h a0 5)) zi_62_8 ht (by rfl) rfl ?_
      refine zg_const (v := 15) zi_62_9 (by rfl) ?_
      have g10 : Gx E (d + 1) 62 14 [.ref a0, .retAddr 0, .retAddr 0, .retAddr 0] [.int (if ¬ (zI h a0 5 : Int32) = 15 then 0 else 1)] h Q := by
        have hg := g6
        simp only [if_neg hc6] at hg
        exact hg
      refine zg_icmp_ne zi_62_10 (fun hc10 => ?_) (fun hc10 => ?_)
      · skip
        refine zg_const (v := 0) zi_62_13 (by rfl) ?_
        have hg := g10
        simp only [if_pos hc10] at hg
        exact hg
      · skip
        refine zg_const (v := 1) zi_62_11 (by rfl) ?_
        refine zg_goto zi_62_12 ?_
        have hg := g10
        simp only [if_neg hc10] at hg
        exact hg
theorem zi_55_0 : (zM 55).1[0]? = some (.aload 0) := by rfl
theorem zi_55_1 : (zM 55).1[1]? = some (.getfield 4200) := by rfl
theorem zi_55_2 : (zM 55).1[2]? = some (.getfield 8003) := by rfl
theorem zi_55_3 : (zM 55).1[3]? = some (.ifCond .ne ((8 : Nat) : Int)) := by rfl
theorem zi_55_4 : (zM 55).1[4]? = some (.aload 0) := by rfl
theorem zi_55_5 : (zM 55).1[5]? = some (.iconst 1) := by rfl
theorem zi_55_6 : (zM 55).1[6]? = some (.invokevirtual 54) := by rfl
theorem zi_55_7 : (zM 55).1[7]? = some (.goto ((41 : Nat) : Int)) := by rfl
theorem zi_55_8 : (zM 55).1[8]? = some (.aload 0) := by rfl
theorem zi_55_9 : (zM 55).1[9]? = some (.getfield 4005) := by rfl
theorem zi_55_10 : (zM 55).1[10]? = some (.iconst (-4)) := by rfl
theorem zi_55_11 : (zM 55).1[11]? = some (.if_icmp .ne ((15 : Nat) : Int)) := by rfl
theorem zi_55_12 : (zM 55).1[12]? = some (.aload 0) := by rfl
theorem zi_55_13 : (zM 55).1[13]? = some (.invokevirtual 57) := by rfl
theorem zi_55_14 : (zM 55).1[14]? = some (.goto ((41 : Nat) : Int)) := by rfl
theorem zi_55_15 : (zM 55).1[15]? = some (.aload 0) := by rfl
theorem zi_55_16 : (zM 55).1[16]? = some (.getfield 4006) := by rfl
theorem zi_55_17 : (zM 55).1[17]? = some (.getstatic 4) := by rfl
theorem zi_55_18 : (zM 55).1[18]? = some (.aload 0) := by rfl
theorem zi_55_19 : (zM 55).1[19]? = some (.getfield 4005) := by rfl
theorem zi_55_20 : (zM 55).1[20]? = some (.iaload) := by rfl
theorem zi_55_21 : (zM 55).1[21]? = some (.if_icmp .ne ((25 : Nat) : Int)) := by rfl
theorem zi_55_22 : (zM 55).1[22]? = some (.aload 0) := by rfl
theorem zi_55_23 : (zM 55).1[23]? = some (.invokevirtual 58) := by rfl
theorem zi_55_24 : (zM 55).1[24]? = some (.goto ((41 : Nat) : Int)) := by rfl
theorem zi_55_25 : (zM 55).1[25]? = some (.aload 0) := by rfl
theorem zi_55_26 : (zM 55).1[26]? = some (.getfield 4005) := by rfl
theorem zi_55_27 : (zM 55).1[27]? = some (.iconst 8) := by rfl
theorem zi_55_28 : (zM 55).1[28]? = some (.if_icmp .ne ((32 : Nat) : Int)) := by rfl
theorem zi_55_29 : (zM 55).1[29]? = some (.aload 0) := by rfl
theorem zi_55_30 : (zM 55).1[30]? = some (.invokevirtual 60) := by rfl
theorem zi_55_31 : (zM 55).1[31]? = some (.goto ((41 : Nat) : Int)) := by rfl
theorem zi_55_32 : (zM 55).1[32]? = some (.aload 0) := by rfl
theorem zi_55_33 : (zM 55).1[33]? = some (.getfield 4005) := by rfl
theorem zi_55_34 : (zM 55).1[34]? = some (.iconst 12) := by rfl
theorem zi_55_35 : (zM 55).1[35]? = some (.if_icmp .ne ((39 : Nat) : Int)) := by rfl
theorem zi_55_36 : (zM 55).1[36]? = some (.aload 0) := by rfl
theorem zi_55_37 : (zM 55).1[37]? = some (.invokevirtual 61) := by rfl
theorem zi_55_38 : (zM 55).1[38]? = some (.goto ((41 : Nat) : Int)) := by rfl
theorem zi_55_39 : (zM 55).1[39]? = some (.aload 0) := by rfl
theorem zi_55_40 : (zM 55).1[40]? = some (.invokevirtual 62) := by rfl
theorem zi_55_41 : (zM 55).1[41]? = some (.return_) := by rfl
/-- TakeOrPay$Reader.takeToken()V -/
def w_55 (E : Nat → Nat) (d : Nat) (a0 : Nat) (h : ZH) (Q : Option Value → ZH → Prop) : Prop := ztag h a0 = 4 ∧ ∃ r1 : Nat, zR h a0 0 = r1 + 1 ∧ ztag h r1 = 8 ∧ ((¬ (zI h r1 3 : Int32) = 0 → (ztag h a0 = 4 ∧ ((¬ (zI h a0 5 : Int32) = ((-4) : Int32) → (ztag h a0 = 4 ∧ ztag h a0 = 4 ∧ (ztag h (E 4) = 13 ∨ ztag h (E 4) = 19) ∧ zin (zI h a0 5) (zlen h (E 4)) = true ∧ ((¬ (zI h a0 6 : Int32) = (zI h (E 4) (zI h a0 5 : Int32).toNatClampNeg : Int32) → (ztag h a0 = 4 ∧ ((¬ (zI h a0 5 : Int32) = 8 → (ztag h a0 = 4 ∧ ((¬ (zI h a0 5 : Int32) = 12 → (ztag h a0 = 4 ∧ Ct E d 62 [.ref a0] h (fun v h2 => v = none ∧ Q none h2))) ∧ (¬ (¬ (zI h a0 5 : Int32) = 12) → (ztag h a0 = 4 ∧ Ct E d 61 [.ref a0] h (fun v h3 => v = none ∧ Q none h3)))))) ∧ (¬ (¬ (zI h a0 5 : Int32) = 8) → (ztag h a0 = 4 ∧ Ct E d 60 [.ref a0] h (fun v h4 => v = none ∧ Q none h4)))))) ∧ (¬ (¬ (zI h a0 6 : Int32) = (zI h (E 4) (zI h a0 5 : Int32).toNatClampNeg : Int32)) → (ztag h a0 = 4 ∧ Ct E d 58 [.ref a0] h (fun v h5 => v = none ∧ Q none h5)))))) ∧ (¬ (¬ (zI h a0 5 : Int32) = ((-4) : Int32)) → (ztag h a0 = 4 ∧ Ct E d 57 [.ref a0] h (fun v h6 => v = none ∧ Q none h6)))))) ∧ (¬ (¬ (zI h r1 3 : Int32) = 0) → (ztag h a0 = 4 ∧ Ct E d 54 [.ref a0, .int 1] h (fun v h7 => v = none ∧ Q none h7))))
set_option maxRecDepth 20000 in
theorem ok_55 {E : Nat → Nat} {d : Nat} {a0 : Nat} {h : ZH} {Q : Option Value → ZH → Prop} (hw : w_55 E d a0 h Q) : Ct E (d + 1) 55 [.ref a0] h Q := by
  unfold w_55 at hw
  show Gx E (d + 1) 55 0 [.ref a0] [] h Q
  refine zg_aload zi_55_0 rfl ?_
  obtain ⟨ht, hw⟩ := hw
  obtain ⟨r1, hr, hw⟩ := hw
  refine zg_getR (v := .ref r1) zi_55_1 ht (by rfl) (by show zrv (zR h a0 0) = _; rw [hr]; rfl) ?_
  obtain ⟨ht, hw⟩ := hw
  refine zg_getI (v := .int (zI h r1 3)) zi_55_2 ht (by rfl) rfl ?_
  refine zg_if_ne zi_55_3 (fun hc => ?_) (fun hc => ?_)
  · have hw := hw.1 hc
    refine zg_aload zi_55_8 rfl ?_
    obtain ⟨ht, hw⟩ := hw
    refine zg_getI (v := .int (zI h a0 5)) zi_55_9 ht (by rfl) rfl ?_
    refine zg_const (v := (-4)) zi_55_10 (by rfl) ?_
    refine zg_icmp_ne zi_55_11 (fun hc => ?_) (fun hc => ?_)
    · have hw := hw.1 hc
      refine zg_aload zi_55_15 rfl ?_
      obtain ⟨ht, hw⟩ := hw
      refine zg_getI (v := .int (zI h a0 6)) zi_55_16 ht (by rfl) rfl ?_
      refine zg_getstatic zi_55_17 ?_
      refine zg_aload zi_55_18 rfl ?_
      obtain ⟨ht, hw⟩ := hw
      refine zg_getI (v := .int (zI h a0 5)) zi_55_19 ht (by rfl) rfl ?_
      obtain ⟨ht, hb, hw⟩ := hw
      refine zg_iaload (v := .int (zI h (E 4) (zI h a0 5 : Int32).toNatClampNeg)) zi_55_20 ht hb rfl ?_
      refine zg_icmp_ne zi_55_21 (fun hc => ?_) (fun hc => ?_)
      · have hw := hw.1 hc
        refine zg_aload zi_55_25 rfl ?_
        obtain ⟨ht, hw⟩ := hw
        refine zg_getI (v := .int (zI h a0 5)) zi_55_26 ht (by rfl) rfl ?_
        refine zg_const (v := 8) zi_55_27 (by rfl) ?_
        refine zg_icmp_ne zi_55_28 (fun hc => ?_) (fun hc => ?_)
        · have hw := hw.1 hc
          refine zg_aload zi_55_32 rfl ?_
          obtain ⟨ht, hw⟩ := hw
          refine zg_getI (v := .int (zI h a0 5)) zi_55_33 ht (by rfl) rfl ?_
          refine zg_const (v := 12) zi_55_34 (by rfl) ?_
          refine zg_icmp_ne zi_55_35 (fun hc => ?_) (fun hc => ?_)
          · have hw := hw.1 hc
            refine zg_aload zi_55_39 rfl ?_
            obtain ⟨ht, hw⟩ := hw
            refine Gx.call (as := [.ref a0]) (rest := []) (n := 1) zi_55_40 (by rfl) rfl (by rfl) (by rfl) (by rfl) (by decide) (by simp only [zcat, List.map, List.sum_cons, List.sum_nil, Value.category]; decide) (zrv_v ht (by rfl) (by rfl)) (by decide) ?_
            refine Ct.mono hw ?_
            rintro v h2 ⟨rfl, hw⟩
            show Gx E (d + 1) 55 41 [.ref a0] [] h2 Q
            exact zg_return zi_55_41 hw
          · have hw := hw.2 hc
            refine zg_aload zi_55_36 rfl ?_
            obtain ⟨ht, hw⟩ := hw
            refine Gx.call (as := [.ref a0]) (rest := []) (n := 1) zi_55_37 (by rfl) rfl (by rfl) (by rfl) (by rfl) (by decide) (by simp only [zcat, List.map, List.sum_cons, List.sum_nil, Value.category]; decide) (zrv_v ht (by rfl) (by rfl)) (by decide) ?_
            refine Ct.mono hw ?_
            rintro v h3 ⟨rfl, hw⟩
            show Gx E (d + 1) 55 38 [.ref a0] [] h3 Q
            refine zg_goto zi_55_38 ?_
            exact zg_return zi_55_41 hw
        · have hw := hw.2 hc
          refine zg_aload zi_55_29 rfl ?_
          obtain ⟨ht, hw⟩ := hw
          refine Gx.call (as := [.ref a0]) (rest := []) (n := 1) zi_55_30 (by rfl) rfl (by rfl) (by rfl) (by rfl) (by decide) (by simp only [zcat, List.map, List.sum_cons, List.sum_nil, Value.category]; decide) (zrv_v ht (by rfl) (by rfl)) (by decide) ?_
          refine Ct.mono hw ?_
          rintro v h4 ⟨rfl, hw⟩
          show Gx E (d + 1) 55 31 [.ref a0] [] h4 Q
          refine zg_goto zi_55_31 ?_
          exact zg_return zi_55_41 hw
      · have hw := hw.2 hc
        refine zg_aload zi_55_22 rfl ?_
        obtain ⟨ht, hw⟩ := hw
        refine Gx.call (as := [.ref a0]) (rest := []) (n := 1) zi_55_23 (by rfl) rfl (by rfl) (by rfl) (by rfl) (by decide) (by simp only [zcat, List.map, List.sum_cons, List.sum_nil, Value.category]; decide) (zrv_v ht (by rfl) (by rfl)) (by decide) ?_
        refine Ct.mono hw ?_
        rintro v h5 ⟨rfl, hw⟩
        show Gx E (d + 1) 55 24 [.ref a0] [] h5 Q
        refine zg_goto zi_55_24 ?_
        exact zg_return zi_55_41 hw
    · have hw := hw.2 hc
      refine zg_aload zi_55_12 rfl ?_
      obtain ⟨ht, hw⟩ := hw
      refine Gx.call (as := [.ref a0]) (rest := []) (n := 1) zi_55_13 (by rfl) rfl (by rfl) (by rfl) (by rfl) (by decide) (by simp only [zcat, List.map, List.sum_cons, List.sum_nil, Value.category]; decide) (zrv_v ht (by rfl) (by rfl)) (by decide) ?_
      refine Ct.mono hw ?_
      rintro v h6 ⟨rfl, hw⟩
      show Gx E (d + 1) 55 14 [.ref a0] [] h6 Q
      refine zg_goto zi_55_14 ?_
      exact zg_return zi_55_41 hw
  · have hw := hw.2 hc
    refine zg_aload zi_55_4 rfl ?_
    refine zg_const (v := 1) zi_55_5 (by rfl) ?_
    obtain ⟨ht, hw⟩ := hw
    refine Gx.call (as := [.ref a0, .int 1]) (rest := []) (n := 2) zi_55_6 (by rfl) rfl (by rfl) (by rfl) (by rfl) (by decide) (by simp only [zcat, List.map, List.sum_cons, List.sum_nil, Value.category]; decide) (zrv_v ht (by rfl) (by rfl)) (by decide) ?_
    refine Ct.mono hw ?_
    rintro v h7 ⟨rfl, hw⟩
    show Gx E (d + 1) 55 7 [.ref a0] [] h7 Q
    refine zg_goto zi_55_7 ?_
    exact zg_return zi_55_41 hw
theorem zi_53_0 : (zM 53).1[0]? = some (.aload 0) := by rfl
theorem zi_53_1 : (zM 53).1[1]? = some (.getfield 4201) := by rfl
theorem zi_53_2 : (zM 53).1[2]? = some (.invokevirtual 30) := by rfl
theorem zi_53_3 : (zM 53).1[3]? = some (.aload 0) := by rfl
theorem zi_53_4 : (zM 53).1[4]? = some (.iconst 0) := by rfl
theorem zi_53_5 : (zM 53).1[5]? = some (.putfield 4002) := by rfl
theorem zi_53_6 : (zM 53).1[6]? = some (.aload 0) := by rfl
theorem zi_53_7 : (zM 53).1[7]? = some (.iconst 0) := by rfl
theorem zi_53_8 : (zM 53).1[8]? = some (.putfield 4003) := by rfl
theorem zi_53_9 : (zM 53).1[9]? = some (.aload 0) := by rfl
theorem zi_53_10 : (zM 53).1[10]? = some (.iconst (-4)) := by rfl
theorem zi_53_11 : (zM 53).1[11]? = some (.putfield 4005) := by rfl
theorem zi_53_12 : (zM 53).1[12]? = some (.iconst 0) := by rfl
theorem zi_53_13 : (zM 53).1[13]? = some (.istore 1) := by rfl
theorem zi_53_14 : (zM 53).1[14]? = some (.aload 0) := by rfl
theorem zi_53_15 : (zM 53).1[15]? = some (.getfield 4200) := by rfl
theorem zi_53_16 : (zM 53).1[16]? = some (.iconst 0) := by rfl
theorem zi_53_17 : (zM 53).1[17]? = some (.putfield 8002) := by rfl
theorem zi_53_18 : (zM 53).1[18]? = some (.aload 0) := by rfl
theorem zi_53_19 : (zM 53).1[19]? = some (.getfield 4200) := by rfl
theorem zi_53_20 : (zM 53).1[20]? = some (.invokevirtual 79) := by rfl
theorem zi_53_21 : (zM 53).1[21]? = some (.iconst 0) := by rfl
theorem zi_53_22 : (zM 53).1[22]? = some (.istore 2) := by rfl
theorem zi_53_23 : (zM 53).1[23]? = some (.iload 2) := by rfl
theorem zi_53_24 : (zM 53).1[24]? = some (.iconst 320) := by rfl
theorem zi_53_25 : (zM 53).1[25]? = some (.if_icmp .ge ((55 : Nat) : Int)) := by rfl
theorem zi_53_26 : (zM 53).1[26]? = some (.aload 0) := by rfl
theorem zi_53_27 : (zM 53).1[27]? = some (.getfield 4200) := by rfl
theorem zi_53_28 : (zM 53).1[28]? = some (.getfield 8003) := by rfl
theorem zi_53_29 : (zM 53).1[29]? = some (.iconst 4) := by rfl
theorem zi_53_30 : (zM 53).1[30]? = some (.if_icmp .eq ((55 : Nat) : Int)) := by rfl
theorem zi_53_31 : (zM 53).1[31]? = some (.aload 0) := by rfl
theorem zi_53_32 : (zM 53).1[32]? = some (.getfield 4003) := by rfl
theorem zi_53_33 : (zM 53).1[33]? = some (.ifCond .ne ((55 : Nat) : Int)) := by rfl
theorem zi_53_34 : (zM 53).1[34]? = some (.aload 0) := by rfl
theorem zi_53_35 : (zM 53).1[35]? = some (.invokevirtual 55) := by rfl
theorem zi_53_36 : (zM 53).1[36]? = some (.aload 0) := by rfl
theorem zi_53_37 : (zM 53).1[37]? = some (.getfield 4003) := by rfl
theorem zi_53_38 : (zM 53).1[38]? = some (.ifCond .ne ((53 : Nat) : Int)) := by rfl
theorem zi_53_39 : (zM 53).1[39]? = some (.iload 1) := by rfl
theorem zi_53_40 : (zM 53).1[40]? = some (.aload 0) := by rfl
theorem zi_53_41 : (zM 53).1[41]? = some (.getfield 4200) := by rfl
theorem zi_53_42 : (zM 53).1[42]? = some (.getfield 8003) := by rfl
theorem zi_53_43 : (zM 53).1[43]? = some (.iconst 3) := by rfl
theorem zi_53_44 : (zM 53).1[44]? = some (.if_icmp .ne ((47 : Nat) : Int)) := by rfl
theorem zi_53_45 : (zM 53).1[45]? = some (.iconst 1) := by rfl
theorem zi_53_46 : (zM 53).1[46]? = some (.goto ((48 : Nat) : Int)) := by rfl
theorem zi_53_47 : (zM 53).1[47]? = some (.iconst 0) := by rfl
theorem zi_53_48 : (zM 53).1[48]? = some (.iadd) := by rfl
theorem zi_53_49 : (zM 53).1[49]? = some (.istore 1) := by rfl
theorem zi_53_50 : (zM 53).1[50]? = some (.aload 0) := by rfl
theorem zi_53_51 : (zM 53).1[51]? = some (.getfield 4200) := by rfl
theorem zi_53_52 : (zM 53).1[52]? = some (.invokevirtual 79) := by rfl
theorem zi_53_53 : (zM 53).1[53]? = some (.iinc 2 1) := by rfl
theorem zi_53_54 : (zM 53).1[54]? = some (.goto ((23 : Nat) : Int)) := by rfl
theorem zi_53_55 : (zM 53).1[55]? = some (.aload 0) := by rfl
theorem zi_53_56 : (zM 53).1[56]? = some (.getfield 4005) := by rfl
theorem zi_53_57 : (zM 53).1[57]? = some (.iconst (-4)) := by rfl
theorem zi_53_58 : (zM 53).1[58]? = some (.if_icmp .eq ((62 : Nat) : Int)) := by rfl
theorem zi_53_59 : (zM 53).1[59]? = some (.aload 0) := by rfl
theorem zi_53_60 : (zM 53).1[60]? = some (.iconst 2) := by rfl
theorem zi_53_61 : (zM 53).1[61]? = some (.invokevirtual 54) := by rfl
theorem zi_53_62 : (zM 53).1[62]? = some (.iload 1) := by rfl
theorem zi_53_63 : (zM 53).1[63]? = some (.ireturn) := by rfl
def wb_53_62 (E : Nat → Nat) (d : Nat) (Q : Option Value → ZH → Prop) (a1 : Int32) (h : ZH) : Prop := Q (some (.int a1)) h
set_option maxRecDepth 20000 in
theorem okb_53_62 {E : Nat → Nat} {d : Nat} {Q : Option Value → ZH → Prop} {a1 : Int32} {h : ZH} (hw : wb_53_62 E d Q a1 h) : Gx E (d + 1) 53 62 [.retAddr 0, .int a1, .retAddr 0] [] h Q := by
  unfold wb_53_62 at hw
  refine zg_iload zi_53_62 rfl ?_
  exact zg_ireturn zi_53_63 (by decide) hw
def wb_53_55 (E : Nat → Nat) (d : Nat) (Q : Option Value → ZH → Prop) (a0 : Nat) (a1 : Int32) (h : ZH) : Prop := ztag h a0 = 4 ∧ (((zI h a0 5 : Int32) = ((-4) : Int32) → (wb_53_62 E d Q a1 h)) ∧ (¬ ((zI h a0 5 : Int32) = ((-4) : Int32)) → (ztag h a0 = 4 ∧ Ct E d 54 [.ref a0, .int 2] h (fun v h10 => v = none ∧ wb_53_62 E d Q a1 h10))))
set_option maxRecDepth 20000 in
theorem okb_53_55 {E : Nat → Nat} {d : Nat} {Q : Option Value → ZH → Prop} {a0 : Nat} {a1 : Int32} {h : ZH} (hw : wb_53_55 E d Q a0 a1 h) : Gx E (d + 1) 53 55 [.ref a0, .int a1, .retAddr 0] [] h Q := by
  unfold wb_53_55 at hw
  refine zg_aload zi_53_55 rfl ?_
  obtain ⟨ht, hw⟩ := hw
  refine zg_getI (v := .int (zI h a0 5)) zi_53_56 ht (by rfl) rfl ?_
  refine zg_const (v := (-4)) zi_53_57 (by rfl) ?_
  refine zg_icmp_eq zi_53_58 (fun hc => ?_) (fun hc => ?_)
  · have hw := hw.1 hc
    exact Gx.forget ⟨Or.inr rfl, Or.inl rfl, Or.inl rfl, trivial⟩ (okb_53_62 hw)
  · have hw := hw.2 hc
    refine zg_aload zi_53_59 rfl ?_
    refine zg_const (v := 2) zi_53_60 (by rfl) ?_
    obtain ⟨ht, hw⟩ := hw
    refine Gx.call (as := [.ref a0, .int 2]) (rest := []) (n := 2) zi_53_61 (by rfl) rfl (by rfl) (by rfl) (by rfl) (by decide) (by simp only [zcat, List.map, List.sum_cons, List.sum_nil, Value.category]; decide) (zrv_v ht (by rfl) (by rfl)) (by decide) ?_
    refine Ct.mono hw ?_
    rintro v h10 ⟨rfl, hw⟩
    show Gx E (d + 1) 53 62 [.ref a0, .int a1, .retAddr 0] [] h10 Q
    exact Gx.forget ⟨Or.inr rfl, Or.inl rfl, Or.inl rfl, trivial⟩ (okb_53_62 hw)
def wb_53_53 (E : Nat → Nat) (d : Nat) (Q : Option Value → ZH → Prop) (L_23 : Nat → Int32 → Int32 → ZH → Prop) (a0 : Nat) (a1 : Int32) (a2 : Int32) (h : ZH) : Prop := ∀ x13 : Int32, x13 = a2 + 1 → L_23 a0 a1 x13 h
set_option maxRecDepth 20000 in
theorem okb_53_53 {E : Nat → Nat} {d : Nat} {Q : Option Value → ZH → Prop} {L_23 : Nat → Int32 → Int32 → ZH → Prop} (hL_23 : ∀ (b0 : Nat) (b1 : Int32) (b2 : Int32) (h : ZH), L_23 b0 b1 b2 h → Gx E (d + 1) 53 23 [.ref b0, .int b1, .int b2] [] h Q) {a0 : Nat} {a1 : Int32} {a2 : Int32} {h : ZH} (hw : wb_53_53 E d Q L_23 a0 a1 a2 h) : Gx E (d + 1) 53 53 [.ref a0, .int a1, .int a2] [] h Q := by
  unfold wb_53_53 at hw
  obtain ⟨x13, ex13⟩ : ∃ x : Int32, x = a2 + 1 := ⟨_, rfl⟩
  have hw := hw x13 ex13
  refine zg_iinc (v := x13) (ls1 := [.ref a0, .int a1, .int x13]) zi_53_53 rfl (by rw [ex13]; rfl) rfl ?_
  refine zg_goto zi_53_54 ?_
  exact hL_23 a0 a1 x13 h hw
def wl_53_23 (E : Nat → Nat) (d : Nat) (Q : Option Value → ZH → Prop) : Nat → Nat → Int32 → Int32 → ZH → Prop
  | 0, _, _, _, _ => False
  | n + 1, a0, a1, a2, h => (320 ≤ a2 → (wb_53_55 E d Q a0 a1 h)) ∧ (¬ (320 ≤ a2) → (ztag h a0 = 4 ∧ ∃ r11 : Nat, zR h a0 0 = r11 + 1 ∧ ztag h r11 = 8 ∧ (((zI h r11 3 : Int32) = 4 → (wb_53_55 E d Q a0 a1 h)) ∧ (¬ ((zI h r11 3 : Int32) = 4) → (ztag h a0 = 4 ∧ ((¬ (zI h a0 3 : Int32) = 0 → (wb_53_55 E d Q a0 a1 h)) ∧ (¬ (¬ (zI h a0 3 : Int32) = 0) → (ztag h a0 = 4 ∧ Ct E d 55 [.ref a0] h (fun v h12 => v = none ∧ ztag h12 a0 = 4 ∧ ((¬ (zI h12 a0 3 : Int32) = 0 → (wb_53_53 E d Q wl_53_23 E d Q n a0 a1 a2 h12)) ∧ (¬ (¬ (zI h12 a0 3 : Int32) = 0) → (ztag h12 a0 = 4 ∧ ∃ r14 : Nat, zR h12 a0 0 = r14 + 1 ∧ ztag h12 r14 = 8 ∧ ∀ x15 : Int32, x15 = a1 + (if ¬ (zI h12 r14 3 : Int32) = 3 then 0 else 1) → ztag h12 a0 = 4 ∧ ∃ r16 : Nat, zR h12 a0 0 = r16 + 1 ∧ ztag h12 r16 = 8 ∧ Ct E d 79 [.ref r16] h12 (fun v h17 => v = none ∧ wb_53_53 E d Q wl_53_23 E d Q n a0 x15 a2 h17)))))))))))))
set_option maxRecDepth 20000 in
theorem okl_53_23 {E : Nat → Nat} {d : Nat} {Q : Option Value → ZH → Prop} : ∀ (n : Nat) (a0 : Nat) (a1 : Int32) (a2 : Int32) (h : ZH), wl_53_23 E d Q n a0 a1 a2 h → Gx E (d + 1) 53 23 [.ref a0, .int a1, .int a2] [] h Q := by
  intro n
  induction n with
  | zero => intro a0 a1 a2 h hw; exact hw.elim
  | succ n ih =>
    intro a0 a1 a2 h hw
    rw [wl_53_23] at hw
    refine zg_iload zi_53_23 rfl ?_
    refine zg_const (v := 320) zi_53_24 (by rfl) ?_
    refine zg_icmp_ge zi_53_25 (fun hc => ?_) (fun hc => ?_)
    · have hw := hw.1 hc
      exact Gx.forget ⟨Or.inl rfl, Or.inl rfl, Or.inr rfl, trivial⟩ (okb_53_55 hw)
    · have hw := hw.2 hc
      refine zg_aload zi_53_26 rfl ?_
      obtain ⟨ht, hw⟩ := hw
      obtain ⟨r11, hr, hw⟩ := hw
      refine zg_getR (v := .ref r11) zi_53_27 ht (by rfl) (by show zrv (zR h a0 0) = _; rw [hr]; rfl) ?_
      obtain ⟨ht, hw⟩ := hw
      refine zg_getI (v := .int (zI h r11 3)) zi_53_28 ht (by rfl) rfl ?_
      refine zg_const (v := 4) zi_53_29 (by rfl) ?_
      refine zg_icmp_eq zi_53_30 (fun hc => ?_) (fun hc => ?_)
      · have hw := hw.1 hc
        exact Gx.forget ⟨Or.inl rfl, Or.inl rfl, Or.inr rfl, trivial⟩ (okb_53_55 hw)
      · have hw := hw.2 hc
        refine zg_aload zi_53_31 rfl ?_
        obtain ⟨ht, hw⟩ := hw
        refine zg_getI (v := .int (zI h a0 3)) zi_53_32 ht (by rfl) rfl ?_
        refine zg_if_ne zi_53_33 (fun hc => ?_) (fun hc => ?_)
        · have hw := hw.1 hc
          exact Gx.forget ⟨Or.inl rfl, Or.inl rfl, Or.inr rfl, trivial⟩ (okb_53_55 hw)
        · have hw := hw.2 hc
          refine zg_aload zi_53_34 rfl ?_
          obtain ⟨ht, hw⟩ := hw
          refine Gx.call (as := [.ref a0]) (rest := []) (n := 1) zi_53_35 (by rfl) rfl (by rfl) (by rfl) (by rfl) (by decide) (by simp only [zcat, List.map, List.sum_cons, List.sum_nil, Value.category]; decide) (zrv_v ht (by rfl) (by rfl)) (by decide) ?_
          refine Ct.mono hw ?_
          rintro v h12 ⟨rfl, hw⟩
          show Gx E (d + 1) 53 36 [.ref a0, .int a1, .int a2] [] h12 Q
          refine zg_aload zi_53_36 rfl ?_
          obtain ⟨ht, hw⟩ := hw
          refine zg_getI (v := .int (zI h12 a0 3)) zi_53_37 ht (by rfl) rfl ?_
          refine zg_if_ne zi_53_38 (fun hc => ?_) (fun hc => ?_)
          · have hw := hw.1 hc
            exact okb_53_53 ih hw
          · have hw := hw.2 hc
            refine zg_iload zi_53_39 rfl ?_
            refine zg_aload zi_53_40 rfl ?_
            obtain ⟨ht, hw⟩ := hw
            obtain ⟨r14, hr, hw⟩ := hw
            refine zg_getR (v := .ref r14) zi_53_41 ht (by rfl) (by show zrv (zR h12 a0 0) = _; rw [hr]; rfl) ?_
            obtain ⟨ht, hw⟩ := hw
            refine zg_getI (v := .int (zI h12 r14 3)) zi_53_42 ht (by rfl) rfl ?_
            refine zg_const (v := 3) zi_53_43 (by rfl) ?_
            have g44 : Gx E (d + 1) 53 48 [.ref a0, .int a1, .int a2] [.int (if ¬ (zI h12 r14 3 : Int32) = 3 then 0 else 1), .int a1] h12 Q := by
              refine zg_iadd zi_53_48 ?_
              refine zg_nameI fun x15 ex15 => ?_
              have hw := hw x15 ex15
              refine zg_istore (ls1 := [.ref a0, .int x15, .int a2]) zi_53_49 (by decide) rfl ?_
              refine zg_aload zi_53_50 rfl ?_
              obtain ⟨ht, hw⟩ := hw
              obtain ⟨r16, hr, hw⟩ := hw
              refine zg_getR (v := .ref r16) zi_53_51 ht (by rfl) (by show zrv (zR h12 a0 0) = _; rw [hr]; rfl) ?_
              obtain ⟨ht, hw⟩ := hw
              refine Gx.call (as := [.ref r16]) (rest := []) (n := 1) zi_53_52 (by rfl) rfl (by rfl) (by rfl) (by rfl) (by decide) (by simp only [zcat, List.map, List.sum_cons, List.sum_nil, Value.category]; decide) (zrv_v ht (by rfl) (by rfl)) (by decide) ?_
              refine Ct.mono hw ?_
              rintro v h17 ⟨rfl, hw⟩
              show Gx E (d + 1) 53 53 [.ref a0, .int x15, .int a2] [] h17 Q
              exact okb_53_53 ih hw
            refine zg_icmp_ne zi_53_44 (fun hc44 => ?_) (fun hc44 => ?_)
            · skip
              refine zg_const (v := 0) zi_53_47 (by rfl) ?_
              have hg := g44
              simp only [if_pos hc44] at hg
              exact hg
            · skip
              refine zg_const (v := 1) zi_53_45 (by rfl) ?_
              refine zg_goto zi_53_46 ?_
              have hg := g44
              simp only [if_neg hc44] at hg
              exact hg
/-- TakeOrPay$Reader.readLines()I -/
def w_53 (E : Nat → Nat) (d : Nat) (a0 : Nat) (h : ZH) (Q : Option Value → ZH → Prop) : Prop := ztag h a0 = 4 ∧ ∃ r1 : Nat, zR h a0 1 = r1 + 1 ∧ ztag h r1 = 3 ∧ Ct E d 30 [.ref r1] h (fun v h2 => v = none ∧ ztag h2 a0 = 4 ∧ ∀ h3 : ZH, h3 = zuI h2 a0 2 0 → ztag h3 a0 = 4 ∧ ∀ h4 : ZH, h4 = zuI h3 a0 3 0 → ztag h4 a0 = 4 ∧ ∀ h5 : ZH, h5 = zuI h4 a0 5 ((-4)) → ztag h5 a0 = 4 ∧ ∃ r6 : Nat, zR h5 a0 0 = r6 + 1 ∧ ztag h5 r6 = 8 ∧ ∀ h7 : ZH, h7 = zuI h5 r6 2 0 → ztag h7 a0 = 4 ∧ ∃ r8 : Nat, zR h7 a0 0 = r8 + 1 ∧ ztag h7 r8 = 8 ∧ Ct E d 79 [.ref r8] h7 (fun v h9 => v = none ∧ (∃ n : Nat, wl_53_23 E d Q n a0 0 0 h9)))
set_option maxRecDepth 20000 in
theorem ok_53 {E : Nat → Nat} {d : Nat} {a0 : Nat} {h : ZH} {Q : Option Value → ZH → Prop} (hw : w_53 E d a0 h Q) : Ct E (d + 1) 53 [.ref a0] h Q := by
  unfold w_53 at hw
  show Gx E (d + 1) 53 0 [.ref a0, .retAddr 0, .retAddr 0] [] h Q
  refine zg_aload zi_53_0 rfl ?_
  obtain ⟨ht, hw⟩ := hw
  obtain ⟨r1, hr, hw⟩ := hw
  refine zg_getR (v := .ref r1) zi_53_1 ht (by rfl) (by show zrv (zR h a0 1) = _; rw [hr]; rfl) ?_
  obtain ⟨ht, hw⟩ := hw
  refine Gx.call (as := [.ref r1]) (rest := []) (n := 1) zi_53_2 (by rfl) rfl (by rfl) (by rfl) (by rfl) (by decide) (by simp only [zcat, List.map, List.sum_cons, List.sum_nil, Value.category]; decide) (zrv_v ht (by rfl) (by rfl)) (by decide) ?_
  refine Ct.mono hw ?_
  rintro v h2 ⟨rfl, hw⟩
  show Gx E (d + 1) 53 3 [.ref a0, .retAddr 0, .retAddr 0] [] h2 Q
  refine zg_aload zi_53_3 rfl ?_
  refine zg_const (v := 0) zi_53_4 (by rfl) ?_
  obtain ⟨ht, hw⟩ := hw
  refine zg_putI (h1 := zuI h2 a0 2 0) zi_53_5 ht (by rfl) rfl ?_
  refine zg_nameH fun h3 eh3 => ?_
  have hw := hw h3 eh3
  refine zg_aload zi_53_6 rfl ?_
  refine zg_const (v := 0) zi_53_7 (by rfl) ?_
  obtain ⟨ht, hw⟩ := hw
  refine zg_putI (h1 := zuI h3 a0 3 0) zi_53_8 ht (by rfl) rfl ?_
  refine zg_nameH fun h4 eh4 => ?_
  have hw := hw h4 eh4
  refine zg_aload zi_53_9 rfl ?_
  refine zg_const (v := (-4)) zi_53_10 (by rfl) ?_
  obtain ⟨ht, hw⟩ := hw
  refine zg_putI (h1 := zuI h4 a0 5 ((-4))) zi_53_11 ht (by rfl) rfl ?_
  refine zg_nameH fun h5 eh5 => ?_
  have hw := hw h5 eh5
  refine zg_const (v := 0) zi_53_12 (by rfl) ?_
  refine zg_istore (ls1 := [.ref a0, .int 0, .retAddr 0]) zi_53_13 (by decide) rfl ?_
  refine zg_aload zi_53_14 rfl ?_
  obtain ⟨ht, hw⟩ := hw
  obtain ⟨r6, hr, hw⟩ := hw
  refine zg_getR (v := .ref r6) zi_53_15 ht (by rfl) (by show zrv (zR h5 a0 0) = _; rw [hr]; rfl) ?_
  refine zg_const (v := 0) zi_53_16 (by rfl) ?_
  obtain ⟨ht, hw⟩ := hw
  refine zg_putI (h1 := zuI h5 r6 2 0) zi_53_17 ht (by rfl) rfl ?_
  refine zg_nameH fun h7 eh7 => ?_
  have hw := hw h7 eh7
  refine zg_aload zi_53_18 rfl ?_
  obtain ⟨ht, hw⟩ := hw
  obtain ⟨r8, hr, hw⟩ := hw
  refine zg_getR (v := .ref r8) zi_53_19 ht (by rfl) (by show zrv (zR h7 a0 0) = _; rw [hr]; rfl) ?_
  obtain ⟨ht, hw⟩ := hw
  refine Gx.call (as := [.ref r8]) (rest := []) (n := 1) zi_53_20 (by rfl) rfl (by rfl) (by rfl) (by rfl) (by decide) (by simp only [zcat, List.map, List.sum_cons, List.sum_nil, Value.category]; decide) (zrv_v ht (by rfl) (by rfl)) (by decide) ?_
  refine Ct.mono hw ?_
  rintro v h9 ⟨rfl, hw⟩
  show Gx E (d + 1) 53 21 [.ref a0, .int 0, .retAddr 0] [] h9 Q
  refine zg_const (v := 0) zi_53_21 (by rfl) ?_
  refine zg_istore (ls1 := [.ref a0, .int 0, .int 0]) zi_53_22 (by decide) rfl ?_
  obtain ⟨n, hw⟩ := hw
  exact okl_53_23 n a0 0 0 h9 hw
theorem zi_65_0 : (zM 65).1[0]? = some (.aload 0) := by rfl
theorem zi_65_1 : (zM 65).1[1]? = some (.invokedynamic 3) := by rfl
theorem zi_65_2 : (zM 65).1[2]? = some (.aload 0) := by rfl
theorem zi_65_3 : (zM 65).1[3]? = some (.iconst 20) := by rfl
theorem zi_65_4 : (zM 65).1[4]? = some (.newarray .int) := by rfl
theorem zi_65_5 : (zM 65).1[5]? = some (.putfield 5200) := by rfl
theorem zi_65_6 : (zM 65).1[6]? = some (.aload 0) := by rfl
theorem zi_65_7 : (zM 65).1[7]? = some (.iconst 20) := by rfl
theorem zi_65_8 : (zM 65).1[8]? = some (.newarray .int) := by rfl
theorem zi_65_9 : (zM 65).1[9]? = some (.putfield 5201) := by rfl
theorem zi_65_10 : (zM 65).1[10]? = some (.return_) := by rfl
/-- TakeOrPay$Row.<init>()V -/
def w_65 (E : Nat → Nat) (d : Nat) (a0 : Nat) (h : ZH) (Q : Option Value → ZH → Prop) : Prop := 4 ≤ d ∧ ∀ h1 : ZH, h1 = znew h 13 20 → ∀ r2 : Nat, r2 = zsz h → ztag h1 a0 = 5 ∧ ∀ h3 : ZH, h3 = zuR h1 a0 0 (r2 + 1) → ∀ h4 : ZH, h4 = znew h3 13 20 → ∀ r5 : Nat, r5 = zsz h3 → ztag h4 a0 = 5 ∧ ∀ h6 : ZH, h6 = zuR h4 a0 1 (r5 + 1) → Q none h6
set_option maxRecDepth 20000 in
theorem ok_65 {E : Nat → Nat} {d : Nat} {a0 : Nat} {h : ZH} {Q : Option Value → ZH → Prop} (hw : w_65 E d a0 h Q) : Ct E (d + 1) 65 [.ref a0] h Q := by
  unfold w_65 at hw
  show Gx E (d + 1) 65 0 [.ref a0] [] h Q
  refine zg_aload zi_65_0 rfl ?_
  obtain ⟨hd, hw⟩ := hw
  refine zg_object zi_65_1 ⟨by omega, by decide⟩ ?_
  refine zg_aload zi_65_2 rfl ?_
  refine zg_const (v := 20) zi_65_3 (by rfl) ?_
  refine zg_newarray_int (N := 20) zi_65_4 (by decide) (by decide) ?_
  refine zg_nameH fun h1 eh1 => ?_
  have hw := hw h1 eh1
  refine zg_nameA fun r2 er2 => ?_
  have hw := hw r2 er2
  obtain ⟨ht, hw⟩ := hw
  refine zg_putR (h1 := zuR h1 a0 0 (r2 + 1)) zi_65_5 ht (by rfl) rfl ?_
  refine zg_nameH fun h3 eh3 => ?_
  have hw := hw h3 eh3
  refine zg_aload zi_65_6 rfl ?_
  refine zg_const (v := 20) zi_65_7 (by rfl) ?_
  refine zg_newarray_int (N := 20) zi_65_8 (by decide) (by decide) ?_
  refine zg_nameH fun h4 eh4 => ?_
  have hw := hw h4 eh4
  refine zg_nameA fun r5 er5 => ?_
  have hw := hw r5 er5
  obtain ⟨ht, hw⟩ := hw
  refine zg_putR (h1 := zuR h4 a0 1 (r5 + 1)) zi_65_9 ht (by rfl) rfl ?_
  refine zg_nameH fun h6 eh6 => ?_
  have hw := hw h6 eh6
  exact zg_return zi_65_10 hw
theorem zi_66_0 : (zM 66).1[0]? = some (.aload 0) := by rfl
theorem zi_66_1 : (zM 66).1[1]? = some (.getfield 5002) := by rfl
theorem zi_66_2 : (zM 66).1[2]? = some (.iconst 20) := by rfl
theorem zi_66_3 : (zM 66).1[3]? = some (.if_icmp .ge ((22 : Nat) : Int)) := by rfl
theorem zi_66_4 : (zM 66).1[4]? = some (.aload 0) := by rfl
theorem zi_66_5 : (zM 66).1[5]? = some (.getfield 5200) := by rfl
theorem zi_66_6 : (zM 66).1[6]? = some (.aload 0) := by rfl
theorem zi_66_7 : (zM 66).1[7]? = some (.getfield 5002) := by rfl
theorem zi_66_8 : (zM 66).1[8]? = some (.iload 1) := by rfl
theorem zi_66_9 : (zM 66).1[9]? = some (.iastore) := by rfl
theorem zi_66_10 : (zM 66).1[10]? = some (.aload 0) := by rfl
theorem zi_66_11 : (zM 66).1[11]? = some (.getfield 5201) := by rfl
theorem zi_66_12 : (zM 66).1[12]? = some (.aload 0) := by rfl
theorem zi_66_13 : (zM 66).1[13]? = some (.getfield 5002) := by rfl
theorem zi_66_14 : (zM 66).1[14]? = some (.iload 2) := by rfl
theorem zi_66_15 : (zM 66).1[15]? = some (.iastore) := by rfl
theorem zi_66_16 : (zM 66).1[16]? = some (.aload 0) := by rfl
theorem zi_66_17 : (zM 66).1[17]? = some (.dup) := by rfl
theorem zi_66_18 : (zM 66).1[18]? = some (.getfield 5002) := by rfl
theorem zi_66_19 : (zM 66).1[19]? = some (.iconst 1) := by rfl
theorem zi_66_20 : (zM 66).1[20]? = some (.iadd) := by rfl
theorem zi_66_21 : (zM 66).1[21]? = some (.putfield 5002) := by rfl
theorem zi_66_22 : (zM 66).1[22]? = some (.return_) := by rfl
/-- TakeOrPay$Row.add(II)V -/
def w_66 (E : Nat → Nat) (d : Nat) (a0 : Nat) (a1 : Int32) (a2 : Int32) (h : ZH) (Q : Option Value → ZH → Prop) : Prop := ztag h a0 = 5 ∧ ((20 ≤ (zI h a0 2 : Int32) → (Q none h)) ∧ (¬ (20 ≤ (zI h a0 2 : Int32)) → (ztag h a0 = 5 ∧ ∃ r1 : Nat, zR h a0 0 = r1 + 1 ∧ ztag h a0 = 5 ∧ ztag h r1 = 13 ∧ zin (zI h a0 2) (zlen h r1) = true ∧ ∀ h2 : ZH, h2 = zuI h r1 (zI h a0 2 : Int32).toNatClampNeg a1 → ztag h2 a0 = 5 ∧ ∃ r3 : Nat, zR h2 a0 1 = r3 + 1 ∧ ztag h2 a0 = 5 ∧ ztag h2 r3 = 13 ∧ zin (zI h2 a0 2) (zlen h2 r3) = true ∧ ∀ h4 : ZH, h4 = zuI h2 r3 (zI h2 a0 2 : Int32).toNatClampNeg a2 → ztag h4 a0 = 5 ∧ ztag h4 a0 = 5 ∧ ∀ h5 : ZH, h5 = zuI h4 a0 2 ((zI h4 a0 2) + 1) → Q none h5)))
set_option maxRecDepth 20000 in
theorem ok_66 {E : Nat → Nat} {d : Nat} {a0 : Nat} {a1 : Int32} {a2 : Int32} {h : ZH} {Q : Option Value → ZH → Prop} (hw : w_66 E d a0 a1 a2 h Q) : Ct E (d + 1) 66 [.ref a0, .int a1, .int a2] h Q := by
  unfold w_66 at hw
  show Gx E (d + 1) 66 0 [.ref a0, .int a1, .int a2] [] h Q
  refine zg_aload zi_66_0 rfl ?_
  obtain ⟨ht, hw⟩ := hw
  refine zg_getI (v := .int (zI h a0 2)) zi_66_1 ht (by rfl) rfl ?_
  refine zg_const (v := 20) zi_66_2 (by rfl) ?_
  refine zg_icmp_ge zi_66_3 (fun hc => ?_) (fun hc => ?_)
  · have hw := hw.1 hc
    exact zg_return zi_66_22 hw
  · have hw := hw.2 hc
    refine zg_aload zi_66_4 rfl ?_
    obtain ⟨ht, hw⟩ := hw
    obtain ⟨r1, hr, hw⟩ := hw
    refine zg_getR (v := .ref r1) zi_66_5 ht (by rfl) (by show zrv (zR h a0 0) = _; rw [hr]; rfl) ?_
    refine zg_aload zi_66_6 rfl ?_
    obtain ⟨ht, hw⟩ := hw
    refine zg_getI (v := .int (zI h a0 2)) zi_66_7 ht (by rfl) rfl ?_
    refine zg_iload zi_66_8 rfl ?_
    obtain ⟨ht, hb, hw⟩ := hw
    refine zg_iastore (h1 := zuI h r1 (zI h a0 2 : Int32).toNatClampNeg a1) zi_66_9 ht hb rfl ?_
    refine zg_nameH fun h2 eh2 => ?_
    have hw := hw h2 eh2
    refine zg_aload zi_66_10 rfl ?_
    obtain ⟨ht, hw⟩ := hw
    obtain ⟨r3, hr, hw⟩ := hw
    refine zg_getR (v := .ref r3) zi_66_11 ht (by rfl) (by show zrv (zR h2 a0 1) = _; rw [hr]; rfl) ?_
    refine zg_aload zi_66_12 rfl ?_
    obtain ⟨ht, hw⟩ := hw
    refine zg_getI (v := .int (zI h2 a0 2)) zi_66_13 ht (by rfl) rfl ?_
    refine zg_iload zi_66_14 rfl ?_
    obtain ⟨ht, hb, hw⟩ := hw
    refine zg_iastore (h1 := zuI h2 r3 (zI h2 a0 2 : Int32).toNatClampNeg a2) zi_66_15 ht hb rfl ?_
    refine zg_nameH fun h4 eh4 => ?_
    have hw := hw h4 eh4
    refine zg_aload zi_66_16 rfl ?_
    refine zg_dup zi_66_17 rfl ?_
    obtain ⟨ht, hw⟩ := hw
    refine zg_getI (v := .int (zI h4 a0 2)) zi_66_18 ht (by rfl) rfl ?_
    refine zg_const (v := 1) zi_66_19 (by rfl) ?_
    refine zg_iadd zi_66_20 ?_
    obtain ⟨ht, hw⟩ := hw
    refine zg_putI (h1 := zuI h4 a0 2 ((zI h4 a0 2) + 1)) zi_66_21 ht (by rfl) rfl ?_
    refine zg_nameH fun h5 eh5 => ?_
    have hw := hw h5 eh5
    exact zg_return zi_66_22 hw
theorem zi_67_0 : (zM 67).1[0]? = some (.aload 0) := by rfl
theorem zi_67_1 : (zM 67).1[1]? = some (.invokedynamic 3) := by rfl
theorem zi_67_2 : (zM 67).1[2]? = some (.aload 0) := by rfl
theorem zi_67_3 : (zM 67).1[3]? = some (.iconst 48) := by rfl
theorem zi_67_4 : (zM 67).1[4]? = some (.newarray .int) := by rfl
theorem zi_67_5 : (zM 67).1[5]? = some (.putfield 6200) := by rfl
theorem zi_67_6 : (zM 67).1[6]? = some (.aload 0) := by rfl
theorem zi_67_7 : (zM 67).1[7]? = some (.iconst (-4)) := by rfl
theorem zi_67_8 : (zM 67).1[8]? = some (.putfield 6001) := by rfl
theorem zi_67_9 : (zM 67).1[9]? = some (.return_) := by rfl
/-- TakeOrPay$Sheet.<init>()V -/
def w_67 (E : Nat → Nat) (d : Nat) (a0 : Nat) (h : ZH) (Q : Option Value → ZH → Prop) : Prop := 4 ≤ d ∧ ∀ h1 : ZH, h1 = znew h 13 48 → ∀ r2 : Nat, r2 = zsz h → ztag h1 a0 = 6 ∧ ∀ h3 : ZH, h3 = zuR h1 a0 0 (r2 + 1) → ztag h3 a0 = 6 ∧ ∀ h4 : ZH, h4 = zuI h3 a0 1 ((-4)) → Q none h4
set_option maxRecDepth 20000 in
theorem ok_67 {E : Nat → Nat} {d : Nat} {a0 : Nat} {h : ZH} {Q : Option Value → ZH → Prop} (hw : w_67 E d a0 h Q) : Ct E (d + 1) 67 [.ref a0] h Q := by
  unfold w_67 at hw
  show Gx E (d + 1) 67 0 [.ref a0] [] h Q
  refine zg_aload zi_67_0 rfl ?_
  obtain ⟨hd, hw⟩ := hw
  refine zg_object zi_67_1 ⟨by omega, by decide⟩ ?_
  refine zg_aload zi_67_2 rfl ?_
  refine zg_const (v := 48) zi_67_3 (by rfl) ?_
  refine zg_newarray_int (N := 48) zi_67_4 (by decide) (by decide) ?_
  refine zg_nameH fun h1 eh1 => ?_
  have hw := hw h1 eh1
  refine zg_nameA fun r2 er2 => ?_
  have hw := hw r2 er2
  obtain ⟨ht, hw⟩ := hw
  refine zg_putR (h1 := zuR h1 a0 0 (r2 + 1)) zi_67_5 ht (by rfl) rfl ?_
  refine zg_nameH fun h3 eh3 => ?_
  have hw := hw h3 eh3
  refine zg_aload zi_67_6 rfl ?_
  refine zg_const (v := (-4)) zi_67_7 (by rfl) ?_
  obtain ⟨ht, hw⟩ := hw
  refine zg_putI (h1 := zuI h3 a0 1 ((-4))) zi_67_8 ht (by rfl) rfl ?_
  refine zg_nameH fun h4 eh4 => ?_
  have hw := hw h4 eh4
  exact zg_return zi_67_9 hw
theorem zi_68_0 : (zM 68).1[0]? = some (.aload 0) := by rfl
theorem zi_68_1 : (zM 68).1[1]? = some (.iload 1) := by rfl
theorem zi_68_2 : (zM 68).1[2]? = some (.putfield 6001) := by rfl
theorem zi_68_3 : (zM 68).1[3]? = some (.aload 0) := by rfl
theorem zi_68_4 : (zM 68).1[4]? = some (.iload 2) := by rfl
theorem zi_68_5 : (zM 68).1[5]? = some (.putfield 6002) := by rfl
theorem zi_68_6 : (zM 68).1[6]? = some (.iconst 0) := by rfl
theorem zi_68_7 : (zM 68).1[7]? = some (.istore 3) := by rfl
theorem zi_68_8 : (zM 68).1[8]? = some (.iload 3) := by rfl
theorem zi_68_9 : (zM 68).1[9]? = some (.iconst 48) := by rfl
theorem zi_68_10 : (zM 68).1[10]? = some (.if_icmp .ge ((18 : Nat) : Int)) := by rfl
theorem zi_68_11 : (zM 68).1[11]? = some (.aload 0) := by rfl
theorem zi_68_12 : (zM 68).1[12]? = some (.getfield 6200) := by rfl
theorem zi_68_13 : (zM 68).1[13]? = some (.iload 3) := by rfl
theorem zi_68_14 : (zM 68).1[14]? = some (.iconst 0) := by rfl
theorem zi_68_15 : (zM 68).1[15]? = some (.iastore) := by rfl
theorem zi_68_16 : (zM 68).1[16]? = some (.iinc 3 1) := by rfl
theorem zi_68_17 : (zM 68).1[17]? = some (.goto ((8 : Nat) : Int)) := by rfl
theorem zi_68_18 : (zM 68).1[18]? = some (.return_) := by rfl
def wl_68_8 (E : Nat → Nat) (d : Nat) (Q : Option Value → ZH → Prop) : Nat → Nat → Int32 → ZH → Prop
  | 0, _, _, _ => False
  | n + 1, a0, a3, h => (48 ≤ a3 → (Q none h)) ∧ (¬ (48 ≤ a3) → (ztag h a0 = 6 ∧ ∃ r3 : Nat, zR h a0 0 = r3 + 1 ∧ ztag h r3 = 13 ∧ zin a3 (zlen h r3) = true ∧ ∀ h4 : ZH, h4 = zuI h r3 a3.toNatClampNeg 0 → ∀ x5 : Int32, x5 = a3 + 1 → wl_68_8 E d Q n a0 x5 h4))
set_option maxRecDepth 20000 in
theorem okl_68_8 {E : Nat → Nat} {d : Nat} {Q : Option Value → ZH → Prop} : ∀ (n : Nat) (a0 : Nat) (a3 : Int32) (h : ZH), wl_68_8 E d Q n a0 a3 h → Gx E (d + 1) 68 8 [.ref a0, .retAddr 0, .retAddr 0, .int a3] [] h Q := by
  intro n
  induction n with
  | zero => intro a0 a3 h hw; exact hw.elim
  | succ n ih =>
    intro a0 a3 h hw
    rw [wl_68_8] at hw
    refine zg_iload zi_68_8 rfl ?_
    refine zg_const (v := 48) zi_68_9 (by rfl) ?_
    refine zg_icmp_ge zi_68_10 (fun hc => ?_) (fun hc => ?_)
    · have hw := hw.1 hc
      exact zg_return zi_68_18 hw
    · have hw := hw.2 hc
      refine zg_aload zi_68_11 rfl ?_
      obtain ⟨ht, hw⟩ := hw
      obtain ⟨r3, hr, hw⟩ := hw
      refine zg_getR (v := .ref r3) zi_68_12 ht (by rfl) (by show zrv (zR h a0 0) = _; rw [hr]; rfl) ?_
      refine zg_iload zi_68_13 rfl ?_
      refine zg_const (v := 0) zi_68_14 (by rfl) ?_
      obtain ⟨ht, hb, hw⟩ := hw
      refine zg_iastore (h1 := zuI h r3 a3.toNatClampNeg 0) zi_68_15 ht hb rfl ?_
      refine zg_nameH fun h4 eh4 => ?_
      have hw := hw h4 eh4
      obtain ⟨x5, ex5⟩ : ∃ x : Int32, x = a3 + 1 := ⟨_, rfl⟩
      have hw := hw x5 ex5
      refine zg_iinc (v := x5) (ls1 := [.ref a0, .retAddr 0, .retAddr 0, .int x5]) zi_68_16 rfl (by rw [ex5]; rfl) rfl ?_
      refine zg_goto zi_68_17 ?_
      exact ih a0 x5 h4 hw
/-- TakeOrPay$Sheet.renew(II)V -/
def w_68 (E : Nat → Nat) (d : Nat) (a0 : Nat) (a1 : Int32) (a2 : Int32) (h : ZH) (Q : Option Value → ZH → Prop) : Prop := ztag h a0 = 6 ∧ ∀ h1 : ZH, h1 = zuI h a0 1 a1 → ztag h1 a0 = 6 ∧ ∀ h2 : ZH, h2 = zuI h1 a0 2 a2 → (∃ n : Nat, wl_68_8 E d Q n a0 0 h2)
set_option maxRecDepth 20000 in
theorem ok_68 {E : Nat → Nat} {d : Nat} {a0 : Nat} {a1 : Int32} {a2 : Int32} {h : ZH} {Q : Option Value → ZH → Prop} (hw : w_68 E d a0 a1 a2 h Q) : Ct E (d + 1) 68 [.ref a0, .int a1, .int a2] h Q := by
  unfold w_68 at hw
  show Gx E (d + 1) 68 0 [.ref a0, .int a1, .int a2, .retAddr 0] [] h Q
  refine zg_aload zi_68_0 rfl ?_
  refine zg_iload zi_68_1 rfl ?_
  obtain ⟨ht, hw⟩ := hw
  refine zg_putI (h1 := zuI h a0 1 a1) zi_68_2 ht (by rfl) rfl ?_
  refine zg_nameH fun h1 eh1 => ?_
  have hw := hw h1 eh1
  refine zg_aload zi_68_3 rfl ?_
  refine zg_iload zi_68_4 rfl ?_
  obtain ⟨ht, hw⟩ := hw
  refine zg_putI (h1 := zuI h1 a0 2 a2) zi_68_5 ht (by rfl) rfl ?_
  refine zg_nameH fun h2 eh2 => ?_
  have hw := hw h2 eh2
  refine zg_const (v := 0) zi_68_6 (by rfl) ?_
  refine zg_istore (ls1 := [.ref a0, .int a1, .int a2, .int 0]) zi_68_7 (by decide) rfl ?_
  obtain ⟨n, hw⟩ := hw
  exact Gx.forget ⟨Or.inl rfl, Or.inr rfl, Or.inr rfl, Or.inl rfl, trivial⟩ (okl_68_8 n a0 0 h2 hw)
theorem zi_69_0 : (zM 69).1[0]? = some (.iload 1) := by rfl
theorem zi_69_1 : (zM 69).1[1]? = some (.ifCond .lt ((8 : Nat) : Int)) := by rfl
theorem zi_69_2 : (zM 69).1[2]? = some (.iload 1) := by rfl
theorem zi_69_3 : (zM 69).1[3]? = some (.aload 0) := by rfl
theorem zi_69_4 : (zM 69).1[4]? = some (.getfield 6002) := by rfl
theorem zi_69_5 : (zM 69).1[5]? = some (.if_icmp .ge ((8 : Nat) : Int)) := by rfl
theorem zi_69_6 : (zM 69).1[6]? = some (.iconst 1) := by rfl
theorem zi_69_7 : (zM 69).1[7]? = some (.goto ((9 : Nat) : Int)) := by rfl
theorem zi_69_8 : (zM 69).1[8]? = some (.iconst 0) := by rfl
theorem zi_69_9 : (zM 69).1[9]? = some (.ireturn) := by rfl
/-- TakeOrPay$Sheet.has(I)Z -/
def w_69 (E : Nat → Nat) (d : Nat) (a0 : Nat) (a1 : Int32) (h : ZH) (Q : Option Value → ZH → Prop) : Prop := ((a1 < 0 → (True)) ∧ (¬ (a1 < 0) → (ztag h a0 = 6 ∧ True))) ∧ Q (some (.int (if a1 < 0 then 0 else if (zI h a0 2 : Int32) ≤ a1 then 0 else 1))) h
set_option maxRecDepth 20000 in
theorem ok_69 {E : Nat → Nat} {d : Nat} {a0 : Nat} {a1 : Int32} {h : ZH} {Q : Option Value → ZH → Prop} (hw : w_69 E d a0 a1 h Q) : Ct E (d + 1) 69 [.ref a0, .int a1] h Q := by
  unfold w_69 at hw
  show Gx E (d + 1) 69 0 [.ref a0, .int a1] [] h Q
  refine zg_iload zi_69_0 rfl ?_
  obtain ⟨hsd1, hw⟩ := hw
  have g1 : Gx E (d + 1) 69 9 [.ref a0, .int a1] [.int (if a1 < 0 then 0 else if (zI h a0 2 : Int32) ≤ a1 then 0 else 1)] h Q := by
    exact zg_zreturn zi_69_9 (by (repeat' split) <;> first | (left; rfl) | (right; rfl)) hw
  refine zg_if_lt zi_69_1 (fun hc1 => ?_) (fun hc1 => ?_)
  · have hw := hsd1.1 hc1
    refine zg_const (v := 0) zi_69_8 (by rfl) ?_
    have hg := g1
    simp only [if_pos hc1] at hg
    exact hg
  · have hw := hsd1.2 hc1
    refine zg_iload zi_69_2 rfl ?_
    refine zg_aload zi_69_3 rfl ?_
    obtain ⟨ht, hw⟩ := hw
    refine zg_getI (v := .int (zI h a0 2)) zi_69_4 ht (by rfl) rfl ?_
    have g5 : Gx E (d + 1) 69 9 [.ref a0, .int a1] [.int (if (zI h a0 2 : Int32) ≤ a1 then 0 else 1)] h Q := by
      have hg := g1
      simp only [if_neg hc1] at hg
      exact hg
    refine zg_icmp_ge zi_69_5 (fun hc5 => ?_) (fun hc5 => ?_)
    · skip
      refine zg_const (v := 0) zi_69_8 (by rfl) ?_
      have hg := g5
      simp only [if_pos hc5] at hg
      exact hg
    · skip
      refine zg_const (v := 1) zi_69_6 (by rfl) ?_
      refine zg_goto zi_69_7 ?_
      have hg := g5
      simp only [if_neg hc5] at hg
      exact hg
def fz_69 (E : Nat → Nat) (h : ZH) (a0 : Nat) (a1 : Int32) : Int32 := if a1 < 0 then 0 else if (zI h a0 2 : Int32) ≤ a1 then 0 else 1
def sz_69 (E : Nat → Nat) (h : ZH) (a0 : Nat) (a1 : Int32) : Prop := ((a1 < 0 → (True)) ∧ (¬ (a1 < 0) → (ztag h a0 = 6 ∧ True))) ∧ True
set_option maxRecDepth 20000 in
theorem fb_69 {E : Nat → Nat} {h : ZH} {a0 : Nat} {a1 : Int32} : fz_69 E h a0 a1 = 0 ∨ fz_69 E h a0 a1 = 1 := by
  unfold fz_69
  (try dsimp only)
  (repeat' split) <;> first | (left; rfl) | (right; rfl)
set_option maxRecDepth 20000 in
theorem cz_69 {E : Nat → Nat} {d : Nat} {a0 : Nat} {a1 : Int32} {h : ZH} {Q : Option Value → ZH → Prop} (hd : 1 ≤ d) (hs : sz_69 E h a0 a1) (hq : Q (some (.int (fz_69 E h a0 a1))) h) : Ct E d 69 [.ref a0, .int a1] h Q := by
  obtain ⟨d, rfl⟩ : ∃ n, d = n + 1 := ⟨d - 1, by omega⟩
  refine ok_69 ?_
  unfold w_69
  unfold sz_69 at hs
  unfold fz_69 at hq
  refine ⟨⟨fun hc => ?_, fun hc => ?_⟩, ?_⟩
  · have hs := hs.1.1 hc
    trivial
  · have hs := hs.1.2 hc
    refine ⟨hs.1, ?_⟩
    have hs := hs.2
    trivial
  have hs := hs.2
  exact hq
theorem zi_70_0 : (zM 70).1[0]? = some (.aload 0) := by rfl
theorem zi_70_1 : (zM 70).1[1]? = some (.getfield 6200) := by rfl
theorem zi_70_2 : (zM 70).1[2]? = some (.iload 1) := by rfl
theorem zi_70_3 : (zM 70).1[3]? = some (.aload 0) := by rfl
theorem zi_70_4 : (zM 70).1[4]? = some (.getfield 6001) := by rfl
theorem zi_70_5 : (zM 70).1[5]? = some (.ifCond .ne ((9 : Nat) : Int)) := by rfl
theorem zi_70_6 : (zM 70).1[6]? = some (.iload 2) := by rfl
theorem zi_70_7 : (zM 70).1[7]? = some (.i2b) := by rfl
theorem zi_70_8 : (zM 70).1[8]? = some (.goto ((17 : Nat) : Int)) := by rfl
theorem zi_70_9 : (zM 70).1[9]? = some (.aload 0) := by rfl
theorem zi_70_10 : (zM 70).1[10]? = some (.getfield 6001) := by rfl
theorem zi_70_11 : (zM 70).1[11]? = some (.iconst 1) := by rfl
theorem zi_70_12 : (zM 70).1[12]? = some (.if_icmp .ne ((16 : Nat) : Int)) := by rfl
theorem zi_70_13 : (zM 70).1[13]? = some (.iload 2) := by rfl
theorem zi_70_14 : (zM 70).1[14]? = some (.i2s) := by rfl
theorem zi_70_15 : (zM 70).1[15]? = some (.goto ((17 : Nat) : Int)) := by rfl
theorem zi_70_16 : (zM 70).1[16]? = some (.iload 2) := by rfl
theorem zi_70_17 : (zM 70).1[17]? = some (.iastore) := by rfl
theorem zi_70_18 : (zM 70).1[18]? = some (.return_) := by rfl
/-- TakeOrPay$Sheet.put(II)V -/
def w_70 (E : Nat → Nat) (d : Nat) (a0 : Nat) (a1 : Int32) (a2 : Int32) (h : ZH) (Q : Option Value → ZH → Prop) : Prop := ztag h a0 = 6 ∧ ∃ r1 : Nat, zR h a0 0 = r1 + 1 ∧ ztag h a0 = 6 ∧ (((¬ (zI h a0 1 : Int32) = 0 → (ztag h a0 = 6 ∧ True)) ∧ (¬ (¬ (zI h a0 1 : Int32) = 0) → (True))) ∧ ztag h r1 = 13 ∧ zin a1 (zlen h r1) = true ∧ ∀ h2 : ZH, h2 = zuI h r1 a1.toNatClampNeg (if ¬ (zI h a0 1 : Int32) = 0 then if ¬ (zI h a0 1 : Int32) = 1 then a2 else a2.toInt16.toInt32 else a2.toInt8.toInt32) → Q none h2)
set_option maxRecDepth 20000 in
theorem ok_70 {E : Nat → Nat} {d : Nat} {a0 : Nat} {a1 : Int32} {a2 : Int32} {h : ZH} {Q : Option Value → ZH → Prop} (hw : w_70 E d a0 a1 a2 h Q) : Ct E (d + 1) 70 [.ref a0, .int a1, .int a2] h Q := by
  unfold w_70 at hw
  show Gx E (d + 1) 70 0 [.ref a0, .int a1, .int a2] [] h Q
  refine zg_aload zi_70_0 rfl ?_
  obtain ⟨ht, hw⟩ := hw
  obtain ⟨r1, hr, hw⟩ := hw
  refine zg_getR (v := .ref r1) zi_70_1 ht (by rfl) (by show zrv (zR h a0 0) = _; rw [hr]; rfl) ?_
  refine zg_iload zi_70_2 rfl ?_
  refine zg_aload zi_70_3 rfl ?_
  obtain ⟨ht, hw⟩ := hw
  refine zg_getI (v := .int (zI h a0 1)) zi_70_4 ht (by rfl) rfl ?_
  obtain ⟨hsd5, hw⟩ := hw
  have g5 : Gx E (d + 1) 70 17 [.ref a0, .int a1, .int a2] [.int (if ¬ (zI h a0 1 : Int32) = 0 then if ¬ (zI h a0 1 : Int32) = 1 then a2 else a2.toInt16.toInt32 else a2.toInt8.toInt32), .int a1, .ref r1] h Q := by
    obtain ⟨ht, hb, hw⟩ := hw
    refine zg_iastore (h1 := zuI h r1 a1.toNatClampNeg (if ¬ (zI h a0 1 : Int32) = 0 then if ¬ (zI h a0 1 : Int32) = 1 then a2 else a2.toInt16.toInt32 else a2.toInt8.toInt32)) zi_70_17 ht hb rfl ?_
    refine zg_nameH fun h2 eh2 => ?_
    have hw := hw h2 eh2
    exact zg_return zi_70_18 hw
  refine zg_if_ne zi_70_5 (fun hc5 => ?_) (fun hc5 => ?_)
  · have hw := hsd5.1 hc5
    refine zg_aload zi_70_9 rfl ?_
    obtain ⟨ht, hw⟩ := hw
    refine zg_getI (v := .int (zI h a0 1)) zi_70_10 ht (by rfl) rfl ?_
    refine zg_const (v := 1) zi_70_11 (by rfl) ?_
    have g12 : Gx E (d + 1) 70 17 [.ref a0, .int a1, .int a2] [.int (if ¬ (zI h a0 1 : Int32) = 1 then a2 else a2.toInt16.toInt32), .int a1, .ref r1] h Q := by
      have hg := g5
      simp only [if_pos hc5] at hg
      exact hg
    refine zg_icmp_ne zi_70_12 (fun hc12 => ?_) (fun hc12 => ?_)
    · skip
      refine zg_iload zi_70_16 rfl ?_
      have hg := g12
      simp only [if_pos hc12] at hg
      exact hg
    · skip
      refine zg_iload zi_70_13 rfl ?_
      refine zg_i2s zi_70_14 ?_
      refine zg_goto zi_70_15 ?_
      have hg := g12
      simp only [if_neg hc12] at hg
      exact hg
  · have hw := hsd5.2 hc5
    refine zg_iload zi_70_6 rfl ?_
    refine zg_i2b zi_70_7 ?_
    refine zg_goto zi_70_8 ?_
    have hg := g5
    simp only [if_neg hc5] at hg
    exact hg
theorem zi_71_0 : (zM 71).1[0]? = some (.aload 0) := by rfl
theorem zi_71_1 : (zM 71).1[1]? = some (.getfield 6001) := by rfl
theorem zi_71_2 : (zM 71).1[2]? = some (.iconst (-4)) := by rfl
theorem zi_71_3 : (zM 71).1[3]? = some (.if_icmp .ne ((6 : Nat) : Int)) := by rfl
theorem zi_71_4 : (zM 71).1[4]? = some (.iconst 1) := by rfl
theorem zi_71_5 : (zM 71).1[5]? = some (.ireturn) := by rfl
theorem zi_71_6 : (zM 71).1[6]? = some (.aload 0) := by rfl
theorem zi_71_7 : (zM 71).1[7]? = some (.getfield 6001) := by rfl
theorem zi_71_8 : (zM 71).1[8]? = some (.iload 1) := by rfl
theorem zi_71_9 : (zM 71).1[9]? = some (.if_icmp .ne ((12 : Nat) : Int)) := by rfl
theorem zi_71_10 : (zM 71).1[10]? = some (.iconst 0) := by rfl
theorem zi_71_11 : (zM 71).1[11]? = some (.goto ((13 : Nat) : Int)) := by rfl
theorem zi_71_12 : (zM 71).1[12]? = some (.iconst 3) := by rfl
theorem zi_71_13 : (zM 71).1[13]? = some (.ireturn) := by rfl
/-- TakeOrPay$Sheet.faultAs(I)I -/
def w_71 (E : Nat → Nat) (d : Nat) (a0 : Nat) (a1 : Int32) (h : ZH) (Q : Option Value → ZH → Prop) : Prop := ztag h a0 = 6 ∧ ((¬ (zI h a0 1 : Int32) = ((-4) : Int32) → (ztag h a0 = 6 ∧ Q (some (.int (if ¬ (zI h a0 1 : Int32) = a1 then 3 else 0))) h)) ∧ (¬ (¬ (zI h a0 1 : Int32) = ((-4) : Int32)) → (Q (some (.int 1)) h)))
set_option maxRecDepth 20000 in
theorem ok_71 {E : Nat → Nat} {d : Nat} {a0 : Nat} {a1 : Int32} {h : ZH} {Q : Option Value → ZH → Prop} (hw : w_71 E d a0 a1 h Q) : Ct E (d + 1) 71 [.ref a0, .int a1] h Q := by
  unfold w_71 at hw
  show Gx E (d + 1) 71 0 [.ref a0, .int a1] [] h Q
  refine zg_aload zi_71_0 rfl ?_
  obtain ⟨ht, hw⟩ := hw
  refine zg_getI (v := .int (zI h a0 1)) zi_71_1 ht (by rfl) rfl ?_
  refine zg_const (v := (-4)) zi_71_2 (by rfl) ?_
  refine zg_icmp_ne zi_71_3 (fun hc => ?_) (fun hc => ?_)
  · have hw := hw.1 hc
    refine zg_aload zi_71_6 rfl ?_
    obtain ⟨ht, hw⟩ := hw
    refine zg_getI (v := .int (zI h a0 1)) zi_71_7 ht (by rfl) rfl ?_
    refine zg_iload zi_71_8 rfl ?_
    have g9 : Gx E (d + 1) 71 13 [.ref a0, .int a1] [.int (if ¬ (zI h a0 1 : Int32) = a1 then 3 else 0)] h Q := by
      exact zg_ireturn zi_71_13 (by decide) hw
    refine zg_icmp_ne zi_71_9 (fun hc9 => ?_) (fun hc9 => ?_)
    · skip
      refine zg_const (v := 3) zi_71_12 (by rfl) ?_
      have hg := g9
      simp only [if_pos hc9] at hg
      exact hg
    · skip
      refine zg_const (v := 0) zi_71_10 (by rfl) ?_
      refine zg_goto zi_71_11 ?_
      have hg := g9
      simp only [if_neg hc9] at hg
      exact hg
  · have hw := hw.2 hc
    refine zg_const (v := 1) zi_71_4 (by rfl) ?_
    exact zg_ireturn zi_71_5 (by decide) hw
def fz_71 (E : Nat → Nat) (h : ZH) (a0 : Nat) (a1 : Int32) : Int32 := if ¬ (zI h a0 1 : Int32) = ((-4) : Int32) then (if ¬ (zI h a0 1 : Int32) = a1 then 3 else 0) else (1)
def sz_71 (E : Nat → Nat) (h : ZH) (a0 : Nat) (a1 : Int32) : Prop := ztag h a0 = 6 ∧ ((¬ (zI h a0 1 : Int32) = ((-4) : Int32) → (ztag h a0 = 6 ∧ True)) ∧ (¬ (¬ (zI h a0 1 : Int32) = ((-4) : Int32)) → (True)))
set_option maxRecDepth 20000 in
theorem cz_71 {E : Nat → Nat} {d : Nat} {a0 : Nat} {a1 : Int32} {h : ZH} {Q : Option Value → ZH → Prop} (hd : 1 ≤ d) (hs : sz_71 E h a0 a1) (hq : Q (some (.int (fz_71 E h a0 a1))) h) : Ct E d 71 [.ref a0, .int a1] h Q := by
  obtain ⟨d, rfl⟩ : ∃ n, d = n + 1 := ⟨d - 1, by omega⟩
  refine ok_71 ?_
  unfold w_71
  unfold sz_71 at hs
  unfold fz_71 at hq
  refine ⟨hs.1, ?_⟩
  have hs := hs.2
  refine ⟨fun hc => ?_, fun hc => ?_⟩
  · have hs := hs.1 hc
    rw [if_pos hc] at hq
    refine ⟨hs.1, ?_⟩
    have hs := hs.2
    exact hq
  · have hs := hs.2 hc
    rw [if_neg hc] at hq
    exact hq
theorem zi_77_0 : (zM 77).1[0]? = some (.aload 0) := by rfl
theorem zi_77_1 : (zM 77).1[1]? = some (.invokedynamic 3) := by rfl
theorem zi_77_2 : (zM 77).1[2]? = some (.aload 0) := by rfl
theorem zi_77_3 : (zM 77).1[3]? = some (.iconst 320) := by rfl
theorem zi_77_4 : (zM 77).1[4]? = some (.newarray .byte) := by rfl
theorem zi_77_5 : (zM 77).1[5]? = some (.putfield 8200) := by rfl
theorem zi_77_6 : (zM 77).1[6]? = some (.return_) := by rfl
/-- TakeOrPay$Tape.<init>()V -/
def w_77 (E : Nat → Nat) (d : Nat) (a0 : Nat) (h : ZH) (Q : Option Value → ZH → Prop) : Prop := 4 ≤ d ∧ ∀ h1 : ZH, h1 = znew h 12 320 → ∀ r2 : Nat, r2 = zsz h → ztag h1 a0 = 8 ∧ ∀ h3 : ZH, h3 = zuR h1 a0 0 (r2 + 1) → Q none h3
set_option maxRecDepth 20000 in
theorem ok_77 {E : Nat → Nat} {d : Nat} {a0 : Nat} {h : ZH} {Q : Option Value → ZH → Prop} (hw : w_77 E d a0 h Q) : Ct E (d + 1) 77 [.ref a0] h Q := by
  unfold w_77 at hw
  show Gx E (d + 1) 77 0 [.ref a0] [] h Q
  refine zg_aload zi_77_0 rfl ?_
  obtain ⟨hd, hw⟩ := hw
  refine zg_object zi_77_1 ⟨by omega, by decide⟩ ?_
  refine zg_aload zi_77_2 rfl ?_
  refine zg_const (v := 320) zi_77_3 (by rfl) ?_
  refine zg_newarray_byte (N := 320) zi_77_4 (by decide) (by decide) ?_
  refine zg_nameH fun h1 eh1 => ?_
  have hw := hw h1 eh1
  refine zg_nameA fun r2 er2 => ?_
  have hw := hw r2 er2
  obtain ⟨ht, hw⟩ := hw
  refine zg_putR (h1 := zuR h1 a0 0 (r2 + 1)) zi_77_5 ht (by rfl) rfl ?_
  refine zg_nameH fun h3 eh3 => ?_
  have hw := hw h3 eh3
  exact zg_return zi_77_6 hw
theorem zi_78_0 : (zM 78).1[0]? = some (.aload 0) := by rfl
theorem zi_78_1 : (zM 78).1[1]? = some (.getfield 8001) := by rfl
theorem zi_78_2 : (zM 78).1[2]? = some (.iconst 8) := by rfl
theorem zi_78_3 : (zM 78).1[3]? = some (.iadd) := by rfl
theorem zi_78_4 : (zM 78).1[4]? = some (.iconst 320) := by rfl
theorem zi_78_5 : (zM 78).1[5]? = some (.if_icmp .le ((8 : Nat) : Int)) := by rfl
theorem zi_78_6 : (zM 78).1[6]? = some (.iconst 0) := by rfl
theorem zi_78_7 : (zM 78).1[7]? = some (.ireturn) := by rfl
theorem zi_78_8 : (zM 78).1[8]? = some (.iconst 56) := by rfl
theorem zi_78_9 : (zM 78).1[9]? = some (.istore 3) := by rfl
theorem zi_78_10 : (zM 78).1[10]? = some (.iload 3) := by rfl
theorem zi_78_11 : (zM 78).1[11]? = some (.ifCond .lt ((30 : Nat) : Int)) := by rfl
theorem zi_78_12 : (zM 78).1[12]? = some (.aload 0) := by rfl
theorem zi_78_13 : (zM 78).1[13]? = some (.getfield 8200) := by rfl
theorem zi_78_14 : (zM 78).1[14]? = some (.aload 0) := by rfl
theorem zi_78_15 : (zM 78).1[15]? = some (.getfield 8001) := by rfl
theorem zi_78_16 : (zM 78).1[16]? = some (.lload 1) := by rfl
theorem zi_78_17 : (zM 78).1[17]? = some (.iload 3) := by rfl
theorem zi_78_18 : (zM 78).1[18]? = some (.lshr) := by rfl
theorem zi_78_19 : (zM 78).1[19]? = some (.l2i) := by rfl
theorem zi_78_20 : (zM 78).1[20]? = some (.i2b) := by rfl
theorem zi_78_21 : (zM 78).1[21]? = some (.bastore) := by rfl
theorem zi_78_22 : (zM 78).1[22]? = some (.aload 0) := by rfl
theorem zi_78_23 : (zM 78).1[23]? = some (.dup) := by rfl
theorem zi_78_24 : (zM 78).1[24]? = some (.getfield 8001) := by rfl
theorem zi_78_25 : (zM 78).1[25]? = some (.iconst 1) := by rfl
theorem zi_78_26 : (zM 78).1[26]? = some (.iadd) := by rfl
theorem zi_78_27 : (zM 78).1[27]? = some (.putfield 8001) := by rfl
theorem zi_78_28 : (zM 78).1[28]? = some (.iinc 3 (-8)) := by rfl
theorem zi_78_29 : (zM 78).1[29]? = some (.goto ((10 : Nat) : Int)) := by rfl
theorem zi_78_30 : (zM 78).1[30]? = some (.iconst 1) := by rfl
theorem zi_78_31 : (zM 78).1[31]? = some (.ireturn) := by rfl
def wb_78_30 (E : Nat → Nat) (d : Nat) (Q : Option Value → ZH → Prop) (h : ZH) : Prop := Q (some (.int 1)) h
set_option maxRecDepth 20000 in
theorem okb_78_30 {E : Nat → Nat} {d : Nat} {Q : Option Value → ZH → Prop} {h : ZH} (hw : wb_78_30 E d Q  h) : Gx E (d + 1) 78 30 [.retAddr 0, .retAddr 0, .retAddr 0, .retAddr 0] [] h Q := by
  unfold wb_78_30 at hw
  refine zg_const (v := 1) zi_78_30 (by rfl) ?_
  exact zg_zreturn zi_78_31 (by decide) hw
def wl_78_10 (E : Nat → Nat) (d : Nat) (Q : Option Value → ZH → Prop) : Nat → Nat → Int64 → Int32 → ZH → Prop
  | 0, _, _, _, _ => False
  | n + 1, a0, a1, a3, h => (a3 < 0 → (wb_78_30 E d Q  h)) ∧ (¬ (a3 < 0) → (ztag h a0 = 8 ∧ ∃ r1 : Nat, zR h a0 0 = r1 + 1 ∧ ztag h a0 = 8 ∧ (ztag h r1 = 12 ∨ ztag h r1 = 15) ∧ zin (zI h a0 1) (zlen h r1) = true ∧ ∀ h2 : ZH, h2 = zuI h r1 (zI h a0 1 : Int32).toNatClampNeg (zbyte (ztag h r1) (((a1 >>> (a3.toInt64 &&& 63) : Int64).toInt32 : Int32).toInt8.toInt32)) → ztag h2 a0 = 8 ∧ ztag h2 a0 = 8 ∧ ∀ h3 : ZH, h3 = zuI h2 a0 1 ((zI h2 a0 1) + 1) → ∀ x4 : Int32, x4 = a3 + (-8) → wl_78_10 E d Q n a0 a1 x4 h3))
set_option maxRecDepth 20000 in
theorem okl_78_10 {E : Nat → Nat} {d : Nat} {Q : Option Value → ZH → Prop} : ∀ (n : Nat) (a0 : Nat) (a1 : Int64) (a3 : Int32) (h : ZH), wl_78_10 E d Q n a0 a1 a3 h → Gx E (d + 1) 78 10 [.ref a0, .long a1, .retAddr 0, .int a3] [] h Q := by
  intro n
  induction n with
  | zero => intro a0 a1 a3 h hw; exact hw.elim
  | succ n ih =>
    intro a0 a1 a3 h hw
    rw [wl_78_10] at hw
    refine zg_iload zi_78_10 rfl ?_
    refine zg_if_lt zi_78_11 (fun hc => ?_) (fun hc => ?_)
    · have hw := hw.1 hc
      exact Gx.forget ⟨Or.inr rfl, Or.inr rfl, Or.inl rfl, Or.inr rfl, trivial⟩ (okb_78_30 hw)
    · have hw := hw.2 hc
      refine zg_aload zi_78_12 rfl ?_
      obtain ⟨ht, hw⟩ := hw
      obtain ⟨r1, hr, hw⟩ := hw
      refine zg_getR (v := .ref r1) zi_78_13 ht (by rfl) (by show zrv (zR h a0 0) = _; rw [hr]; rfl) ?_
      refine zg_aload zi_78_14 rfl ?_
      obtain ⟨ht, hw⟩ := hw
      refine zg_getI (v := .int (zI h a0 1)) zi_78_15 ht (by rfl) rfl ?_
      refine zg_lload zi_78_16 rfl ?_
      refine zg_iload zi_78_17 rfl ?_
      refine zg_lshr zi_78_18 ?_
      refine zg_l2i zi_78_19 ?_
      refine zg_i2b zi_78_20 ?_
      obtain ⟨ht, hb, hw⟩ := hw
      refine zg_bastore (h1 := zuI h r1 (zI h a0 1 : Int32).toNatClampNeg (zbyte (ztag h r1) (((a1 >>> (a3.toInt64 &&& 63) : Int64).toInt32 : Int32).toInt8.toInt32))) zi_78_21 ht hb rfl ?_
      refine zg_nameH fun h2 eh2 => ?_
      have hw := hw h2 eh2
      refine zg_aload zi_78_22 rfl ?_
      refine zg_dup zi_78_23 rfl ?_
      obtain ⟨ht, hw⟩ := hw
      refine zg_getI (v := .int (zI h2 a0 1)) zi_78_24 ht (by rfl) rfl ?_
      refine zg_const (v := 1) zi_78_25 (by rfl) ?_
      refine zg_iadd zi_78_26 ?_
      obtain ⟨ht, hw⟩ := hw
      refine zg_putI (h1 := zuI h2 a0 1 ((zI h2 a0 1) + 1)) zi_78_27 ht (by rfl) rfl ?_
      refine zg_nameH fun h3 eh3 => ?_
      have hw := hw h3 eh3
      obtain ⟨x4, ex4⟩ : ∃ x : Int32, x = a3 + (-8) := ⟨_, rfl⟩
      have hw := hw x4 ex4
      refine zg_iinc (v := x4) (ls1 := [.ref a0, .long a1, .retAddr 0, .int x4]) zi_78_28 rfl (by rw [ex4]; rfl) rfl ?_
      refine zg_goto zi_78_29 ?_
      exact ih a0 a1 x4 h3 hw
/-- TakeOrPay$Tape.append(J)Z -/
def w_78 (E : Nat → Nat) (d : Nat) (a0 : Nat) (a1 : Int64) (h : ZH) (Q : Option Value → ZH → Prop) : Prop := ztag h a0 = 8 ∧ ((((zI h a0 1) + 8 : Int32) ≤ 320 → (∃ n : Nat, wl_78_10 E d Q n a0 a1 56 h)) ∧ (¬ (((zI h a0 1) + 8 : Int32) ≤ 320) → (Q (some (.int 0)) h)))
set_option maxRecDepth 20000 in
theorem ok_78 {E : Nat → Nat} {d : Nat} {a0 : Nat} {a1 : Int64} {h : ZH} {Q : Option Value → ZH → Prop} (hw : w_78 E d a0 a1 h Q) : Ct E (d + 1) 78 [.ref a0, .long a1] h Q := by
  unfold w_78 at hw
  show Gx E (d + 1) 78 0 [.ref a0, .long a1, .retAddr 0, .retAddr 0] [] h Q
  refine zg_aload zi_78_0 rfl ?_
  obtain ⟨ht, hw⟩ := hw
  refine zg_getI (v := .int (zI h a0 1)) zi_78_1 ht (by rfl) rfl ?_
  refine zg_const (v := 8) zi_78_2 (by rfl) ?_
  refine zg_iadd zi_78_3 ?_
  refine zg_const (v := 320) zi_78_4 (by rfl) ?_
  refine zg_icmp_le zi_78_5 (fun hc => ?_) (fun hc => ?_)
  · have hw := hw.1 hc
    refine zg_const (v := 56) zi_78_8 (by rfl) ?_
    refine zg_istore (ls1 := [.ref a0, .long a1, .retAddr 0, .int 56]) zi_78_9 (by decide) rfl ?_
    obtain ⟨n, hw⟩ := hw
    exact okl_78_10 n a0 a1 56 h hw
  · have hw := hw.2 hc
    refine zg_const (v := 0) zi_78_6 (by rfl) ?_
    exact zg_zreturn zi_78_7 (by decide) hw
theorem zi_85_0 : (zM 85).1[0]? = some (.aload 0) := by rfl
theorem zi_85_1 : (zM 85).1[1]? = some (.invokedynamic 3) := by rfl
theorem zi_85_2 : (zM 85).1[2]? = some (.aload 0) := by rfl
theorem zi_85_3 : (zM 85).1[3]? = some (.new 2) := by rfl
theorem zi_85_4 : (zM 85).1[4]? = some (.dup) := by rfl
theorem zi_85_5 : (zM 85).1[5]? = some (.invokespecial 23) := by rfl
theorem zi_85_6 : (zM 85).1[6]? = some (.putfield 9200) := by rfl
theorem zi_85_7 : (zM 85).1[7]? = some (.return_) := by rfl
/-- TakeOrPay$Walk.<init>()V -/
def w_85 (E : Nat → Nat) (d : Nat) (a0 : Nat) (h : ZH) (Q : Option Value → ZH → Prop) : Prop := 4 ≤ d ∧ ∀ h1 : ZH, h1 = znew h 2 (zN 2) → ∀ r2 : Nat, r2 = zsz h → ztag h1 r2 = 2 ∧ Ct E d 23 [.ref r2] h1 (fun v h3 => v = none ∧ ztag h3 a0 = 9 ∧ ∀ h4 : ZH, h4 = zuR h3 a0 0 (r2 + 1) → Q none h4)
set_option maxRecDepth 20000 in
theorem ok_85 {E : Nat → Nat} {d : Nat} {a0 : Nat} {h : ZH} {Q : Option Value → ZH → Prop} (hw : w_85 E d a0 h Q) : Ct E (d + 1) 85 [.ref a0] h Q := by
  unfold w_85 at hw
  show Gx E (d + 1) 85 0 [.ref a0] [] h Q
  refine zg_aload zi_85_0 rfl ?_
  obtain ⟨hd, hw⟩ := hw
  refine zg_object zi_85_1 ⟨by omega, by decide⟩ ?_
  refine zg_aload zi_85_2 rfl ?_
  refine zg_new zi_85_3 (by decide) ?_
  refine zg_nameH fun h1 eh1 => ?_
  have hw := hw h1 eh1
  refine zg_nameA fun r2 er2 => ?_
  have hw := hw r2 er2
  refine zg_dup zi_85_4 rfl ?_
  obtain ⟨ht, hw⟩ := hw
  refine Gx.call (as := [.ref r2]) (rest := [.ref r2, .ref a0]) (n := 1) zi_85_5 (by rfl) rfl (by rfl) (by rfl) (by rfl) (by decide) (by simp only [zcat, List.map, List.sum_cons, List.sum_nil, Value.category]; decide) (zrv_i ht (by rfl) (by rfl)) (by decide) ?_
  refine Ct.mono hw ?_
  rintro v h3 ⟨rfl, hw⟩
  show Gx E (d + 1) 85 6 [.ref a0] [.ref r2, .ref a0] h3 Q
  obtain ⟨ht, hw⟩ := hw
  refine zg_putR (h1 := zuR h3 a0 0 (r2 + 1)) zi_85_6 ht (by rfl) rfl ?_
  refine zg_nameH fun h4 eh4 => ?_
  have hw := hw h4 eh4
  exact zg_return zi_85_7 hw
theorem zi_86_0 : (zM 86).1[0]? = some (.aload 0) := by rfl
theorem zi_86_1 : (zM 86).1[1]? = some (.iconst 0) := by rfl
theorem zi_86_2 : (zM 86).1[2]? = some (.putfield 9001) := by rfl
theorem zi_86_3 : (zM 86).1[3]? = some (.aload 0) := by rfl
theorem zi_86_4 : (zM 86).1[4]? = some (.iconst (-4)) := by rfl
theorem zi_86_5 : (zM 86).1[5]? = some (.putfield 9002) := by rfl
theorem zi_86_6 : (zM 86).1[6]? = some (.aload 0) := by rfl
theorem zi_86_7 : (zM 86).1[7]? = some (.iconst 0) := by rfl
theorem zi_86_8 : (zM 86).1[8]? = some (.putfield 9003) := by rfl
theorem zi_86_9 : (zM 86).1[9]? = some (.aload 0) := by rfl
theorem zi_86_10 : (zM 86).1[10]? = some (.iconst 0) := by rfl
theorem zi_86_11 : (zM 86).1[11]? = some (.putfield 9004) := by rfl
theorem zi_86_12 : (zM 86).1[12]? = some (.aload 0) := by rfl
theorem zi_86_13 : (zM 86).1[13]? = some (.iconst 0) := by rfl
theorem zi_86_14 : (zM 86).1[14]? = some (.putfield 9005) := by rfl
theorem zi_86_15 : (zM 86).1[15]? = some (.aload 0) := by rfl
theorem zi_86_16 : (zM 86).1[16]? = some (.iconst 0) := by rfl
theorem zi_86_17 : (zM 86).1[17]? = some (.putfield 9006) := by rfl
theorem zi_86_18 : (zM 86).1[18]? = some (.aload 0) := by rfl
theorem zi_86_19 : (zM 86).1[19]? = some (.iconst 0) := by rfl
theorem zi_86_20 : (zM 86).1[20]? = some (.putfield 9007) := by rfl
theorem zi_86_21 : (zM 86).1[21]? = some (.aload 0) := by rfl
theorem zi_86_22 : (zM 86).1[22]? = some (.iconst 0) := by rfl
theorem zi_86_23 : (zM 86).1[23]? = some (.putfield 9008) := by rfl
theorem zi_86_24 : (zM 86).1[24]? = some (.return_) := by rfl
/-- TakeOrPay$Walk.begin()V -/
def w_86 (E : Nat → Nat) (d : Nat) (a0 : Nat) (h : ZH) (Q : Option Value → ZH → Prop) : Prop := ztag h a0 = 9 ∧ ∀ h1 : ZH, h1 = zuI h a0 1 0 → ztag h1 a0 = 9 ∧ ∀ h2 : ZH, h2 = zuI h1 a0 2 ((-4)) → ztag h2 a0 = 9 ∧ ∀ h3 : ZH, h3 = zuI h2 a0 3 0 → ztag h3 a0 = 9 ∧ ∀ h4 : ZH, h4 = zuI h3 a0 4 0 → ztag h4 a0 = 9 ∧ ∀ h5 : ZH, h5 = zuI h4 a0 5 0 → ztag h5 a0 = 9 ∧ ∀ h6 : ZH, h6 = zuI h5 a0 6 0 → ztag h6 a0 = 9 ∧ ∀ h7 : ZH, h7 = zuI h6 a0 7 0 → ztag h7 a0 = 9 ∧ ∀ h8 : ZH, h8 = zuI h7 a0 8 0 → Q none h8
set_option maxRecDepth 20000 in
theorem ok_86 {E : Nat → Nat} {d : Nat} {a0 : Nat} {h : ZH} {Q : Option Value → ZH → Prop} (hw : w_86 E d a0 h Q) : Ct E (d + 1) 86 [.ref a0] h Q := by
  unfold w_86 at hw
  show Gx E (d + 1) 86 0 [.ref a0] [] h Q
  refine zg_aload zi_86_0 rfl ?_
  refine zg_const (v := 0) zi_86_1 (by rfl) ?_
  obtain ⟨ht, hw⟩ := hw
  refine zg_putI (h1 := zuI h a0 1 0) zi_86_2 ht (by rfl) rfl ?_
  refine zg_nameH fun h1 eh1 => ?_
  have hw := hw h1 eh1
  refine zg_aload zi_86_3 rfl ?_
  refine zg_const (v := (-4)) zi_86_4 (by rfl) ?_
  obtain ⟨ht, hw⟩ := hw
  refine zg_putI (h1 := zuI h1 a0 2 ((-4))) zi_86_5 ht (by rfl) rfl ?_
  refine zg_nameH fun h2 eh2 => ?_
  have hw := hw h2 eh2
  refine zg_aload zi_86_6 rfl ?_
  refine zg_const (v := 0) zi_86_7 (by rfl) ?_
  obtain ⟨ht, hw⟩ := hw
  refine zg_putI (h1 := zuI h2 a0 3 0) zi_86_8 ht (by rfl) rfl ?_
  refine zg_nameH fun h3 eh3 => ?_
  have hw := hw h3 eh3
  refine zg_aload zi_86_9 rfl ?_
  refine zg_const (v := 0) zi_86_10 (by rfl) ?_
  obtain ⟨ht, hw⟩ := hw
  refine zg_putI (h1 := zuI h3 a0 4 0) zi_86_11 ht (by rfl) rfl ?_
  refine zg_nameH fun h4 eh4 => ?_
  have hw := hw h4 eh4
  refine zg_aload zi_86_12 rfl ?_
  refine zg_const (v := 0) zi_86_13 (by rfl) ?_
  obtain ⟨ht, hw⟩ := hw
  refine zg_putI (h1 := zuI h4 a0 5 0) zi_86_14 ht (by rfl) rfl ?_
  refine zg_nameH fun h5 eh5 => ?_
  have hw := hw h5 eh5
  refine zg_aload zi_86_15 rfl ?_
  refine zg_const (v := 0) zi_86_16 (by rfl) ?_
  obtain ⟨ht, hw⟩ := hw
  refine zg_putI (h1 := zuI h5 a0 6 0) zi_86_17 ht (by rfl) rfl ?_
  refine zg_nameH fun h6 eh6 => ?_
  have hw := hw h6 eh6
  refine zg_aload zi_86_18 rfl ?_
  refine zg_const (v := 0) zi_86_19 (by rfl) ?_
  obtain ⟨ht, hw⟩ := hw
  refine zg_putI (h1 := zuI h6 a0 7 0) zi_86_20 ht (by rfl) rfl ?_
  refine zg_nameH fun h7 eh7 => ?_
  have hw := hw h7 eh7
  refine zg_aload zi_86_21 rfl ?_
  refine zg_const (v := 0) zi_86_22 (by rfl) ?_
  obtain ⟨ht, hw⟩ := hw
  refine zg_putI (h1 := zuI h7 a0 8 0) zi_86_23 ht (by rfl) rfl ?_
  refine zg_nameH fun h8 eh8 => ?_
  have hw := hw h8 eh8
  exact zg_return zi_86_24 hw
theorem zi_88_0 : (zM 88).1[0]? = some (.aload 0) := by rfl
theorem zi_88_1 : (zM 88).1[1]? = some (.aload 0) := by rfl
theorem zi_88_2 : (zM 88).1[2]? = some (.getfield 9200) := by rfl
theorem zi_88_3 : (zM 88).1[3]? = some (.getfield 2003) := by rfl
theorem zi_88_4 : (zM 88).1[4]? = some (.putfield 9003) := by rfl
theorem zi_88_5 : (zM 88).1[5]? = some (.aload 0) := by rfl
theorem zi_88_6 : (zM 88).1[6]? = some (.aload 0) := by rfl
theorem zi_88_7 : (zM 88).1[7]? = some (.getfield 9200) := by rfl
theorem zi_88_8 : (zM 88).1[8]? = some (.getfield 2004) := by rfl
theorem zi_88_9 : (zM 88).1[9]? = some (.putfield 9004) := by rfl
theorem zi_88_10 : (zM 88).1[10]? = some (.aload 0) := by rfl
theorem zi_88_11 : (zM 88).1[11]? = some (.aload 0) := by rfl
theorem zi_88_12 : (zM 88).1[12]? = some (.getfield 9200) := by rfl
theorem zi_88_13 : (zM 88).1[13]? = some (.getfield 2005) := by rfl
theorem zi_88_14 : (zM 88).1[14]? = some (.putfield 9005) := by rfl
theorem zi_88_15 : (zM 88).1[15]? = some (.return_) := by rfl
/-- TakeOrPay$Walk.keepPlace()V -/
def w_88 (E : Nat → Nat) (d : Nat) (a0 : Nat) (h : ZH) (Q : Option Value → ZH → Prop) : Prop := ztag h a0 = 9 ∧ ∃ r1 : Nat, zR h a0 0 = r1 + 1 ∧ ztag h r1 = 2 ∧ ztag h a0 = 9 ∧ ∀ h2 : ZH, h2 = zuI h a0 3 (zI h r1 3) → ztag h2 a0 = 9 ∧ ∃ r3 : Nat, zR h2 a0 0 = r3 + 1 ∧ ztag h2 r3 = 2 ∧ ztag h2 a0 = 9 ∧ ∀ h4 : ZH, h4 = zuI h2 a0 4 (zI h2 r3 4) → ztag h4 a0 = 9 ∧ ∃ r5 : Nat, zR h4 a0 0 = r5 + 1 ∧ ztag h4 r5 = 2 ∧ ztag h4 a0 = 9 ∧ ∀ h6 : ZH, h6 = zuI h4 a0 5 (zI h4 r5 5) → Q none h6
set_option maxRecDepth 20000 in
theorem ok_88 {E : Nat → Nat} {d : Nat} {a0 : Nat} {h : ZH} {Q : Option Value → ZH → Prop} (hw : w_88 E d a0 h Q) : Ct E (d + 1) 88 [.ref a0] h Q := by
  unfold w_88 at hw
  show Gx E (d + 1) 88 0 [.ref a0] [] h Q
  refine zg_aload zi_88_0 rfl ?_
  refine zg_aload zi_88_1 rfl ?_
  obtain ⟨ht, hw⟩ := hw
  obtain ⟨r1, hr, hw⟩ := hw
  refine zg_getR (v := .ref r1) zi_88_2 ht (by rfl) (by show zrv (zR h a0 0) = _; rw [hr]; rfl) ?_
  obtain ⟨ht, hw⟩ := hw
  refine zg_getI (v := .int (zI h r1 3)) zi_88_3 ht (by rfl) rfl ?_
  obtain ⟨ht, hw⟩ := hw
  refine zg_putI (h1 := zuI h a0 3 (zI h r1 3)) zi_88_4 ht (by rfl) rfl ?_
  refine zg_nameH fun h2 eh2 => ?_
  have hw := hw h2 eh2
  refine zg_aload zi_88_5 rfl ?_
  refine zg_aload zi_88_6 rfl ?_
  obtain ⟨ht, hw⟩ := hw
  obtain ⟨r3, hr, hw⟩ := hw
  refine zg_getR (v := .ref r3) zi_88_7 ht (by rfl) (by show zrv (zR h2 a0 0) = _; rw [hr]; rfl) ?_
  obtain ⟨ht, hw⟩ := hw
  refine zg_getI (v := .int (zI h2 r3 4)) zi_88_8 ht (by rfl) rfl ?_
  obtain ⟨ht, hw⟩ := hw
  refine zg_putI (h1 := zuI h2 a0 4 (zI h2 r3 4)) zi_88_9 ht (by rfl) rfl ?_
  refine zg_nameH fun h4 eh4 => ?_
  have hw := hw h4 eh4
  refine zg_aload zi_88_10 rfl ?_
  refine zg_aload zi_88_11 rfl ?_
  obtain ⟨ht, hw⟩ := hw
  obtain ⟨r5, hr, hw⟩ := hw
  refine zg_getR (v := .ref r5) zi_88_12 ht (by rfl) (by show zrv (zR h4 a0 0) = _; rw [hr]; rfl) ?_
  obtain ⟨ht, hw⟩ := hw
  refine zg_getI (v := .int (zI h4 r5 5)) zi_88_13 ht (by rfl) rfl ?_
  obtain ⟨ht, hw⟩ := hw
  refine zg_putI (h1 := zuI h4 a0 5 (zI h4 r5 5)) zi_88_14 ht (by rfl) rfl ?_
  refine zg_nameH fun h6 eh6 => ?_
  have hw := hw h6 eh6
  exact zg_return zi_88_15 hw
theorem zi_87_0 : (zM 87).1[0]? = some (.aload 1) := by rfl
theorem zi_87_1 : (zM 87).1[1]? = some (.aload 0) := by rfl
theorem zi_87_2 : (zM 87).1[2]? = some (.getfield 9001) := by rfl
theorem zi_87_3 : (zM 87).1[3]? = some (.invokevirtual 35) := by rfl
theorem zi_87_4 : (zM 87).1[4]? = some (.ifCond .ne ((6 : Nat) : Int)) := by rfl
theorem zi_87_5 : (zM 87).1[5]? = some (.return_) := by rfl
theorem zi_87_6 : (zM 87).1[6]? = some (.aload 0) := by rfl
theorem zi_87_7 : (zM 87).1[7]? = some (.getfield 9002) := by rfl
theorem zi_87_8 : (zM 87).1[8]? = some (.iconst (-4)) := by rfl
theorem zi_87_9 : (zM 87).1[9]? = some (.if_icmp .ne ((20 : Nat) : Int)) := by rfl
theorem zi_87_10 : (zM 87).1[10]? = some (.aload 1) := by rfl
theorem zi_87_11 : (zM 87).1[11]? = some (.aload 0) := by rfl
theorem zi_87_12 : (zM 87).1[12]? = some (.getfield 9001) := by rfl
theorem zi_87_13 : (zM 87).1[13]? = some (.iload 3) := by rfl
theorem zi_87_14 : (zM 87).1[14]? = some (.invokevirtual 46) := by rfl
theorem zi_87_15 : (zM 87).1[15]? = some (.ifCond .ne ((20 : Nat) : Int)) := by rfl
theorem zi_87_16 : (zM 87).1[16]? = some (.aload 0) := by rfl
theorem zi_87_17 : (zM 87).1[17]? = some (.aload 0) := by rfl
theorem zi_87_18 : (zM 87).1[18]? = some (.getfield 9001) := by rfl
theorem zi_87_19 : (zM 87).1[19]? = some (.putfield 9002) := by rfl
theorem zi_87_20 : (zM 87).1[20]? = some (.aload 0) := by rfl
theorem zi_87_21 : (zM 87).1[21]? = some (.getfield 9200) := by rfl
theorem zi_87_22 : (zM 87).1[22]? = some (.aload 1) := by rfl
theorem zi_87_23 : (zM 87).1[23]? = some (.aload 0) := by rfl
theorem zi_87_24 : (zM 87).1[24]? = some (.getfield 9001) := by rfl
theorem zi_87_25 : (zM 87).1[25]? = some (.aload 0) := by rfl
theorem zi_87_26 : (zM 87).1[26]? = some (.getfield 9003) := by rfl
theorem zi_87_27 : (zM 87).1[27]? = some (.aload 0) := by rfl
theorem zi_87_28 : (zM 87).1[28]? = some (.getfield 9004) := by rfl
theorem zi_87_29 : (zM 87).1[29]? = some (.aload 0) := by rfl
theorem zi_87_30 : (zM 87).1[30]? = some (.getfield 9005) := by rfl
theorem zi_87_31 : (zM 87).1[31]? = some (.iload 3) := by rfl
theorem zi_87_32 : (zM 87).1[32]? = some (.invokevirtual 25) := by rfl
theorem zi_87_33 : (zM 87).1[33]? = some (.aload 0) := by rfl
theorem zi_87_34 : (zM 87).1[34]? = some (.aload 0) := by rfl
theorem zi_87_35 : (zM 87).1[35]? = some (.getfield 9200) := by rfl
theorem zi_87_36 : (zM 87).1[36]? = some (.aload 1) := by rfl
theorem zi_87_37 : (zM 87).1[37]? = some (.iload 2) := by rfl
theorem zi_87_38 : (zM 87).1[38]? = some (.invokevirtual 27) := by rfl
theorem zi_87_39 : (zM 87).1[39]? = some (.putfield 9009) := by rfl
theorem zi_87_40 : (zM 87).1[40]? = some (.aload 0) := by rfl
theorem zi_87_41 : (zM 87).1[41]? = some (.aload 0) := by rfl
theorem zi_87_42 : (zM 87).1[42]? = some (.getfield 9200) := by rfl
theorem zi_87_43 : (zM 87).1[43]? = some (.getfield 2001) := by rfl
theorem zi_87_44 : (zM 87).1[44]? = some (.putfield 9010) := by rfl
theorem zi_87_45 : (zM 87).1[45]? = some (.aload 0) := by rfl
theorem zi_87_46 : (zM 87).1[46]? = some (.dup) := by rfl
theorem zi_87_47 : (zM 87).1[47]? = some (.getfield 9006) := by rfl
theorem zi_87_48 : (zM 87).1[48]? = some (.aload 0) := by rfl
theorem zi_87_49 : (zM 87).1[49]? = some (.getfield 9009) := by rfl
theorem zi_87_50 : (zM 87).1[50]? = some (.iadd) := by rfl
theorem zi_87_51 : (zM 87).1[51]? = some (.putfield 9006) := by rfl
theorem zi_87_52 : (zM 87).1[52]? = some (.aload 0) := by rfl
theorem zi_87_53 : (zM 87).1[53]? = some (.dup) := by rfl
theorem zi_87_54 : (zM 87).1[54]? = some (.getfield 9007) := by rfl
theorem zi_87_55 : (zM 87).1[55]? = some (.aload 0) := by rfl
theorem zi_87_56 : (zM 87).1[56]? = some (.getfield 9200) := by rfl
theorem zi_87_57 : (zM 87).1[57]? = some (.aload 1) := by rfl
theorem zi_87_58 : (zM 87).1[58]? = some (.iload 2) := by rfl
theorem zi_87_59 : (zM 87).1[59]? = some (.invokevirtual 28) := by rfl
theorem zi_87_60 : (zM 87).1[60]? = some (.iadd) := by rfl
theorem zi_87_61 : (zM 87).1[61]? = some (.putfield 9007) := by rfl
theorem zi_87_62 : (zM 87).1[62]? = some (.aload 0) := by rfl
theorem zi_87_63 : (zM 87).1[63]? = some (.invokevirtual 88) := by rfl
theorem zi_87_64 : (zM 87).1[64]? = some (.aload 0) := by rfl
theorem zi_87_65 : (zM 87).1[65]? = some (.getfield 9200) := by rfl
theorem zi_87_66 : (zM 87).1[66]? = some (.aload 1) := by rfl
theorem zi_87_67 : (zM 87).1[67]? = some (.aload 0) := by rfl
theorem zi_87_68 : (zM 87).1[68]? = some (.getfield 9001) := by rfl
theorem zi_87_69 : (zM 87).1[69]? = some (.invokevirtual 26) := by rfl
theorem zi_87_70 : (zM 87).1[70]? = some (.aload 0) := by rfl
theorem zi_87_71 : (zM 87).1[71]? = some (.dup) := by rfl
theorem zi_87_72 : (zM 87).1[72]? = some (.getfield 9008) := by rfl
theorem zi_87_73 : (zM 87).1[73]? = some (.aload 0) := by rfl
theorem zi_87_74 : (zM 87).1[74]? = some (.getfield 9200) := by rfl
theorem zi_87_75 : (zM 87).1[75]? = some (.getfield 2006) := by rfl
theorem zi_87_76 : (zM 87).1[76]? = some (.iadd) := by rfl
theorem zi_87_77 : (zM 87).1[77]? = some (.putfield 9008) := by rfl
theorem zi_87_78 : (zM 87).1[78]? = some (.aload 0) := by rfl
theorem zi_87_79 : (zM 87).1[79]? = some (.dup) := by rfl
theorem zi_87_80 : (zM 87).1[80]? = some (.getfield 9006) := by rfl
theorem zi_87_81 : (zM 87).1[81]? = some (.aload 0) := by rfl
theorem zi_87_82 : (zM 87).1[82]? = some (.getfield 9200) := by rfl
theorem zi_87_83 : (zM 87).1[83]? = some (.getfield 2008) := by rfl
theorem zi_87_84 : (zM 87).1[84]? = some (.iadd) := by rfl
theorem zi_87_85 : (zM 87).1[85]? = some (.putfield 9006) := by rfl
theorem zi_87_86 : (zM 87).1[86]? = some (.aload 0) := by rfl
theorem zi_87_87 : (zM 87).1[87]? = some (.dup) := by rfl
theorem zi_87_88 : (zM 87).1[88]? = some (.getfield 9007) := by rfl
theorem zi_87_89 : (zM 87).1[89]? = some (.aload 0) := by rfl
theorem zi_87_90 : (zM 87).1[90]? = some (.getfield 9200) := by rfl
theorem zi_87_91 : (zM 87).1[91]? = some (.getfield 2008) := by rfl
theorem zi_87_92 : (zM 87).1[92]? = some (.isub) := by rfl
theorem zi_87_93 : (zM 87).1[93]? = some (.putfield 9007) := by rfl
theorem zi_87_94 : (zM 87).1[94]? = some (.aload 0) := by rfl
theorem zi_87_95 : (zM 87).1[95]? = some (.dup) := by rfl
theorem zi_87_96 : (zM 87).1[96]? = some (.getfield 9001) := by rfl
theorem zi_87_97 : (zM 87).1[97]? = some (.iconst 1) := by rfl
theorem zi_87_98 : (zM 87).1[98]? = some (.iadd) := by rfl
theorem zi_87_99 : (zM 87).1[99]? = some (.putfield 9001) := by rfl
theorem zi_87_100 : (zM 87).1[100]? = some (.aload 1) := by rfl
theorem zi_87_101 : (zM 87).1[101]? = some (.aload 0) := by rfl
theorem zi_87_102 : (zM 87).1[102]? = some (.getfield 9001) := by rfl
theorem zi_87_103 : (zM 87).1[103]? = some (.invokevirtual 35) := by rfl
theorem zi_87_104 : (zM 87).1[104]? = some (.ifCond .eq ((107 : Nat) : Int)) := by rfl
theorem zi_87_105 : (zM 87).1[105]? = some (.aload 0) := by rfl
theorem zi_87_106 : (zM 87).1[106]? = some (.invokevirtual 88) := by rfl
theorem zi_87_107 : (zM 87).1[107]? = some (.return_) := by rfl
def wb_87_20 (E : Nat → Nat) (d : Nat) (Q : Option Value → ZH → Prop) (a0 : Nat) (a1 : Nat) (a2 : Int32) (a3 : Int32) (h : ZH) : Prop := ztag h a0 = 9 ∧ ∃ r1 : Nat, zR h a0 0 = r1 + 1 ∧ ztag h a0 = 9 ∧ ztag h a0 = 9 ∧ ztag h a0 = 9 ∧ ztag h a0 = 9 ∧ ztag h r1 = 2 ∧ Ct E d 25 [.ref r1, .ref a1, .int (zI h a0 1), .int (zI h a0 3), .int (zI h a0 4), .int (zI h a0 5), .int a3] h (fun v h2 => v = none ∧ ztag h2 a0 = 9 ∧ ∃ r3 : Nat, zR h2 a0 0 = r3 + 1 ∧ ztag h2 r3 = 2 ∧ 2 ≤ d ∧ sz_27 E h2 r3 a1 a2 ∧ ztag h2 a0 = 9 ∧ ∀ h4 : ZH, h4 = zuI h2 a0 9 (fz_27 E h2 r3 a1 a2) → ztag h4 a0 = 9 ∧ ∃ r5 : Nat, zR h4 a0 0 = r5 + 1 ∧ ztag h4 r5 = 2 ∧ ztag h4 a0 = 9 ∧ ∀ h6 : ZH, h6 = zuI h4 a0 10 (zI h4 r5 1) → ztag h6 a0 = 9 ∧ ztag h6 a0 = 9 ∧ ztag h6 a0 = 9 ∧ ∀ h7 : ZH, h7 = zuI h6 a0 6 ((zI h6 a0 6) + (zI h6 a0 9)) → ztag h7 a0 = 9 ∧ ztag h7 a0 = 9 ∧ ∃ r8 : Nat, zR h7 a0 0 = r8 + 1 ∧ ztag h7 r8 = 2 ∧ 3 ≤ d ∧ sz_28 E h7 r8 a1 a2 ∧ ztag h7 a0 = 9 ∧ ∀ h9 : ZH, h9 = zuI h7 a0 7 ((zI h7 a0 7) + (fz_28 E h7 r8 a1 a2)) → ztag h9 a0 = 9 ∧ Ct E d 88 [.ref a0] h9 (fun v h10 => v = none ∧ ztag h10 a0 = 9 ∧ ∃ r11 : Nat, zR h10 a0 0 = r11 + 1 ∧ ztag h10 a0 = 9 ∧ ztag h10 r11 = 2 ∧ Ct E d 26 [.ref r11, .ref a1, .int (zI h10 a0 1)] h10 (fun v h12 => v = none ∧ ztag h12 a0 = 9 ∧ ztag h12 a0 = 9 ∧ ∃ r13 : Nat, zR h12 a0 0 = r13 + 1 ∧ ztag h12 r13 = 2 ∧ ztag h12 a0 = 9 ∧ ∀ h14 : ZH, h14 = zuI h12 a0 8 ((zI h12 a0 8) + (zI h12 r13 6)) → ztag h14 a0 = 9 ∧ ztag h14 a0 = 9 ∧ ∃ r15 : Nat, zR h14 a0 0 = r15 + 1 ∧ ztag h14 r15 = 2 ∧ ztag h14 a0 = 9 ∧ ∀ h16 : ZH, h16 = zuI h14 a0 6 ((zI h14 a0 6) + (zI h14 r15 8)) → ztag h16 a0 = 9 ∧ ztag h16 a0 = 9 ∧ ∃ r17 : Nat, zR h16 a0 0 = r17 + 1 ∧ ztag h16 r17 = 2 ∧ ztag h16 a0 = 9 ∧ ∀ h18 : ZH, h18 = zuI h16 a0 7 ((zI h16 a0 7) - (zI h16 r17 8)) → ztag h18 a0 = 9 ∧ ztag h18 a0 = 9 ∧ ∀ h19 : ZH, h19 = zuI h18 a0 1 ((zI h18 a0 1) + 1) → ztag h19 a0 = 9 ∧ ztag h19 a1 = 3 ∧ 1 ≤ d ∧ sz_35 E h19 a1 (zI h19 a0 1) ∧ (((fz_35 E h19 a1 (zI h19 a0 1) : Int32) = 0 → (Q none h19)) ∧ (¬ ((fz_35 E h19 a1 (zI h19 a0 1) : Int32) = 0) → (ztag h19 a0 = 9 ∧ Ct E d 88 [.ref a0] h19 (fun v h20 => v = none ∧ Q none h20)))))))
set_option maxRecDepth 20000 in
theorem okb_87_20 {E : Nat → Nat} {d : Nat} {Q : Option Value → ZH → Prop} {a0 : Nat} {a1 : Nat} {a2 : Int32} {a3 : Int32} {h : ZH} (hw : wb_87_20 E d Q a0 a1 a2 a3 h) : Gx E (d + 1) 87 20 [.ref a0, .ref a1, .int a2, .int a3] [] h Q := by
  unfold wb_87_20 at hw
  refine zg_aload zi_87_20 rfl ?_
  obtain ⟨ht, hw⟩ := hw
  obtain ⟨r1, hr, hw⟩ := hw
  refine zg_getR (v := .ref r1) zi_87_21 ht (by rfl) (by show zrv (zR h a0 0) = _; rw [hr]; rfl) ?_
  refine zg_aload zi_87_22 rfl ?_
  refine zg_aload zi_87_23 rfl ?_
  obtain ⟨ht, hw⟩ := hw
  refine zg_getI (v := .int (zI h a0 1)) zi_87_24 ht (by rfl) rfl ?_
  refine zg_aload zi_87_25 rfl ?_
  obtain ⟨ht, hw⟩ := hw
  refine zg_getI (v := .int (zI h a0 3)) zi_87_26 ht (by rfl) rfl ?_
  refine zg_aload zi_87_27 rfl ?_
  obtain ⟨ht, hw⟩ := hw
  refine zg_getI (v := .int (zI h a0 4)) zi_87_28 ht (by rfl) rfl ?_
  refine zg_aload zi_87_29 rfl ?_
  obtain ⟨ht, hw⟩ := hw
  refine zg_getI (v := .int (zI h a0 5)) zi_87_30 ht (by rfl) rfl ?_
  refine zg_iload zi_87_31 rfl ?_
  obtain ⟨ht, hw⟩ := hw
  refine Gx.call (as := [.ref r1, .ref a1, .int (zI h a0 1), .int (zI h a0 3), .int (zI h a0 4), .int (zI h a0 5), .int a3]) (rest := []) (n := 7) zi_87_32 (by rfl) rfl (by rfl) (by rfl) (by rfl) (by decide) (by simp only [zcat, List.map, List.sum_cons, List.sum_nil, Value.category]; decide) (zrv_v ht (by rfl) (by rfl)) (by decide) ?_
  refine Ct.mono hw ?_
  rintro v h2 ⟨rfl, hw⟩
  show Gx E (d + 1) 87 33 [.ref a0, .ref a1, .int a2, .int a3] [] h2 Q
  refine zg_aload zi_87_33 rfl ?_
  refine zg_aload zi_87_34 rfl ?_
  obtain ⟨ht, hw⟩ := hw
  obtain ⟨r3, hr, hw⟩ := hw
  refine zg_getR (v := .ref r3) zi_87_35 ht (by rfl) (by show zrv (zR h2 a0 0) = _; rw [hr]; rfl) ?_
  refine zg_aload zi_87_36 rfl ?_
  refine zg_iload zi_87_37 rfl ?_
  obtain ⟨ht, hw⟩ := hw
  obtain ⟨hd, hs, hw⟩ := hw
  refine Gx.call (as := [.ref r3, .ref a1, .int a2]) (rest := [.ref a0]) (n := 3) zi_87_38 (by rfl) rfl (by rfl) (by rfl) (by rfl) (by decide) (by simp only [zcat, List.map, List.sum_cons, List.sum_nil, Value.category]; decide) (zrv_v ht (by rfl) (by rfl)) (by decide) ?_
  refine cz_27 hd hs ?_
  show Gx E (d + 1) 87 39 [.ref a0, .ref a1, .int a2, .int a3] [.int (fz_27 E h2 r3 a1 a2), .ref a0] h2 Q
  obtain ⟨ht, hw⟩ := hw
  refine zg_putI (h1 := zuI h2 a0 9 (fz_27 E h2 r3 a1 a2)) zi_87_39 ht (by rfl) rfl ?_
  refine zg_nameH fun h4 eh4 => ?_
  have hw := hw h4 eh4
  refine zg_aload zi_87_40 rfl ?_
  refine zg_aload zi_87_41 rfl ?_
  obtain ⟨ht, hw⟩ := hw
  obtain ⟨r5, hr, hw⟩ := hw
  refine zg_getR (v := .ref r5) zi_87_42 ht (by rfl) (by show zrv (zR h4 a0 0) = _; rw [hr]; rfl) ?_
  obtain ⟨ht, hw⟩ := hw
  refine zg_getI (v := .int (zI h4 r5 1)) zi_87_43 ht (by rfl) rfl ?_
  obtain ⟨ht, hw⟩ := hw
  refine zg_putI (h1 := zuI h4 a0 10 (zI h4 r5 1)) zi_87_44 ht (by rfl) rfl ?_
  refine zg_nameH fun h6 eh6 => ?_
  have hw := hw h6 eh6
  refine zg_aload zi_87_45 rfl ?_
  refine zg_dup zi_87_46 rfl ?_
  obtain ⟨ht, hw⟩ := hw
  refine zg_getI (v := .int (zI h6 a0 6)) zi_87_47 ht (by rfl) rfl ?_
  refine zg_aload zi_87_48 rfl ?_
  obtain ⟨ht, hw⟩ := hw
  refine zg_getI (v := .int (zI h6 a0 9)) zi_87_49 ht (by rfl) rfl ?_
  refine zg_iadd zi_87_50 ?_
  obtain ⟨ht, hw⟩ := hw
  refine zg_putI (h1 := zuI h6 a0 6 ((zI h6 a0 6) + (zI h6 a0 9))) zi_87_51 ht (by rfl) rfl ?_
  refine zg_nameH fun h7 eh7 => ?_
  have hw := hw h7 eh7
  refine zg_aload zi_87_52 rfl ?_
  refine zg_dup zi_87_53 rfl ?_
  obtain ⟨ht, hw⟩ := hw
  refine zg_getI (v := .int (zI h7 a0 7)) zi_87_54 ht (by rfl) rfl ?_
  refine zg_aload zi_87_55 rfl ?_
  obtain ⟨ht, hw⟩ := hw
  obtain ⟨r8, hr, hw⟩ := hw
  refine zg_getR (v := .ref r8) zi_87_56 ht (by rfl) (by show zrv (zR h7 a0 0) = _; rw [hr]; rfl) ?_
  refine zg_aload zi_87_57 rfl ?_
  refine zg_iload zi_87_58 rfl ?_
  obtain ⟨ht, hw⟩ := hw
  obtain ⟨hd, hs, hw⟩ := hw
  refine Gx.call (as := [.ref r8, .ref a1, .int a2]) (rest := [.int (zI h7 a0 7), .ref a0]) (n := 3) zi_87_59 (by rfl) rfl (by rfl) (by rfl) (by rfl) (by decide) (by simp only [zcat, List.map, List.sum_cons, List.sum_nil, Value.category]; decide) (zrv_v ht (by rfl) (by rfl)) (by decide) ?_
  refine cz_28 hd hs ?_
  show Gx E (d + 1) 87 60 [.ref a0, .ref a1, .int a2, .int a3] [.int (fz_28 E h7 r8 a1 a2), .int (zI h7 a0 7), .ref a0] h7 Q
  refine zg_iadd zi_87_60 ?_
  obtain ⟨ht, hw⟩ := hw
  refine zg_putI (h1 := zuI h7 a0 7 ((zI h7 a0 7) + (fz_28 E h7 r8 a1 a2))) zi_87_61 ht (by rfl) rfl ?_
  refine zg_nameH fun h9 eh9 => ?_
  have hw := hw h9 eh9
  refine zg_aload zi_87_62 rfl ?_
  obtain ⟨ht, hw⟩ := hw
  refine Gx.call (as := [.ref a0]) (rest := []) (n := 1) zi_87_63 (by rfl) rfl (by rfl) (by rfl) (by rfl) (by decide) (by simp only [zcat, List.map, List.sum_cons, List.sum_nil, Value.category]; decide) (zrv_v ht (by rfl) (by rfl)) (by decide) ?_
  refine Ct.mono hw ?_
  rintro v h10 ⟨rfl, hw⟩
  show Gx E (d + 1) 87 64 [.ref a0, .ref a1, .int a2, .int a3] [] h10 Q
  refine zg_aload zi_87_64 rfl ?_
  obtain ⟨ht, hw⟩ := hw
  obtain ⟨r11, hr, hw⟩ := hw
  refine zg_getR (v := .ref r11) zi_87_65 ht (by rfl) (by show zrv (zR h10 a0 0) = _; rw [hr]; rfl) ?_
  refine zg_aload zi_87_66 rfl ?_
  refine zg_aload zi_87_67 rfl ?_
  obtain ⟨ht, hw⟩ := hw
  refine zg_getI (v := .int (zI h10 a0 1)) zi_87_68 ht (by rfl) rfl ?_
  obtain ⟨ht, hw⟩ := hw
  refine Gx.call (as := [.ref r11, .ref a1, .int (zI h10 a0 1)]) (rest := []) (n := 3) zi_87_69 (by rfl) rfl (by rfl) (by rfl) (by rfl) (by decide) (by simp only [zcat, List.map, List.sum_cons, List.sum_nil, Value.category]; decide) (zrv_v ht (by rfl) (by rfl)) (by decide) ?_
  refine Ct.mono hw ?_
  rintro v h12 ⟨rfl, hw⟩
  show Gx E (d + 1) 87 70 [.ref a0, .ref a1, .int a2, .int a3] [] h12 Q
  refine zg_aload zi_87_70 rfl ?_
  refine zg_dup zi_87_71 rfl ?_
  obtain ⟨ht, hw⟩ := hw
  refine zg_getI (v := .int (zI h12 a0 8)) zi_87_72 ht (by rfl) rfl ?_
  refine zg_aload zi_87_73 rfl ?_
  obtain ⟨ht, hw⟩ := hw
  obtain ⟨r13, hr, hw⟩ := hw
  refine zg_getR (v := .ref r13) zi_87_74 ht (by rfl) (by show zrv (zR h12 a0 0) = _; rw [hr]; rfl) ?_
  obtain ⟨ht, hw⟩ := hw
  refine zg_getI (v := .int (zI h12 r13 6)) zi_87_75 ht (by rfl) rfl ?_
  refine zg_iadd zi_87_76 ?_
  obtain ⟨ht, hw⟩ := hw
  refine zg_putI (h1 := zuI h12 a0 8 ((zI h12 a0 8) + (zI h12 r13 6))) zi_87_77 ht (by rfl) rfl ?_
  refine zg_nameH fun h14 eh14 => ?_
  have hw := hw h14 eh14
  refine zg_aload zi_87_78 rfl ?_
  refine zg_dup zi_87_79 rfl ?_
  obtain ⟨ht, hw⟩ := hw
  refine zg_getI (v := .int (zI h14 a0 6)) zi_87_80 ht (by rfl) rfl ?_
  refine zg_aload zi_87_81 rfl ?_
  obtain ⟨ht, hw⟩ := hw
  obtain ⟨r15, hr, hw⟩ := hw
  refine zg_getR (v := .ref r15) zi_87_82 ht (by rfl) (by show zrv (zR h14 a0 0) = _; rw [hr]; rfl) ?_
  obtain ⟨ht, hw⟩ := hw
  refine zg_getI (v := .int (zI h14 r15 8)) zi_87_83 ht (by rfl) rfl ?_
  refine zg_iadd zi_87_84 ?_
  obtain ⟨ht, hw⟩ := hw
  refine zg_putI (h1 := zuI h14 a0 6 ((zI h14 a0 6) + (zI h14 r15 8))) zi_87_85 ht (by rfl) rfl ?_
  refine zg_nameH fun h16 eh16 => ?_
  have hw := hw h16 eh16
  refine zg_aload zi_87_86 rfl ?_
  refine zg_dup zi_87_87 rfl ?_
  obtain ⟨ht, hw⟩ := hw
  refine zg_getI (v := .int (zI h16 a0 7)) zi_87_88 ht (by rfl) rfl ?_
  refine zg_aload zi_87_89 rfl ?_
  obtain ⟨ht, hw⟩ := hw
  obtain ⟨r17, hr, hw⟩ := hw
  refine zg_getR (v := .ref r17) zi_87_90 ht (by rfl) (by show zrv (zR h16 a0 0) = _; rw [hr]; rfl) ?_
  obtain ⟨ht, hw⟩ := hw
  refine zg_getI (v := .int (zI h16 r17 8)) zi_87_91 ht (by rfl) rfl ?_
  refine zg_isub zi_87_92 ?_
  obtain ⟨ht, hw⟩ := hw
  refine zg_putI (h1 := zuI h16 a0 7 ((zI h16 a0 7) - (zI h16 r17 8))) zi_87_93 ht (by rfl) rfl ?_
  refine zg_nameH fun h18 eh18 => ?_
  have hw := hw h18 eh18
  refine zg_aload zi_87_94 rfl ?_
  refine zg_dup zi_87_95 rfl ?_
  obtain ⟨ht, hw⟩ := hw
  refine zg_getI (v := .int (zI h18 a0 1)) zi_87_96 ht (by rfl) rfl ?_
  refine zg_const (v := 1) zi_87_97 (by rfl) ?_
  refine zg_iadd zi_87_98 ?_
  obtain ⟨ht, hw⟩ := hw
  refine zg_putI (h1 := zuI h18 a0 1 ((zI h18 a0 1) + 1)) zi_87_99 ht (by rfl) rfl ?_
  refine zg_nameH fun h19 eh19 => ?_
  have hw := hw h19 eh19
  refine zg_aload zi_87_100 rfl ?_
  refine zg_aload zi_87_101 rfl ?_
  obtain ⟨ht, hw⟩ := hw
  refine zg_getI (v := .int (zI h19 a0 1)) zi_87_102 ht (by rfl) rfl ?_
  obtain ⟨ht, hw⟩ := hw
  obtain ⟨hd, hs, hw⟩ := hw
  refine Gx.call (as := [.ref a1, .int (zI h19 a0 1)]) (rest := []) (n := 2) zi_87_103 (by rfl) rfl (by rfl) (by rfl) (by rfl) (by decide) (by simp only [zcat, List.map, List.sum_cons, List.sum_nil, Value.category]; decide) (zrv_v ht (by rfl) (by rfl)) (by decide) ?_
  refine cz_35 hd hs ?_
  show Gx E (d + 1) 87 104 [.ref a0, .ref a1, .int a2, .int a3] [.int (fz_35 E h19 a1 (zI h19 a0 1))] h19 Q
  refine zg_if_eq zi_87_104 (fun hc => ?_) (fun hc => ?_)
  · have hw := hw.1 hc
    exact zg_return zi_87_107 hw
  · have hw := hw.2 hc
    refine zg_aload zi_87_105 rfl ?_
    obtain ⟨ht, hw⟩ := hw
    refine Gx.call (as := [.ref a0]) (rest := []) (n := 1) zi_87_106 (by rfl) rfl (by rfl) (by rfl) (by rfl) (by decide) (by simp only [zcat, List.map, List.sum_cons, List.sum_nil, Value.category]; decide) (zrv_v ht (by rfl) (by rfl)) (by decide) ?_
    refine Ct.mono hw ?_
    rintro v h20 ⟨rfl, hw⟩
    show Gx E (d + 1) 87 107 [.ref a0, .ref a1, .int a2, .int a3] [] h20 Q
    exact zg_return zi_87_107 hw
/-- TakeOrPay$Walk.go(LTakeOrPay$Page;II)V -/
def w_87 (E : Nat → Nat) (d : Nat) (a0 : Nat) (a1 : Nat) (a2 : Int32) (a3 : Int32) (h : ZH) (Q : Option Value → ZH → Prop) : Prop := ztag h a0 = 9 ∧ ztag h a1 = 3 ∧ 1 ≤ d ∧ sz_35 E h a1 (zI h a0 1) ∧ ((¬ (fz_35 E h a1 (zI h a0 1) : Int32) = 0 → (ztag h a0 = 9 ∧ ((¬ (zI h a0 2 : Int32) = ((-4) : Int32) → (wb_87_20 E d Q a0 a1 a2 a3 h)) ∧ (¬ (¬ (zI h a0 2 : Int32) = ((-4) : Int32)) → (ztag h a0 = 9 ∧ ztag h a1 = 3 ∧ 2 ≤ d ∧ sz_46 E h a1 (zI h a0 1) a3 ∧ ((¬ (fz_46 E h a1 (zI h a0 1) a3 : Int32) = 0 → (wb_87_20 E d Q a0 a1 a2 a3 h)) ∧ (¬ (¬ (fz_46 E h a1 (zI h a0 1) a3 : Int32) = 0) → (ztag h a0 = 9 ∧ ztag h a0 = 9 ∧ ∀ h21 : ZH, h21 = zuI h a0 2 (zI h a0 1) → wb_87_20 E d Q a0 a1 a2 a3 h21)))))))) ∧ (¬ (¬ (fz_35 E h a1 (zI h a0 1) : Int32) = 0) → (Q none h)))
set_option maxRecDepth 20000 in
theorem ok_87 {E : Nat → Nat} {d : Nat} {a0 : Nat} {a1 : Nat} {a2 : Int32} {a3 : Int32} {h : ZH} {Q : Option Value → ZH → Prop} (hw : w_87 E d a0 a1 a2 a3 h Q) : Ct E (d + 1) 87 [.ref a0, .ref a1, .int a2, .int a3] h Q := by
  unfold w_87 at hw
  show Gx E (d + 1) 87 0 [.ref a0, .ref a1, .int a2, .int a3] [] h Q
  refine zg_aload zi_87_0 rfl ?_
  refine zg_aload zi_87_1 rfl ?_
  obtain ⟨ht, hw⟩ := hw
  refine zg_getI (v := .int (zI h a0 1)) zi_87_2 ht (by rfl) rfl ?_
  obtain ⟨ht, hw⟩ := hw
  obtain ⟨hd, hs, hw⟩ := hw
  refine Gx.call (as := [.ref a1, .int (zI h a0 1)]) (rest := []) (n := 2) zi_87_3 (by rfl) rfl (by rfl) (by rfl) (by rfl) (by decide) (by simp only [zcat, List.map, List.sum_cons, List.sum_nil, Value.category]; decide) (zrv_v ht (by rfl) (by rfl)) (by decide) ?_
  refine cz_35 hd hs ?_
  show Gx E (d + 1) 87 4 [.ref a0, .ref a1, .int a2, .int a3] [.int (fz_35 E h a1 (zI h a0 1))] h Q
  refine zg_if_ne zi_87_4 (fun hc => ?_) (fun hc => ?_)
  · have hw := hw.1 hc
    refine zg_aload zi_87_6 rfl ?_
    obtain ⟨ht, hw⟩ := hw
    refine zg_getI (v := .int (zI h a0 2)) zi_87_7 ht (by rfl) rfl ?_
    refine zg_const (v := (-4)) zi_87_8 (by rfl) ?_
    refine zg_icmp_ne zi_87_9 (fun hc => ?_) (fun hc => ?_)
    · have hw := hw.1 hc
      exact okb_87_20 hw
    · have hw := hw.2 hc
      refine zg_aload zi_87_10 rfl ?_
      refine zg_aload zi_87_11 rfl ?_
      obtain ⟨ht, hw⟩ := hw
      refine zg_getI (v := .int (zI h a0 1)) zi_87_12 ht (by rfl) rfl ?_
      refine zg_iload zi_87_13 rfl ?_
      obtain ⟨ht, hw⟩ := hw
      obtain ⟨hd, hs, hw⟩ := hw
      refine Gx.call (as := [.ref a1, .int (zI h a0 1), .int a3]) (rest := []) (n := 3) zi_87_14 (by rfl) rfl (by rfl) (by rfl) (by rfl) (by decide) (by simp only [zcat, List.map, List.sum_cons, List.sum_nil, Value.category]; decide) (zrv_v ht (by rfl) (by rfl)) (by decide) ?_
      refine cz_46 hd hs ?_
      show Gx E (d + 1) 87 15 [.ref a0, .ref a1, .int a2, .int a3] [.int (fz_46 E h a1 (zI h a0 1) a3)] h Q
      refine zg_if_ne zi_87_15 (fun hc => ?_) (fun hc => ?_)
      · have hw := hw.1 hc
        exact okb_87_20 hw
      · have hw := hw.2 hc
        refine zg_aload zi_87_16 rfl ?_
        refine zg_aload zi_87_17 rfl ?_
        obtain ⟨ht, hw⟩ := hw
        refine zg_getI (v := .int (zI h a0 1)) zi_87_18 ht (by rfl) rfl ?_
        obtain ⟨ht, hw⟩ := hw
        refine zg_putI (h1 := zuI h a0 2 (zI h a0 1)) zi_87_19 ht (by rfl) rfl ?_
        refine zg_nameH fun h21 eh21 => ?_
        have hw := hw h21 eh21
        exact okb_87_20 hw
  · have hw := hw.2 hc
    exact zg_return zi_87_5 hw
theorem zi_89_0 : (zM 89).1[0]? = some (.aload 0) := by rfl
theorem zi_89_1 : (zM 89).1[1]? = some (.invokedynamic 3) := by rfl
theorem zi_89_2 : (zM 89).1[2]? = some (.aload 0) := by rfl
theorem zi_89_3 : (zM 89).1[3]? = some (.new 3) := by rfl
theorem zi_89_4 : (zM 89).1[4]? = some (.dup) := by rfl
theorem zi_89_5 : (zM 89).1[5]? = some (.invokespecial 29) := by rfl
theorem zi_89_6 : (zM 89).1[6]? = some (.putfield 10200) := by rfl
theorem zi_89_7 : (zM 89).1[7]? = some (.aload 0) := by rfl
theorem zi_89_8 : (zM 89).1[8]? = some (.new 8) := by rfl
theorem zi_89_9 : (zM 89).1[9]? = some (.dup) := by rfl
theorem zi_89_10 : (zM 89).1[10]? = some (.invokespecial 77) := by rfl
theorem zi_89_11 : (zM 89).1[11]? = some (.putfield 10201) := by rfl
theorem zi_89_12 : (zM 89).1[12]? = some (.aload 0) := by rfl
theorem zi_89_13 : (zM 89).1[13]? = some (.new 4) := by rfl
theorem zi_89_14 : (zM 89).1[14]? = some (.dup) := by rfl
theorem zi_89_15 : (zM 89).1[15]? = some (.aload 0) := by rfl
theorem zi_89_16 : (zM 89).1[16]? = some (.getfield 10201) := by rfl
theorem zi_89_17 : (zM 89).1[17]? = some (.invokespecial 52) := by rfl
theorem zi_89_18 : (zM 89).1[18]? = some (.putfield 10202) := by rfl
theorem zi_89_19 : (zM 89).1[19]? = some (.aload 0) := by rfl
theorem zi_89_20 : (zM 89).1[20]? = some (.new 5) := by rfl
theorem zi_89_21 : (zM 89).1[21]? = some (.dup) := by rfl
theorem zi_89_22 : (zM 89).1[22]? = some (.invokespecial 65) := by rfl
theorem zi_89_23 : (zM 89).1[23]? = some (.putfield 10203) := by rfl
theorem zi_89_24 : (zM 89).1[24]? = some (.aload 0) := by rfl
theorem zi_89_25 : (zM 89).1[25]? = some (.new 9) := by rfl
theorem zi_89_26 : (zM 89).1[26]? = some (.dup) := by rfl
theorem zi_89_27 : (zM 89).1[27]? = some (.invokespecial 85) := by rfl
theorem zi_89_28 : (zM 89).1[28]? = some (.putfield 10204) := by rfl
theorem zi_89_29 : (zM 89).1[29]? = some (.aload 0) := by rfl
theorem zi_89_30 : (zM 89).1[30]? = some (.new 2) := by rfl
theorem zi_89_31 : (zM 89).1[31]? = some (.dup) := by rfl
theorem zi_89_32 : (zM 89).1[32]? = some (.invokespecial 23) := by rfl
theorem zi_89_33 : (zM 89).1[33]? = some (.putfield 10205) := by rfl
theorem zi_89_34 : (zM 89).1[34]? = some (.aload 0) := by rfl
theorem zi_89_35 : (zM 89).1[35]? = some (.new 1) := by rfl
theorem zi_89_36 : (zM 89).1[36]? = some (.dup) := by rfl
theorem zi_89_37 : (zM 89).1[37]? = some (.aload 0) := by rfl
theorem zi_89_38 : (zM 89).1[38]? = some (.getfield 10200) := by rfl
theorem zi_89_39 : (zM 89).1[39]? = some (.aload 0) := by rfl
theorem zi_89_40 : (zM 89).1[40]? = some (.getfield 10203) := by rfl
theorem zi_89_41 : (zM 89).1[41]? = some (.invokespecial 13) := by rfl
theorem zi_89_42 : (zM 89).1[42]? = some (.putfield 10206) := by rfl
theorem zi_89_43 : (zM 89).1[43]? = some (.aload 0) := by rfl
theorem zi_89_44 : (zM 89).1[44]? = some (.iconst 4) := by rfl
theorem zi_89_45 : (zM 89).1[45]? = some (.anewarray 17) := by rfl
theorem zi_89_46 : (zM 89).1[46]? = some (.putfield 10207) := by rfl
theorem zi_89_47 : (zM 89).1[47]? = some (.iconst 0) := by rfl
theorem zi_89_48 : (zM 89).1[48]? = some (.istore 1) := by rfl
theorem zi_89_49 : (zM 89).1[49]? = some (.iload 1) := by rfl
theorem zi_89_50 : (zM 89).1[50]? = some (.iconst 4) := by rfl
theorem zi_89_51 : (zM 89).1[51]? = some (.if_icmp .ge ((61 : Nat) : Int)) := by rfl
theorem zi_89_52 : (zM 89).1[52]? = some (.aload 0) := by rfl
theorem zi_89_53 : (zM 89).1[53]? = some (.getfield 10207) := by rfl
theorem zi_89_54 : (zM 89).1[54]? = some (.iload 1) := by rfl
theorem zi_89_55 : (zM 89).1[55]? = some (.new 6) := by rfl
theorem zi_89_56 : (zM 89).1[56]? = some (.dup) := by rfl
theorem zi_89_57 : (zM 89).1[57]? = some (.invokespecial 67) := by rfl
theorem zi_89_58 : (zM 89).1[58]? = some (.aastore) := by rfl
theorem zi_89_59 : (zM 89).1[59]? = some (.iinc 1 1) := by rfl
theorem zi_89_60 : (zM 89).1[60]? = some (.goto ((49 : Nat) : Int)) := by rfl
theorem zi_89_61 : (zM 89).1[61]? = some (.return_) := by rfl
def wl_89_49 (E : Nat → Nat) (d : Nat) (Q : Option Value → ZH → Prop) : Nat → Nat → Int32 → ZH → Prop
  | 0, _, _, _ => False
  | n + 1, a0, a1, h => (4 ≤ a1 → (Q none h)) ∧ (¬ (4 ≤ a1) → (ztag h a0 = 10 ∧ ∃ r35 : Nat, zR h a0 7 = r35 + 1 ∧ ∀ h36 : ZH, h36 = znew h 6 (zN 6) → ∀ r37 : Nat, r37 = zsz h → ztag h36 r37 = 6 ∧ Ct E d 67 [.ref r37] h36 (fun v h38 => v = none ∧ ((ztag h38 r35 = 16 ∧ ztag h38 r37 = 2) ∨ (ztag h38 r35 = 17 ∧ ztag h38 r37 = 6)) ∧ zin a1 (zlen h38 r35) = true ∧ ∀ h39 : ZH, h39 = zuR h38 r35 a1.toNatClampNeg (r37 + 1) → ∀ x40 : Int32, x40 = a1 + 1 → wl_89_49 E d Q n a0 x40 h39)))
set_option maxRecDepth 20000 in
theorem okl_89_49 {E : Nat → Nat} {d : Nat} {Q : Option Value → ZH → Prop} : ∀ (n : Nat) (a0 : Nat) (a1 : Int32) (h : ZH), wl_89_49 E d Q n a0 a1 h → Gx E (d + 1) 89 49 [.ref a0, .int a1] [] h Q := by
  intro n
  induction n with
  | zero => intro a0 a1 h hw; exact hw.elim
  | succ n ih =>
    intro a0 a1 h hw
    rw [wl_89_49] at hw
    refine zg_iload zi_89_49 rfl ?_
    refine zg_const (v := 4) zi_89_50 (by rfl) ?_
    refine zg_icmp_ge zi_89_51 (fun hc => ?_) (fun hc => ?_)
    · have hw := hw.1 hc
      exact zg_return zi_89_61 hw
    · have hw := hw.2 hc
      refine zg_aload zi_89_52 rfl ?_
      obtain ⟨ht, hw⟩ := hw
      obtain ⟨r35, hr, hw⟩ := hw
      refine zg_getR (v := .ref r35) zi_89_53 ht (by rfl) (by show zrv (zR h a0 7) = _; rw [hr]; rfl) ?_
      refine zg_iload zi_89_54 rfl ?_
      refine zg_new zi_89_55 (by decide) ?_
      refine zg_nameH fun h36 eh36 => ?_
      have hw := hw h36 eh36
      refine zg_nameA fun r37 er37 => ?_
      have hw := hw r37 er37
      refine zg_dup zi_89_56 rfl ?_
      obtain ⟨ht, hw⟩ := hw
      refine Gx.call (as := [.ref r37]) (rest := [.ref r37, .int a1, .ref r35]) (n := 1) zi_89_57 (by rfl) rfl (by rfl) (by rfl) (by rfl) (by decide) (by simp only [zcat, List.map, List.sum_cons, List.sum_nil, Value.category]; decide) (zrv_i ht (by rfl) (by rfl)) (by decide) ?_
      refine Ct.mono hw ?_
      rintro v h38 ⟨rfl, hw⟩
      show Gx E (d + 1) 89 58 [.ref a0, .int a1] [.ref r37, .int a1, .ref r35] h38 Q
      obtain ⟨ht, hb, hw⟩ := hw
      refine zg_aastore (h1 := zuR h38 r35 a1.toNatClampNeg (r37 + 1)) zi_89_58 ht hb rfl ?_
      refine zg_nameH fun h39 eh39 => ?_
      have hw := hw h39 eh39
      obtain ⟨x40, ex40⟩ : ∃ x : Int32, x = a1 + 1 := ⟨_, rfl⟩
      have hw := hw x40 ex40
      refine zg_iinc (v := x40) (ls1 := [.ref a0, .int x40]) zi_89_59 rfl (by rw [ex40]; rfl) rfl ?_
      refine zg_goto zi_89_60 ?_
      exact ih a0 x40 h39 hw
/-- TakeOrPay.<init>()V -/
def w_89 (E : Nat → Nat) (d : Nat) (a0 : Nat) (h : ZH) (Q : Option Value → ZH → Prop) : Prop := 4 ≤ d ∧ ∀ h1 : ZH, h1 = znew h 3 (zN 3) → ∀ r2 : Nat, r2 = zsz h → ztag h1 r2 = 3 ∧ Ct E d 29 [.ref r2] h1 (fun v h3 => v = none ∧ ztag h3 a0 = 10 ∧ ∀ h4 : ZH, h4 = zuR h3 a0 0 (r2 + 1) → ∀ h5 : ZH, h5 = znew h4 8 (zN 8) → ∀ r6 : Nat, r6 = zsz h4 → ztag h5 r6 = 8 ∧ Ct E d 77 [.ref r6] h5 (fun v h7 => v = none ∧ ztag h7 a0 = 10 ∧ ∀ h8 : ZH, h8 = zuR h7 a0 1 (r6 + 1) → ∀ h9 : ZH, h9 = znew h8 4 (zN 4) → ∀ r10 : Nat, r10 = zsz h8 → ztag h9 a0 = 10 ∧ ∃ r11 : Nat, zR h9 a0 1 = r11 + 1 ∧ ztag h9 r10 = 4 ∧ Ct E d 52 [.ref r10, .ref r11] h9 (fun v h12 => v = none ∧ ztag h12 a0 = 10 ∧ ∀ h13 : ZH, h13 = zuR h12 a0 2 (r10 + 1) → ∀ h14 : ZH, h14 = znew h13 5 (zN 5) → ∀ r15 : Nat, r15 = zsz h13 → ztag h14 r15 = 5 ∧ Ct E d 65 [.ref r15] h14 (fun v h16 => v = none ∧ ztag h16 a0 = 10 ∧ ∀ h17 : ZH, h17 = zuR h16 a0 3 (r15 + 1) → ∀ h18 : ZH, h18 = znew h17 9 (zN 9) → ∀ r19 : Nat, r19 = zsz h17 → ztag h18 r19 = 9 ∧ Ct E d 85 [.ref r19] h18 (fun v h20 => v = none ∧ ztag h20 a0 = 10 ∧ ∀ h21 : ZH, h21 = zuR h20 a0 4 (r19 + 1) → ∀ h22 : ZH, h22 = znew h21 2 (zN 2) → ∀ r23 : Nat, r23 = zsz h21 → ztag h22 r23 = 2 ∧ Ct E d 23 [.ref r23] h22 (fun v h24 => v = none ∧ ztag h24 a0 = 10 ∧ ∀ h25 : ZH, h25 = zuR h24 a0 5 (r23 + 1) → ∀ h26 : ZH, h26 = znew h25 1 (zN 1) → ∀ r27 : Nat, r27 = zsz h25 → ztag h26 a0 = 10 ∧ ∃ r28 : Nat, zR h26 a0 0 = r28 + 1 ∧ ztag h26 a0 = 10 ∧ ∃ r29 : Nat, zR h26 a0 3 = r29 + 1 ∧ ztag h26 r27 = 1 ∧ Ct E d 13 [.ref r27, .ref r28, .ref r29] h26 (fun v h30 => v = none ∧ ztag h30 a0 = 10 ∧ ∀ h31 : ZH, h31 = zuR h30 a0 6 (r27 + 1) → ∀ h32 : ZH, h32 = znew h31 17 4 → ∀ r33 : Nat, r33 = zsz h31 → ztag h32 a0 = 10 ∧ ∀ h34 : ZH, h34 = zuR h32 a0 7 (r33 + 1) → (∃ n : Nat, wl_89_49 E d Q n a0 0 h34))))))))
set_option maxRecDepth 20000 in
theorem ok_89 {E : Nat → Nat} {d : Nat} {a0 : Nat} {h : ZH} {Q : Option Value → ZH → Prop} (hw : w_89 E d a0 h Q) : Ct E (d + 1) 89 [.ref a0] h Q := by
  unfold w_89 at hw
  show Gx E (d + 1) 89 0 [.ref a0, .retAddr 0] [] h Q
  refine zg_aload zi_89_0 rfl ?_
  obtain ⟨hd, hw⟩ := hw
  refine zg_object zi_89_1 ⟨by omega, by decide⟩ ?_
  refine zg_aload zi_89_2 rfl ?_
  refine zg_new zi_89_3 (by decide) ?_
  refine zg_nameH fun h1 eh1 => ?_
  have hw := hw h1 eh1
  refine zg_nameA fun r2 er2 => ?_
  have hw := hw r2 er2
  refine zg_dup zi_89_4 rfl ?_
  obtain ⟨ht, hw⟩ := hw
  refine Gx.call (as := [.ref r2]) (rest := [.ref r2, .ref a0]) (n := 1) zi_89_5 (by rfl) rfl (by rfl) (by rfl) (by rfl) (by decide) (by simp only [zcat, List.map, List.sum_cons, List.sum_nil, Value.category]; decide) (zrv_i ht (by rfl) (by rfl)) (by decide) ?_
  refine Ct.mono hw ?_
  rintro v h3 ⟨rfl, hw⟩
  show Gx E (d + 1) 89 6 [.ref a0, .retAddr 0] [.ref r2, .ref a0] h3 Q
  obtain ⟨ht, hw⟩ := hw
  refine zg_putR (h1 := zuR h3 a0 0 (r2 + 1)) zi_89_6 ht (by rfl) rfl ?_
  refine zg_nameH fun h4 eh4 => ?_
  have hw := hw h4 eh4
  refine zg_aload zi_89_7 rfl ?_
  refine zg_new zi_89_8 (by decide) ?_
  refine zg_nameH fun h5 eh5 => ?_
  have hw := hw h5 eh5
  refine zg_nameA fun r6 er6 => ?_
  have hw := hw r6 er6
  refine zg_dup zi_89_9 rfl ?_
  obtain ⟨ht, hw⟩ := hw
  refine Gx.call (as := [.ref r6]) (rest := [.ref r6, .ref a0]) (n := 1) zi_89_10 (by rfl) rfl (by rfl) (by rfl) (by rfl) (by decide) (by simp only [zcat, List.map, List.sum_cons, List.sum_nil, Value.category]; decide) (zrv_i ht (by rfl) (by rfl)) (by decide) ?_
  refine Ct.mono hw ?_
  rintro v h7 ⟨rfl, hw⟩
  show Gx E (d + 1) 89 11 [.ref a0, .retAddr 0] [.ref r6, .ref a0] h7 Q
  obtain ⟨ht, hw⟩ := hw
  refine zg_putR (h1 := zuR h7 a0 1 (r6 + 1)) zi_89_11 ht (by rfl) rfl ?_
  refine zg_nameH fun h8 eh8 => ?_
  have hw := hw h8 eh8
  refine zg_aload zi_89_12 rfl ?_
  refine zg_new zi_89_13 (by decide) ?_
  refine zg_nameH fun h9 eh9 => ?_
  have hw := hw h9 eh9
  refine zg_nameA fun r10 er10 => ?_
  have hw := hw r10 er10
  refine zg_dup zi_89_14 rfl ?_
  refine zg_aload zi_89_15 rfl ?_
  obtain ⟨ht, hw⟩ := hw
  obtain ⟨r11, hr, hw⟩ := hw
  refine zg_getR (v := .ref r11) zi_89_16 ht (by rfl) (by show zrv (zR h9 a0 1) = _; rw [hr]; rfl) ?_
  obtain ⟨ht, hw⟩ := hw
  refine Gx.call (as := [.ref r10, .ref r11]) (rest := [.ref r10, .ref a0]) (n := 2) zi_89_17 (by rfl) rfl (by rfl) (by rfl) (by rfl) (by decide) (by simp only [zcat, List.map, List.sum_cons, List.sum_nil, Value.category]; decide) (zrv_i ht (by rfl) (by rfl)) (by decide) ?_
  refine Ct.mono hw ?_
  rintro v h12 ⟨rfl, hw⟩
  show Gx E (d + 1) 89 18 [.ref a0, .retAddr 0] [.ref r10, .ref a0] h12 Q
  obtain ⟨ht, hw⟩ := hw
  refine zg_putR (h1 := zuR h12 a0 2 (r10 + 1)) zi_89_18 ht (by rfl) rfl ?_
  refine zg_nameH fun h13 eh13 => ?_
  have hw := hw h13 eh13
  refine zg_aload zi_89_19 rfl ?_
  refine zg_new zi_89_20 (by decide) ?_
  refine zg_nameH fun h14 eh14 => ?_
  have hw := hw h14 eh14
  refine zg_nameA fun r15 er15 => ?_
  have hw := hw r15 er15
  refine zg_dup zi_89_21 rfl ?_
  obtain ⟨ht, hw⟩ := hw
  refine Gx.call (as := [.ref r15]) (rest := [.ref r15, .ref a0]) (n := 1) zi_89_22 (by rfl) rfl (by rfl) (by rfl) (by rfl) (by decide) (by simp only [zcat, List.map, List.sum_cons, List.sum_nil, Value.category]; decide) (zrv_i ht (by rfl) (by rfl)) (by decide) ?_
  refine Ct.mono hw ?_
  rintro v h16 ⟨rfl, hw⟩
  show Gx E (d + 1) 89 23 [.ref a0, .retAddr 0] [.ref r15, .ref a0] h16 Q
  obtain ⟨ht, hw⟩ := hw
  refine zg_putR (h1 := zuR h16 a0 3 (r15 + 1)) zi_89_23 ht (by rfl) rfl ?_
  refine zg_nameH fun h17 eh17 => ?_
  have hw := hw h17 eh17
  refine zg_aload zi_89_24 rfl ?_
  refine zg_new zi_89_25 (by decide) ?_
  refine zg_nameH fun h18 eh18 => ?_
  have hw := hw h18 eh18
  refine zg_nameA fun r19 er19 => ?_
  have hw := hw r19 er19
  refine zg_dup zi_89_26 rfl ?_
  obtain ⟨ht, hw⟩ := hw
  refine Gx.call (as := [.ref r19]) (rest := [.ref r19, .ref a0]) (n := 1) zi_89_27 (by rfl) rfl (by rfl) (by rfl) (by rfl) (by decide) (by simp only [zcat, List.map, List.sum_cons, List.sum_nil, Value.category]; decide) (zrv_i ht (by rfl) (by rfl)) (by decide) ?_
  refine Ct.mono hw ?_
  rintro v h20 ⟨rfl, hw⟩
  show Gx E (d + 1) 89 28 [.ref a0, .retAddr 0] [.ref r19, .ref a0] h20 Q
  obtain ⟨ht, hw⟩ := hw
  refine zg_putR (h1 := zuR h20 a0 4 (r19 + 1)) zi_89_28 ht (by rfl) rfl ?_
  refine zg_nameH fun h21 eh21 => ?_
  have hw := hw h21 eh21
  refine zg_aload zi_89_29 rfl ?_
  refine zg_new zi_89_30 (by decide) ?_
  refine zg_nameH fun h22 eh22 => ?_
  have hw := hw h22 eh22
  refine zg_nameA fun r23 er23 => ?_
  have hw := hw r23 er23
  refine zg_dup zi_89_31 rfl ?_
  obtain ⟨ht, hw⟩ := hw
  refine Gx.call (as := [.ref r23]) (rest := [.ref r23, .ref a0]) (n := 1) zi_89_32 (by rfl) rfl (by rfl) (by rfl) (by rfl) (by decide) (by simp only [zcat, List.map, List.sum_cons, List.sum_nil, Value.category]; decide) (zrv_i ht (by rfl) (by rfl)) (by decide) ?_
  refine Ct.mono hw ?_
  rintro v h24 ⟨rfl, hw⟩
  show Gx E (d + 1) 89 33 [.ref a0, .retAddr 0] [.ref r23, .ref a0] h24 Q
  obtain ⟨ht, hw⟩ := hw
  refine zg_putR (h1 := zuR h24 a0 5 (r23 + 1)) zi_89_33 ht (by rfl) rfl ?_
  refine zg_nameH fun h25 eh25 => ?_
  have hw := hw h25 eh25
  refine zg_aload zi_89_34 rfl ?_
  refine zg_new zi_89_35 (by decide) ?_
  refine zg_nameH fun h26 eh26 => ?_
  have hw := hw h26 eh26
  refine zg_nameA fun r27 er27 => ?_
  have hw := hw r27 er27
  refine zg_dup zi_89_36 rfl ?_
  refine zg_aload zi_89_37 rfl ?_
  obtain ⟨ht, hw⟩ := hw
  obtain ⟨r28, hr, hw⟩ := hw
  refine zg_getR (v := .ref r28) zi_89_38 ht (by rfl) (by show zrv (zR h26 a0 0) = _; rw [hr]; rfl) ?_
  refine zg_aload zi_89_39 rfl ?_
  obtain ⟨ht, hw⟩ := hw
  obtain ⟨r29, hr, hw⟩ := hw
  refine zg_getR (v := .ref r29) zi_89_40 ht (by rfl) (by show zrv (zR h26 a0 3) = _; rw [hr]; rfl) ?_
  obtain ⟨ht, hw⟩ := hw
  refine Gx.call (as := [.ref r27, .ref r28, .ref r29]) (rest := [.ref r27, .ref a0]) (n := 3) zi_89_41 (by rfl) rfl (by rfl) (by rfl) (by rfl) (by decide) (by simp only [zcat, List.map, List.sum_cons, List.sum_nil, Value.category]; decide) (zrv_i ht (by rfl) (by rfl)) (by decide) ?_
  refine Ct.mono hw ?_
  rintro v h30 ⟨rfl, hw⟩
  show Gx E (d + 1) 89 42 [.ref a0, .retAddr 0] [.ref r27, .ref a0] h30 Q
  obtain ⟨ht, hw⟩ := hw
  refine zg_putR (h1 := zuR h30 a0 6 (r27 + 1)) zi_89_42 ht (by rfl) rfl ?_
  refine zg_nameH fun h31 eh31 => ?_
  have hw := hw h31 eh31
  refine zg_aload zi_89_43 rfl ?_
  refine zg_const (v := 4) zi_89_44 (by rfl) ?_
  refine zg_anewarray (N := 4) zi_89_45 (by decide) (by decide) ?_
  refine zg_nameH fun h32 eh32 => ?_
  have hw := hw h32 eh32
  refine zg_nameA fun r33 er33 => ?_
  have hw := hw r33 er33
  obtain ⟨ht, hw⟩ := hw
  refine zg_putR (h1 := zuR h32 a0 7 (r33 + 1)) zi_89_46 ht (by rfl) rfl ?_
  refine zg_nameH fun h34 eh34 => ?_
  have hw := hw h34 eh34
  refine zg_const (v := 0) zi_89_47 (by rfl) ?_
  refine zg_istore (ls1 := [.ref a0, .int 0]) zi_89_48 (by decide) rfl ?_
  obtain ⟨n, hw⟩ := hw
  exact okl_89_49 n a0 0 h34 hw
theorem zi_90_0 : (zM 90).1[0]? = some (.aload 0) := by rfl
theorem zi_90_1 : (zM 90).1[1]? = some (.getfield 10201) := by rfl
theorem zi_90_2 : (zM 90).1[2]? = some (.lload 1) := by rfl
theorem zi_90_3 : (zM 90).1[3]? = some (.invokevirtual 78) := by rfl
theorem zi_90_4 : (zM 90).1[4]? = some (.ifCond .eq ((9 : Nat) : Int)) := by rfl
theorem zi_90_5 : (zM 90).1[5]? = some (.aload 0) := by rfl
theorem zi_90_6 : (zM 90).1[6]? = some (.getfield 10201) := by rfl
theorem zi_90_7 : (zM 90).1[7]? = some (.getfield 8001) := by rfl
theorem zi_90_8 : (zM 90).1[8]? = some (.goto ((10 : Nat) : Int)) := by rfl
theorem zi_90_9 : (zM 90).1[9]? = some (.iconst (-3)) := by rfl
theorem zi_90_10 : (zM 90).1[10]? = some (.ireturn) := by rfl
/-- TakeOrPay.feed(J)I -/
def w_90 (E : Nat → Nat) (d : Nat) (a0 : Nat) (a1 : Int64) (h : ZH) (Q : Option Value → ZH → Prop) : Prop := ztag h a0 = 10 ∧ ∃ r1 : Nat, zR h a0 1 = r1 + 1 ∧ ztag h r1 = 8 ∧ Ct E d 78 [.ref r1, .long a1] h (fun v h2 => ∃ x3 : Int32, v = some (.int x3) ∧ (((x3 = 0 → (True)) ∧ (¬ (x3 = 0) → (ztag h2 a0 = 10 ∧ ∃ r4 : Nat, zR h2 a0 1 = r4 + 1 ∧ ztag h2 r4 = 8 ∧ True))) ∧ Q (some (.int (if x3 = 0 then (-3) else zI h2 r4 1))) h2))
set_option maxRecDepth 20000 in
theorem ok_90 {E : Nat → Nat} {d : Nat} {a0 : Nat} {a1 : Int64} {h : ZH} {Q : Option Value → ZH → Prop} (hw : w_90 E d a0 a1 h Q) : Ct E (d + 1) 90 [.ref a0, .long a1] h Q := by
  unfold w_90 at hw
  show Gx E (d + 1) 90 0 [.ref a0, .long a1, .retAddr 0] [] h Q
  refine zg_aload zi_90_0 rfl ?_
  obtain ⟨ht, hw⟩ := hw
  obtain ⟨r1, hr, hw⟩ := hw
  refine zg_getR (v := .ref r1) zi_90_1 ht (by rfl) (by show zrv (zR h a0 1) = _; rw [hr]; rfl) ?_
  refine zg_lload zi_90_2 rfl ?_
  obtain ⟨ht, hw⟩ := hw
  refine Gx.call (as := [.ref r1, .long a1]) (rest := []) (n := 2) zi_90_3 (by rfl) rfl (by rfl) (by rfl) (by rfl) (by decide) (by simp only [zcat, List.map, List.sum_cons, List.sum_nil, Value.category]; decide) (zrv_v ht (by rfl) (by rfl)) (by decide) ?_
  refine Ct.mono hw ?_
  rintro v h2 ⟨x3, rfl, hw⟩
  show Gx E (d + 1) 90 4 [.ref a0, .long a1, .retAddr 0] [.int x3] h2 Q
  obtain ⟨hsd4, hw⟩ := hw
  have g4 : Gx E (d + 1) 90 10 [.ref a0, .long a1, .retAddr 0] [.int (if x3 = 0 then (-3) else zI h2 r4 1)] h2 Q := by
    exact zg_ireturn zi_90_10 (by decide) hw
  refine zg_if_eq zi_90_4 (fun hc4 => ?_) (fun hc4 => ?_)
  · have hw := hsd4.1 hc4
    refine zg_const (v := (-3)) zi_90_9 (by rfl) ?_
    have hg := g4
    simp only [if_pos hc4] at hg
    exact hg
  · have hw := hsd4.2 hc4
    refine zg_aload zi_90_5 rfl ?_
    obtain ⟨ht, hw⟩ := hw
    obtain ⟨r4, hr, hw⟩ := hw
    refine zg_getR (v := .ref r4) zi_90_6 ht (by rfl) (by show zrv (zR h2 a0 1) = _; rw [hr]; rfl) ?_
    obtain ⟨ht, hw⟩ := hw
    refine zg_getI (v := .int (zI h2 r4 1)) zi_90_7 ht (by rfl) rfl ?_
    refine zg_goto zi_90_8 ?_
    have hg := g4
    simp only [if_neg hc4] at hg
    exact hg
theorem zi_91_0 : (zM 91).1[0]? = some (.iload 1) := by rfl
theorem zi_91_1 : (zM 91).1[1]? = some (.ifCond .lt ((7 : Nat) : Int)) := by rfl
theorem zi_91_2 : (zM 91).1[2]? = some (.iload 1) := by rfl
theorem zi_91_3 : (zM 91).1[3]? = some (.aload 0) := by rfl
theorem zi_91_4 : (zM 91).1[4]? = some (.getfield 10201) := by rfl
theorem zi_91_5 : (zM 91).1[5]? = some (.getfield 8001) := by rfl
theorem zi_91_6 : (zM 91).1[6]? = some (.if_icmp .le ((9 : Nat) : Int)) := by rfl
theorem zi_91_7 : (zM 91).1[7]? = some (.iconst (-1)) := by rfl
theorem zi_91_8 : (zM 91).1[8]? = some (.ireturn) := by rfl
theorem zi_91_9 : (zM 91).1[9]? = some (.aload 0) := by rfl
theorem zi_91_10 : (zM 91).1[10]? = some (.getfield 10201) := by rfl
theorem zi_91_11 : (zM 91).1[11]? = some (.getfield 8001) := by rfl
theorem zi_91_12 : (zM 91).1[12]? = some (.istore 2) := by rfl
theorem zi_91_13 : (zM 91).1[13]? = some (.aload 0) := by rfl
theorem zi_91_14 : (zM 91).1[14]? = some (.getfield 10201) := by rfl
theorem zi_91_15 : (zM 91).1[15]? = some (.iload 1) := by rfl
theorem zi_91_16 : (zM 91).1[16]? = some (.putfield 8001) := by rfl
theorem zi_91_17 : (zM 91).1[17]? = some (.iload 2) := by rfl
theorem zi_91_18 : (zM 91).1[18]? = some (.ireturn) := by rfl
/-- TakeOrPay.end(I)I -/
def w_91 (E : Nat → Nat) (d : Nat) (a0 : Nat) (a1 : Int32) (h : ZH) (Q : Option Value → ZH → Prop) : Prop := (a1 < 0 → (Q (some (.int ((-1)))) h)) ∧ (¬ (a1 < 0) → (ztag h a0 = 10 ∧ ∃ r1 : Nat, zR h a0 1 = r1 + 1 ∧ ztag h r1 = 8 ∧ ((a1 ≤ (zI h r1 1 : Int32) → (ztag h a0 = 10 ∧ ∃ r2 : Nat, zR h a0 1 = r2 + 1 ∧ ztag h r2 = 8 ∧ ∀ x3 : Int32, x3 = zI h r2 1 → ztag h a0 = 10 ∧ ∃ r4 : Nat, zR h a0 1 = r4 + 1 ∧ ztag h r4 = 8 ∧ ∀ h5 : ZH, h5 = zuI h r4 1 a1 → Q (some (.int x3)) h5)) ∧ (¬ (a1 ≤ (zI h r1 1 : Int32)) → (Q (some (.int ((-1)))) h)))))
set_option maxRecDepth 20000 in
theorem ok_91 {E : Nat → Nat} {d : Nat} {a0 : Nat} {a1 : Int32} {h : ZH} {Q : Option Value → ZH → Prop} (hw : w_91 E d a0 a1 h Q) : Ct E (d + 1) 91 [.ref a0, .int a1] h Q := by
  unfold w_91 at hw
  show Gx E (d + 1) 91 0 [.ref a0, .int a1, .retAddr 0] [] h Q
  refine zg_iload zi_91_0 rfl ?_
  refine zg_if_lt zi_91_1 (fun hc => ?_) (fun hc => ?_)
  · have hw := hw.1 hc
    refine zg_const (v := (-1)) zi_91_7 (by rfl) ?_
    exact zg_ireturn zi_91_8 (by decide) hw
  · have hw := hw.2 hc
    refine zg_iload zi_91_2 rfl ?_
    refine zg_aload zi_91_3 rfl ?_
    obtain ⟨ht, hw⟩ := hw
    obtain ⟨r1, hr, hw⟩ := hw
    refine zg_getR (v := .ref r1) zi_91_4 ht (by rfl) (by show zrv (zR h a0 1) = _; rw [hr]; rfl) ?_
    obtain ⟨ht, hw⟩ := hw
    refine zg_getI (v := .int (zI h r1 1)) zi_91_5 ht (by rfl) rfl ?_
    refine zg_icmp_le zi_91_6 (fun hc => ?_) (fun hc => ?_)
    · have hw := hw.1 hc
      refine zg_aload zi_91_9 rfl ?_
      obtain ⟨ht, hw⟩ := hw
      obtain ⟨r2, hr, hw⟩ := hw
      refine zg_getR (v := .ref r2) zi_91_10 ht (by rfl) (by show zrv (zR h a0 1) = _; rw [hr]; rfl) ?_
      obtain ⟨ht, hw⟩ := hw
      refine zg_getI (v := .int (zI h r2 1)) zi_91_11 ht (by rfl) rfl ?_
      refine zg_nameI fun x3 ex3 => ?_
      have hw := hw x3 ex3
      refine zg_istore (ls1 := [.ref a0, .int a1, .int x3]) zi_91_12 (by decide) rfl ?_
      refine zg_aload zi_91_13 rfl ?_
      obtain ⟨ht, hw⟩ := hw
      obtain ⟨r4, hr, hw⟩ := hw
      refine zg_getR (v := .ref r4) zi_91_14 ht (by rfl) (by show zrv (zR h a0 1) = _; rw [hr]; rfl) ?_
      refine zg_iload zi_91_15 rfl ?_
      obtain ⟨ht, hw⟩ := hw
      refine zg_putI (h1 := zuI h r4 1 a1) zi_91_16 ht (by rfl) rfl ?_
      refine zg_nameH fun h5 eh5 => ?_
      have hw := hw h5 eh5
      refine zg_iload zi_91_17 rfl ?_
      exact zg_ireturn zi_91_18 (by decide) hw
    · have hw := hw.2 hc
      refine zg_const (v := (-1)) zi_91_7 (by rfl) ?_
      exact zg_ireturn zi_91_8 (by decide) hw
theorem zi_92_0 : (zM 92).1[0]? = some (.aload 0) := by rfl
theorem zi_92_1 : (zM 92).1[1]? = some (.getfield 10202) := by rfl
theorem zi_92_2 : (zM 92).1[2]? = some (.invokevirtual 53) := by rfl
theorem zi_92_3 : (zM 92).1[3]? = some (.istore 1) := by rfl
theorem zi_92_4 : (zM 92).1[4]? = some (.aload 0) := by rfl
theorem zi_92_5 : (zM 92).1[5]? = some (.getfield 10201) := by rfl
theorem zi_92_6 : (zM 92).1[6]? = some (.iconst 0) := by rfl
theorem zi_92_7 : (zM 92).1[7]? = some (.putfield 8001) := by rfl
theorem zi_92_8 : (zM 92).1[8]? = some (.aload 0) := by rfl
theorem zi_92_9 : (zM 92).1[9]? = some (.getfield 10202) := by rfl
theorem zi_92_10 : (zM 92).1[10]? = some (.getfield 4003) := by rfl
theorem zi_92_11 : (zM 92).1[11]? = some (.ifCond .eq ((18 : Nat) : Int)) := by rfl
theorem zi_92_12 : (zM 92).1[12]? = some (.iconst (-10)) := by rfl
theorem zi_92_13 : (zM 92).1[13]? = some (.aload 0) := by rfl
theorem zi_92_14 : (zM 92).1[14]? = some (.getfield 10202) := by rfl
theorem zi_92_15 : (zM 92).1[15]? = some (.getfield 4004) := by rfl
theorem zi_92_16 : (zM 92).1[16]? = some (.isub) := by rfl
theorem zi_92_17 : (zM 92).1[17]? = some (.ireturn) := by rfl
theorem zi_92_18 : (zM 92).1[18]? = some (.aload 0) := by rfl
theorem zi_92_19 : (zM 92).1[19]? = some (.getfield 10200) := by rfl
theorem zi_92_20 : (zM 92).1[20]? = some (.aload 0) := by rfl
theorem zi_92_21 : (zM 92).1[21]? = some (.getfield 10202) := by rfl
theorem zi_92_22 : (zM 92).1[22]? = some (.getfield 4201) := by rfl
theorem zi_92_23 : (zM 92).1[23]? = some (.invokevirtual 31) := by rfl
theorem zi_92_24 : (zM 92).1[24]? = some (.aload 0) := by rfl
theorem zi_92_25 : (zM 92).1[25]? = some (.getfield 10200) := by rfl
theorem zi_92_26 : (zM 92).1[26]? = some (.invokevirtual 33) := by rfl
theorem zi_92_27 : (zM 92).1[27]? = some (.aload 0) := by rfl
theorem zi_92_28 : (zM 92).1[28]? = some (.getfield 10203) := by rfl
theorem zi_92_29 : (zM 92).1[29]? = some (.iconst 0) := by rfl
theorem zi_92_30 : (zM 92).1[30]? = some (.putfield 5002) := by rfl
theorem zi_92_31 : (zM 92).1[31]? = some (.aload 0) := by rfl
theorem zi_92_32 : (zM 92).1[32]? = some (.getfield 10206) := by rfl
theorem zi_92_33 : (zM 92).1[33]? = some (.invokevirtual 14) := by rfl
theorem zi_92_34 : (zM 92).1[34]? = some (.iload 1) := by rfl
theorem zi_92_35 : (zM 92).1[35]? = some (.ireturn) := by rfl
/-- TakeOrPay.page()I -/
def w_92 (E : Nat → Nat) (d : Nat) (a0 : Nat) (h : ZH) (Q : Option Value → ZH → Prop) : Prop := ztag h a0 = 10 ∧ ∃ r1 : Nat, zR h a0 2 = r1 + 1 ∧ ztag h r1 = 4 ∧ Ct E d 53 [.ref r1] h (fun v h2 => ∃ x3 : Int32, v = some (.int x3) ∧ ztag h2 a0 = 10 ∧ ∃ r4 : Nat, zR h2 a0 1 = r4 + 1 ∧ ztag h2 r4 = 8 ∧ ∀ h5 : ZH, h5 = zuI h2 r4 1 0 → ztag h5 a0 = 10 ∧ ∃ r6 : Nat, zR h5 a0 2 = r6 + 1 ∧ ztag h5 r6 = 4 ∧ (((zI h5 r6 3 : Int32) = 0 → (ztag h5 a0 = 10 ∧ ∃ r7 : Nat, zR h5 a0 0 = r7 + 1 ∧ ztag h5 a0 = 10 ∧ ∃ r8 : Nat, zR h5 a0 2 = r8 + 1 ∧ ztag h5 r8 = 4 ∧ ∃ r9 : Nat, zR h5 r8 1 = r9 + 1 ∧ ztag h5 r7 = 3 ∧ Ct E d 31 [.ref r7, .ref r9] h5 (fun v h10 => v = none ∧ ztag h10 a0 = 10 ∧ ∃ r11 : Nat, zR h10 a0 0 = r11 + 1 ∧ ztag h10 r11 = 3 ∧ Ct E d 33 [.ref r11] h10 (fun v h12 => v = none ∧ ztag h12 a0 = 10 ∧ ∃ r13 : Nat, zR h12 a0 3 = r13 + 1 ∧ ztag h12 r13 = 5 ∧ ∀ h14 : ZH, h14 = zuI h12 r13 2 0 → ztag h14 a0 = 10 ∧ ∃ r15 : Nat, zR h14 a0 6 = r15 + 1 ∧ ztag h14 r15 = 1 ∧ Ct E d 14 [.ref r15] h14 (fun v h16 => v = none ∧ Q (some (.int x3)) h16))))) ∧ (¬ ((zI h5 r6 3 : Int32) = 0) → (ztag h5 a0 = 10 ∧ ∃ r17 : Nat, zR h5 a0 2 = r17 + 1 ∧ ztag h5 r17 = 4 ∧ Q (some (.int (((-10)) - (zI h5 r17 4)))) h5))))
set_option maxRecDepth 20000 in
theorem ok_92 {E : Nat → Nat} {d : Nat} {a0 : Nat} {h : ZH} {Q : Option Value → ZH → Prop} (hw : w_92 E d a0 h Q) : Ct E (d + 1) 92 [.ref a0] h Q := by
  unfold w_92 at hw
  show Gx E (d + 1) 92 0 [.ref a0, .retAddr 0] [] h Q
  refine zg_aload zi_92_0 rfl ?_
  obtain ⟨ht, hw⟩ := hw
  obtain ⟨r1, hr, hw⟩ := hw
  refine zg_getR (v := .ref r1) zi_92_1 ht (by rfl) (by show zrv (zR h a0 2) = _; rw [hr]; rfl) ?_
  obtain ⟨ht, hw⟩ := hw
  refine Gx.call (as := [.ref r1]) (rest := []) (n := 1) zi_92_2 (by rfl) rfl (by rfl) (by rfl) (by rfl) (by decide) (by simp only [zcat, List.map, List.sum_cons, List.sum_nil, Value.category]; decide) (zrv_v ht (by rfl) (by rfl)) (by decide) ?_
  refine Ct.mono hw ?_
  rintro v h2 ⟨x3, rfl, hw⟩
  show Gx E (d + 1) 92 3 [.ref a0, .retAddr 0] [.int x3] h2 Q
  refine zg_istore (ls1 := [.ref a0, .int x3]) zi_92_3 (by decide) rfl ?_
  refine zg_aload zi_92_4 rfl ?_
  obtain ⟨ht, hw⟩ := hw
  obtain ⟨r4, hr, hw⟩ := hw
  refine zg_getR (v := .ref r4) zi_92_5 ht (by rfl) (by show zrv (zR h2 a0 1) = _; rw [hr]; rfl) ?_
  refine zg_const (v := 0) zi_92_6 (by rfl) ?_
  obtain ⟨ht, hw⟩ := hw
  refine zg_putI (h1 := zuI h2 r4 1 0) zi_92_7 ht (by rfl) rfl ?_
  refine zg_nameH fun h5 eh5 => ?_
  have hw := hw h5 eh5
  refine zg_aload zi_92_8 rfl ?_
  obtain ⟨ht, hw⟩ := hw
  obtain ⟨r6, hr, hw⟩ := hw
  refine zg_getR (v := .ref r6) zi_92_9 ht (by rfl) (by show zrv (zR h5 a0 2) = _; rw [hr]; rfl) ?_
  obtain ⟨ht, hw⟩ := hw
  refine zg_getI (v := .int (zI h5 r6 3)) zi_92_10 ht (by rfl) rfl ?_
  refine zg_if_eq zi_92_11 (fun hc => ?_) (fun hc => ?_)
  · have hw := hw.1 hc
    refine zg_aload zi_92_18 rfl ?_
    obtain ⟨ht, hw⟩ := hw
    obtain ⟨r7, hr, hw⟩ := hw
    refine zg_getR (v := .ref r7) zi_92_19 ht (by rfl) (by show zrv (zR h5 a0 0) = _; rw [hr]; rfl) ?_
    refine zg_aload zi_92_20 rfl ?_
    obtain ⟨ht, hw⟩ := hw
    obtain ⟨r8, hr, hw⟩ := hw
    refine zg_getR (v := .ref r8) zi_92_21 ht (by rfl) (by show zrv (zR h5 a0 2) = _; rw [hr]; rfl) ?_
    obtain ⟨ht, hw⟩ := hw
    obtain ⟨r9, hr, hw⟩ := hw
    refine zg_getR (v := .ref r9) zi_92_22 ht (by rfl) (by show zrv (zR h5 r8 1) = _; rw [hr]; rfl) ?_
    obtain ⟨ht, hw⟩ := hw
    refine Gx.call (as := [.ref r7, .ref r9]) (rest := []) (n := 2) zi_92_23 (by rfl) rfl (by rfl) (by rfl) (by rfl) (by decide) (by simp only [zcat, List.map, List.sum_cons, List.sum_nil, Value.category]; decide) (zrv_v ht (by rfl) (by rfl)) (by decide) ?_
    refine Ct.mono hw ?_
    rintro v h10 ⟨rfl, hw⟩
    show Gx E (d + 1) 92 24 [.ref a0, .int x3] [] h10 Q
    refine zg_aload zi_92_24 rfl ?_
    obtain ⟨ht, hw⟩ := hw
    obtain ⟨r11, hr, hw⟩ := hw
    refine zg_getR (v := .ref r11) zi_92_25 ht (by rfl) (by show zrv (zR h10 a0 0) = _; rw [hr]; rfl) ?_
    obtain ⟨ht, hw⟩ := hw
    refine Gx.call (as := [.ref r11]) (rest := []) (n := 1) zi_92_26 (by rfl) rfl (by rfl) (by rfl) (by rfl) (by decide) (by simp only [zcat, List.map, List.sum_cons, List.sum_nil, Value.category]; decide) (zrv_v ht (by rfl) (by rfl)) (by decide) ?_
    refine Ct.mono hw ?_
    rintro v h12 ⟨rfl, hw⟩
    show Gx E (d + 1) 92 27 [.ref a0, .int x3] [] h12 Q
    refine zg_aload zi_92_27 rfl ?_
    obtain ⟨ht, hw⟩ := hw
    obtain ⟨r13, hr, hw⟩ := hw
    refine zg_getR (v := .ref r13) zi_92_28 ht (by rfl) (by show zrv (zR h12 a0 3) = _; rw [hr]; rfl) ?_
    refine zg_const (v := 0) zi_92_29 (by rfl) ?_
    obtain ⟨ht, hw⟩ := hw
    refine zg_putI (h1 := zuI h12 r13 2 0) zi_92_30 ht (by rfl) rfl ?_
    refine zg_nameH fun h14 eh14 => ?_
    have hw := hw h14 eh14
    refine zg_aload zi_92_31 rfl ?_
    obtain ⟨ht, hw⟩ := hw
    obtain ⟨r15, hr, hw⟩ := hw
    refine zg_getR (v := .ref r15) zi_92_32 ht (by rfl) (by show zrv (zR h14 a0 6) = _; rw [hr]; rfl) ?_
    obtain ⟨ht, hw⟩ := hw
    refine Gx.call (as := [.ref r15]) (rest := []) (n := 1) zi_92_33 (by rfl) rfl (by rfl) (by rfl) (by rfl) (by decide) (by simp only [zcat, List.map, List.sum_cons, List.sum_nil, Value.category]; decide) (zrv_v ht (by rfl) (by rfl)) (by decide) ?_
    refine Ct.mono hw ?_
    rintro v h16 ⟨rfl, hw⟩
    show Gx E (d + 1) 92 34 [.ref a0, .int x3] [] h16 Q
    refine zg_iload zi_92_34 rfl ?_
    exact zg_ireturn zi_92_35 (by decide) hw
  · have hw := hw.2 hc
    refine zg_const (v := (-10)) zi_92_12 (by rfl) ?_
    refine zg_aload zi_92_13 rfl ?_
    obtain ⟨ht, hw⟩ := hw
    obtain ⟨r17, hr, hw⟩ := hw
    refine zg_getR (v := .ref r17) zi_92_14 ht (by rfl) (by show zrv (zR h5 a0 2) = _; rw [hr]; rfl) ?_
    obtain ⟨ht, hw⟩ := hw
    refine zg_getI (v := .int (zI h5 r17 4)) zi_92_15 ht (by rfl) rfl ?_
    refine zg_isub zi_92_16 ?_
    exact zg_ireturn zi_92_17 (by decide) hw
theorem zi_93_0 : (zM 93).1[0]? = some (.aload 0) := by rfl
theorem zi_93_1 : (zM 93).1[1]? = some (.getfield 10202) := by rfl
theorem zi_93_2 : (zM 93).1[2]? = some (.getfield 4003) := by rfl
theorem zi_93_3 : (zM 93).1[3]? = some (.ireturn) := by rfl
/-- TakeOrPay.fault()I -/
def w_93 (E : Nat → Nat) (d : Nat) (a0 : Nat) (h : ZH) (Q : Option Value → ZH → Prop) : Prop := ztag h a0 = 10 ∧ ∃ r1 : Nat, zR h a0 2 = r1 + 1 ∧ ztag h r1 = 4 ∧ Q (some (.int (zI h r1 3))) h
set_option maxRecDepth 20000 in
theorem ok_93 {E : Nat → Nat} {d : Nat} {a0 : Nat} {h : ZH} {Q : Option Value → ZH → Prop} (hw : w_93 E d a0 h Q) : Ct E (d + 1) 93 [.ref a0] h Q := by
  unfold w_93 at hw
  show Gx E (d + 1) 93 0 [.ref a0] [] h Q
  refine zg_aload zi_93_0 rfl ?_
  obtain ⟨ht, hw⟩ := hw
  obtain ⟨r1, hr, hw⟩ := hw
  refine zg_getR (v := .ref r1) zi_93_1 ht (by rfl) (by show zrv (zR h a0 2) = _; rw [hr]; rfl) ?_
  obtain ⟨ht, hw⟩ := hw
  refine zg_getI (v := .int (zI h r1 3)) zi_93_2 ht (by rfl) rfl ?_
  exact zg_ireturn zi_93_3 (by decide) hw
def fz_93 (E : Nat → Nat) (h : ZH) (a0 : Nat) : Int32 := (fun r1 : Nat => zI h r1 3) (zR h a0 2 - 1)
def sz_93 (E : Nat → Nat) (h : ZH) (a0 : Nat) : Prop := ztag h a0 = 10 ∧ ∃ r1 : Nat, zR h a0 2 = r1 + 1 ∧ ztag h r1 = 4 ∧ True
set_option maxRecDepth 20000 in
theorem cz_93 {E : Nat → Nat} {d : Nat} {a0 : Nat} {h : ZH} {Q : Option Value → ZH → Prop} (hd : 1 ≤ d) (hs : sz_93 E h a0) (hq : Q (some (.int (fz_93 E h a0))) h) : Ct E d 93 [.ref a0] h Q := by
  obtain ⟨d, rfl⟩ : ∃ n, d = n + 1 := ⟨d - 1, by omega⟩
  refine ok_93 ?_
  unfold w_93
  unfold sz_93 at hs
  unfold fz_93 at hq
  refine ⟨hs.1, ?_⟩
  have hs := hs.2
  obtain ⟨r1, hr, hs⟩ := hs
  refine ⟨r1, hr, ?_⟩
  rw [hr] at hq
  simp only [Nat.add_sub_cancel] at hq
  refine ⟨hs.1, ?_⟩
  have hs := hs.2
  exact hq
theorem zi_94_0 : (zM 94).1[0]? = some (.iload 1) := by rfl
theorem zi_94_1 : (zM 94).1[1]? = some (.ifCond .lt ((7 : Nat) : Int)) := by rfl
theorem zi_94_2 : (zM 94).1[2]? = some (.iload 1) := by rfl
theorem zi_94_3 : (zM 94).1[3]? = some (.iconst 15) := by rfl
theorem zi_94_4 : (zM 94).1[4]? = some (.if_icmp .gt ((7 : Nat) : Int)) := by rfl
theorem zi_94_5 : (zM 94).1[5]? = some (.iconst 1) := by rfl
theorem zi_94_6 : (zM 94).1[6]? = some (.goto ((8 : Nat) : Int)) := by rfl
theorem zi_94_7 : (zM 94).1[7]? = some (.iconst 0) := by rfl
theorem zi_94_8 : (zM 94).1[8]? = some (.istore 2) := by rfl
theorem zi_94_9 : (zM 94).1[9]? = some (.iload 1) := by rfl
theorem zi_94_10 : (zM 94).1[10]? = some (.iconst 20) := by rfl
theorem zi_94_11 : (zM 94).1[11]? = some (.if_icmp .lt ((17 : Nat) : Int)) := by rfl
theorem zi_94_12 : (zM 94).1[12]? = some (.iload 1) := by rfl
theorem zi_94_13 : (zM 94).1[13]? = some (.iconst 23) := by rfl
theorem zi_94_14 : (zM 94).1[14]? = some (.if_icmp .ge ((17 : Nat) : Int)) := by rfl
theorem zi_94_15 : (zM 94).1[15]? = some (.iconst 1) := by rfl
theorem zi_94_16 : (zM 94).1[16]? = some (.goto ((18 : Nat) : Int)) := by rfl
theorem zi_94_17 : (zM 94).1[17]? = some (.iconst 0) := by rfl
theorem zi_94_18 : (zM 94).1[18]? = some (.istore 3) := by rfl
theorem zi_94_19 : (zM 94).1[19]? = some (.iload 1) := by rfl
theorem zi_94_20 : (zM 94).1[20]? = some (.iconst 30) := by rfl
theorem zi_94_21 : (zM 94).1[21]? = some (.if_icmp .lt ((27 : Nat) : Int)) := by rfl
theorem zi_94_22 : (zM 94).1[22]? = some (.iload 1) := by rfl
theorem zi_94_23 : (zM 94).1[23]? = some (.iconst 39) := by rfl
theorem zi_94_24 : (zM 94).1[24]? = some (.if_icmp .ge ((27 : Nat) : Int)) := by rfl
theorem zi_94_25 : (zM 94).1[25]? = some (.iconst 1) := by rfl
theorem zi_94_26 : (zM 94).1[26]? = some (.goto ((28 : Nat) : Int)) := by rfl
theorem zi_94_27 : (zM 94).1[27]? = some (.iconst 0) := by rfl
theorem zi_94_28 : (zM 94).1[28]? = some (.istore 4) := by rfl
theorem zi_94_29 : (zM 94).1[29]? = some (.iload 2) := by rfl
theorem zi_94_30 : (zM 94).1[30]? = some (.ifCond .ne ((35 : Nat) : Int)) := by rfl
theorem zi_94_31 : (zM 94).1[31]? = some (.iload 3) := by rfl
theorem zi_94_32 : (zM 94).1[32]? = some (.ifCond .ne ((35 : Nat) : Int)) := by rfl
theorem zi_94_33 : (zM 94).1[33]? = some (.iload 4) := by rfl
theorem zi_94_34 : (zM 94).1[34]? = some (.ifCond .eq ((41 : Nat) : Int)) := by rfl
theorem zi_94_35 : (zM 94).1[35]? = some (.aload 0) := by rfl
theorem zi_94_36 : (zM 94).1[36]? = some (.getfield 10200) := by rfl
theorem zi_94_37 : (zM 94).1[37]? = some (.getfield 3200) := by rfl
theorem zi_94_38 : (zM 94).1[38]? = some (.iload 1) := by rfl
theorem zi_94_39 : (zM 94).1[39]? = some (.iaload) := by rfl
theorem zi_94_40 : (zM 94).1[40]? = some (.goto ((42 : Nat) : Int)) := by rfl
theorem zi_94_41 : (zM 94).1[41]? = some (.iconst (-1)) := by rfl
theorem zi_94_42 : (zM 94).1[42]? = some (.ireturn) := by rfl
/-- TakeOrPay.told(I)I -/
def w_94 (E : Nat → Nat) (d : Nat) (a0 : Nat) (a1 : Int32) (h : ZH) (Q : Option Value → ZH → Prop) : Prop := ∀ x1 : Int32, x1 = if a1 < 0 then 0 else if 15 < a1 then 0 else 1 → ∀ x2 : Int32, x2 = if a1 < 20 then 0 else if 23 ≤ a1 then 0 else 1 → ∀ x3 : Int32, x3 = if a1 < 30 then 0 else if 39 ≤ a1 then 0 else 1 → (((¬ x1 = 0 → (ztag h a0 = 10 ∧ ∃ r4 : Nat, zR h a0 0 = r4 + 1 ∧ ztag h r4 = 3 ∧ ∃ r5 : Nat, zR h r4 0 = r5 + 1 ∧ (ztag h r5 = 13 ∨ ztag h r5 = 19) ∧ zin a1 (zlen h r5) = true ∧ True)) ∧ (¬ (¬ x1 = 0) → (((¬ x2 = 0 → (ztag h a0 = 10 ∧ ∃ r6 : Nat, zR h a0 0 = r6 + 1 ∧ ztag h r6 = 3 ∧ ∃ r7 : Nat, zR h r6 0 = r7 + 1 ∧ (ztag h r7 = 13 ∨ ztag h r7 = 19) ∧ zin a1 (zlen h r7) = true ∧ True)) ∧ (¬ (¬ x2 = 0) → (((x3 = 0 → (True)) ∧ (¬ (x3 = 0) → (ztag h a0 = 10 ∧ ∃ r8 : Nat, zR h a0 0 = r8 + 1 ∧ ztag h r8 = 3 ∧ ∃ r9 : Nat, zR h r8 0 = r9 + 1 ∧ (ztag h r9 = 13 ∨ ztag h r9 = 19) ∧ zin a1 (zlen h r9) = true ∧ True))) ∧ True))) ∧ True))) ∧ Q (some (.int (if ¬ x1 = 0 then zI h r5 a1.toNatClampNeg else if ¬ x2 = 0 then zI h r7 a1.toNatClampNeg else if x3 = 0 then (-1) else zI h r9 a1.toNatClampNeg))) h)
set_option maxRecDepth 20000 in
theorem ok_94 {E : Nat → Nat} {d : Nat} {a0 : Nat} {a1 : Int32} {h : ZH} {Q : Option Value → ZH → Prop} (hw : w_94 E d a0 a1 h Q) : Ct E (d + 1) 94 [.ref a0, .int a1] h Q := by
  unfold w_94 at hw
  show Gx E (d + 1) 94 0 [.ref a0, .int a1, .retAddr 0, .retAddr 0, .retAddr 0] [] h Q
  refine zg_iload zi_94_0 rfl ?_
  have g1 : Gx E (d + 1) 94 8 [.ref a0, .int a1, .retAddr 0, .retAddr 0, .retAddr 0] [.int (if a1 < 0 then 0 else if 15 < a1 then 0 else 1)] h Q := by
    refine zg_nameI fun x1 ex1 => ?_
    have hw := hw x1 ex1
    refine zg_istore (ls1 := [.ref a0, .int a1, .int x1, .retAddr 0, .retAddr 0]) zi_94_8 (by decide) rfl ?_
    refine zg_iload zi_94_9 rfl ?_
    refine zg_const (v := 20) zi_94_10 (by rfl) ?_
    have g11 : Gx E (d + 1) 94 18 [.ref a0, .int a1, .int x1, .retAddr 0, .retAddr 0] [.int (if a1 < 20 then 0 else if 23 ≤ a1 then 0 else 1)] h Q := by
      refine zg_nameI fun x2 ex2 => ?_
      have hw := hw x2 ex2
      refine zg_istore (ls1 := [.ref a0, .int a1, .int x1, .int x2, .retAddr 0]) zi_94_18 (by decide) rfl ?_
      refine zg_iload zi_94_19 rfl ?_
      refine zg_const (v := 30) zi_94_20 (by rfl) ?_
      have g21 : Gx E (d + 1) 94 28 [.ref a0, .int a1, .int x1, .int x2, .retAddr 0] [.int (if a1 < 30 then 0 else if 39 ≤ a1 then 0 else 1)] h Q := by
        refine zg_nameI fun x3 ex3 => ?_
        have hw := hw x3 ex3
        refine zg_istore (ls1 := [.ref a0, .int a1, .int x1, .int x2, .int x3]) zi_94_28 (by decide) rfl ?_
        refine zg_iload zi_94_29 rfl ?_
        obtain ⟨hsd30, hw⟩ := hw
        have g30 : Gx E (d + 1) 94 42 [.ref a0, .int a1, .int x1, .int x2, .int x3] [.int (if ¬ x1 = 0 then zI h r5 a1.toNatClampNeg else if ¬ x2 = 0 then zI h r7 a1.toNatClampNeg else if x3 = 0 then (-1) else zI h r9 a1.toNatClampNeg)] h Q := by
          exact zg_ireturn zi_94_42 (by decide) hw
        refine zg_if_ne zi_94_30 (fun hc30 => ?_) (fun hc30 => ?_)
        · have hw := hsd30.1 hc30
          refine zg_aload zi_94_35 rfl ?_
          obtain ⟨ht, hw⟩ := hw
          obtain ⟨r4, hr, hw⟩ := hw
          refine zg_getR (v := .ref r4) zi_94_36 ht (by rfl) (by show zrv (zR h a0 0) = _; rw [hr]; rfl) ?_
          obtain ⟨ht, hw⟩ := hw
          obtain ⟨r5, hr, hw⟩ := hw
          refine zg_getR (v := .ref r5) zi_94_37 ht (by rfl) (by show zrv (zR h r4 0) = _; rw [hr]; rfl) ?_
          refine zg_iload zi_94_38 rfl ?_
          obtain ⟨ht, hb, hw⟩ := hw
          refine zg_iaload (v := .int (zI h r5 a1.toNatClampNeg)) zi_94_39 ht hb rfl ?_
          refine zg_goto zi_94_40 ?_
          have hg := g30
          simp only [if_pos hc30] at hg
          exact hg
        · have hw := hsd30.2 hc30
          refine zg_iload zi_94_31 rfl ?_
          obtain ⟨hsd32, hw⟩ := hw
          have g32 : Gx E (d + 1) 94 42 [.ref a0, .int a1, .int x1, .int x2, .int x3] [.int (if ¬ x2 = 0 then zI h r7 a1.toNatClampNeg else if x3 = 0 then (-1) else zI h r9 a1.toNatClampNeg)] h Q := by
            have hg := g30
            simp only [if_neg hc30] at hg
            exact hg
          refine zg_if_ne zi_94_32 (fun hc32 => ?_) (fun hc32 => ?_)
          · have hw := hsd32.1 hc32
            refine zg_aload zi_94_35 rfl ?_
            obtain ⟨ht, hw⟩ := hw
            obtain ⟨r6, hr, hw⟩ := hw
            refine zg_getR (v := .ref r6) zi_94_36 ht (by rfl) (by show zrv (zR h a0 0) = _; rw [hr]; rfl) ?_
            obtain ⟨ht, hw⟩ := hw
            obtain ⟨r7, hr, hw⟩ := hw
            refine zg_getR (v := .ref r7) zi_94_37 ht (by rfl) (by show zrv (zR h r6 0) = _; rw [hr]; rfl) ?_
            refine zg_iload zi_94_38 rfl ?_
            obtain ⟨ht, hb, hw⟩ := hw
            refine zg_iaload (v := .int (zI h r7 a1.toNatClampNeg)) zi_94_39 ht hb rfl ?_
            refine zg_goto zi_94_40 ?_
            have hg := g32
            simp only [if_pos hc32] at hg
            exact hg
          · have hw := hsd32.2 hc32
            refine zg_iload zi_94_33 rfl ?_
            obtain ⟨hsd34, hw⟩ := hw
            have g34 : Gx E (d + 1) 94 42 [.ref a0, .int a1, .int x1, .int x2, .int x3] [.int (if x3 = 0 then (-1) else zI h r9 a1.toNatClampNeg)] h Q := by
              have hg := g32
              simp only [if_neg hc32] at hg
              exact hg
            refine zg_if_eq zi_94_34 (fun hc34 => ?_) (fun hc34 => ?_)
            · have hw := hsd34.1 hc34
              refine zg_const (v := (-1)) zi_94_41 (by rfl) ?_
              have hg := g34
              simp only [if_pos hc34] at hg
              exact hg
            · have hw := hsd34.2 hc34
              refine zg_aload zi_94_35 rfl ?_
              obtain ⟨ht, hw⟩ := hw
              obtain ⟨r8, hr, hw⟩ := hw
              refine zg_getR (v := .ref r8) zi_94_36 ht (by rfl) (by show zrv (zR h a0 0) = _; rw [hr]; rfl) ?_
              obtain ⟨ht, hw⟩ := hw
              obtain ⟨r9, hr, hw⟩ := hw
              refine zg_getR (v := .ref r9) zi_94_37 ht (by rfl) (by show zrv (zR h r8 0) = _; rw [hr]; rfl) ?_
              refine zg_iload zi_94_38 rfl ?_
              obtain ⟨ht, hb, hw⟩ := hw
              refine zg_iaload (v := .int (zI h r9 a1.toNatClampNeg)) zi_94_39 ht hb rfl ?_
              refine zg_goto zi_94_40 ?_
              have hg := g34
              simp only [if_neg hc34] at hg
              exact hg
      refine zg_icmp_lt zi_94_21 (fun hc21 => ?_) (fun hc21 => ?_)
      · skip
        refine zg_const (v := 0) zi_94_27 (by rfl) ?_
        have hg := g21
        simp only [if_pos hc21] at hg
        exact hg
      · skip
        refine zg_iload zi_94_22 rfl ?_
        refine zg_const (v := 39) zi_94_23 (by rfl) ?_
        have g24 : Gx E (d + 1) 94 28 [.ref a0, .int a1, .int x1, .int x2, .retAddr 0] [.int (if 39 ≤ a1 then 0 else 1)] h Q := by
          have hg := g21
          simp only [if_neg hc21] at hg
          exact hg
        refine zg_icmp_ge zi_94_24 (fun hc24 => ?_) (fun hc24 => ?_)
        · skip
          refine zg_const (v := 0) zi_94_27 (by rfl) ?_
          have hg := g24
          simp only [if_pos hc24] at hg
          exact hg
        · skip
          refine zg_const (v := 1) zi_94_25 (by rfl) ?_
          refine zg_goto zi_94_26 ?_
          have hg := g24
          simp only [if_neg hc24] at hg
          exact hg
    refine zg_icmp_lt zi_94_11 (fun hc11 => ?_) (fun hc11 => ?_)
    · skip
      refine zg_const (v := 0) zi_94_17 (by rfl) ?_
      have hg := g11
      simp only [if_pos hc11] at hg
      exact hg
    · skip
      refine zg_iload zi_94_12 rfl ?_
      refine zg_const (v := 23) zi_94_13 (by rfl) ?_
      have g14 : Gx E (d + 1) 94 18 [.ref a0, .int a1, .int x1, .retAddr 0, .retAddr 0] [.int (if 23 ≤ a1 then 0 else 1)] h Q := by
        have hg := g11
        simp only [if_neg hc11] at hg
        exact hg
      refine zg_icmp_ge zi_94_14 (fun hc14 => ?_) (fun hc14 => ?_)
      · skip
        refine zg_const (v := 0) zi_94_17 (by rfl) ?_
        have hg := g14
        simp only [if_pos hc14] at hg
        exact hg
      · skip
        refine zg_const (v := 1) zi_94_15 (by rfl) ?_
        refine zg_goto zi_94_16 ?_
        have hg := g14
        simp only [if_neg hc14] at hg
        exact hg
  refine zg_if_lt zi_94_1 (fun hc1 => ?_) (fun hc1 => ?_)
  · skip
    refine zg_const (v := 0) zi_94_7 (by rfl) ?_
    have hg := g1
    simp only [if_pos hc1] at hg
    exact hg
  · skip
    refine zg_iload zi_94_2 rfl ?_
    refine zg_const (v := 15) zi_94_3 (by rfl) ?_
    have g4 : Gx E (d + 1) 94 8 [.ref a0, .int a1, .retAddr 0, .retAddr 0, .retAddr 0] [.int (if 15 < a1 then 0 else 1)] h Q := by
      have hg := g1
      simp only [if_neg hc1] at hg
      exact hg
    refine zg_icmp_gt zi_94_4 (fun hc4 => ?_) (fun hc4 => ?_)
    · skip
      refine zg_const (v := 0) zi_94_7 (by rfl) ?_
      have hg := g4
      simp only [if_pos hc4] at hg
      exact hg
    · skip
      refine zg_const (v := 1) zi_94_5 (by rfl) ?_
      refine zg_goto zi_94_6 ?_
      have hg := g4
      simp only [if_neg hc4] at hg
      exact hg
def fz_94 (E : Nat → Nat) (h : ZH) (a0 : Nat) (a1 : Int32) : Int32 := let x1 : Int32 := if a1 < 0 then 0 else if 15 < a1 then 0 else 1; let x2 : Int32 := if a1 < 20 then 0 else if 23 ≤ a1 then 0 else 1; let x3 : Int32 := if a1 < 30 then 0 else if 39 ≤ a1 then 0 else 1; if ¬ x1 = 0 then zI h r5 a1.toNatClampNeg else if ¬ x2 = 0 then zI h r7 a1.toNatClampNeg else if x3 = 0 then (-1) else zI h r9 a1.toNatClampNeg
def sz_94 (E : Nat → Nat) (h : ZH) (a0 : Nat) (a1 : Int32) : Prop := ∀ x1 : Int32, x1 = if a1 < 0 then 0 else if 15 < a1 then 0 else 1 → ∀ x2 : Int32, x2 = if a1 < 20 then 0 else if 23 ≤ a1 then 0 else 1 → ∀ x3 : Int32, x3 = if a1 < 30 then 0 else if 39 ≤ a1 then 0 else 1 → (((¬ x1 = 0 → (ztag h a0 = 10 ∧ ∃ r4 : Nat, zR h a0 0 = r4 + 1 ∧ ztag h r4 = 3 ∧ ∃ r5 : Nat, zR h r4 0 = r5 + 1 ∧ (ztag h r5 = 13 ∨ ztag h r5 = 19) ∧ zin a1 (zlen h r5) = true ∧ True)) ∧ (¬ (¬ x1 = 0) → (((¬ x2 = 0 → (ztag h a0 = 10 ∧ ∃ r6 : Nat, zR h a0 0 = r6 + 1 ∧ ztag h r6 = 3 ∧ ∃ r7 : Nat, zR h r6 0 = r7 + 1 ∧ (ztag h r7 = 13 ∨ ztag h r7 = 19) ∧ zin a1 (zlen h r7) = true ∧ True)) ∧ (¬ (¬ x2 = 0) → (((x3 = 0 → (True)) ∧ (¬ (x3 = 0) → (ztag h a0 = 10 ∧ ∃ r8 : Nat, zR h a0 0 = r8 + 1 ∧ ztag h r8 = 3 ∧ ∃ r9 : Nat, zR h r8 0 = r9 + 1 ∧ (ztag h r9 = 13 ∨ ztag h r9 = 19) ∧ zin a1 (zlen h r9) = true ∧ True))) ∧ True))) ∧ True))) ∧ True)
set_option maxRecDepth 20000 in
theorem cz_94 {E : Nat → Nat} {d : Nat} {a0 : Nat} {a1 : Int32} {h : ZH} {Q : Option Value → ZH → Prop} (hd : 1 ≤ d) (hs : sz_94 E h a0 a1) (hq : Q (some (.int (fz_94 E h a0 a1))) h) : Ct E d 94 [.ref a0, .int a1] h Q := by
  obtain ⟨d, rfl⟩ : ∃ n, d = n + 1 := ⟨d - 1, by omega⟩
  refine ok_94 ?_
  unfold w_94
  unfold sz_94 at hs
  unfold fz_94 at hq
  intro x1 ex1
  have hs := hs x1 ex1
  subst ex1
  intro x2 ex2
  have hs := hs x2 ex2
  subst ex2
  intro x3 ex3
  have hs := hs x3 ex3
  subst ex3
  refine ⟨⟨fun hc => ?_, fun hc => ?_⟩, ?_⟩
  · have hs := hs.1.1 hc
    refine ⟨hs.1, ?_⟩
    have hs := hs.2
    obtain ⟨r4, hr, hs⟩ := hs
    refine ⟨r4, hr, ?_⟩
    rw [hr] at hq
    simp only [Nat.add_sub_cancel] at hq
    refine ⟨hs.1, ?_⟩
    have hs := hs.2
    obtain ⟨r5, hr, hs⟩ := hs
    refine ⟨r5, hr, ?_⟩
    rw [hr] at hq
    simp only [Nat.add_sub_cancel] at hq
    refine ⟨hs.1, ?_⟩
    have hs := hs.2
    refine ⟨hs.1, ?_⟩
    have hs := hs.2
    trivial
  · have hs := hs.1.2 hc
    refine ⟨⟨fun hc => ?_, fun hc => ?_⟩, ?_⟩
    · have hs := hs.1.1 hc
      refine ⟨hs.1, ?_⟩
      have hs := hs.2
      obtain ⟨r6, hr, hs⟩ := hs
      refine ⟨r6, hr, ?_⟩
      rw [hr] at hq
      simp only [Nat.add_sub_cancel] at hq
      refine ⟨hs.1, ?_⟩
      have hs := hs.2
      obtain ⟨r7, hr, hs⟩ := hs
      refine ⟨r7, hr, ?_⟩
      rw [hr] at hq
      simp only [Nat.add_sub_cancel] at hq
      refine ⟨hs.1, ?_⟩
      have hs := hs.2
      refine ⟨hs.1, ?_⟩
      have hs := hs.2
      trivial
    · have hs := hs.1.2 hc
      refine ⟨⟨fun hc => ?_, fun hc => ?_⟩, ?_⟩
      · have hs := hs.1.1 hc
        trivial
      · have hs := hs.1.2 hc
        refine ⟨hs.1, ?_⟩
        have hs := hs.2
        obtain ⟨r8, hr, hs⟩ := hs
        refine ⟨r8, hr, ?_⟩
        rw [hr] at hq
        simp only [Nat.add_sub_cancel] at hq
        refine ⟨hs.1, ?_⟩
        have hs := hs.2
        obtain ⟨r9, hr, hs⟩ := hs
        refine ⟨r9, hr, ?_⟩
        rw [hr] at hq
        simp only [Nat.add_sub_cancel] at hq
        refine ⟨hs.1, ?_⟩
        have hs := hs.2
        refine ⟨hs.1, ?_⟩
        have hs := hs.2
        trivial
      have hs := hs.2
      trivial
    have hs := hs.2
    trivial
  have hs := hs.2
  exact hq
theorem zi_120_0 : (zM 120).1[0]? = some (.iload 0) := by rfl
theorem zi_120_1 : (zM 120).1[1]? = some (.ifCond .lt ((7 : Nat) : Int)) := by rfl
theorem zi_120_2 : (zM 120).1[2]? = some (.iload 0) := by rfl
theorem zi_120_3 : (zM 120).1[3]? = some (.iconst 3) := by rfl
theorem zi_120_4 : (zM 120).1[4]? = some (.if_icmp .ge ((7 : Nat) : Int)) := by rfl
theorem zi_120_5 : (zM 120).1[5]? = some (.iconst 1) := by rfl
theorem zi_120_6 : (zM 120).1[6]? = some (.goto ((8 : Nat) : Int)) := by rfl
theorem zi_120_7 : (zM 120).1[7]? = some (.iconst 0) := by rfl
theorem zi_120_8 : (zM 120).1[8]? = some (.ireturn) := by rfl
/-- TakeOrPay.isState(I)Z -/
def w_120 (E : Nat → Nat) (d : Nat) (a0 : Int32) (h : ZH) (Q : Option Value → ZH → Prop) : Prop := Q (some (.int (if a0 < 0 then 0 else if 3 ≤ a0 then 0 else 1))) h
set_option maxRecDepth 20000 in
theorem ok_120 {E : Nat → Nat} {d : Nat} {a0 : Int32} {h : ZH} {Q : Option Value → ZH → Prop} (hw : w_120 E d a0 h Q) : Ct E (d + 1) 120 [.int a0] h Q := by
  unfold w_120 at hw
  show Gx E (d + 1) 120 0 [.int a0] [] h Q
  refine zg_iload zi_120_0 rfl ?_
  have g1 : Gx E (d + 1) 120 8 [.int a0] [.int (if a0 < 0 then 0 else if 3 ≤ a0 then 0 else 1)] h Q := by
    exact zg_zreturn zi_120_8 (by (repeat' split) <;> first | (left; rfl) | (right; rfl)) hw
  refine zg_if_lt zi_120_1 (fun hc1 => ?_) (fun hc1 => ?_)
  · skip
    refine zg_const (v := 0) zi_120_7 (by rfl) ?_
    have hg := g1
    simp only [if_pos hc1] at hg
    exact hg
  · skip
    refine zg_iload zi_120_2 rfl ?_
    refine zg_const (v := 3) zi_120_3 (by rfl) ?_
    have g4 : Gx E (d + 1) 120 8 [.int a0] [.int (if 3 ≤ a0 then 0 else 1)] h Q := by
      have hg := g1
      simp only [if_neg hc1] at hg
      exact hg
    refine zg_icmp_ge zi_120_4 (fun hc4 => ?_) (fun hc4 => ?_)
    · skip
      refine zg_const (v := 0) zi_120_7 (by rfl) ?_
      have hg := g4
      simp only [if_pos hc4] at hg
      exact hg
    · skip
      refine zg_const (v := 1) zi_120_5 (by rfl) ?_
      refine zg_goto zi_120_6 ?_
      have hg := g4
      simp only [if_neg hc4] at hg
      exact hg
def fz_120 (E : Nat → Nat) (h : ZH) (a0 : Int32) : Int32 := if a0 < 0 then 0 else if 3 ≤ a0 then 0 else 1
def sz_120 (E : Nat → Nat) (h : ZH) (a0 : Int32) : Prop := True
set_option maxRecDepth 20000 in
theorem fb_120 {E : Nat → Nat} {h : ZH} {a0 : Int32} : fz_120 E h a0 = 0 ∨ fz_120 E h a0 = 1 := by
  unfold fz_120
  (try dsimp only)
  (repeat' split) <;> first | (left; rfl) | (right; rfl)
set_option maxRecDepth 20000 in
theorem cz_120 {E : Nat → Nat} {d : Nat} {a0 : Int32} {h : ZH} {Q : Option Value → ZH → Prop} (hd : 1 ≤ d) (hs : sz_120 E h a0) (hq : Q (some (.int (fz_120 E h a0))) h) : Ct E d 120 [.int a0] h Q := by
  obtain ⟨d, rfl⟩ : ∃ n, d = n + 1 := ⟨d - 1, by omega⟩
  refine ok_120 ?_
  unfold w_120
  unfold sz_120 at hs
  unfold fz_120 at hq
  exact hq
theorem zi_95_0 : (zM 95).1[0]? = some (.aload 0) := by rfl
theorem zi_95_1 : (zM 95).1[1]? = some (.getfield 10200) := by rfl
theorem zi_95_2 : (zM 95).1[2]? = some (.iload 1) := by rfl
theorem zi_95_3 : (zM 95).1[3]? = some (.invokevirtual 35) := by rfl
theorem zi_95_4 : (zM 95).1[4]? = some (.ifCond .eq ((11 : Nat) : Int)) := by rfl
theorem zi_95_5 : (zM 95).1[5]? = some (.iload 2) := by rfl
theorem zi_95_6 : (zM 95).1[6]? = some (.iconst (-4)) := by rfl
theorem zi_95_7 : (zM 95).1[7]? = some (.if_icmp .eq ((13 : Nat) : Int)) := by rfl
theorem zi_95_8 : (zM 95).1[8]? = some (.iload 2) := by rfl
theorem zi_95_9 : (zM 95).1[9]? = some (.invokestatic 120) := by rfl
theorem zi_95_10 : (zM 95).1[10]? = some (.ifCond .ne ((13 : Nat) : Int)) := by rfl
theorem zi_95_11 : (zM 95).1[11]? = some (.iconst (-1)) := by rfl
theorem zi_95_12 : (zM 95).1[12]? = some (.ireturn) := by rfl
theorem zi_95_13 : (zM 95).1[13]? = some (.aload 0) := by rfl
theorem zi_95_14 : (zM 95).1[14]? = some (.getfield 10200) := by rfl
theorem zi_95_15 : (zM 95).1[15]? = some (.getfield 3201) := by rfl
theorem zi_95_16 : (zM 95).1[16]? = some (.iload 1) := by rfl
theorem zi_95_17 : (zM 95).1[17]? = some (.iaload) := by rfl
theorem zi_95_18 : (zM 95).1[18]? = some (.istore 3) := by rfl
theorem zi_95_19 : (zM 95).1[19]? = some (.iload 3) := by rfl
theorem zi_95_20 : (zM 95).1[20]? = some (.iload 2) := by rfl
theorem zi_95_21 : (zM 95).1[21]? = some (.if_icmp .eq ((34 : Nat) : Int)) := by rfl
theorem zi_95_22 : (zM 95).1[22]? = some (.aload 0) := by rfl
theorem zi_95_23 : (zM 95).1[23]? = some (.getfield 10200) := by rfl
theorem zi_95_24 : (zM 95).1[24]? = some (.getfield 3201) := by rfl
theorem zi_95_25 : (zM 95).1[25]? = some (.iload 1) := by rfl
theorem zi_95_26 : (zM 95).1[26]? = some (.iload 2) := by rfl
theorem zi_95_27 : (zM 95).1[27]? = some (.iastore) := by rfl
theorem zi_95_28 : (zM 95).1[28]? = some (.aload 0) := by rfl
theorem zi_95_29 : (zM 95).1[29]? = some (.getfield 10200) := by rfl
theorem zi_95_30 : (zM 95).1[30]? = some (.invokevirtual 34) := by rfl
theorem zi_95_31 : (zM 95).1[31]? = some (.aload 0) := by rfl
theorem zi_95_32 : (zM 95).1[32]? = some (.getfield 10206) := by rfl
theorem zi_95_33 : (zM 95).1[33]? = some (.invokevirtual 14) := by rfl
theorem zi_95_34 : (zM 95).1[34]? = some (.iload 3) := by rfl
theorem zi_95_35 : (zM 95).1[35]? = some (.ireturn) := by rfl
def wb_95_34 (E : Nat → Nat) (d : Nat) (Q : Option Value → ZH → Prop) (a3 : Int32) (h : ZH) : Prop := Q (some (.int a3)) h
set_option maxRecDepth 20000 in
theorem okb_95_34 {E : Nat → Nat} {d : Nat} {Q : Option Value → ZH → Prop} {a3 : Int32} {h : ZH} (hw : wb_95_34 E d Q a3 h) : Gx E (d + 1) 95 34 [.retAddr 0, .retAddr 0, .retAddr 0, .int a3] [] h Q := by
  unfold wb_95_34 at hw
  refine zg_iload zi_95_34 rfl ?_
  exact zg_ireturn zi_95_35 (by decide) hw
/-- TakeOrPay.shut(II)I -/
def w_95 (E : Nat → Nat) (d : Nat) (a0 : Nat) (a1 : Int32) (a2 : Int32) (h : ZH) (Q : Option Value → ZH → Prop) : Prop := ztag h a0 = 10 ∧ ∃ r1 : Nat, zR h a0 0 = r1 + 1 ∧ ztag h r1 = 3 ∧ 1 ≤ d ∧ sz_35 E h r1 a1 ∧ (((fz_35 E h r1 a1 : Int32) = 0 → (Q (some (.int ((-1)))) h)) ∧ (¬ ((fz_35 E h r1 a1 : Int32) = 0) → ((a2 = ((-4) : Int32) → (ztag h a0 = 10 ∧ ∃ r2 : Nat, zR h a0 0 = r2 + 1 ∧ ztag h r2 = 3 ∧ ∃ r3 : Nat, zR h r2 1 = r3 + 1 ∧ (ztag h r3 = 13 ∨ ztag h r3 = 19) ∧ zin a1 (zlen h r3) = true ∧ ∀ x4 : Int32, x4 = zI h r3 a1.toNatClampNeg → ((x4 = a2 → (wb_95_34 E d Q x4 h)) ∧ (¬ (x4 = a2) → (ztag h a0 = 10 ∧ ∃ r5 : Nat, zR h a0 0 = r5 + 1 ∧ ztag h r5 = 3 ∧ ∃ r6 : Nat, zR h r5 1 = r6 + 1 ∧ ztag h r6 = 13 ∧ zin a1 (zlen h r6) = true ∧ ∀ h7 : ZH, h7 = zuI h r6 a1.toNatClampNeg a2 → ztag h7 a0 = 10 ∧ ∃ r8 : Nat, zR h7 a0 0 = r8 + 1 ∧ ztag h7 r8 = 3 ∧ Ct E d 34 [.ref r8] h7 (fun v h9 => v = none ∧ ztag h9 a0 = 10 ∧ ∃ r10 : Nat, zR h9 a0 6 = r10 + 1 ∧ ztag h9 r10 = 1 ∧ Ct E d 14 [.ref r10] h9 (fun v h11 => v = none ∧ wb_95_34 E d Q x4 h11))))))) ∧ (¬ (a2 = ((-4) : Int32)) → (1 ≤ d ∧ sz_120 E h a2 ∧ ((¬ (fz_120 E h a2 : Int32) = 0 → (ztag h a0 = 10 ∧ ∃ r12 : Nat, zR h a0 0 = r12 + 1 ∧ ztag h r12 = 3 ∧ ∃ r13 : Nat, zR h r12 1 = r13 + 1 ∧ (ztag h r13 = 13 ∨ ztag h r13 = 19) ∧ zin a1 (zlen h r13) = true ∧ ∀ x14 : Int32, x14 = zI h r13 a1.toNatClampNeg → ((x14 = a2 → (wb_95_34 E d Q x14 h)) ∧ (¬ (x14 = a2) → (ztag h a0 = 10 ∧ ∃ r15 : Nat, zR h a0 0 = r15 + 1 ∧ ztag h r15 = 3 ∧ ∃ r16 : Nat, zR h r15 1 = r16 + 1 ∧ ztag h r16 = 13 ∧ zin a1 (zlen h r16) = true ∧ ∀ h17 : ZH, h17 = zuI h r16 a1.toNatClampNeg a2 → ztag h17 a0 = 10 ∧ ∃ r18 : Nat, zR h17 a0 0 = r18 + 1 ∧ ztag h17 r18 = 3 ∧ Ct E d 34 [.ref r18] h17 (fun v h19 => v = none ∧ ztag h19 a0 = 10 ∧ ∃ r20 : Nat, zR h19 a0 6 = r20 + 1 ∧ ztag h19 r20 = 1 ∧ Ct E d 14 [.ref r20] h19 (fun v h21 => v = none ∧ wb_95_34 E d Q x14 h21))))))) ∧ (¬ (¬ (fz_120 E h a2 : Int32) = 0) → (Q (some (.int ((-1)))) h))))))))
set_option maxRecDepth 20000 in
theorem ok_95 {E : Nat → Nat} {d : Nat} {a0 : Nat} {a1 : Int32} {a2 : Int32} {h : ZH} {Q : Option Value → ZH → Prop} (hw : w_95 E d a0 a1 a2 h Q) : Ct E (d + 1) 95 [.ref a0, .int a1, .int a2] h Q := by
  unfold w_95 at hw
  show Gx E (d + 1) 95 0 [.ref a0, .int a1, .int a2, .retAddr 0] [] h Q
  refine zg_aload zi_95_0 rfl ?_
  obtain ⟨ht, hw⟩ := hw
  obtain ⟨r1, hr, hw⟩ := hw
  refine zg_getR (v := .ref r1) zi_95_1 ht (by rfl) (by show zrv (zR h a0 0) = _; rw [hr]; rfl) ?_
  refine zg_iload zi_95_2 rfl ?_
  obtain ⟨ht, hw⟩ := hw
  obtain ⟨hd, hs, hw⟩ := hw
  refine Gx.call (as := [.ref r1, .int a1]) (rest := []) (n := 2) zi_95_3 (by rfl) rfl (by rfl) (by rfl) (by rfl) (by decide) (by simp only [zcat, List.map, List.sum_cons, List.sum_nil, Value.category]; decide) (zrv_v ht (by rfl) (by rfl)) (by decide) ?_
  refine cz_35 hd hs ?_
  show Gx E (d + 1) 95 4 [.ref a0, .int a1, .int a2, .retAddr 0] [.int (fz_35 E h r1 a1)] h Q
  refine zg_if_eq zi_95_4 (fun hc => ?_) (fun hc => ?_)
  · have hw := hw.1 hc
    refine zg_const (v := (-1)) zi_95_11 (by rfl) ?_
    exact zg_ireturn zi_95_12 (by decide) hw
  · have hw := hw.2 hc
    refine zg_iload zi_95_5 rfl ?_
    refine zg_const (v := (-4)) zi_95_6 (by rfl) ?_
    refine zg_icmp_eq zi_95_7 (fun hc => ?_) (fun hc => ?_)
    · have hw := hw.1 hc
      refine zg_aload zi_95_13 rfl ?_
      obtain ⟨ht, hw⟩ := hw
      obtain ⟨r2, hr, hw⟩ := hw
      refine zg_getR (v := .ref r2) zi_95_14 ht (by rfl) (by show zrv (zR h a0 0) = _; rw [hr]; rfl) ?_
      obtain ⟨ht, hw⟩ := hw
      obtain ⟨r3, hr, hw⟩ := hw
      refine zg_getR (v := .ref r3) zi_95_15 ht (by rfl) (by show zrv (zR h r2 1) = _; rw [hr]; rfl) ?_
      refine zg_iload zi_95_16 rfl ?_
      obtain ⟨ht, hb, hw⟩ := hw
      refine zg_iaload (v := .int (zI h r3 a1.toNatClampNeg)) zi_95_17 ht hb rfl ?_
      refine zg_nameI fun x4 ex4 => ?_
      have hw := hw x4 ex4
      refine zg_istore (ls1 := [.ref a0, .int a1, .int a2, .int x4]) zi_95_18 (by decide) rfl ?_
      refine zg_iload zi_95_19 rfl ?_
      refine zg_iload zi_95_20 rfl ?_
      refine zg_icmp_eq zi_95_21 (fun hc => ?_) (fun hc => ?_)
      · have hw := hw.1 hc
        exact Gx.forget ⟨Or.inr rfl, Or.inr rfl, Or.inr rfl, Or.inl rfl, trivial⟩ (okb_95_34 hw)
      · have hw := hw.2 hc
        refine zg_aload zi_95_22 rfl ?_
        obtain ⟨ht, hw⟩ := hw
        obtain ⟨r5, hr, hw⟩ := hw
        refine zg_getR (v := .ref r5) zi_95_23 ht (by rfl) (by show zrv (zR h a0 0) = _; rw [hr]; rfl) ?_
        obtain ⟨ht, hw⟩ := hw
        obtain ⟨r6, hr, hw⟩ := hw
        refine zg_getR (v := .ref r6) zi_95_24 ht (by rfl) (by show zrv (zR h r5 1) = _; rw [hr]; rfl) ?_
        refine zg_iload zi_95_25 rfl ?_
        refine zg_iload zi_95_26 rfl ?_
        obtain ⟨ht, hb, hw⟩ := hw
        refine zg_iastore (h1 := zuI h r6 a1.toNatClampNeg a2) zi_95_27 ht hb rfl ?_
        refine zg_nameH fun h7 eh7 => ?_
        have hw := hw h7 eh7
        refine zg_aload zi_95_28 rfl ?_
        obtain ⟨ht, hw⟩ := hw
        obtain ⟨r8, hr, hw⟩ := hw
        refine zg_getR (v := .ref r8) zi_95_29 ht (by rfl) (by show zrv (zR h7 a0 0) = _; rw [hr]; rfl) ?_
        obtain ⟨ht, hw⟩ := hw
        refine Gx.call (as := [.ref r8]) (rest := []) (n := 1) zi_95_30 (by rfl) rfl (by rfl) (by rfl) (by rfl) (by decide) (by simp only [zcat, List.map, List.sum_cons, List.sum_nil, Value.category]; decide) (zrv_v ht (by rfl) (by rfl)) (by decide) ?_
        refine Ct.mono hw ?_
        rintro v h9 ⟨rfl, hw⟩
        show Gx E (d + 1) 95 31 [.ref a0, .int a1, .int a2, .int x4] [] h9 Q
        refine zg_aload zi_95_31 rfl ?_
        obtain ⟨ht, hw⟩ := hw
        obtain ⟨r10, hr, hw⟩ := hw
        refine zg_getR (v := .ref r10) zi_95_32 ht (by rfl) (by show zrv (zR h9 a0 6) = _; rw [hr]; rfl) ?_
        obtain ⟨ht, hw⟩ := hw
        refine Gx.call (as := [.ref r10]) (rest := []) (n := 1) zi_95_33 (by rfl) rfl (by rfl) (by rfl) (by rfl) (by decide) (by simp only [zcat, List.map, List.sum_cons, List.sum_nil, Value.category]; decide) (zrv_v ht (by rfl) (by rfl)) (by decide) ?_
        refine Ct.mono hw ?_
        rintro v h11 ⟨rfl, hw⟩
        show Gx E (d + 1) 95 34 [.ref a0, .int a1, .int a2, .int x4] [] h11 Q
        exact Gx.forget ⟨Or.inr rfl, Or.inr rfl, Or.inr rfl, Or.inl rfl, trivial⟩ (okb_95_34 hw)
    · have hw := hw.2 hc
      refine zg_iload zi_95_8 rfl ?_
      obtain ⟨hd, hs, hw⟩ := hw
      refine Gx.call (as := [.int a2]) (rest := []) (n := 1) zi_95_9 (by rfl) rfl (by rfl) (by rfl) (by rfl) (by decide) (by simp only [zcat, List.map, List.sum_cons, List.sum_nil, Value.category]; decide) (by rfl) (by decide) ?_
      refine cz_120 hd hs ?_
      show Gx E (d + 1) 95 10 [.ref a0, .int a1, .int a2, .retAddr 0] [.int (fz_120 E h a2)] h Q
      refine zg_if_ne zi_95_10 (fun hc => ?_) (fun hc => ?_)
      · have hw := hw.1 hc
        refine zg_aload zi_95_13 rfl ?_
        obtain ⟨ht, hw⟩ := hw
        obtain ⟨r12, hr, hw⟩ := hw
        refine zg_getR (v := .ref r12) zi_95_14 ht (by rfl) (by show zrv (zR h a0 0) = _; rw [hr]; rfl) ?_
        obtain ⟨ht, hw⟩ := hw
        obtain ⟨r13, hr, hw⟩ := hw
        refine zg_getR (v := .ref r13) zi_95_15 ht (by rfl) (by show zrv (zR h r12 1) = _; rw [hr]; rfl) ?_
        refine zg_iload zi_95_16 rfl ?_
        obtain ⟨ht, hb, hw⟩ := hw
        refine zg_iaload (v := .int (zI h r13 a1.toNatClampNeg)) zi_95_17 ht hb rfl ?_
        refine zg_nameI fun x14 ex14 => ?_
        have hw := hw x14 ex14
        refine zg_istore (ls1 := [.ref a0, .int a1, .int a2, .int x14]) zi_95_18 (by decide) rfl ?_
        refine zg_iload zi_95_19 rfl ?_
        refine zg_iload zi_95_20 rfl ?_
        refine zg_icmp_eq zi_95_21 (fun hc => ?_) (fun hc => ?_)
        · have hw := hw.1 hc
          exact Gx.forget ⟨Or.inr rfl, Or.inr rfl, Or.inr rfl, Or.inl rfl, trivial⟩ (okb_95_34 hw)
        · have hw := hw.2 hc
          refine zg_aload zi_95_22 rfl ?_
          obtain ⟨ht, hw⟩ := hw
          obtain ⟨r15, hr, hw⟩ := hw
          refine zg_getR (v := .ref r15) zi_95_23 ht (by rfl) (by show zrv (zR h a0 0) = _; rw [hr]; rfl) ?_
          obtain ⟨ht, hw⟩ := hw
          obtain ⟨r16, hr, hw⟩ := hw
          refine zg_getR (v := .ref r16) zi_95_24 ht (by rfl) (by show zrv (zR h r15 1) = _; rw [hr]; rfl) ?_
          refine zg_iload zi_95_25 rfl ?_
          refine zg_iload zi_95_26 rfl ?_
          obtain ⟨ht, hb, hw⟩ := hw
          refine zg_iastore (h1 := zuI h r16 a1.toNatClampNeg a2) zi_95_27 ht hb rfl ?_
          refine zg_nameH fun h17 eh17 => ?_
          have hw := hw h17 eh17
          refine zg_aload zi_95_28 rfl ?_
          obtain ⟨ht, hw⟩ := hw
          obtain ⟨r18, hr, hw⟩ := hw
          refine zg_getR (v := .ref r18) zi_95_29 ht (by rfl) (by show zrv (zR h17 a0 0) = _; rw [hr]; rfl) ?_
          obtain ⟨ht, hw⟩ := hw
          refine Gx.call (as := [.ref r18]) (rest := []) (n := 1) zi_95_30 (by rfl) rfl (by rfl) (by rfl) (by rfl) (by decide) (by simp only [zcat, List.map, List.sum_cons, List.sum_nil, Value.category]; decide) (zrv_v ht (by rfl) (by rfl)) (by decide) ?_
          refine Ct.mono hw ?_
          rintro v h19 ⟨rfl, hw⟩
          show Gx E (d + 1) 95 31 [.ref a0, .int a1, .int a2, .int x14] [] h19 Q
          refine zg_aload zi_95_31 rfl ?_
          obtain ⟨ht, hw⟩ := hw
          obtain ⟨r20, hr, hw⟩ := hw
          refine zg_getR (v := .ref r20) zi_95_32 ht (by rfl) (by show zrv (zR h19 a0 6) = _; rw [hr]; rfl) ?_
          obtain ⟨ht, hw⟩ := hw
          refine Gx.call (as := [.ref r20]) (rest := []) (n := 1) zi_95_33 (by rfl) rfl (by rfl) (by rfl) (by rfl) (by decide) (by simp only [zcat, List.map, List.sum_cons, List.sum_nil, Value.category]; decide) (zrv_v ht (by rfl) (by rfl)) (by decide) ?_
          refine Ct.mono hw ?_
          rintro v h21 ⟨rfl, hw⟩
          show Gx E (d + 1) 95 34 [.ref a0, .int a1, .int a2, .int x14] [] h21 Q
          exact Gx.forget ⟨Or.inr rfl, Or.inr rfl, Or.inr rfl, Or.inl rfl, trivial⟩ (okb_95_34 hw)
      · have hw := hw.2 hc
        refine zg_const (v := (-1)) zi_95_11 (by rfl) ?_
        exact zg_ireturn zi_95_12 (by decide) hw
theorem zi_96_0 : (zM 96).1[0]? = some (.aload 0) := by rfl
theorem zi_96_1 : (zM 96).1[1]? = some (.getfield 10200) := by rfl
theorem zi_96_2 : (zM 96).1[2]? = some (.iload 1) := by rfl
theorem zi_96_3 : (zM 96).1[3]? = some (.invokevirtual 36) := by rfl
theorem zi_96_4 : (zM 96).1[4]? = some (.ifCond .eq ((10 : Nat) : Int)) := by rfl
theorem zi_96_5 : (zM 96).1[5]? = some (.iload 2) := by rfl
theorem zi_96_6 : (zM 96).1[6]? = some (.ifCond .lt ((10 : Nat) : Int)) := by rfl
theorem zi_96_7 : (zM 96).1[7]? = some (.iload 2) := by rfl
theorem zi_96_8 : (zM 96).1[8]? = some (.iconst 2) := by rfl
theorem zi_96_9 : (zM 96).1[9]? = some (.if_icmp .le ((12 : Nat) : Int)) := by rfl
theorem zi_96_10 : (zM 96).1[10]? = some (.iconst (-1)) := by rfl
theorem zi_96_11 : (zM 96).1[11]? = some (.ireturn) := by rfl
theorem zi_96_12 : (zM 96).1[12]? = some (.iload 2) := by rfl
theorem zi_96_13 : (zM 96).1[13]? = some (.iconst 2) := by rfl
theorem zi_96_14 : (zM 96).1[14]? = some (.if_icmp .ne ((20 : Nat) : Int)) := by rfl
theorem zi_96_15 : (zM 96).1[15]? = some (.aload 0) := by rfl
theorem zi_96_16 : (zM 96).1[16]? = some (.getfield 10200) := by rfl
theorem zi_96_17 : (zM 96).1[17]? = some (.iload 1) := by rfl
theorem zi_96_18 : (zM 96).1[18]? = some (.invokevirtual 41) := by rfl
theorem zi_96_19 : (zM 96).1[19]? = some (.ireturn) := by rfl
theorem zi_96_20 : (zM 96).1[20]? = some (.iload 2) := by rfl
theorem zi_96_21 : (zM 96).1[21]? = some (.ifCond .ne ((28 : Nat) : Int)) := by rfl
theorem zi_96_22 : (zM 96).1[22]? = some (.aload 0) := by rfl
theorem zi_96_23 : (zM 96).1[23]? = some (.getfield 10200) := by rfl
theorem zi_96_24 : (zM 96).1[24]? = some (.getfield 3202) := by rfl
theorem zi_96_25 : (zM 96).1[25]? = some (.iload 1) := by rfl
theorem zi_96_26 : (zM 96).1[26]? = some (.iaload) := by rfl
theorem zi_96_27 : (zM 96).1[27]? = some (.goto ((33 : Nat) : Int)) := by rfl
theorem zi_96_28 : (zM 96).1[28]? = some (.aload 0) := by rfl
theorem zi_96_29 : (zM 96).1[29]? = some (.getfield 10200) := by rfl
theorem zi_96_30 : (zM 96).1[30]? = some (.getfield 3203) := by rfl
theorem zi_96_31 : (zM 96).1[31]? = some (.iload 1) := by rfl
theorem zi_96_32 : (zM 96).1[32]? = some (.iaload) := by rfl
theorem zi_96_33 : (zM 96).1[33]? = some (.ireturn) := by rfl
/-- TakeOrPay.year(II)I -/
def w_96 (E : Nat → Nat) (d : Nat) (a0 : Nat) (a1 : Int32) (a2 : Int32) (h : ZH) (Q : Option Value → ZH → Prop) : Prop := ztag h a0 = 10 ∧ ∃ r1 : Nat, zR h a0 0 = r1 + 1 ∧ ztag h r1 = 3 ∧ 1 ≤ d ∧ sz_36 E h r1 a1 ∧ (((fz_36 E h r1 a1 : Int32) = 0 → (Q (some (.int ((-1)))) h)) ∧ (¬ ((fz_36 E h r1 a1 : Int32) = 0) → ((a2 < 0 → (Q (some (.int ((-1)))) h)) ∧ (¬ (a2 < 0) → ((a2 ≤ 2 → ((¬ a2 = 2 → (((¬ a2 = 0 → (ztag h a0 = 10 ∧ ∃ r2 : Nat, zR h a0 0 = r2 + 1 ∧ ztag h r2 = 3 ∧ ∃ r3 : Nat, zR h r2 3 = r3 + 1 ∧ (ztag h r3 = 13 ∨ ztag h r3 = 19) ∧ zin a1 (zlen h r3) = true ∧ True)) ∧ (¬ (¬ a2 = 0) → (ztag h a0 = 10 ∧ ∃ r4 : Nat, zR h a0 0 = r4 + 1 ∧ ztag h r4 = 3 ∧ ∃ r5 : Nat, zR h r4 2 = r5 + 1 ∧ (ztag h r5 = 13 ∨ ztag h r5 = 19) ∧ zin a1 (zlen h r5) = true ∧ True))) ∧ Q (some (.int (if ¬ a2 = 0 then zI h r3 a1.toNatClampNeg else zI h r5 a1.toNatClampNeg))) h)) ∧ (¬ (¬ a2 = 2) → (ztag h a0 = 10 ∧ ∃ r6 : Nat, zR h a0 0 = r6 + 1 ∧ ztag h r6 = 3 ∧ Ct E d 41 [.ref r6, .int a1] h (fun v h7 => ∃ x8 : Int32, v = some (.int x8) ∧ Q (some (.int x8)) h7))))) ∧ (¬ (a2 ≤ 2) → (Q (some (.int ((-1)))) h)))))))
set_option maxRecDepth 20000 in
theorem ok_96 {E : Nat → Nat} {d : Nat} {a0 : Nat} {a1 : Int32} {a2 : Int32} {h : ZH} {Q : Option Value → ZH → Prop} (hw : w_96 E d a0 a1 a2 h Q) : Ct E (d + 1) 96 [.ref a0, .int a1, .int a2] h Q := by
  unfold w_96 at hw
  show Gx E (d + 1) 96 0 [.ref a0, .int a1, .int a2] [] h Q
  refine zg_aload zi_96_0 rfl ?_
  obtain ⟨ht, hw⟩ := hw
  obtain ⟨r1, hr, hw⟩ := hw
  refine zg_getR (v := .ref r1) zi_96_1 ht (by rfl) (by show zrv (zR h a0 0) = _; rw [hr]; rfl) ?_
  refine zg_iload zi_96_2 rfl ?_
  obtain ⟨ht, hw⟩ := hw
  obtain ⟨hd, hs, hw⟩ := hw
  refine Gx.call (as := [.ref r1, .int a1]) (rest := []) (n := 2) zi_96_3 (by rfl) rfl (by rfl) (by rfl) (by rfl) (by decide) (by simp only [zcat, List.map, List.sum_cons, List.sum_nil, Value.category]; decide) (zrv_v ht (by rfl) (by rfl)) (by decide) ?_
  refine cz_36 hd hs ?_
  show Gx E (d + 1) 96 4 [.ref a0, .int a1, .int a2] [.int (fz_36 E h r1 a1)] h Q
  refine zg_if_eq zi_96_4 (fun hc => ?_) (fun hc => ?_)
  · have hw := hw.1 hc
    refine zg_const (v := (-1)) zi_96_10 (by rfl) ?_
    exact zg_ireturn zi_96_11 (by decide) hw
  · have hw := hw.2 hc
    refine zg_iload zi_96_5 rfl ?_
    refine zg_if_lt zi_96_6 (fun hc => ?_) (fun hc => ?_)
    · have hw := hw.1 hc
      refine zg_const (v := (-1)) zi_96_10 (by rfl) ?_
      exact zg_ireturn zi_96_11 (by decide) hw
    · have hw := hw.2 hc
      refine zg_iload zi_96_7 rfl ?_
      refine zg_const (v := 2) zi_96_8 (by rfl) ?_
      refine zg_icmp_le zi_96_9 (fun hc => ?_) (fun hc => ?_)
      · have hw := hw.1 hc
        refine zg_iload zi_96_12 rfl ?_
        refine zg_const (v := 2) zi_96_13 (by rfl) ?_
        refine zg_icmp_ne zi_96_14 (fun hc => ?_) (fun hc => ?_)
        · have hw := hw.1 hc
          refine zg_iload zi_96_20 rfl ?_
          obtain ⟨hsd21, hw⟩ := hw
          have g21 : Gx E (d + 1) 96 33 [.ref a0, .int a1, .int a2] [.int (if ¬ a2 = 0 then zI h r3 a1.toNatClampNeg else zI h r5 a1.toNatClampNeg)] h Q := by
            exact zg_ireturn zi_96_33 (by decide) hw
          refine zg_if_ne zi_96_21 (fun hc21 => ?_) (fun hc21 => ?_)
          · have hw := hsd21.1 hc21
            refine zg_aload zi_96_28 rfl ?_
            obtain ⟨ht, hw⟩ := hw
            obtain ⟨r2, hr, hw⟩ := hw
            refine zg_getR (v := .ref r2) zi_96_29 ht (by rfl) (by show zrv (zR h a0 0) = _; rw [hr]; rfl) ?_
            obtain ⟨ht, hw⟩ := hw
            obtain ⟨r3, hr, hw⟩ := hw
            refine zg_getR (v := .ref r3) zi_96_30 ht (by rfl) (by show zrv (zR h r2 3) = _; rw [hr]; rfl) ?_
            refine zg_iload zi_96_31 rfl ?_
            obtain ⟨ht, hb, hw⟩ := hw
            refine zg_iaload (v := .int (zI h r3 a1.toNatClampNeg)) zi_96_32 ht hb rfl ?_
            have hg := g21
            simp only [if_pos hc21] at hg
            exact hg
          · have hw := hsd21.2 hc21
            refine zg_aload zi_96_22 rfl ?_
            obtain ⟨ht, hw⟩ := hw
            obtain ⟨r4, hr, hw⟩ := hw
            refine zg_getR (v := .ref r4) zi_96_23 ht (by rfl) (by show zrv (zR h a0 0) = _; rw [hr]; rfl) ?_
            obtain ⟨ht, hw⟩ := hw
            obtain ⟨r5, hr, hw⟩ := hw
            refine zg_getR (v := .ref r5) zi_96_24 ht (by rfl) (by show zrv (zR h r4 2) = _; rw [hr]; rfl) ?_
            refine zg_iload zi_96_25 rfl ?_
            obtain ⟨ht, hb, hw⟩ := hw
            refine zg_iaload (v := .int (zI h r5 a1.toNatClampNeg)) zi_96_26 ht hb rfl ?_
            refine zg_goto zi_96_27 ?_
            have hg := g21
            simp only [if_neg hc21] at hg
            exact hg
        · have hw := hw.2 hc
          refine zg_aload zi_96_15 rfl ?_
          obtain ⟨ht, hw⟩ := hw
          obtain ⟨r6, hr, hw⟩ := hw
          refine zg_getR (v := .ref r6) zi_96_16 ht (by rfl) (by show zrv (zR h a0 0) = _; rw [hr]; rfl) ?_
          refine zg_iload zi_96_17 rfl ?_
          obtain ⟨ht, hw⟩ := hw
          refine Gx.call (as := [.ref r6, .int a1]) (rest := []) (n := 2) zi_96_18 (by rfl) rfl (by rfl) (by rfl) (by rfl) (by decide) (by simp only [zcat, List.map, List.sum_cons, List.sum_nil, Value.category]; decide) (zrv_v ht (by rfl) (by rfl)) (by decide) ?_
          refine Ct.mono hw ?_
          rintro v h7 ⟨x8, rfl, hw⟩
          show Gx E (d + 1) 96 19 [.ref a0, .int a1, .int a2] [.int x8] h7 Q
          exact zg_ireturn zi_96_19 (by decide) hw
      · have hw := hw.2 hc
        refine zg_const (v := (-1)) zi_96_10 (by rfl) ?_
        exact zg_ireturn zi_96_11 (by decide) hw
theorem zi_97_0 : (zM 97).1[0]? = some (.aload 0) := by rfl
theorem zi_97_1 : (zM 97).1[1]? = some (.getfield 10200) := by rfl
theorem zi_97_2 : (zM 97).1[2]? = some (.iload 1) := by rfl
theorem zi_97_3 : (zM 97).1[3]? = some (.invokevirtual 36) := by rfl
theorem zi_97_4 : (zM 97).1[4]? = some (.ifCond .eq ((10 : Nat) : Int)) := by rfl
theorem zi_97_5 : (zM 97).1[5]? = some (.iload 2) := by rfl
theorem zi_97_6 : (zM 97).1[6]? = some (.ifCond .lt ((10 : Nat) : Int)) := by rfl
theorem zi_97_7 : (zM 97).1[7]? = some (.iload 2) := by rfl
theorem zi_97_8 : (zM 97).1[8]? = some (.iconst 2) := by rfl
theorem zi_97_9 : (zM 97).1[9]? = some (.if_icmp .le ((12 : Nat) : Int)) := by rfl
theorem zi_97_10 : (zM 97).1[10]? = some (.iconst (-1)) := by rfl
theorem zi_97_11 : (zM 97).1[11]? = some (.ireturn) := by rfl
theorem zi_97_12 : (zM 97).1[12]? = some (.iload 2) := by rfl
theorem zi_97_13 : (zM 97).1[13]? = some (.ifCond .ne ((16 : Nat) : Int)) := by rfl
theorem zi_97_14 : (zM 97).1[14]? = some (.iconst 1) := by rfl
theorem zi_97_15 : (zM 97).1[15]? = some (.goto ((22 : Nat) : Int)) := by rfl
theorem zi_97_16 : (zM 97).1[16]? = some (.iload 2) := by rfl
theorem zi_97_17 : (zM 97).1[17]? = some (.iconst 1) := by rfl
theorem zi_97_18 : (zM 97).1[18]? = some (.if_icmp .ne ((21 : Nat) : Int)) := by rfl
theorem zi_97_19 : (zM 97).1[19]? = some (.iconst 2) := by rfl
theorem zi_97_20 : (zM 97).1[20]? = some (.goto ((22 : Nat) : Int)) := by rfl
theorem zi_97_21 : (zM 97).1[21]? = some (.iconst 0) := by rfl
theorem zi_97_22 : (zM 97).1[22]? = some (.istore 3) := by rfl
theorem zi_97_23 : (zM 97).1[23]? = some (.aload 0) := by rfl
theorem zi_97_24 : (zM 97).1[24]? = some (.getfield 10200) := by rfl
theorem zi_97_25 : (zM 97).1[25]? = some (.iload 3) := by rfl
theorem zi_97_26 : (zM 97).1[26]? = some (.invokevirtual 38) := by rfl
theorem zi_97_27 : (zM 97).1[27]? = some (.ifCond .eq ((33 : Nat) : Int)) := by rfl
theorem zi_97_28 : (zM 97).1[28]? = some (.aload 0) := by rfl
theorem zi_97_29 : (zM 97).1[29]? = some (.getfield 10200) := by rfl
theorem zi_97_30 : (zM 97).1[30]? = some (.iload 1) := by rfl
theorem zi_97_31 : (zM 97).1[31]? = some (.invokevirtual 42) := by rfl
theorem zi_97_32 : (zM 97).1[32]? = some (.goto ((34 : Nat) : Int)) := by rfl
theorem zi_97_33 : (zM 97).1[33]? = some (.iconst 0) := by rfl
theorem zi_97_34 : (zM 97).1[34]? = some (.istore 4) := by rfl
theorem zi_97_35 : (zM 97).1[35]? = some (.aload 0) := by rfl
theorem zi_97_36 : (zM 97).1[36]? = some (.getfield 10200) := by rfl
theorem zi_97_37 : (zM 97).1[37]? = some (.aload 0) := by rfl
theorem zi_97_38 : (zM 97).1[38]? = some (.getfield 10200) := by rfl
theorem zi_97_39 : (zM 97).1[39]? = some (.invokevirtual 39) := by rfl
theorem zi_97_40 : (zM 97).1[40]? = some (.iload 4) := by rfl
theorem zi_97_41 : (zM 97).1[41]? = some (.invokevirtual 40) := by rfl
theorem zi_97_42 : (zM 97).1[42]? = some (.ireturn) := by rfl
def wb_97_34 (E : Nat → Nat) (d : Nat) (Q : Option Value → ZH → Prop) (a0 : Nat) (s0 : Int32) (h : ZH) : Prop := ztag h a0 = 10 ∧ ∃ r4 : Nat, zR h a0 0 = r4 + 1 ∧ ztag h a0 = 10 ∧ ∃ r5 : Nat, zR h a0 0 = r5 + 1 ∧ ztag h r5 = 3 ∧ 5 ≤ d ∧ sz_39 E h r5 ∧ ztag h r4 = 3 ∧ 1 ≤ d ∧ sz_40 E h r4 (fz_39 E h r5) s0 ∧ Q (some (.int (fz_40 E h r4 (fz_39 E h r5) s0))) h
set_option maxRecDepth 20000 in
theorem okb_97_34 {E : Nat → Nat} {d : Nat} {Q : Option Value → ZH → Prop} {a0 : Nat} {s0 : Int32} {h : ZH} (hw : wb_97_34 E d Q a0 s0 h) : Gx E (d + 1) 97 34 [.ref a0, .retAddr 0, .retAddr 0, .retAddr 0, .retAddr 0] [.int s0] h Q := by
  unfold wb_97_34 at hw
  refine zg_istore (ls1 := [.ref a0, .retAddr 0, .retAddr 0, .retAddr 0, .int s0]) zi_97_34 (by decide) rfl ?_
  refine zg_aload zi_97_35 rfl ?_
  obtain ⟨ht, hw⟩ := hw
  obtain ⟨r4, hr, hw⟩ := hw
  refine zg_getR (v := .ref r4) zi_97_36 ht (by rfl) (by show zrv (zR h a0 0) = _; rw [hr]; rfl) ?_
  refine zg_aload zi_97_37 rfl ?_
  obtain ⟨ht, hw⟩ := hw
  obtain ⟨r5, hr, hw⟩ := hw
  refine zg_getR (v := .ref r5) zi_97_38 ht (by rfl) (by show zrv (zR h a0 0) = _; rw [hr]; rfl) ?_
  obtain ⟨ht, hw⟩ := hw
  obtain ⟨hd, hs, hw⟩ := hw
  refine Gx.call (as := [.ref r5]) (rest := [.ref r4]) (n := 1) zi_97_39 (by rfl) rfl (by rfl) (by rfl) (by rfl) (by decide) (by simp only [zcat, List.map, List.sum_cons, List.sum_nil, Value.category]; decide) (zrv_v ht (by rfl) (by rfl)) (by decide) ?_
  refine cz_39 hd hs ?_
  show Gx E (d + 1) 97 40 [.ref a0, .retAddr 0, .retAddr 0, .retAddr 0, .int s0] [.int (fz_39 E h r5), .ref r4] h Q
  refine zg_iload zi_97_40 rfl ?_
  obtain ⟨ht, hw⟩ := hw
  obtain ⟨hd, hs, hw⟩ := hw
  refine Gx.call (as := [.ref r4, .int (fz_39 E h r5), .int s0]) (rest := []) (n := 3) zi_97_41 (by rfl) rfl (by rfl) (by rfl) (by rfl) (by decide) (by simp only [zcat, List.map, List.sum_cons, List.sum_nil, Value.category]; decide) (zrv_v ht (by rfl) (by rfl)) (by decide) ?_
  refine cz_40 hd hs ?_
  show Gx E (d + 1) 97 42 [.ref a0, .retAddr 0, .retAddr 0, .retAddr 0, .int s0] [.int (fz_40 E h r4 (fz_39 E h r5) s0)] h Q
  exact zg_ireturn zi_97_42 (by decide) hw
/-- TakeOrPay.whose(II)I -/
def w_97 (E : Nat → Nat) (d : Nat) (a0 : Nat) (a1 : Int32) (a2 : Int32) (h : ZH) (Q : Option Value → ZH → Prop) : Prop := ztag h a0 = 10 ∧ ∃ r1 : Nat, zR h a0 0 = r1 + 1 ∧ ztag h r1 = 3 ∧ 1 ≤ d ∧ sz_36 E h r1 a1 ∧ (((fz_36 E h r1 a1 : Int32) = 0 → (Q (some (.int ((-1)))) h)) ∧ (¬ ((fz_36 E h r1 a1 : Int32) = 0) → ((a2 < 0 → (Q (some (.int ((-1)))) h)) ∧ (¬ (a2 < 0) → ((a2 ≤ 2 → (∀ x2 : Int32, x2 = if ¬ a2 = 0 then if ¬ a2 = 1 then 0 else 2 else 1 → ztag h a0 = 10 ∧ ∃ r3 : Nat, zR h a0 0 = r3 + 1 ∧ ztag h r3 = 3 ∧ 1 ≤ d ∧ sz_38 E h r3 x2 ∧ (((fz_38 E h r3 x2 : Int32) = 0 → (wb_97_34 E d Q a0 0 h)) ∧ (¬ ((fz_38 E h r3 x2 : Int32) = 0) → (ztag h a0 = 10 ∧ ∃ r6 : Nat, zR h a0 0 = r6 + 1 ∧ ztag h r6 = 3 ∧ Ct E d 42 [.ref r6, .int a1] h (fun v h7 => ∃ x8 : Int32, v = some (.int x8) ∧ wb_97_34 E d Q a0 x8 h7)))))) ∧ (¬ (a2 ≤ 2) → (Q (some (.int ((-1)))) h)))))))
set_option maxRecDepth 20000 in
theorem ok_97 {E : Nat → Nat} {d : Nat} {a0 : Nat} {a1 : Int32} {a2 : Int32} {h : ZH} {Q : Option Value → ZH → Prop} (hw : w_97 E d a0 a1 a2 h Q) : Ct E (d + 1) 97 [.ref a0, .int a1, .int a2] h Q := by
  unfold w_97 at hw
  show Gx E (d + 1) 97 0 [.ref a0, .int a1, .int a2, .retAddr 0, .retAddr 0] [] h Q
  refine zg_aload zi_97_0 rfl ?_
  obtain ⟨ht, hw⟩ := hw
  obtain ⟨r1, hr, hw⟩ := hw
  refine zg_getR (v := .ref r1) zi_97_1 ht (by rfl) (by show zrv (zR h a0 0) = _; rw [hr]; rfl) ?_
  refine zg_iload zi_97_2 rfl ?_
  obtain ⟨ht, hw⟩ := hw
  obtain ⟨hd, hs, hw⟩ := hw
  refine Gx.call (as := [.ref r1, .int a1]) (rest := []) (n := 2) zi_97_3 (by rfl) rfl (by rfl) (by rfl) (by rfl) (by decide) (by simp only [zcat, List.map, List.sum_cons, List.sum_nil, Value.category]; decide) (zrv_v ht (by rfl) (by rfl)) (by decide) ?_
  refine cz_36 hd hs ?_
  show Gx E (d + 1) 97 4 [.ref a0, .int a1, .int a2, .retAddr 0, .retAddr 0] [.int (fz_36 E h r1 a1)] h Q
  refine zg_if_eq zi_97_4 (fun hc => ?_) (fun hc => ?_)
  · have hw := hw.1 hc
    refine zg_const (v := (-1)) zi_97_10 (by rfl) ?_
    exact zg_ireturn zi_97_11 (by decide) hw
  · have hw := hw.2 hc
    refine zg_iload zi_97_5 rfl ?_
    refine zg_if_lt zi_97_6 (fun hc => ?_) (fun hc => ?_)
    · have hw := hw.1 hc
      refine zg_const (v := (-1)) zi_97_10 (by rfl) ?_
      exact zg_ireturn zi_97_11 (by decide) hw
    · have hw := hw.2 hc
      refine zg_iload zi_97_7 rfl ?_
      refine zg_const (v := 2) zi_97_8 (by rfl) ?_
      refine zg_icmp_le zi_97_9 (fun hc => ?_) (fun hc => ?_)
      · have hw := hw.1 hc
        refine zg_iload zi_97_12 rfl ?_
        have g13 : Gx E (d + 1) 97 22 [.ref a0, .int a1, .int a2, .retAddr 0, .retAddr 0] [.int (if ¬ a2 = 0 then if ¬ a2 = 1 then 0 else 2 else 1)] h Q := by
          refine zg_nameI fun x2 ex2 => ?_
          have hw := hw x2 ex2
          refine zg_istore (ls1 := [.ref a0, .int a1, .int a2, .int x2, .retAddr 0]) zi_97_22 (by decide) rfl ?_
          refine zg_aload zi_97_23 rfl ?_
          obtain ⟨ht, hw⟩ := hw
          obtain ⟨r3, hr, hw⟩ := hw
          refine zg_getR (v := .ref r3) zi_97_24 ht (by rfl) (by show zrv (zR h a0 0) = _; rw [hr]; rfl) ?_
          refine zg_iload zi_97_25 rfl ?_
          obtain ⟨ht, hw⟩ := hw
          obtain ⟨hd, hs, hw⟩ := hw
          refine Gx.call (as := [.ref r3, .int x2]) (rest := []) (n := 2) zi_97_26 (by rfl) rfl (by rfl) (by rfl) (by rfl) (by decide) (by simp only [zcat, List.map, List.sum_cons, List.sum_nil, Value.category]; decide) (zrv_v ht (by rfl) (by rfl)) (by decide) ?_
          refine cz_38 hd hs ?_
          show Gx E (d + 1) 97 27 [.ref a0, .int a1, .int a2, .int x2, .retAddr 0] [.int (fz_38 E h r3 x2)] h Q
          refine zg_if_eq zi_97_27 (fun hc => ?_) (fun hc => ?_)
          · have hw := hw.1 hc
            refine zg_const (v := 0) zi_97_33 (by rfl) ?_
            exact Gx.forget ⟨Or.inl rfl, Or.inr rfl, Or.inr rfl, Or.inr rfl, Or.inl rfl, trivial⟩ (okb_97_34 hw)
          · have hw := hw.2 hc
            refine zg_aload zi_97_28 rfl ?_
            obtain ⟨ht, hw⟩ := hw
            obtain ⟨r6, hr, hw⟩ := hw
            refine zg_getR (v := .ref r6) zi_97_29 ht (by rfl) (by show zrv (zR h a0 0) = _; rw [hr]; rfl) ?_
            refine zg_iload zi_97_30 rfl ?_
            obtain ⟨ht, hw⟩ := hw
            refine Gx.call (as := [.ref r6, .int a1]) (rest := []) (n := 2) zi_97_31 (by rfl) rfl (by rfl) (by rfl) (by rfl) (by decide) (by simp only [zcat, List.map, List.sum_cons, List.sum_nil, Value.category]; decide) (zrv_v ht (by rfl) (by rfl)) (by decide) ?_
            refine Ct.mono hw ?_
            rintro v h7 ⟨x8, rfl, hw⟩
            show Gx E (d + 1) 97 32 [.ref a0, .int a1, .int a2, .int x2, .retAddr 0] [.int x8] h7 Q
            refine zg_goto zi_97_32 ?_
            exact Gx.forget ⟨Or.inl rfl, Or.inr rfl, Or.inr rfl, Or.inr rfl, Or.inl rfl, trivial⟩ (okb_97_34 hw)
        refine zg_if_ne zi_97_13 (fun hc13 => ?_) (fun hc13 => ?_)
        · skip
          refine zg_iload zi_97_16 rfl ?_
          refine zg_const (v := 1) zi_97_17 (by rfl) ?_
          have g18 : Gx E (d + 1) 97 22 [.ref a0, .int a1, .int a2, .retAddr 0, .retAddr 0] [.int (if ¬ a2 = 1 then 0 else 2)] h Q := by
            have hg := g13
            simp only [if_pos hc13] at hg
            exact hg
          refine zg_icmp_ne zi_97_18 (fun hc18 => ?_) (fun hc18 => ?_)
          · skip
            refine zg_const (v := 0) zi_97_21 (by rfl) ?_
            have hg := g18
            simp only [if_pos hc18] at hg
            exact hg
          · skip
            refine zg_const (v := 2) zi_97_19 (by rfl) ?_
            refine zg_goto zi_97_20 ?_
            have hg := g18
            simp only [if_neg hc18] at hg
            exact hg
        · skip
          refine zg_const (v := 1) zi_97_14 (by rfl) ?_
          refine zg_goto zi_97_15 ?_
          have hg := g13
          simp only [if_neg hc13] at hg
          exact hg
      · have hw := hw.2 hc
        refine zg_const (v := (-1)) zi_97_10 (by rfl) ?_
        exact zg_ireturn zi_97_11 (by decide) hw
theorem zi_121_0 : (zM 121).1[0]? = some (.iload 0) := by rfl
theorem zi_121_1 : (zM 121).1[1]? = some (.ifCond .lt ((7 : Nat) : Int)) := by rfl
theorem zi_121_2 : (zM 121).1[2]? = some (.iload 0) := by rfl
theorem zi_121_3 : (zM 121).1[3]? = some (.iconst 20) := by rfl
theorem zi_121_4 : (zM 121).1[4]? = some (.if_icmp .gt ((7 : Nat) : Int)) := by rfl
theorem zi_121_5 : (zM 121).1[5]? = some (.iconst 1) := by rfl
theorem zi_121_6 : (zM 121).1[6]? = some (.goto ((8 : Nat) : Int)) := by rfl
theorem zi_121_7 : (zM 121).1[7]? = some (.iconst 0) := by rfl
theorem zi_121_8 : (zM 121).1[8]? = some (.ireturn) := by rfl
/-- TakeOrPay.isCounted(I)Z -/
def w_121 (E : Nat → Nat) (d : Nat) (a0 : Int32) (h : ZH) (Q : Option Value → ZH → Prop) : Prop := Q (some (.int (if a0 < 0 then 0 else if 20 < a0 then 0 else 1))) h
set_option maxRecDepth 20000 in
theorem ok_121 {E : Nat → Nat} {d : Nat} {a0 : Int32} {h : ZH} {Q : Option Value → ZH → Prop} (hw : w_121 E d a0 h Q) : Ct E (d + 1) 121 [.int a0] h Q := by
  unfold w_121 at hw
  show Gx E (d + 1) 121 0 [.int a0] [] h Q
  refine zg_iload zi_121_0 rfl ?_
  have g1 : Gx E (d + 1) 121 8 [.int a0] [.int (if a0 < 0 then 0 else if 20 < a0 then 0 else 1)] h Q := by
    exact zg_zreturn zi_121_8 (by (repeat' split) <;> first | (left; rfl) | (right; rfl)) hw
  refine zg_if_lt zi_121_1 (fun hc1 => ?_) (fun hc1 => ?_)
  · skip
    refine zg_const (v := 0) zi_121_7 (by rfl) ?_
    have hg := g1
    simp only [if_pos hc1] at hg
    exact hg
  · skip
    refine zg_iload zi_121_2 rfl ?_
    refine zg_const (v := 20) zi_121_3 (by rfl) ?_
    have g4 : Gx E (d + 1) 121 8 [.int a0] [.int (if 20 < a0 then 0 else 1)] h Q := by
      have hg := g1
      simp only [if_neg hc1] at hg
      exact hg
    refine zg_icmp_gt zi_121_4 (fun hc4 => ?_) (fun hc4 => ?_)
    · skip
      refine zg_const (v := 0) zi_121_7 (by rfl) ?_
      have hg := g4
      simp only [if_pos hc4] at hg
      exact hg
    · skip
      refine zg_const (v := 1) zi_121_5 (by rfl) ?_
      refine zg_goto zi_121_6 ?_
      have hg := g4
      simp only [if_neg hc4] at hg
      exact hg
def fz_121 (E : Nat → Nat) (h : ZH) (a0 : Int32) : Int32 := if a0 < 0 then 0 else if 20 < a0 then 0 else 1
def sz_121 (E : Nat → Nat) (h : ZH) (a0 : Int32) : Prop := True
set_option maxRecDepth 20000 in
theorem fb_121 {E : Nat → Nat} {h : ZH} {a0 : Int32} : fz_121 E h a0 = 0 ∨ fz_121 E h a0 = 1 := by
  unfold fz_121
  (try dsimp only)
  (repeat' split) <;> first | (left; rfl) | (right; rfl)
set_option maxRecDepth 20000 in
theorem cz_121 {E : Nat → Nat} {d : Nat} {a0 : Int32} {h : ZH} {Q : Option Value → ZH → Prop} (hd : 1 ≤ d) (hs : sz_121 E h a0) (hq : Q (some (.int (fz_121 E h a0))) h) : Ct E d 121 [.int a0] h Q := by
  obtain ⟨d, rfl⟩ : ∃ n, d = n + 1 := ⟨d - 1, by omega⟩
  refine ok_121 ?_
  unfold w_121
  unfold sz_121 at hs
  unfold fz_121 at hq
  exact hq
theorem zi_122_0 : (zM 122).1[0]? = some (.iload 0) := by rfl
theorem zi_122_1 : (zM 122).1[1]? = some (.ifCond .lt ((7 : Nat) : Int)) := by rfl
theorem zi_122_2 : (zM 122).1[2]? = some (.iload 0) := by rfl
theorem zi_122_3 : (zM 122).1[3]? = some (.iconst 8) := by rfl
theorem zi_122_4 : (zM 122).1[4]? = some (.if_icmp .gt ((7 : Nat) : Int)) := by rfl
theorem zi_122_5 : (zM 122).1[5]? = some (.iconst 1) := by rfl
theorem zi_122_6 : (zM 122).1[6]? = some (.goto ((8 : Nat) : Int)) := by rfl
theorem zi_122_7 : (zM 122).1[7]? = some (.iconst 0) := by rfl
theorem zi_122_8 : (zM 122).1[8]? = some (.ireturn) := by rfl
/-- TakeOrPay.isCredit(I)Z -/
def w_122 (E : Nat → Nat) (d : Nat) (a0 : Int32) (h : ZH) (Q : Option Value → ZH → Prop) : Prop := Q (some (.int (if a0 < 0 then 0 else if 8 < a0 then 0 else 1))) h
set_option maxRecDepth 20000 in
theorem ok_122 {E : Nat → Nat} {d : Nat} {a0 : Int32} {h : ZH} {Q : Option Value → ZH → Prop} (hw : w_122 E d a0 h Q) : Ct E (d + 1) 122 [.int a0] h Q := by
  unfold w_122 at hw
  show Gx E (d + 1) 122 0 [.int a0] [] h Q
  refine zg_iload zi_122_0 rfl ?_
  have g1 : Gx E (d + 1) 122 8 [.int a0] [.int (if a0 < 0 then 0 else if 8 < a0 then 0 else 1)] h Q := by
    exact zg_zreturn zi_122_8 (by (repeat' split) <;> first | (left; rfl) | (right; rfl)) hw
  refine zg_if_lt zi_122_1 (fun hc1 => ?_) (fun hc1 => ?_)
  · skip
    refine zg_const (v := 0) zi_122_7 (by rfl) ?_
    have hg := g1
    simp only [if_pos hc1] at hg
    exact hg
  · skip
    refine zg_iload zi_122_2 rfl ?_
    refine zg_const (v := 8) zi_122_3 (by rfl) ?_
    have g4 : Gx E (d + 1) 122 8 [.int a0] [.int (if 8 < a0 then 0 else 1)] h Q := by
      have hg := g1
      simp only [if_neg hc1] at hg
      exact hg
    refine zg_icmp_gt zi_122_4 (fun hc4 => ?_) (fun hc4 => ?_)
    · skip
      refine zg_const (v := 0) zi_122_7 (by rfl) ?_
      have hg := g4
      simp only [if_pos hc4] at hg
      exact hg
    · skip
      refine zg_const (v := 1) zi_122_5 (by rfl) ?_
      refine zg_goto zi_122_6 ?_
      have hg := g4
      simp only [if_neg hc4] at hg
      exact hg
def fz_122 (E : Nat → Nat) (h : ZH) (a0 : Int32) : Int32 := if a0 < 0 then 0 else if 8 < a0 then 0 else 1
def sz_122 (E : Nat → Nat) (h : ZH) (a0 : Int32) : Prop := True
set_option maxRecDepth 20000 in
theorem fb_122 {E : Nat → Nat} {h : ZH} {a0 : Int32} : fz_122 E h a0 = 0 ∨ fz_122 E h a0 = 1 := by
  unfold fz_122
  (try dsimp only)
  (repeat' split) <;> first | (left; rfl) | (right; rfl)
set_option maxRecDepth 20000 in
theorem cz_122 {E : Nat → Nat} {d : Nat} {a0 : Int32} {h : ZH} {Q : Option Value → ZH → Prop} (hd : 1 ≤ d) (hs : sz_122 E h a0) (hq : Q (some (.int (fz_122 E h a0))) h) : Ct E d 122 [.int a0] h Q := by
  obtain ⟨d, rfl⟩ : ∃ n, d = n + 1 := ⟨d - 1, by omega⟩
  refine ok_122 ?_
  unfold w_122
  unfold sz_122 at hs
  unfold fz_122 at hq
  exact hq
theorem zi_127_0 : (zM 127).1[0]? = some (.iload 2) := by rfl
theorem zi_127_1 : (zM 127).1[1]? = some (.invokestatic 121) := by rfl
theorem zi_127_2 : (zM 127).1[2]? = some (.ifCond .eq ((13 : Nat) : Int)) := by rfl
theorem zi_127_3 : (zM 127).1[3]? = some (.iload 3) := by rfl
theorem zi_127_4 : (zM 127).1[4]? = some (.ifCond .lt ((13 : Nat) : Int)) := by rfl
theorem zi_127_5 : (zM 127).1[5]? = some (.iload 3) := by rfl
theorem zi_127_6 : (zM 127).1[6]? = some (.iconst 12) := by rfl
theorem zi_127_7 : (zM 127).1[7]? = some (.if_icmp .gt ((13 : Nat) : Int)) := by rfl
theorem zi_127_8 : (zM 127).1[8]? = some (.iload 4) := by rfl
theorem zi_127_9 : (zM 127).1[9]? = some (.invokestatic 122) := by rfl
theorem zi_127_10 : (zM 127).1[10]? = some (.ifCond .eq ((13 : Nat) : Int)) := by rfl
theorem zi_127_11 : (zM 127).1[11]? = some (.iconst 1) := by rfl
theorem zi_127_12 : (zM 127).1[12]? = some (.goto ((14 : Nat) : Int)) := by rfl
theorem zi_127_13 : (zM 127).1[13]? = some (.iconst 0) := by rfl
theorem zi_127_14 : (zM 127).1[14]? = some (.istore 6) := by rfl
theorem zi_127_15 : (zM 127).1[15]? = some (.aload 0) := by rfl
theorem zi_127_16 : (zM 127).1[16]? = some (.getfield 10200) := by rfl
theorem zi_127_17 : (zM 127).1[17]? = some (.iload 1) := by rfl
theorem zi_127_18 : (zM 127).1[18]? = some (.invokevirtual 35) := by rfl
theorem zi_127_19 : (zM 127).1[19]? = some (.ifCond .eq ((27 : Nat) : Int)) := by rfl
theorem zi_127_20 : (zM 127).1[20]? = some (.iload 6) := by rfl
theorem zi_127_21 : (zM 127).1[21]? = some (.ifCond .eq ((27 : Nat) : Int)) := by rfl
theorem zi_127_22 : (zM 127).1[22]? = some (.iload 5) := by rfl
theorem zi_127_23 : (zM 127).1[23]? = some (.invokestatic 120) := by rfl
theorem zi_127_24 : (zM 127).1[24]? = some (.ifCond .eq ((27 : Nat) : Int)) := by rfl
theorem zi_127_25 : (zM 127).1[25]? = some (.iconst 1) := by rfl
theorem zi_127_26 : (zM 127).1[26]? = some (.goto ((28 : Nat) : Int)) := by rfl
theorem zi_127_27 : (zM 127).1[27]? = some (.iconst 0) := by rfl
theorem zi_127_28 : (zM 127).1[28]? = some (.ireturn) := by rfl
/-- TakeOrPay.isPlace(IIIII)Z -/
def w_127 (E : Nat → Nat) (d : Nat) (a0 : Nat) (a1 : Int32) (a2 : Int32) (a3 : Int32) (a4 : Int32) (a5 : Int32) (h : ZH) (Q : Option Value → ZH → Prop) : Prop := 1 ≤ d ∧ sz_121 E h a2 ∧ ((((fz_121 E h a2 : Int32) = 0 → (True)) ∧ (¬ ((fz_121 E h a2 : Int32) = 0) → (((a3 < 0 → (True)) ∧ (¬ (a3 < 0) → (((12 < a3 → (True)) ∧ (¬ (12 < a3) → (1 ≤ d ∧ sz_122 E h a4 ∧ True))) ∧ True))) ∧ True))) ∧ ∀ x1 : Int32, x1 = if (fz_121 E h a2 : Int32) = 0 then 0 else if a3 < 0 then 0 else if 12 < a3 then 0 else if (fz_122 E h a4 : Int32) = 0 then 0 else 1 → ztag h a0 = 10 ∧ ∃ r2 : Nat, zR h a0 0 = r2 + 1 ∧ ztag h r2 = 3 ∧ 1 ≤ d ∧ sz_35 E h r2 a1 ∧ ((((fz_35 E h r2 a1 : Int32) = 0 → (True)) ∧ (¬ ((fz_35 E h r2 a1 : Int32) = 0) → (((x1 = 0 → (True)) ∧ (¬ (x1 = 0) → (1 ≤ d ∧ sz_120 E h a5 ∧ True))) ∧ True))) ∧ Q (some (.int (if (fz_35 E h r2 a1 : Int32) = 0 then 0 else if x1 = 0 then 0 else if (fz_120 E h a5 : Int32) = 0 then 0 else 1))) h))
set_option maxRecDepth 20000 in
theorem ok_127 {E : Nat → Nat} {d : Nat} {a0 : Nat} {a1 : Int32} {a2 : Int32} {a3 : Int32} {a4 : Int32} {a5 : Int32} {h : ZH} {Q : Option Value → ZH → Prop} (hw : w_127 E d a0 a1 a2 a3 a4 a5 h Q) : Ct E (d + 1) 127 [.ref a0, .int a1, .int a2, .int a3, .int a4, .int a5] h Q := by
  unfold w_127 at hw
  show Gx E (d + 1) 127 0 [.ref a0, .int a1, .int a2, .int a3, .int a4, .int a5, .retAddr 0] [] h Q
  refine zg_iload zi_127_0 rfl ?_
  obtain ⟨hd, hs, hw⟩ := hw
  refine Gx.call (as := [.int a2]) (rest := []) (n := 1) zi_127_1 (by rfl) rfl (by rfl) (by rfl) (by rfl) (by decide) (by simp only [zcat, List.map, List.sum_cons, List.sum_nil, Value.category]; decide) (by rfl) (by decide) ?_
  refine cz_121 hd hs ?_
  show Gx E (d + 1) 127 2 [.ref a0, .int a1, .int a2, .int a3, .int a4, .int a5, .retAddr 0] [.int (fz_121 E h a2)] h Q
  obtain ⟨hsd2, hw⟩ := hw
  have g2 : Gx E (d + 1) 127 14 [.ref a0, .int a1, .int a2, .int a3, .int a4, .int a5, .retAddr 0] [.int (if (fz_121 E h a2 : Int32) = 0 then 0 else if a3 < 0 then 0 else if 12 < a3 then 0 else if (fz_122 E h a4 : Int32) = 0 then 0 else 1)] h Q := by
    refine zg_nameI fun x1 ex1 => ?_
    have hw := hw x1 ex1
    refine zg_istore (ls1 := [.ref a0, .int a1, .int a2, .int a3, .int a4, .int a5, .int x1]) zi_127_14 (by decide) rfl ?_
    refine zg_aload zi_127_15 rfl ?_
    obtain ⟨ht, hw⟩ := hw
    obtain ⟨r2, hr, hw⟩ := hw
    refine zg_getR (v := .ref r2) zi_127_16 ht (by rfl) (by show zrv (zR h a0 0) = _; rw [hr]; rfl) ?_
    refine zg_iload zi_127_17 rfl ?_
    obtain ⟨ht, hw⟩ := hw
    obtain ⟨hd, hs, hw⟩ := hw
    refine Gx.call (as := [.ref r2, .int a1]) (rest := []) (n := 2) zi_127_18 (by rfl) rfl (by rfl) (by rfl) (by rfl) (by decide) (by simp only [zcat, List.map, List.sum_cons, List.sum_nil, Value.category]; decide) (zrv_v ht (by rfl) (by rfl)) (by decide) ?_
    refine cz_35 hd hs ?_
    show Gx E (d + 1) 127 19 [.ref a0, .int a1, .int a2, .int a3, .int a4, .int a5, .int x1] [.int (fz_35 E h r2 a1)] h Q
    obtain ⟨hsd19, hw⟩ := hw
    have g19 : Gx E (d + 1) 127 28 [.ref a0, .int a1, .int a2, .int a3, .int a4, .int a5, .int x1] [.int (if (fz_35 E h r2 a1 : Int32) = 0 then 0 else if x1 = 0 then 0 else if (fz_120 E h a5 : Int32) = 0 then 0 else 1)] h Q := by
      exact zg_zreturn zi_127_28 (by (repeat' split) <;> first | (left; rfl) | (right; rfl) | exact fb_35 | exact fb_120) hw
    refine zg_if_eq zi_127_19 (fun hc19 => ?_) (fun hc19 => ?_)
    · have hw := hsd19.1 hc19
      refine zg_const (v := 0) zi_127_27 (by rfl) ?_
      have hg := g19
      simp only [if_pos hc19] at hg
      exact hg
    · have hw := hsd19.2 hc19
      refine zg_iload zi_127_20 rfl ?_
      obtain ⟨hsd21, hw⟩ := hw
      have g21 : Gx E (d + 1) 127 28 [.ref a0, .int a1, .int a2, .int a3, .int a4, .int a5, .int x1] [.int (if x1 = 0 then 0 else if (fz_120 E h a5 : Int32) = 0 then 0 else 1)] h Q := by
        have hg := g19
        simp only [if_neg hc19] at hg
        exact hg
      refine zg_if_eq zi_127_21 (fun hc21 => ?_) (fun hc21 => ?_)
      · have hw := hsd21.1 hc21
        refine zg_const (v := 0) zi_127_27 (by rfl) ?_
        have hg := g21
        simp only [if_pos hc21] at hg
        exact hg
      · have hw := hsd21.2 hc21
        refine zg_iload zi_127_22 rfl ?_
        obtain ⟨hd, hs, hw⟩ := hw
        refine Gx.call (as := [.int a5]) (rest := []) (n := 1) zi_127_23 (by rfl) rfl (by rfl) (by rfl) (by rfl) (by decide) (by simp only [zcat, List.map, List.sum_cons, List.sum_nil, Value.category]; decide) (by rfl) (by decide) ?_
        refine cz_120 hd hs ?_
        show Gx E (d + 1) 127 24 [.ref a0, .int a1, .int a2, .int a3, .int a4, .int a5, .int x1] [.int (fz_120 E h a5)] h Q
        have g24 : Gx E (d + 1) 127 28 [.ref a0, .int a1, .int a2, .int a3, .int a4, .int a5, .int x1] [.int (if (fz_120 E h a5 : Int32) = 0 then 0 else 1)] h Q := by
          have hg := g21
          simp only [if_neg hc21] at hg
          exact hg
        refine zg_if_eq zi_127_24 (fun hc24 => ?_) (fun hc24 => ?_)
        · skip
          refine zg_const (v := 0) zi_127_27 (by rfl) ?_
          have hg := g24
          simp only [if_pos hc24] at hg
          exact hg
        · skip
          refine zg_const (v := 1) zi_127_25 (by rfl) ?_
          refine zg_goto zi_127_26 ?_
          have hg := g24
          simp only [if_neg hc24] at hg
          exact hg
  refine zg_if_eq zi_127_2 (fun hc2 => ?_) (fun hc2 => ?_)
  · have hw := hsd2.1 hc2
    refine zg_const (v := 0) zi_127_13 (by rfl) ?_
    have hg := g2
    simp only [if_pos hc2] at hg
    exact hg
  · have hw := hsd2.2 hc2
    refine zg_iload zi_127_3 rfl ?_
    obtain ⟨hsd4, hw⟩ := hw
    have g4 : Gx E (d + 1) 127 14 [.ref a0, .int a1, .int a2, .int a3, .int a4, .int a5, .retAddr 0] [.int (if a3 < 0 then 0 else if 12 < a3 then 0 else if (fz_122 E h a4 : Int32) = 0 then 0 else 1)] h Q := by
      have hg := g2
      simp only [if_neg hc2] at hg
      exact hg
    refine zg_if_lt zi_127_4 (fun hc4 => ?_) (fun hc4 => ?_)
    · have hw := hsd4.1 hc4
      refine zg_const (v := 0) zi_127_13 (by rfl) ?_
      have hg := g4
      simp only [if_pos hc4] at hg
      exact hg
    · have hw := hsd4.2 hc4
      refine zg_iload zi_127_5 rfl ?_
      refine zg_const (v := 12) zi_127_6 (by rfl) ?_
      obtain ⟨hsd7, hw⟩ := hw
      have g7 : Gx E (d + 1) 127 14 [.ref a0, .int a1, .int a2, .int a3, .int a4, .int a5, .retAddr 0] [.int (if 12 < a3 then 0 else if (fz_122 E h a4 : Int32) = 0 then 0 else 1)] h Q := by
        have hg := g4
        simp only [if_neg hc4] at hg
        exact hg
      refine zg_icmp_gt zi_127_7 (fun hc7 => ?_) (fun hc7 => ?_)
      · have hw := hsd7.1 hc7
        refine zg_const (v := 0) zi_127_13 (by rfl) ?_
        have hg := g7
        simp only [if_pos hc7] at hg
        exact hg
      · have hw := hsd7.2 hc7
        refine zg_iload zi_127_8 rfl ?_
        obtain ⟨hd, hs, hw⟩ := hw
        refine Gx.call (as := [.int a4]) (rest := []) (n := 1) zi_127_9 (by rfl) rfl (by rfl) (by rfl) (by rfl) (by decide) (by simp only [zcat, List.map, List.sum_cons, List.sum_nil, Value.category]; decide) (by rfl) (by decide) ?_
        refine cz_122 hd hs ?_
        show Gx E (d + 1) 127 10 [.ref a0, .int a1, .int a2, .int a3, .int a4, .int a5, .retAddr 0] [.int (fz_122 E h a4)] h Q
        have g10 : Gx E (d + 1) 127 14 [.ref a0, .int a1, .int a2, .int a3, .int a4, .int a5, .retAddr 0] [.int (if (fz_122 E h a4 : Int32) = 0 then 0 else 1)] h Q := by
          have hg := g7
          simp only [if_neg hc7] at hg
          exact hg
        refine zg_if_eq zi_127_10 (fun hc10 => ?_) (fun hc10 => ?_)
        · skip
          refine zg_const (v := 0) zi_127_13 (by rfl) ?_
          have hg := g10
          simp only [if_pos hc10] at hg
          exact hg
        · skip
          refine zg_const (v := 1) zi_127_11 (by rfl) ?_
          refine zg_goto zi_127_12 ?_
          have hg := g10
          simp only [if_neg hc10] at hg
          exact hg
def fz_127 (E : Nat → Nat) (h : ZH) (a0 : Nat) (a1 : Int32) (a2 : Int32) (a3 : Int32) (a4 : Int32) (a5 : Int32) : Int32 := let x1 : Int32 := if (fz_121 E h a2 : Int32) = 0 then 0 else if a3 < 0 then 0 else if 12 < a3 then 0 else if (fz_122 E h a4 : Int32) = 0 then 0 else 1; (fun r2 : Nat => if (fz_35 E h r2 a1 : Int32) = 0 then 0 else if x1 = 0 then 0 else if (fz_120 E h a5 : Int32) = 0 then 0 else 1) (zR h a0 0 - 1)
def sz_127 (E : Nat → Nat) (h : ZH) (a0 : Nat) (a1 : Int32) (a2 : Int32) (a3 : Int32) (a4 : Int32) (a5 : Int32) : Prop := sz_121 E h a2 ∧ ((((fz_121 E h a2 : Int32) = 0 → (True)) ∧ (¬ ((fz_121 E h a2 : Int32) = 0) → (((a3 < 0 → (True)) ∧ (¬ (a3 < 0) → (((12 < a3 → (True)) ∧ (¬ (12 < a3) → (sz_122 E h a4 ∧ True))) ∧ True))) ∧ True))) ∧ ∀ x1 : Int32, x1 = if (fz_121 E h a2 : Int32) = 0 then 0 else if a3 < 0 then 0 else if 12 < a3 then 0 else if (fz_122 E h a4 : Int32) = 0 then 0 else 1 → ztag h a0 = 10 ∧ ∃ r2 : Nat, zR h a0 0 = r2 + 1 ∧ ztag h r2 = 3 ∧ sz_35 E h r2 a1 ∧ ((((fz_35 E h r2 a1 : Int32) = 0 → (True)) ∧ (¬ ((fz_35 E h r2 a1 : Int32) = 0) → (((x1 = 0 → (True)) ∧ (¬ (x1 = 0) → (sz_120 E h a5 ∧ True))) ∧ True))) ∧ True))
set_option maxRecDepth 20000 in
theorem fb_127 {E : Nat → Nat} {h : ZH} {a0 : Nat} {a1 : Int32} {a2 : Int32} {a3 : Int32} {a4 : Int32} {a5 : Int32} : fz_127 E h a0 a1 a2 a3 a4 a5 = 0 ∨ fz_127 E h a0 a1 a2 a3 a4 a5 = 1 := by
  unfold fz_127
  (try dsimp only)
  (repeat' split) <;> first | (left; rfl) | (right; rfl) | exact fb_35 | exact fb_120 | exact fb_121 | exact fb_122
set_option maxRecDepth 20000 in
theorem cz_127 {E : Nat → Nat} {d : Nat} {a0 : Nat} {a1 : Int32} {a2 : Int32} {a3 : Int32} {a4 : Int32} {a5 : Int32} {h : ZH} {Q : Option Value → ZH → Prop} (hd : 2 ≤ d) (hs : sz_127 E h a0 a1 a2 a3 a4 a5) (hq : Q (some (.int (fz_127 E h a0 a1 a2 a3 a4 a5))) h) : Ct E d 127 [.ref a0, .int a1, .int a2, .int a3, .int a4, .int a5] h Q := by
  obtain ⟨d, rfl⟩ : ∃ n, d = n + 1 := ⟨d - 1, by omega⟩
  refine ok_127 ?_
  unfold w_127
  unfold sz_127 at hs
  unfold fz_127 at hq
  refine ⟨by omega, ?_⟩
  refine ⟨hs.1, ?_⟩
  have hs := hs.2
  refine ⟨⟨fun hc => ?_, fun hc => ?_⟩, ?_⟩
  · have hs := hs.1.1 hc
    trivial
  · have hs := hs.1.2 hc
    refine ⟨⟨fun hc => ?_, fun hc => ?_⟩, ?_⟩
    · have hs := hs.1.1 hc
      trivial
    · have hs := hs.1.2 hc
      refine ⟨⟨fun hc => ?_, fun hc => ?_⟩, ?_⟩
      · have hs := hs.1.1 hc
        trivial
      · have hs := hs.1.2 hc
        refine ⟨by omega, ?_⟩
        refine ⟨hs.1, ?_⟩
        have hs := hs.2
        trivial
      have hs := hs.2
      trivial
    have hs := hs.2
    trivial
  have hs := hs.2
  intro x1 ex1
  have hs := hs x1 ex1
  subst ex1
  refine ⟨hs.1, ?_⟩
  have hs := hs.2
  obtain ⟨r2, hr, hs⟩ := hs
  refine ⟨r2, hr, ?_⟩
  rw [hr] at hq
  simp only [Nat.add_sub_cancel] at hq
  refine ⟨hs.1, ?_⟩
  have hs := hs.2
  refine ⟨by omega, ?_⟩
  refine ⟨hs.1, ?_⟩
  have hs := hs.2
  refine ⟨⟨fun hc => ?_, fun hc => ?_⟩, ?_⟩
  · have hs := hs.1.1 hc
    trivial
  · have hs := hs.1.2 hc
    refine ⟨⟨fun hc => ?_, fun hc => ?_⟩, ?_⟩
    · have hs := hs.1.1 hc
      trivial
    · have hs := hs.1.2 hc
      refine ⟨by omega, ?_⟩
      refine ⟨hs.1, ?_⟩
      have hs := hs.2
      trivial
    have hs := hs.2
    trivial
  have hs := hs.2
  exact hq
theorem zi_98_0 : (zM 98).1[0]? = some (.iload 6) := by rfl
theorem zi_98_1 : (zM 98).1[1]? = some (.ifCond .lt ((12 : Nat) : Int)) := by rfl
theorem zi_98_2 : (zM 98).1[2]? = some (.iload 6) := by rfl
theorem zi_98_3 : (zM 98).1[3]? = some (.iconst 4) := by rfl
theorem zi_98_4 : (zM 98).1[4]? = some (.if_icmp .gt ((12 : Nat) : Int)) := by rfl
theorem zi_98_5 : (zM 98).1[5]? = some (.iload 7) := by rfl
theorem zi_98_6 : (zM 98).1[6]? = some (.ifCond .lt ((12 : Nat) : Int)) := by rfl
theorem zi_98_7 : (zM 98).1[7]? = some (.iload 7) := by rfl
theorem zi_98_8 : (zM 98).1[8]? = some (.iconst 3) := by rfl
theorem zi_98_9 : (zM 98).1[9]? = some (.if_icmp .gt ((12 : Nat) : Int)) := by rfl
theorem zi_98_10 : (zM 98).1[10]? = some (.iconst 1) := by rfl
theorem zi_98_11 : (zM 98).1[11]? = some (.goto ((13 : Nat) : Int)) := by rfl
theorem zi_98_12 : (zM 98).1[12]? = some (.iconst 0) := by rfl
theorem zi_98_13 : (zM 98).1[13]? = some (.istore 8) := by rfl
theorem zi_98_14 : (zM 98).1[14]? = some (.iload 8) := by rfl
theorem zi_98_15 : (zM 98).1[15]? = some (.ifCond .eq ((24 : Nat) : Int)) := by rfl
theorem zi_98_16 : (zM 98).1[16]? = some (.aload 0) := by rfl
theorem zi_98_17 : (zM 98).1[17]? = some (.iload 1) := by rfl
theorem zi_98_18 : (zM 98).1[18]? = some (.iload 2) := by rfl
theorem zi_98_19 : (zM 98).1[19]? = some (.iload 3) := by rfl
theorem zi_98_20 : (zM 98).1[20]? = some (.iload 4) := by rfl
theorem zi_98_21 : (zM 98).1[21]? = some (.iload 5) := by rfl
theorem zi_98_22 : (zM 98).1[22]? = some (.invokevirtual 127) := by rfl
theorem zi_98_23 : (zM 98).1[23]? = some (.ifCond .ne ((26 : Nat) : Int)) := by rfl
theorem zi_98_24 : (zM 98).1[24]? = some (.iconst (-1000000)) := by rfl
theorem zi_98_25 : (zM 98).1[25]? = some (.ireturn) := by rfl
theorem zi_98_26 : (zM 98).1[26]? = some (.aload 0) := by rfl
theorem zi_98_27 : (zM 98).1[27]? = some (.getfield 10200) := by rfl
theorem zi_98_28 : (zM 98).1[28]? = some (.iload 1) := by rfl
theorem zi_98_29 : (zM 98).1[29]? = some (.iload 6) := by rfl
theorem zi_98_30 : (zM 98).1[30]? = some (.invokevirtual 46) := by rfl
theorem zi_98_31 : (zM 98).1[31]? = some (.ifCond .ne ((34 : Nat) : Int)) := by rfl
theorem zi_98_32 : (zM 98).1[32]? = some (.iconst (-1000002)) := by rfl
theorem zi_98_33 : (zM 98).1[33]? = some (.ireturn) := by rfl
theorem zi_98_34 : (zM 98).1[34]? = some (.aload 0) := by rfl
theorem zi_98_35 : (zM 98).1[35]? = some (.getfield 10205) := by rfl
theorem zi_98_36 : (zM 98).1[36]? = some (.aload 0) := by rfl
theorem zi_98_37 : (zM 98).1[37]? = some (.getfield 10200) := by rfl
theorem zi_98_38 : (zM 98).1[38]? = some (.iload 1) := by rfl
theorem zi_98_39 : (zM 98).1[39]? = some (.iload 2) := by rfl
theorem zi_98_40 : (zM 98).1[40]? = some (.iload 3) := by rfl
theorem zi_98_41 : (zM 98).1[41]? = some (.iload 4) := by rfl
theorem zi_98_42 : (zM 98).1[42]? = some (.iload 6) := by rfl
theorem zi_98_43 : (zM 98).1[43]? = some (.invokevirtual 25) := by rfl
theorem zi_98_44 : (zM 98).1[44]? = some (.iload 7) := by rfl
theorem zi_98_45 : (zM 98).1[45]? = some (.tableswitch 61 0 2 #[46, 50, 54]) := by rfl
theorem zi_98_46 : (zM 98).1[46]? = some (.aload 0) := by rfl
theorem zi_98_47 : (zM 98).1[47]? = some (.getfield 10205) := by rfl
theorem zi_98_48 : (zM 98).1[48]? = some (.getfield 2003) := by rfl
theorem zi_98_49 : (zM 98).1[49]? = some (.ireturn) := by rfl
theorem zi_98_50 : (zM 98).1[50]? = some (.aload 0) := by rfl
theorem zi_98_51 : (zM 98).1[51]? = some (.getfield 10205) := by rfl
theorem zi_98_52 : (zM 98).1[52]? = some (.getfield 2004) := by rfl
theorem zi_98_53 : (zM 98).1[53]? = some (.ireturn) := by rfl
theorem zi_98_54 : (zM 98).1[54]? = some (.aload 0) := by rfl
theorem zi_98_55 : (zM 98).1[55]? = some (.getfield 10205) := by rfl
theorem zi_98_56 : (zM 98).1[56]? = some (.aload 0) := by rfl
theorem zi_98_57 : (zM 98).1[57]? = some (.getfield 10200) := by rfl
theorem zi_98_58 : (zM 98).1[58]? = some (.iload 5) := by rfl
theorem zi_98_59 : (zM 98).1[59]? = some (.invokevirtual 27) := by rfl
theorem zi_98_60 : (zM 98).1[60]? = some (.ireturn) := by rfl
theorem zi_98_61 : (zM 98).1[61]? = some (.aload 0) := by rfl
theorem zi_98_62 : (zM 98).1[62]? = some (.getfield 10205) := by rfl
theorem zi_98_63 : (zM 98).1[63]? = some (.aload 0) := by rfl
theorem zi_98_64 : (zM 98).1[64]? = some (.getfield 10200) := by rfl
theorem zi_98_65 : (zM 98).1[65]? = some (.iload 5) := by rfl
theorem zi_98_66 : (zM 98).1[66]? = some (.invokevirtual 28) := by rfl
theorem zi_98_67 : (zM 98).1[67]? = some (.ireturn) := by rfl
/-- TakeOrPay.takes(IIIIIII)I -/
def w_98 (E : Nat → Nat) (d : Nat) (a0 : Nat) (a1 : Int32) (a2 : Int32) (a3 : Int32) (a4 : Int32) (a5 : Int32) (a6 : Int32) (a7 : Int32) (h : ZH) (Q : Option Value → ZH → Prop) : Prop := ∀ x1 : Int32, x1 = if a6 < 0 then 0 else if 4 < a6 then 0 else if a7 < 0 then 0 else if 3 < a7 then 0 else 1 → ((x1 = 0 → (Q (some (.int ((-1000000)))) h)) ∧ (¬ (x1 = 0) → (ztag h a0 = 10 ∧ 2 ≤ d ∧ sz_127 E h a0 a1 a2 a3 a4 a5 ∧ ((¬ (fz_127 E h a0 a1 a2 a3 a4 a5 : Int32) = 0 → (ztag h a0 = 10 ∧ ∃ r2 : Nat, zR h a0 0 = r2 + 1 ∧ ztag h r2 = 3 ∧ 2 ≤ d ∧ sz_46 E h r2 a1 a6 ∧ ((¬ (fz_46 E h r2 a1 a6 : Int32) = 0 → (ztag h a0 = 10 ∧ ∃ r3 : Nat, zR h a0 5 = r3 + 1 ∧ ztag h a0 = 10 ∧ ∃ r4 : Nat, zR h a0 0 = r4 + 1 ∧ ztag h r3 = 2 ∧ Ct E d 25 [.ref r3, .ref r4, .int a1, .int a2, .int a3, .int a4, .int a6] h (fun v h5 => v = none ∧ (((a7.toInt < 0 ∨ 2 < a7.toInt) → (ztag h5 a0 = 10 ∧ ∃ r6 : Nat, zR h5 a0 5 = r6 + 1 ∧ ztag h5 a0 = 10 ∧ ∃ r7 : Nat, zR h5 a0 0 = r7 + 1 ∧ ztag h5 r6 = 2 ∧ 3 ≤ d ∧ sz_28 E h5 r6 r7 a5 ∧ Q (some (.int (fz_28 E h5 r6 r7 a5))) h5)) ∧ (a7.toInt = 0 → (ztag h5 a0 = 10 ∧ ∃ r8 : Nat, zR h5 a0 5 = r8 + 1 ∧ ztag h5 r8 = 2 ∧ Q (some (.int (zI h5 r8 3))) h5)) ∧ (a7.toInt = 1 → (ztag h5 a0 = 10 ∧ ∃ r9 : Nat, zR h5 a0 5 = r9 + 1 ∧ ztag h5 r9 = 2 ∧ Q (some (.int (zI h5 r9 4))) h5)) ∧ (a7.toInt = 2 → (ztag h5 a0 = 10 ∧ ∃ r10 : Nat, zR h5 a0 5 = r10 + 1 ∧ ztag h5 a0 = 10 ∧ ∃ r11 : Nat, zR h5 a0 0 = r11 + 1 ∧ ztag h5 r10 = 2 ∧ 2 ≤ d ∧ sz_27 E h5 r10 r11 a5 ∧ Q (some (.int (fz_27 E h5 r10 r11 a5))) h5)))))) ∧ (¬ (¬ (fz_46 E h r2 a1 a6 : Int32) = 0) → (Q (some (.int ((-1000002)))) h))))) ∧ (¬ (¬ (fz_127 E h a0 a1 a2 a3 a4 a5 : Int32) = 0) → (Q (some (.int ((-1000000)))) h))))))
set_option maxRecDepth 20000 in
theorem ok_98 {E : Nat → Nat} {d : Nat} {a0 : Nat} {a1 : Int32} {a2 : Int32} {a3 : Int32} {a4 : Int32} {a5 : Int32} {a6 : Int32} {a7 : Int32} {h : ZH} {Q : Option Value → ZH → Prop} (hw : w_98 E d a0 a1 a2 a3 a4 a5 a6 a7 h Q) : Ct E (d + 1) 98 [.ref a0, .int a1, .int a2, .int a3, .int a4, .int a5, .int a6, .int a7] h Q := by
  unfold w_98 at hw
  show Gx E (d + 1) 98 0 [.ref a0, .int a1, .int a2, .int a3, .int a4, .int a5, .int a6, .int a7, .retAddr 0] [] h Q
  refine zg_iload zi_98_0 rfl ?_
  have g1 : Gx E (d + 1) 98 13 [.ref a0, .int a1, .int a2, .int a3, .int a4, .int a5, .int a6, .int a7, .retAddr 0] [.int (if a6 < 0 then 0 else if 4 < a6 then 0 else if a7 < 0 then 0 else if 3 < a7 then 0 else 1)] h Q := by
    refine zg_nameI fun x1 ex1 => ?_
    have hw := hw x1 ex1
    refine zg_istore (ls1 := [.ref a0, .int a1, .int a2, .int a3, .int a4, .int a5, .int a6, .int a7, .int x1]) zi_98_13 (by decide) rfl ?_
    refine zg_iload zi_98_14 rfl ?_
    refine zg_if_eq zi_98_15 (fun hc => ?_) (fun hc => ?_)
    · have hw := hw.1 hc
      refine zg_const (v := (-1000000)) zi_98_24 (by rfl) ?_
      exact zg_ireturn zi_98_25 (by decide) hw
    · have hw := hw.2 hc
      refine zg_aload zi_98_16 rfl ?_
      refine zg_iload zi_98_17 rfl ?_
      refine zg_iload zi_98_18 rfl ?_
      refine zg_iload zi_98_19 rfl ?_
      refine zg_iload zi_98_20 rfl ?_
      refine zg_iload zi_98_21 rfl ?_
      obtain ⟨ht, hw⟩ := hw
      obtain ⟨hd, hs, hw⟩ := hw
      refine Gx.call (as := [.ref a0, .int a1, .int a2, .int a3, .int a4, .int a5]) (rest := []) (n := 6) zi_98_22 (by rfl) rfl (by rfl) (by rfl) (by rfl) (by decide) (by simp only [zcat, List.map, List.sum_cons, List.sum_nil, Value.category]; decide) (zrv_v ht (by rfl) (by rfl)) (by decide) ?_
      refine cz_127 hd hs ?_
      show Gx E (d + 1) 98 23 [.ref a0, .int a1, .int a2, .int a3, .int a4, .int a5, .int a6, .int a7, .int x1] [.int (fz_127 E h a0 a1 a2 a3 a4 a5)] h Q
      refine zg_if_ne zi_98_23 (fun hc => ?_) (fun hc => ?_)
      · have hw := hw.1 hc
        refine zg_aload zi_98_26 rfl ?_
        obtain ⟨ht, hw⟩ := hw
        obtain ⟨r2, hr, hw⟩ := hw
        refine zg_getR (v := .ref r2) zi_98_27 ht (by rfl) (by show zrv (zR h a0 0) = _; rw [hr]; rfl) ?_
        refine zg_iload zi_98_28 rfl ?_
        refine zg_iload zi_98_29 rfl ?_
        obtain ⟨ht, hw⟩ := hw
        obtain ⟨hd, hs, hw⟩ := hw
        refine Gx.call (as := [.ref r2, .int a1, .int a6]) (rest := []) (n := 3) zi_98_30 (by rfl) rfl (by rfl) (by rfl) (by rfl) (by decide) (by simp only [zcat, List.map, List.sum_cons, List.sum_nil, Value.category]; decide) (zrv_v ht (by rfl) (by rfl)) (by decide) ?_
        refine cz_46 hd hs ?_
        show Gx E (d + 1) 98 31 [.ref a0, .int a1, .int a2, .int a3, .int a4, .int a5, .int a6, .int a7, .int x1] [.int (fz_46 E h r2 a1 a6)] h Q
        refine zg_if_ne zi_98_31 (fun hc => ?_) (fun hc => ?_)
        · have hw := hw.1 hc
          refine zg_aload zi_98_34 rfl ?_
          obtain ⟨ht, hw⟩ := hw
          obtain ⟨r3, hr, hw⟩ := hw
          refine zg_getR (v := .ref r3) zi_98_35 ht (by rfl) (by show zrv (zR h a0 5) = _; rw [hr]; rfl) ?_
          refine zg_aload zi_98_36 rfl ?_
          obtain ⟨ht, hw⟩ := hw
          obtain ⟨r4, hr, hw⟩ := hw
          refine zg_getR (v := .ref r4) zi_98_37 ht (by rfl) (by show zrv (zR h a0 0) = _; rw [hr]; rfl) ?_
          refine zg_iload zi_98_38 rfl ?_
          refine zg_iload zi_98_39 rfl ?_
          refine zg_iload zi_98_40 rfl ?_
          refine zg_iload zi_98_41 rfl ?_
          refine zg_iload zi_98_42 rfl ?_
          obtain ⟨ht, hw⟩ := hw
          refine Gx.call (as := [.ref r3, .ref r4, .int a1, .int a2, .int a3, .int a4, .int a6]) (rest := []) (n := 7) zi_98_43 (by rfl) rfl (by rfl) (by rfl) (by rfl) (by decide) (by simp only [zcat, List.map, List.sum_cons, List.sum_nil, Value.category]; decide) (zrv_v ht (by rfl) (by rfl)) (by decide) ?_
          refine Ct.mono hw ?_
          rintro v h5 ⟨rfl, hw⟩
          show Gx E (d + 1) 98 44 [.ref a0, .int a1, .int a2, .int a3, .int a4, .int a5, .int a6, .int a7, .int x1] [] h5 Q
          refine zg_iload zi_98_44 rfl ?_
          by_cases ho : a7.toInt < 0 ∨ 2 < a7.toInt
          · have hw := hw.1 ho
            refine zg_switch (t := 61) zi_98_45 (by unfold zsw; rw [if_pos ho]; rfl) ?_
            refine zg_aload zi_98_61 rfl ?_
            obtain ⟨ht, hw⟩ := hw
            obtain ⟨r6, hr, hw⟩ := hw
            refine zg_getR (v := .ref r6) zi_98_62 ht (by rfl) (by show zrv (zR h5 a0 5) = _; rw [hr]; rfl) ?_
            refine zg_aload zi_98_63 rfl ?_
            obtain ⟨ht, hw⟩ := hw
            obtain ⟨r7, hr, hw⟩ := hw
            refine zg_getR (v := .ref r7) zi_98_64 ht (by rfl) (by show zrv (zR h5 a0 0) = _; rw [hr]; rfl) ?_
            refine zg_iload zi_98_65 rfl ?_
            obtain ⟨ht, hw⟩ := hw
            obtain ⟨hd, hs, hw⟩ := hw
            refine Gx.call (as := [.ref r6, .ref r7, .int a5]) (rest := []) (n := 3) zi_98_66 (by rfl) rfl (by rfl) (by rfl) (by rfl) (by decide) (by simp only [zcat, List.map, List.sum_cons, List.sum_nil, Value.category]; decide) (zrv_v ht (by rfl) (by rfl)) (by decide) ?_
            refine cz_28 hd hs ?_
            show Gx E (d + 1) 98 67 [.ref a0, .int a1, .int a2, .int a3, .int a4, .int a5, .int a6, .int a7, .int x1] [.int (fz_28 E h5 r6 r7 a5)] h5 Q
            exact zg_ireturn zi_98_67 (by decide) hw
          have hw := hw.2
          by_cases hv0 : a7.toInt = 0
          · have hw := hw.1 hv0
            refine zg_switch (t := 46) zi_98_45 (by rw [hv0]; rfl) ?_
            refine zg_aload zi_98_46 rfl ?_
            obtain ⟨ht, hw⟩ := hw
            obtain ⟨r8, hr, hw⟩ := hw
            refine zg_getR (v := .ref r8) zi_98_47 ht (by rfl) (by show zrv (zR h5 a0 5) = _; rw [hr]; rfl) ?_
            obtain ⟨ht, hw⟩ := hw
            refine zg_getI (v := .int (zI h5 r8 3)) zi_98_48 ht (by rfl) rfl ?_
            exact zg_ireturn zi_98_49 (by decide) hw
          have hw := hw.2
          by_cases hv1 : a7.toInt = 1
          · have hw := hw.1 hv1
            refine zg_switch (t := 50) zi_98_45 (by rw [hv1]; rfl) ?_
            refine zg_aload zi_98_50 rfl ?_
            obtain ⟨ht, hw⟩ := hw
            obtain ⟨r9, hr, hw⟩ := hw
            refine zg_getR (v := .ref r9) zi_98_51 ht (by rfl) (by show zrv (zR h5 a0 5) = _; rw [hr]; rfl) ?_
            obtain ⟨ht, hw⟩ := hw
            refine zg_getI (v := .int (zI h5 r9 4)) zi_98_52 ht (by rfl) rfl ?_
            exact zg_ireturn zi_98_53 (by decide) hw
          have hw := hw.2
          have hv2 : a7.toInt = 2 := by omega
          have hw := hw hv2
          refine zg_switch (t := 54) zi_98_45 (by rw [hv2]; rfl) ?_
          refine zg_aload zi_98_54 rfl ?_
          obtain ⟨ht, hw⟩ := hw
          obtain ⟨r10, hr, hw⟩ := hw
          refine zg_getR (v := .ref r10) zi_98_55 ht (by rfl) (by show zrv (zR h5 a0 5) = _; rw [hr]; rfl) ?_
          refine zg_aload zi_98_56 rfl ?_
          obtain ⟨ht, hw⟩ := hw
          obtain ⟨r11, hr, hw⟩ := hw
          refine zg_getR (v := .ref r11) zi_98_57 ht (by rfl) (by show zrv (zR h5 a0 0) = _; rw [hr]; rfl) ?_
          refine zg_iload zi_98_58 rfl ?_
          obtain ⟨ht, hw⟩ := hw
          obtain ⟨hd, hs, hw⟩ := hw
          refine Gx.call (as := [.ref r10, .ref r11, .int a5]) (rest := []) (n := 3) zi_98_59 (by rfl) rfl (by rfl) (by rfl) (by rfl) (by decide) (by simp only [zcat, List.map, List.sum_cons, List.sum_nil, Value.category]; decide) (zrv_v ht (by rfl) (by rfl)) (by decide) ?_
          refine cz_27 hd hs ?_
          show Gx E (d + 1) 98 60 [.ref a0, .int a1, .int a2, .int a3, .int a4, .int a5, .int a6, .int a7, .int x1] [.int (fz_27 E h5 r10 r11 a5)] h5 Q
          exact zg_ireturn zi_98_60 (by decide) hw
        · have hw := hw.2 hc
          refine zg_const (v := (-1000002)) zi_98_32 (by rfl) ?_
          exact zg_ireturn zi_98_33 (by decide) hw
      · have hw := hw.2 hc
        refine zg_const (v := (-1000000)) zi_98_24 (by rfl) ?_
        exact zg_ireturn zi_98_25 (by decide) hw
  refine zg_if_lt zi_98_1 (fun hc1 => ?_) (fun hc1 => ?_)
  · skip
    refine zg_const (v := 0) zi_98_12 (by rfl) ?_
    have hg := g1
    simp only [if_pos hc1] at hg
    exact hg
  · skip
    refine zg_iload zi_98_2 rfl ?_
    refine zg_const (v := 4) zi_98_3 (by rfl) ?_
    have g4 : Gx E (d + 1) 98 13 [.ref a0, .int a1, .int a2, .int a3, .int a4, .int a5, .int a6, .int a7, .retAddr 0] [.int (if 4 < a6 then 0 else if a7 < 0 then 0 else if 3 < a7 then 0 else 1)] h Q := by
      have hg := g1
      simp only [if_neg hc1] at hg
      exact hg
    refine zg_icmp_gt zi_98_4 (fun hc4 => ?_) (fun hc4 => ?_)
    · skip
      refine zg_const (v := 0) zi_98_12 (by rfl) ?_
      have hg := g4
      simp only [if_pos hc4] at hg
      exact hg
    · skip
      refine zg_iload zi_98_5 rfl ?_
      have g6 : Gx E (d + 1) 98 13 [.ref a0, .int a1, .int a2, .int a3, .int a4, .int a5, .int a6, .int a7, .retAddr 0] [.int (if a7 < 0 then 0 else if 3 < a7 then 0 else 1)] h Q := by
        have hg := g4
        simp only [if_neg hc4] at hg
        exact hg
      refine zg_if_lt zi_98_6 (fun hc6 => ?_) (fun hc6 => ?_)
      · skip
        refine zg_const (v := 0) zi_98_12 (by rfl) ?_
        have hg := g6
        simp only [if_pos hc6] at hg
        exact hg
      · skip
        refine zg_iload zi_98_7 rfl ?_
        refine zg_const (v := 3) zi_98_8 (by rfl) ?_
        have g9 : Gx E (d + 1) 98 13 [.ref a0, .int a1, .int a2, .int a3, .int a4, .int a5, .int a6, .int a7, .retAddr 0] [.int (if 3 < a7 then 0 else 1)] h Q := by
          have hg := g6
          simp only [if_neg hc6] at hg
          exact hg
        refine zg_icmp_gt zi_98_9 (fun hc9 => ?_) (fun hc9 => ?_)
        · skip
          refine zg_const (v := 0) zi_98_12 (by rfl) ?_
          have hg := g9
          simp only [if_pos hc9] at hg
          exact hg
        · skip
          refine zg_const (v := 1) zi_98_10 (by rfl) ?_
          refine zg_goto zi_98_11 ?_
          have hg := g9
          simp only [if_neg hc9] at hg
          exact hg
theorem zi_99_0 : (zM 99).1[0]? = some (.iload 2) := by rfl
theorem zi_99_1 : (zM 99).1[1]? = some (.invokestatic 121) := by rfl
theorem zi_99_2 : (zM 99).1[2]? = some (.ifCond .eq ((13 : Nat) : Int)) := by rfl
theorem zi_99_3 : (zM 99).1[3]? = some (.iload 3) := by rfl
theorem zi_99_4 : (zM 99).1[4]? = some (.invokestatic 122) := by rfl
theorem zi_99_5 : (zM 99).1[5]? = some (.ifCond .eq ((13 : Nat) : Int)) := by rfl
theorem zi_99_6 : (zM 99).1[6]? = some (.iload 4) := by rfl
theorem zi_99_7 : (zM 99).1[7]? = some (.ifCond .lt ((13 : Nat) : Int)) := by rfl
theorem zi_99_8 : (zM 99).1[8]? = some (.iload 4) := by rfl
theorem zi_99_9 : (zM 99).1[9]? = some (.iconst 3) := by rfl
theorem zi_99_10 : (zM 99).1[10]? = some (.if_icmp .gt ((13 : Nat) : Int)) := by rfl
theorem zi_99_11 : (zM 99).1[11]? = some (.iconst 1) := by rfl
theorem zi_99_12 : (zM 99).1[12]? = some (.goto ((14 : Nat) : Int)) := by rfl
theorem zi_99_13 : (zM 99).1[13]? = some (.iconst 0) := by rfl
theorem zi_99_14 : (zM 99).1[14]? = some (.istore 5) := by rfl
theorem zi_99_15 : (zM 99).1[15]? = some (.iload 5) := by rfl
theorem zi_99_16 : (zM 99).1[16]? = some (.ifCond .eq ((22 : Nat) : Int)) := by rfl
theorem zi_99_17 : (zM 99).1[17]? = some (.aload 0) := by rfl
theorem zi_99_18 : (zM 99).1[18]? = some (.getfield 10200) := by rfl
theorem zi_99_19 : (zM 99).1[19]? = some (.iload 1) := by rfl
theorem zi_99_20 : (zM 99).1[20]? = some (.invokevirtual 36) := by rfl
theorem zi_99_21 : (zM 99).1[21]? = some (.ifCond .ne ((24 : Nat) : Int)) := by rfl
theorem zi_99_22 : (zM 99).1[22]? = some (.iconst (-1)) := by rfl
theorem zi_99_23 : (zM 99).1[23]? = some (.ireturn) := by rfl
theorem zi_99_24 : (zM 99).1[24]? = some (.aload 0) := by rfl
theorem zi_99_25 : (zM 99).1[25]? = some (.getfield 10205) := by rfl
theorem zi_99_26 : (zM 99).1[26]? = some (.iload 2) := by rfl
theorem zi_99_27 : (zM 99).1[27]? = some (.iconst 0) := by rfl
theorem zi_99_28 : (zM 99).1[28]? = some (.iload 3) := by rfl
theorem zi_99_29 : (zM 99).1[29]? = some (.invokevirtual 24) := by rfl
theorem zi_99_30 : (zM 99).1[30]? = some (.aload 0) := by rfl
theorem zi_99_31 : (zM 99).1[31]? = some (.getfield 10205) := by rfl
theorem zi_99_32 : (zM 99).1[32]? = some (.aload 0) := by rfl
theorem zi_99_33 : (zM 99).1[33]? = some (.getfield 10200) := by rfl
theorem zi_99_34 : (zM 99).1[34]? = some (.aload 0) := by rfl
theorem zi_99_35 : (zM 99).1[35]? = some (.getfield 10200) := by rfl
theorem zi_99_36 : (zM 99).1[36]? = some (.iload 1) := by rfl
theorem zi_99_37 : (zM 99).1[37]? = some (.invokevirtual 37) := by rfl
theorem zi_99_38 : (zM 99).1[38]? = some (.invokevirtual 26) := by rfl
theorem zi_99_39 : (zM 99).1[39]? = some (.iload 4) := by rfl
theorem zi_99_40 : (zM 99).1[40]? = some (.tableswitch 53 0 2 #[41, 45, 49]) := by rfl
theorem zi_99_41 : (zM 99).1[41]? = some (.aload 0) := by rfl
theorem zi_99_42 : (zM 99).1[42]? = some (.getfield 10205) := by rfl
theorem zi_99_43 : (zM 99).1[43]? = some (.getfield 2006) := by rfl
theorem zi_99_44 : (zM 99).1[44]? = some (.ireturn) := by rfl
theorem zi_99_45 : (zM 99).1[45]? = some (.aload 0) := by rfl
theorem zi_99_46 : (zM 99).1[46]? = some (.getfield 10205) := by rfl
theorem zi_99_47 : (zM 99).1[47]? = some (.getfield 2008) := by rfl
theorem zi_99_48 : (zM 99).1[48]? = some (.ireturn) := by rfl
theorem zi_99_49 : (zM 99).1[49]? = some (.aload 0) := by rfl
theorem zi_99_50 : (zM 99).1[50]? = some (.getfield 10205) := by rfl
theorem zi_99_51 : (zM 99).1[51]? = some (.getfield 2004) := by rfl
theorem zi_99_52 : (zM 99).1[52]? = some (.ireturn) := by rfl
theorem zi_99_53 : (zM 99).1[53]? = some (.aload 0) := by rfl
theorem zi_99_54 : (zM 99).1[54]? = some (.getfield 10205) := by rfl
theorem zi_99_55 : (zM 99).1[55]? = some (.getfield 2005) := by rfl
theorem zi_99_56 : (zM 99).1[56]? = some (.ireturn) := by rfl
/-- TakeOrPay.ends(IIII)I -/
def w_99 (E : Nat → Nat) (d : Nat) (a0 : Nat) (a1 : Int32) (a2 : Int32) (a3 : Int32) (a4 : Int32) (h : ZH) (Q : Option Value → ZH → Prop) : Prop := 1 ≤ d ∧ sz_121 E h a2 ∧ ((((fz_121 E h a2 : Int32) = 0 → (True)) ∧ (¬ ((fz_121 E h a2 : Int32) = 0) → (1 ≤ d ∧ sz_122 E h a3 ∧ True))) ∧ ∀ x1 : Int32, x1 = if (fz_121 E h a2 : Int32) = 0 then 0 else if (fz_122 E h a3 : Int32) = 0 then 0 else if a4 < 0 then 0 else if 3 < a4 then 0 else 1 → ((x1 = 0 → (Q (some (.int ((-1)))) h)) ∧ (¬ (x1 = 0) → (ztag h a0 = 10 ∧ ∃ r2 : Nat, zR h a0 0 = r2 + 1 ∧ ztag h r2 = 3 ∧ 1 ≤ d ∧ sz_36 E h r2 a1 ∧ ((¬ (fz_36 E h r2 a1 : Int32) = 0 → (ztag h a0 = 10 ∧ ∃ r3 : Nat, zR h a0 5 = r3 + 1 ∧ ztag h r3 = 2 ∧ Ct E d 24 [.ref r3, .int a2, .int 0, .int a3] h (fun v h4 => v = none ∧ ztag h4 a0 = 10 ∧ ∃ r5 : Nat, zR h4 a0 5 = r5 + 1 ∧ ztag h4 a0 = 10 ∧ ∃ r6 : Nat, zR h4 a0 0 = r6 + 1 ∧ ztag h4 a0 = 10 ∧ ∃ r7 : Nat, zR h4 a0 0 = r7 + 1 ∧ ztag h4 r7 = 3 ∧ 1 ≤ d ∧ sz_37 E h4 r7 a1 ∧ ztag h4 r5 = 2 ∧ Ct E d 26 [.ref r5, .ref r6, .int (fz_37 E h4 r7 a1)] h4 (fun v h8 => v = none ∧ (((a4.toInt < 0 ∨ 2 < a4.toInt) → (ztag h8 a0 = 10 ∧ ∃ r9 : Nat, zR h8 a0 5 = r9 + 1 ∧ ztag h8 r9 = 2 ∧ Q (some (.int (zI h8 r9 5))) h8)) ∧ (a4.toInt = 0 → (ztag h8 a0 = 10 ∧ ∃ r10 : Nat, zR h8 a0 5 = r10 + 1 ∧ ztag h8 r10 = 2 ∧ Q (some (.int (zI h8 r10 6))) h8)) ∧ (a4.toInt = 1 → (ztag h8 a0 = 10 ∧ ∃ r11 : Nat, zR h8 a0 5 = r11 + 1 ∧ ztag h8 r11 = 2 ∧ Q (some (.int (zI h8 r11 8))) h8)) ∧ (a4.toInt = 2 → (ztag h8 a0 = 10 ∧ ∃ r12 : Nat, zR h8 a0 5 = r12 + 1 ∧ ztag h8 r12 = 2 ∧ Q (some (.int (zI h8 r12 4))) h8))))))) ∧ (¬ (¬ (fz_36 E h r2 a1 : Int32) = 0) → (Q (some (.int ((-1)))) h)))))))
set_option maxRecDepth 20000 in
theorem ok_99 {E : Nat → Nat} {d : Nat} {a0 : Nat} {a1 : Int32} {a2 : Int32} {a3 : Int32} {a4 : Int32} {h : ZH} {Q : Option Value → ZH → Prop} (hw : w_99 E d a0 a1 a2 a3 a4 h Q) : Ct E (d + 1) 99 [.ref a0, .int a1, .int a2, .int a3, .int a4] h Q := by
  unfold w_99 at hw
  show Gx E (d + 1) 99 0 [.ref a0, .int a1, .int a2, .int a3, .int a4, .retAddr 0] [] h Q
  refine zg_iload zi_99_0 rfl ?_
  obtain ⟨hd, hs, hw⟩ := hw
  refine Gx.call (as := [.int a2]) (rest := []) (n := 1) zi_99_1 (by rfl) rfl (by rfl) (by rfl) (by rfl) (by decide) (by simp only [zcat, List.map, List.sum_cons, List.sum_nil, Value.category]; decide) (by rfl) (by decide) ?_
  refine cz_121 hd hs ?_
  show Gx E (d + 1) 99 2 [.ref a0, .int a1, .int a2, .int a3, .int a4, .retAddr 0] [.int (fz_121 E h a2)] h Q
  obtain ⟨hsd2, hw⟩ := hw
  have g2 : Gx E (d + 1) 99 14 [.ref a0, .int a1, .int a2, .int a3, .int a4, .retAddr 0] [.int (if (fz_121 E h a2 : Int32) = 0 then 0 else if (fz_122 E h a3 : Int32) = 0 then 0 else if a4 < 0 then 0 else if 3 < a4 then 0 else 1)] h Q := by
    refine zg_nameI fun x1 ex1 => ?_
    have hw := hw x1 ex1
    refine zg_istore (ls1 := [.ref a0, .int a1, .int a2, .int a3, .int a4, .int x1]) zi_99_14 (by decide) rfl ?_
    refine zg_iload zi_99_15 rfl ?_
    refine zg_if_eq zi_99_16 (fun hc => ?_) (fun hc => ?_)
    · have hw := hw.1 hc
      refine zg_const (v := (-1)) zi_99_22 (by rfl) ?_
      exact zg_ireturn zi_99_23 (by decide) hw
    · have hw := hw.2 hc
      refine zg_aload zi_99_17 rfl ?_
      obtain ⟨ht, hw⟩ := hw
      obtain ⟨r2, hr, hw⟩ := hw
      refine zg_getR (v := .ref r2) zi_99_18 ht (by rfl) (by show zrv (zR h a0 0) = _; rw [hr]; rfl) ?_
      refine zg_iload zi_99_19 rfl ?_
      obtain ⟨ht, hw⟩ := hw
      obtain ⟨hd, hs, hw⟩ := hw
      refine Gx.call (as := [.ref r2, .int a1]) (rest := []) (n := 2) zi_99_20 (by rfl) rfl (by rfl) (by rfl) (by rfl) (by decide) (by simp only [zcat, List.map, List.sum_cons, List.sum_nil, Value.category]; decide) (zrv_v ht (by rfl) (by rfl)) (by decide) ?_
      refine cz_36 hd hs ?_
      show Gx E (d + 1) 99 21 [.ref a0, .int a1, .int a2, .int a3, .int a4, .int x1] [.int (fz_36 E h r2 a1)] h Q
      refine zg_if_ne zi_99_21 (fun hc => ?_) (fun hc => ?_)
      · have hw := hw.1 hc
        refine zg_aload zi_99_24 rfl ?_
        obtain ⟨ht, hw⟩ := hw
        obtain ⟨r3, hr, hw⟩ := hw
        refine zg_getR (v := .ref r3) zi_99_25 ht (by rfl) (by show zrv (zR h a0 5) = _; rw [hr]; rfl) ?_
        refine zg_iload zi_99_26 rfl ?_
        refine zg_const (v := 0) zi_99_27 (by rfl) ?_
        refine zg_iload zi_99_28 rfl ?_
        obtain ⟨ht, hw⟩ := hw
        refine Gx.call (as := [.ref r3, .int a2, .int 0, .int a3]) (rest := []) (n := 4) zi_99_29 (by rfl) rfl (by rfl) (by rfl) (by rfl) (by decide) (by simp only [zcat, List.map, List.sum_cons, List.sum_nil, Value.category]; decide) (zrv_v ht (by rfl) (by rfl)) (by decide) ?_
        refine Ct.mono hw ?_
        rintro v h4 ⟨rfl, hw⟩
        show Gx E (d + 1) 99 30 [.ref a0, .int a1, .int a2, .int a3, .int a4, .int x1] [] h4 Q
        refine zg_aload zi_99_30 rfl ?_
        obtain ⟨ht, hw⟩ := hw
        obtain ⟨r5, hr, hw⟩ := hw
        refine zg_getR (v := .ref r5) zi_99_31 ht (by rfl) (by show zrv (zR h4 a0 5) = _; rw [hr]; rfl) ?_
        refine zg_aload zi_99_32 rfl ?_
        obtain ⟨ht, hw⟩ := hw
        obtain ⟨r6, hr, hw⟩ := hw
        refine zg_getR (v := .ref r6) zi_99_33 ht (by rfl) (by show zrv (zR h4 a0 0) = _; rw [hr]; rfl) ?_
        refine zg_aload zi_99_34 rfl ?_
        obtain ⟨ht, hw⟩ := hw
        obtain ⟨r7, hr, hw⟩ := hw
        refine zg_getR (v := .ref r7) zi_99_35 ht (by rfl) (by show zrv (zR h4 a0 0) = _; rw [hr]; rfl) ?_
        refine zg_iload zi_99_36 rfl ?_
        obtain ⟨ht, hw⟩ := hw
        obtain ⟨hd, hs, hw⟩ := hw
        refine Gx.call (as := [.ref r7, .int a1]) (rest := [.ref r6, .ref r5]) (n := 2) zi_99_37 (by rfl) rfl (by rfl) (by rfl) (by rfl) (by decide) (by simp only [zcat, List.map, List.sum_cons, List.sum_nil, Value.category]; decide) (zrv_v ht (by rfl) (by rfl)) (by decide) ?_
        refine cz_37 hd hs ?_
        show Gx E (d + 1) 99 38 [.ref a0, .int a1, .int a2, .int a3, .int a4, .int x1] [.int (fz_37 E h4 r7 a1), .ref r6, .ref r5] h4 Q
        obtain ⟨ht, hw⟩ := hw
        refine Gx.call (as := [.ref r5, .ref r6, .int (fz_37 E h4 r7 a1)]) (rest := []) (n := 3) zi_99_38 (by rfl) rfl (by rfl) (by rfl) (by rfl) (by decide) (by simp only [zcat, List.map, List.sum_cons, List.sum_nil, Value.category]; decide) (zrv_v ht (by rfl) (by rfl)) (by decide) ?_
        refine Ct.mono hw ?_
        rintro v h8 ⟨rfl, hw⟩
        show Gx E (d + 1) 99 39 [.ref a0, .int a1, .int a2, .int a3, .int a4, .int x1] [] h8 Q
        refine zg_iload zi_99_39 rfl ?_
        by_cases ho : a4.toInt < 0 ∨ 2 < a4.toInt
        · have hw := hw.1 ho
          refine zg_switch (t := 53) zi_99_40 (by unfold zsw; rw [if_pos ho]; rfl) ?_
          refine zg_aload zi_99_53 rfl ?_
          obtain ⟨ht, hw⟩ := hw
          obtain ⟨r9, hr, hw⟩ := hw
          refine zg_getR (v := .ref r9) zi_99_54 ht (by rfl) (by show zrv (zR h8 a0 5) = _; rw [hr]; rfl) ?_
          obtain ⟨ht, hw⟩ := hw
          refine zg_getI (v := .int (zI h8 r9 5)) zi_99_55 ht (by rfl) rfl ?_
          exact zg_ireturn zi_99_56 (by decide) hw
        have hw := hw.2
        by_cases hv0 : a4.toInt = 0
        · have hw := hw.1 hv0
          refine zg_switch (t := 41) zi_99_40 (by rw [hv0]; rfl) ?_
          refine zg_aload zi_99_41 rfl ?_
          obtain ⟨ht, hw⟩ := hw
          obtain ⟨r10, hr, hw⟩ := hw
          refine zg_getR (v := .ref r10) zi_99_42 ht (by rfl) (by show zrv (zR h8 a0 5) = _; rw [hr]; rfl) ?_
          obtain ⟨ht, hw⟩ := hw
          refine zg_getI (v := .int (zI h8 r10 6)) zi_99_43 ht (by rfl) rfl ?_
          exact zg_ireturn zi_99_44 (by decide) hw
        have hw := hw.2
        by_cases hv1 : a4.toInt = 1
        · have hw := hw.1 hv1
          refine zg_switch (t := 45) zi_99_40 (by rw [hv1]; rfl) ?_
          refine zg_aload zi_99_45 rfl ?_
          obtain ⟨ht, hw⟩ := hw
          obtain ⟨r11, hr, hw⟩ := hw
          refine zg_getR (v := .ref r11) zi_99_46 ht (by rfl) (by show zrv (zR h8 a0 5) = _; rw [hr]; rfl) ?_
          obtain ⟨ht, hw⟩ := hw
          refine zg_getI (v := .int (zI h8 r11 8)) zi_99_47 ht (by rfl) rfl ?_
          exact zg_ireturn zi_99_48 (by decide) hw
        have hw := hw.2
        have hv2 : a4.toInt = 2 := by omega
        have hw := hw hv2
        refine zg_switch (t := 49) zi_99_40 (by rw [hv2]; rfl) ?_
        refine zg_aload zi_99_49 rfl ?_
        obtain ⟨ht, hw⟩ := hw
        obtain ⟨r12, hr, hw⟩ := hw
        refine zg_getR (v := .ref r12) zi_99_50 ht (by rfl) (by show zrv (zR h8 a0 5) = _; rw [hr]; rfl) ?_
        obtain ⟨ht, hw⟩ := hw
        refine zg_getI (v := .int (zI h8 r12 4)) zi_99_51 ht (by rfl) rfl ?_
        exact zg_ireturn zi_99_52 (by decide) hw
      · have hw := hw.2 hc
        refine zg_const (v := (-1)) zi_99_22 (by rfl) ?_
        exact zg_ireturn zi_99_23 (by decide) hw
  refine zg_if_eq zi_99_2 (fun hc2 => ?_) (fun hc2 => ?_)
  · have hw := hsd2.1 hc2
    refine zg_const (v := 0) zi_99_13 (by rfl) ?_
    have hg := g2
    simp only [if_pos hc2] at hg
    exact hg
  · have hw := hsd2.2 hc2
    refine zg_iload zi_99_3 rfl ?_
    obtain ⟨hd, hs, hw⟩ := hw
    refine Gx.call (as := [.int a3]) (rest := []) (n := 1) zi_99_4 (by rfl) rfl (by rfl) (by rfl) (by rfl) (by decide) (by simp only [zcat, List.map, List.sum_cons, List.sum_nil, Value.category]; decide) (by rfl) (by decide) ?_
    refine cz_122 hd hs ?_
    show Gx E (d + 1) 99 5 [.ref a0, .int a1, .int a2, .int a3, .int a4, .retAddr 0] [.int (fz_122 E h a3)] h Q
    have g5 : Gx E (d + 1) 99 14 [.ref a0, .int a1, .int a2, .int a3, .int a4, .retAddr 0] [.int (if (fz_122 E h a3 : Int32) = 0 then 0 else if a4 < 0 then 0 else if 3 < a4 then 0 else 1)] h Q := by
      have hg := g2
      simp only [if_neg hc2] at hg
      exact hg
    refine zg_if_eq zi_99_5 (fun hc5 => ?_) (fun hc5 => ?_)
    · skip
      refine zg_const (v := 0) zi_99_13 (by rfl) ?_
      have hg := g5
      simp only [if_pos hc5] at hg
      exact hg
    · skip
      refine zg_iload zi_99_6 rfl ?_
      have g7 : Gx E (d + 1) 99 14 [.ref a0, .int a1, .int a2, .int a3, .int a4, .retAddr 0] [.int (if a4 < 0 then 0 else if 3 < a4 then 0 else 1)] h Q := by
        have hg := g5
        simp only [if_neg hc5] at hg
        exact hg
      refine zg_if_lt zi_99_7 (fun hc7 => ?_) (fun hc7 => ?_)
      · skip
        refine zg_const (v := 0) zi_99_13 (by rfl) ?_
        have hg := g7
        simp only [if_pos hc7] at hg
        exact hg
      · skip
        refine zg_iload zi_99_8 rfl ?_
        refine zg_const (v := 3) zi_99_9 (by rfl) ?_
        have g10 : Gx E (d + 1) 99 14 [.ref a0, .int a1, .int a2, .int a3, .int a4, .retAddr 0] [.int (if 3 < a4 then 0 else 1)] h Q := by
          have hg := g7
          simp only [if_neg hc7] at hg
          exact hg
        refine zg_icmp_gt zi_99_10 (fun hc10 => ?_) (fun hc10 => ?_)
        · skip
          refine zg_const (v := 0) zi_99_13 (by rfl) ?_
          have hg := g10
          simp only [if_pos hc10] at hg
          exact hg
        · skip
          refine zg_const (v := 1) zi_99_11 (by rfl) ?_
          refine zg_goto zi_99_12 ?_
          have hg := g10
          simp only [if_neg hc10] at hg
          exact hg
theorem zi_100_0 : (zM 100).1[0]? = some (.aload 0) := by rfl
theorem zi_100_1 : (zM 100).1[1]? = some (.iload 1) := by rfl
theorem zi_100_2 : (zM 100).1[2]? = some (.iload 2) := by rfl
theorem zi_100_3 : (zM 100).1[3]? = some (.iload 3) := by rfl
theorem zi_100_4 : (zM 100).1[4]? = some (.iload 4) := by rfl
theorem zi_100_5 : (zM 100).1[5]? = some (.iload 5) := by rfl
theorem zi_100_6 : (zM 100).1[6]? = some (.invokevirtual 127) := by rfl
theorem zi_100_7 : (zM 100).1[7]? = some (.ifCond .ne ((10 : Nat) : Int)) := by rfl
theorem zi_100_8 : (zM 100).1[8]? = some (.iconst (-1)) := by rfl
theorem zi_100_9 : (zM 100).1[9]? = some (.ireturn) := by rfl
theorem zi_100_10 : (zM 100).1[10]? = some (.aload 0) := by rfl
theorem zi_100_11 : (zM 100).1[11]? = some (.getfield 10206) := by rfl
theorem zi_100_12 : (zM 100).1[12]? = some (.iload 1) := by rfl
theorem zi_100_13 : (zM 100).1[13]? = some (.iload 2) := by rfl
theorem zi_100_14 : (zM 100).1[14]? = some (.iload 3) := by rfl
theorem zi_100_15 : (zM 100).1[15]? = some (.iload 4) := by rfl
theorem zi_100_16 : (zM 100).1[16]? = some (.invokevirtual 16) := by rfl
theorem zi_100_17 : (zM 100).1[17]? = some (.iload 1) := by rfl
theorem zi_100_18 : (zM 100).1[18]? = some (.iload 2) := by rfl
theorem zi_100_19 : (zM 100).1[19]? = some (.iload 3) := by rfl
theorem zi_100_20 : (zM 100).1[20]? = some (.iload 4) := by rfl
theorem zi_100_21 : (zM 100).1[21]? = some (.iload 5) := by rfl
theorem zi_100_22 : (zM 100).1[22]? = some (.invokevirtual 12) := by rfl
theorem zi_100_23 : (zM 100).1[23]? = some (.ireturn) := by rfl
/-- TakeOrPay.best(IIIII)I -/
def w_100 (E : Nat → Nat) (d : Nat) (a0 : Nat) (a1 : Int32) (a2 : Int32) (a3 : Int32) (a4 : Int32) (a5 : Int32) (h : ZH) (Q : Option Value → ZH → Prop) : Prop := ztag h a0 = 10 ∧ 2 ≤ d ∧ sz_127 E h a0 a1 a2 a3 a4 a5 ∧ ((¬ (fz_127 E h a0 a1 a2 a3 a4 a5 : Int32) = 0 → (ztag h a0 = 10 ∧ ∃ r1 : Nat, zR h a0 6 = r1 + 1 ∧ ztag h r1 = 1 ∧ Ct E d 16 [.ref r1, .int a1, .int a2, .int a3, .int a4] h (fun v h2 => ∃ r3 : Nat, v = some (.ref r3) ∧ ztag h2 r3 = 0 ∧ Ct E d 12 [.ref r3, .int a1, .int a2, .int a3, .int a4, .int a5] h2 (fun v h4 => ∃ x5 : Int32, v = some (.int x5) ∧ Q (some (.int x5)) h4)))) ∧ (¬ (¬ (fz_127 E h a0 a1 a2 a3 a4 a5 : Int32) = 0) → (Q (some (.int ((-1)))) h)))
set_option maxRecDepth 20000 in
theorem ok_100 {E : Nat → Nat} {d : Nat} {a0 : Nat} {a1 : Int32} {a2 : Int32} {a3 : Int32} {a4 : Int32} {a5 : Int32} {h : ZH} {Q : Option Value → ZH → Prop} (hw : w_100 E d a0 a1 a2 a3 a4 a5 h Q) : Ct E (d + 1) 100 [.ref a0, .int a1, .int a2, .int a3, .int a4, .int a5] h Q := by
  unfold w_100 at hw
  show Gx E (d + 1) 100 0 [.ref a0, .int a1, .int a2, .int a3, .int a4, .int a5] [] h Q
  refine zg_aload zi_100_0 rfl ?_
  refine zg_iload zi_100_1 rfl ?_
  refine zg_iload zi_100_2 rfl ?_
  refine zg_iload zi_100_3 rfl ?_
  refine zg_iload zi_100_4 rfl ?_
  refine zg_iload zi_100_5 rfl ?_
  obtain ⟨ht, hw⟩ := hw
  obtain ⟨hd, hs, hw⟩ := hw
  refine Gx.call (as := [.ref a0, .int a1, .int a2, .int a3, .int a4, .int a5]) (rest := []) (n := 6) zi_100_6 (by rfl) rfl (by rfl) (by rfl) (by rfl) (by decide) (by simp only [zcat, List.map, List.sum_cons, List.sum_nil, Value.category]; decide) (zrv_v ht (by rfl) (by rfl)) (by decide) ?_
  refine cz_127 hd hs ?_
  show Gx E (d + 1) 100 7 [.ref a0, .int a1, .int a2, .int a3, .int a4, .int a5] [.int (fz_127 E h a0 a1 a2 a3 a4 a5)] h Q
  refine zg_if_ne zi_100_7 (fun hc => ?_) (fun hc => ?_)
  · have hw := hw.1 hc
    refine zg_aload zi_100_10 rfl ?_
    obtain ⟨ht, hw⟩ := hw
    obtain ⟨r1, hr, hw⟩ := hw
    refine zg_getR (v := .ref r1) zi_100_11 ht (by rfl) (by show zrv (zR h a0 6) = _; rw [hr]; rfl) ?_
    refine zg_iload zi_100_12 rfl ?_
    refine zg_iload zi_100_13 rfl ?_
    refine zg_iload zi_100_14 rfl ?_
    refine zg_iload zi_100_15 rfl ?_
    obtain ⟨ht, hw⟩ := hw
    refine Gx.call (as := [.ref r1, .int a1, .int a2, .int a3, .int a4]) (rest := []) (n := 5) zi_100_16 (by rfl) rfl (by rfl) (by rfl) (by rfl) (by decide) (by simp only [zcat, List.map, List.sum_cons, List.sum_nil, Value.category]; decide) (zrv_v ht (by rfl) (by rfl)) (by decide) ?_
    refine Ct.mono hw ?_
    rintro v h2 ⟨r3, rfl, hw⟩
    show Gx E (d + 1) 100 17 [.ref a0, .int a1, .int a2, .int a3, .int a4, .int a5] [.ref r3] h2 Q
    refine zg_iload zi_100_17 rfl ?_
    refine zg_iload zi_100_18 rfl ?_
    refine zg_iload zi_100_19 rfl ?_
    refine zg_iload zi_100_20 rfl ?_
    refine zg_iload zi_100_21 rfl ?_
    obtain ⟨ht, hw⟩ := hw
    refine Gx.call (as := [.ref r3, .int a1, .int a2, .int a3, .int a4, .int a5]) (rest := []) (n := 6) zi_100_22 (by rfl) rfl (by rfl) (by rfl) (by rfl) (by decide) (by simp only [zcat, List.map, List.sum_cons, List.sum_nil, Value.category]; decide) (zrv_v ht (by rfl) (by rfl)) (by decide) ?_
    refine Ct.mono hw ?_
    rintro v h4 ⟨x5, rfl, hw⟩
    show Gx E (d + 1) 100 23 [.ref a0, .int a1, .int a2, .int a3, .int a4, .int a5] [.int x5] h4 Q
    exact zg_ireturn zi_100_23 (by decide) hw
  · have hw := hw.2 hc
    refine zg_const (v := (-1)) zi_100_8 (by rfl) ?_
    exact zg_ireturn zi_100_9 (by decide) hw
theorem zi_123_0 : (zM 123).1[0]? = some (.iload 0) := by rfl
theorem zi_123_1 : (zM 123).1[1]? = some (.ifCond .eq ((5 : Nat) : Int)) := by rfl
theorem zi_123_2 : (zM 123).1[2]? = some (.iload 0) := by rfl
theorem zi_123_3 : (zM 123).1[3]? = some (.iconst 1) := by rfl
theorem zi_123_4 : (zM 123).1[4]? = some (.if_icmp .ne ((7 : Nat) : Int)) := by rfl
theorem zi_123_5 : (zM 123).1[5]? = some (.iconst 1) := by rfl
theorem zi_123_6 : (zM 123).1[6]? = some (.goto ((8 : Nat) : Int)) := by rfl
theorem zi_123_7 : (zM 123).1[7]? = some (.iconst 0) := by rfl
theorem zi_123_8 : (zM 123).1[8]? = some (.ireturn) := by rfl
/-- TakeOrPay.isPart(I)Z -/
def w_123 (E : Nat → Nat) (d : Nat) (a0 : Int32) (h : ZH) (Q : Option Value → ZH → Prop) : Prop := Q (some (.int (if a0 = 0 then 1 else if ¬ a0 = 1 then 0 else 1))) h
set_option maxRecDepth 20000 in
theorem ok_123 {E : Nat → Nat} {d : Nat} {a0 : Int32} {h : ZH} {Q : Option Value → ZH → Prop} (hw : w_123 E d a0 h Q) : Ct E (d + 1) 123 [.int a0] h Q := by
  unfold w_123 at hw
  show Gx E (d + 1) 123 0 [.int a0] [] h Q
  refine zg_iload zi_123_0 rfl ?_
  have g1 : Gx E (d + 1) 123 8 [.int a0] [.int (if a0 = 0 then 1 else if ¬ a0 = 1 then 0 else 1)] h Q := by
    exact zg_zreturn zi_123_8 (by (repeat' split) <;> first | (left; rfl) | (right; rfl)) hw
  refine zg_if_eq zi_123_1 (fun hc1 => ?_) (fun hc1 => ?_)
  · skip
    refine zg_const (v := 1) zi_123_5 (by rfl) ?_
    refine zg_goto zi_123_6 ?_
    have hg := g1
    simp only [if_pos hc1] at hg
    exact hg
  · skip
    refine zg_iload zi_123_2 rfl ?_
    refine zg_const (v := 1) zi_123_3 (by rfl) ?_
    have g4 : Gx E (d + 1) 123 8 [.int a0] [.int (if ¬ a0 = 1 then 0 else 1)] h Q := by
      have hg := g1
      simp only [if_neg hc1] at hg
      exact hg
    refine zg_icmp_ne zi_123_4 (fun hc4 => ?_) (fun hc4 => ?_)
    · skip
      refine zg_const (v := 0) zi_123_7 (by rfl) ?_
      have hg := g4
      simp only [if_pos hc4] at hg
      exact hg
    · skip
      refine zg_const (v := 1) zi_123_5 (by rfl) ?_
      refine zg_goto zi_123_6 ?_
      have hg := g4
      simp only [if_neg hc4] at hg
      exact hg
def fz_123 (E : Nat → Nat) (h : ZH) (a0 : Int32) : Int32 := if a0 = 0 then 1 else if ¬ a0 = 1 then 0 else 1
def sz_123 (E : Nat → Nat) (h : ZH) (a0 : Int32) : Prop := True
set_option maxRecDepth 20000 in
theorem fb_123 {E : Nat → Nat} {h : ZH} {a0 : Int32} : fz_123 E h a0 = 0 ∨ fz_123 E h a0 = 1 := by
  unfold fz_123
  (try dsimp only)
  (repeat' split) <;> first | (left; rfl) | (right; rfl)
set_option maxRecDepth 20000 in
theorem cz_123 {E : Nat → Nat} {d : Nat} {a0 : Int32} {h : ZH} {Q : Option Value → ZH → Prop} (hd : 1 ≤ d) (hs : sz_123 E h a0) (hq : Q (some (.int (fz_123 E h a0))) h) : Ct E d 123 [.int a0] h Q := by
  obtain ⟨d, rfl⟩ : ∃ n, d = n + 1 := ⟨d - 1, by omega⟩
  refine ok_123 ?_
  unfold w_123
  unfold sz_123 at hs
  unfold fz_123 at hq
  exact hq
theorem zi_128_0 : (zM 128).1[0]? = some (.lload 0) := by rfl
theorem zi_128_1 : (zM 128).1[1]? = some (.lstore 4) := by rfl
theorem zi_128_2 : (zM 128).1[2]? = some (.iconst 2) := by rfl
theorem zi_128_3 : (zM 128).1[3]? = some (.iload 2) := by rfl
theorem zi_128_4 : (zM 128).1[4]? = some (.imul) := by rfl
theorem zi_128_5 : (zM 128).1[5]? = some (.istore 6) := by rfl
theorem zi_128_6 : (zM 128).1[6]? = some (.iload 6) := by rfl
theorem zi_128_7 : (zM 128).1[7]? = some (.ifCond .le ((20 : Nat) : Int)) := by rfl
theorem zi_128_8 : (zM 128).1[8]? = some (.lload 4) := by rfl
theorem zi_128_9 : (zM 128).1[9]? = some (.jsr_w 1) := by rfl
theorem zi_128_10 : (zM 128).1[10]? = some (.land) := by rfl
theorem zi_128_11 : (zM 128).1[11]? = some (.jsr_w 0) := by rfl
theorem zi_128_12 : (zM 128).1[12]? = some (.lcmp) := by rfl
theorem zi_128_13 : (zM 128).1[13]? = some (.ifCond .ne ((20 : Nat) : Int)) := by rfl
theorem zi_128_14 : (zM 128).1[14]? = some (.lload 4) := by rfl
theorem zi_128_15 : (zM 128).1[15]? = some (.iconst 1) := by rfl
theorem zi_128_16 : (zM 128).1[16]? = some (.lshr) := by rfl
theorem zi_128_17 : (zM 128).1[17]? = some (.lstore 4) := by rfl
theorem zi_128_18 : (zM 128).1[18]? = some (.iinc 6 (-1)) := by rfl
theorem zi_128_19 : (zM 128).1[19]? = some (.goto ((6 : Nat) : Int)) := by rfl
theorem zi_128_20 : (zM 128).1[20]? = some (.iload 3) := by rfl
theorem zi_128_21 : (zM 128).1[21]? = some (.ifCond .ne ((24 : Nat) : Int)) := by rfl
theorem zi_128_22 : (zM 128).1[22]? = some (.lload 4) := by rfl
theorem zi_128_23 : (zM 128).1[23]? = some (.goto ((27 : Nat) : Int)) := by rfl
theorem zi_128_24 : (zM 128).1[24]? = some (.jsr_w 1) := by rfl
theorem zi_128_25 : (zM 128).1[25]? = some (.iload 6) := by rfl
theorem zi_128_26 : (zM 128).1[26]? = some (.lshl) := by rfl
theorem zi_128_27 : (zM 128).1[27]? = some (.lreturn) := by rfl
def wb_128_20 (E : Nat → Nat) (d : Nat) (Q : Option Value → ZH → Prop) (a3 : Int32) (a4 : Int64) (a6 : Int32) (h : ZH) : Prop := Q (some (.long (if ¬ a3 = 0 then 1 <<< (a6.toInt64 &&& 63) else a4))) h
set_option maxRecDepth 20000 in
theorem okb_128_20 {E : Nat → Nat} {d : Nat} {Q : Option Value → ZH → Prop} {a3 : Int32} {a4 : Int64} {a6 : Int32} {h : ZH} (hw : wb_128_20 E d Q a3 a4 a6 h) : Gx E (d + 1) 128 20 [.retAddr 0, .retAddr 0, .retAddr 0, .int a3, .long a4, .retAddr 0, .int a6] [] h Q := by
  unfold wb_128_20 at hw
  refine zg_iload zi_128_20 rfl ?_
  have g21 : Gx E (d + 1) 128 27 [.retAddr 0, .retAddr 0, .retAddr 0, .int a3, .long a4, .retAddr 0, .int a6] [.long (if ¬ a3 = 0 then 1 <<< (a6.toInt64 &&& 63) else a4)] h Q := by
    exact zg_lreturn zi_128_27 hw
  refine zg_if_ne zi_128_21 (fun hc21 => ?_) (fun hc21 => ?_)
  · skip
    refine zg_lconst (v := 1) zi_128_24 (by rfl) ?_
    refine zg_iload zi_128_25 rfl ?_
    refine zg_lshl zi_128_26 ?_
    have hg := g21
    simp only [if_pos hc21] at hg
    exact hg
  · skip
    refine zg_lload zi_128_22 rfl ?_
    refine zg_goto zi_128_23 ?_
    have hg := g21
    simp only [if_neg hc21] at hg
    exact hg
def wl_128_6 (E : Nat → Nat) (d : Nat) (Q : Option Value → ZH → Prop) : Nat → Int32 → Int64 → Int32 → ZH → Prop
  | 0, _, _, _, _ => False
  | n + 1, a3, a4, a6, h => (a6 ≤ 0 → (wb_128_20 E d Q a3 a4 a6 h)) ∧ (¬ (a6 ≤ 0) → ((¬ (a4 &&& 1 : Int64) = 0 → (wb_128_20 E d Q a3 a4 a6 h)) ∧ (¬ (¬ (a4 &&& 1 : Int64) = 0) → (∀ x2 : Int64, x2 = a4 >>> ((1 : Int32).toInt64 &&& 63) → ∀ x3 : Int32, x3 = a6 + (-1) → wl_128_6 E d Q n a3 x2 x3 h))))
set_option maxRecDepth 20000 in
theorem okl_128_6 {E : Nat → Nat} {d : Nat} {Q : Option Value → ZH → Prop} : ∀ (n : Nat) (a3 : Int32) (a4 : Int64) (a6 : Int32) (h : ZH), wl_128_6 E d Q n a3 a4 a6 h → Gx E (d + 1) 128 6 [.retAddr 0, .retAddr 0, .retAddr 0, .int a3, .long a4, .retAddr 0, .int a6] [] h Q := by
  intro n
  induction n with
  | zero => intro a3 a4 a6 h hw; exact hw.elim
  | succ n ih =>
    intro a3 a4 a6 h hw
    rw [wl_128_6] at hw
    refine zg_iload zi_128_6 rfl ?_
    refine zg_if_le zi_128_7 (fun hc => ?_) (fun hc => ?_)
    · have hw := hw.1 hc
      exact okb_128_20 hw
    · have hw := hw.2 hc
      refine zg_lload zi_128_8 rfl ?_
      refine zg_lconst (v := 1) zi_128_9 (by rfl) ?_
      refine zg_land zi_128_10 ?_
      refine zg_lconst (v := 0) zi_128_11 (by rfl) ?_
      refine zg_lcmp_ne zi_128_12 zi_128_13 (fun hc => ?_) (fun hc => ?_)
      · have hw := hw.1 hc
        exact okb_128_20 hw
      · have hw := hw.2 hc
        refine zg_lload zi_128_14 rfl ?_
        refine zg_const (v := 1) zi_128_15 (by rfl) ?_
        refine zg_lshr zi_128_16 ?_
        refine zg_nameL fun x2 ex2 => ?_
        have hw := hw x2 ex2
        refine zg_lstore (ls1 := [.retAddr 0, .retAddr 0, .retAddr 0, .int a3, .long x2, .retAddr 0, .int a6]) zi_128_17 (by decide) rfl ?_
        obtain ⟨x3, ex3⟩ : ∃ x : Int32, x = a6 + (-1) := ⟨_, rfl⟩
        have hw := hw x3 ex3
        refine zg_iinc (v := x3) (ls1 := [.retAddr 0, .retAddr 0, .retAddr 0, .int a3, .long x2, .retAddr 0, .int x3]) zi_128_18 rfl (by rw [ex3]; rfl) rfl ?_
        refine zg_goto zi_128_19 ?_
        exact ih a3 x2 x3 h hw
/-- TakeOrPay.fraction(JII)J -/
def w_128 (E : Nat → Nat) (d : Nat) (a0 : Int64) (a2 : Int32) (a3 : Int32) (h : ZH) (Q : Option Value → ZH → Prop) : Prop := ∀ x1 : Int32, x1 = 2 * a2 → (∃ n : Nat, wl_128_6 E d Q n a3 a0 x1 h)
set_option maxRecDepth 20000 in
theorem ok_128 {E : Nat → Nat} {d : Nat} {a0 : Int64} {a2 : Int32} {a3 : Int32} {h : ZH} {Q : Option Value → ZH → Prop} (hw : w_128 E d a0 a2 a3 h Q) : Ct E (d + 1) 128 [.long a0, .int a2, .int a3] h Q := by
  unfold w_128 at hw
  show Gx E (d + 1) 128 0 [.long a0, .retAddr 0, .int a2, .int a3, .retAddr 0, .retAddr 0, .retAddr 0] [] h Q
  refine zg_lload zi_128_0 rfl ?_
  refine zg_lstore (ls1 := [.long a0, .retAddr 0, .int a2, .int a3, .long a0, .retAddr 0, .retAddr 0]) zi_128_1 (by decide) rfl ?_
  refine zg_const (v := 2) zi_128_2 (by rfl) ?_
  refine zg_iload zi_128_3 rfl ?_
  refine zg_imul zi_128_4 ?_
  refine zg_nameI fun x1 ex1 => ?_
  have hw := hw x1 ex1
  refine zg_istore (ls1 := [.long a0, .retAddr 0, .int a2, .int a3, .long a0, .retAddr 0, .int x1]) zi_128_5 (by decide) rfl ?_
  obtain ⟨n, hw⟩ := hw
  exact Gx.forget ⟨Or.inr rfl, Or.inl rfl, Or.inr rfl, Or.inl rfl, Or.inl rfl, Or.inl rfl, Or.inl rfl, trivial⟩ (okl_128_6 n a3 a0 x1 h hw)
theorem zi_101_0 : (zM 101).1[0]? = some (.aload 0) := by rfl
theorem zi_101_1 : (zM 101).1[1]? = some (.iload 1) := by rfl
theorem zi_101_2 : (zM 101).1[2]? = some (.iload 2) := by rfl
theorem zi_101_3 : (zM 101).1[3]? = some (.iload 3) := by rfl
theorem zi_101_4 : (zM 101).1[4]? = some (.iload 4) := by rfl
theorem zi_101_5 : (zM 101).1[5]? = some (.iload 5) := by rfl
theorem zi_101_6 : (zM 101).1[6]? = some (.invokevirtual 127) := by rfl
theorem zi_101_7 : (zM 101).1[7]? = some (.ifCond .eq ((11 : Nat) : Int)) := by rfl
theorem zi_101_8 : (zM 101).1[8]? = some (.iload 6) := by rfl
theorem zi_101_9 : (zM 101).1[9]? = some (.invokestatic 123) := by rfl
theorem zi_101_10 : (zM 101).1[10]? = some (.ifCond .ne ((13 : Nat) : Int)) := by rfl
theorem zi_101_11 : (zM 101).1[11]? = some (.jsr_w (-9000000000000000001)) := by rfl
theorem zi_101_12 : (zM 101).1[12]? = some (.lreturn) := by rfl
theorem zi_101_13 : (zM 101).1[13]? = some (.aload 0) := by rfl
theorem zi_101_14 : (zM 101).1[14]? = some (.getfield 10206) := by rfl
theorem zi_101_15 : (zM 101).1[15]? = some (.iload 1) := by rfl
theorem zi_101_16 : (zM 101).1[16]? = some (.iload 2) := by rfl
theorem zi_101_17 : (zM 101).1[17]? = some (.iload 3) := by rfl
theorem zi_101_18 : (zM 101).1[18]? = some (.iload 4) := by rfl
theorem zi_101_19 : (zM 101).1[19]? = some (.invokevirtual 16) := by rfl
theorem zi_101_20 : (zM 101).1[20]? = some (.astore 7) := by rfl
theorem zi_101_21 : (zM 101).1[21]? = some (.aload 7) := by rfl
theorem zi_101_22 : (zM 101).1[22]? = some (.iload 1) := by rfl
theorem zi_101_23 : (zM 101).1[23]? = some (.iload 2) := by rfl
theorem zi_101_24 : (zM 101).1[24]? = some (.iload 3) := by rfl
theorem zi_101_25 : (zM 101).1[25]? = some (.iload 4) := by rfl
theorem zi_101_26 : (zM 101).1[26]? = some (.iload 5) := by rfl
theorem zi_101_27 : (zM 101).1[27]? = some (.invokevirtual 12) := by rfl
theorem zi_101_28 : (zM 101).1[28]? = some (.pop) := by rfl
theorem zi_101_29 : (zM 101).1[29]? = some (.aload 7) := by rfl
theorem zi_101_30 : (zM 101).1[30]? = some (.getfield 111) := by rfl
theorem zi_101_31 : (zM 101).1[31]? = some (.aload 0) := by rfl
theorem zi_101_32 : (zM 101).1[32]? = some (.getfield 10200) := by rfl
theorem zi_101_33 : (zM 101).1[33]? = some (.getfield 3006) := by rfl
theorem zi_101_34 : (zM 101).1[34]? = some (.iload 1) := by rfl
theorem zi_101_35 : (zM 101).1[35]? = some (.isub) := by rfl
theorem zi_101_36 : (zM 101).1[36]? = some (.iload 6) := by rfl
theorem zi_101_37 : (zM 101).1[37]? = some (.invokestatic 128) := by rfl
theorem zi_101_38 : (zM 101).1[38]? = some (.lreturn) := by rfl
/-- TakeOrPay.worth(IIIIII)J -/
def w_101 (E : Nat → Nat) (d : Nat) (a0 : Nat) (a1 : Int32) (a2 : Int32) (a3 : Int32) (a4 : Int32) (a5 : Int32) (a6 : Int32) (h : ZH) (Q : Option Value → ZH → Prop) : Prop := ztag h a0 = 10 ∧ 2 ≤ d ∧ sz_127 E h a0 a1 a2 a3 a4 a5 ∧ (((fz_127 E h a0 a1 a2 a3 a4 a5 : Int32) = 0 → (Q (some (.long ((-9000000000000000001)))) h)) ∧ (¬ ((fz_127 E h a0 a1 a2 a3 a4 a5 : Int32) = 0) → (1 ≤ d ∧ sz_123 E h a6 ∧ ((¬ (fz_123 E h a6 : Int32) = 0 → (ztag h a0 = 10 ∧ ∃ r1 : Nat, zR h a0 6 = r1 + 1 ∧ ztag h r1 = 1 ∧ Ct E d 16 [.ref r1, .int a1, .int a2, .int a3, .int a4] h (fun v h2 => ∃ r3 : Nat, v = some (.ref r3) ∧ ztag h2 r3 = 0 ∧ Ct E d 12 [.ref r3, .int a1, .int a2, .int a3, .int a4, .int a5] h2 (fun v h4 => ∃ x5 : Int32, v = some (.int x5) ∧ ztag h4 r3 = 0 ∧ ztag h4 a0 = 10 ∧ ∃ r6 : Nat, zR h4 a0 0 = r6 + 1 ∧ ztag h4 r6 = 3 ∧ Ct E d 128 [.long (zL h4 r3 11), .int ((zI h4 r6 6) - a1), .int a6] h4 (fun v h7 => ∃ x8 : Int64, v = some (.long x8) ∧ Q (some (.long x8)) h7))))) ∧ (¬ (¬ (fz_123 E h a6 : Int32) = 0) → (Q (some (.long ((-9000000000000000001)))) h))))))
set_option maxRecDepth 20000 in
theorem ok_101 {E : Nat → Nat} {d : Nat} {a0 : Nat} {a1 : Int32} {a2 : Int32} {a3 : Int32} {a4 : Int32} {a5 : Int32} {a6 : Int32} {h : ZH} {Q : Option Value → ZH → Prop} (hw : w_101 E d a0 a1 a2 a3 a4 a5 a6 h Q) : Ct E (d + 1) 101 [.ref a0, .int a1, .int a2, .int a3, .int a4, .int a5, .int a6] h Q := by
  unfold w_101 at hw
  show Gx E (d + 1) 101 0 [.ref a0, .int a1, .int a2, .int a3, .int a4, .int a5, .int a6, .retAddr 0] [] h Q
  refine zg_aload zi_101_0 rfl ?_
  refine zg_iload zi_101_1 rfl ?_
  refine zg_iload zi_101_2 rfl ?_
  refine zg_iload zi_101_3 rfl ?_
  refine zg_iload zi_101_4 rfl ?_
  refine zg_iload zi_101_5 rfl ?_
  obtain ⟨ht, hw⟩ := hw
  obtain ⟨hd, hs, hw⟩ := hw
  refine Gx.call (as := [.ref a0, .int a1, .int a2, .int a3, .int a4, .int a5]) (rest := []) (n := 6) zi_101_6 (by rfl) rfl (by rfl) (by rfl) (by rfl) (by decide) (by simp only [zcat, List.map, List.sum_cons, List.sum_nil, Value.category]; decide) (zrv_v ht (by rfl) (by rfl)) (by decide) ?_
  refine cz_127 hd hs ?_
  show Gx E (d + 1) 101 7 [.ref a0, .int a1, .int a2, .int a3, .int a4, .int a5, .int a6, .retAddr 0] [.int (fz_127 E h a0 a1 a2 a3 a4 a5)] h Q
  refine zg_if_eq zi_101_7 (fun hc => ?_) (fun hc => ?_)
  · have hw := hw.1 hc
    refine zg_lconst (v := (-9000000000000000001)) zi_101_11 (by rfl) ?_
    exact zg_lreturn zi_101_12 hw
  · have hw := hw.2 hc
    refine zg_iload zi_101_8 rfl ?_
    obtain ⟨hd, hs, hw⟩ := hw
    refine Gx.call (as := [.int a6]) (rest := []) (n := 1) zi_101_9 (by rfl) rfl (by rfl) (by rfl) (by rfl) (by decide) (by simp only [zcat, List.map, List.sum_cons, List.sum_nil, Value.category]; decide) (by rfl) (by decide) ?_
    refine cz_123 hd hs ?_
    show Gx E (d + 1) 101 10 [.ref a0, .int a1, .int a2, .int a3, .int a4, .int a5, .int a6, .retAddr 0] [.int (fz_123 E h a6)] h Q
    refine zg_if_ne zi_101_10 (fun hc => ?_) (fun hc => ?_)
    · have hw := hw.1 hc
      refine zg_aload zi_101_13 rfl ?_
      obtain ⟨ht, hw⟩ := hw
      obtain ⟨r1, hr, hw⟩ := hw
      refine zg_getR (v := .ref r1) zi_101_14 ht (by rfl) (by show zrv (zR h a0 6) = _; rw [hr]; rfl) ?_
      refine zg_iload zi_101_15 rfl ?_
      refine zg_iload zi_101_16 rfl ?_
      refine zg_iload zi_101_17 rfl ?_
      refine zg_iload zi_101_18 rfl ?_
      obtain ⟨ht, hw⟩ := hw
      refine Gx.call (as := [.ref r1, .int a1, .int a2, .int a3, .int a4]) (rest := []) (n := 5) zi_101_19 (by rfl) rfl (by rfl) (by rfl) (by rfl) (by decide) (by simp only [zcat, List.map, List.sum_cons, List.sum_nil, Value.category]; decide) (zrv_v ht (by rfl) (by rfl)) (by decide) ?_
      refine Ct.mono hw ?_
      rintro v h2 ⟨r3, rfl, hw⟩
      show Gx E (d + 1) 101 20 [.ref a0, .int a1, .int a2, .int a3, .int a4, .int a5, .int a6, .retAddr 0] [.ref r3] h2 Q
      refine zg_astore (ls1 := [.ref a0, .int a1, .int a2, .int a3, .int a4, .int a5, .int a6, .ref r3]) zi_101_20 (by decide) rfl ?_
      refine zg_aload zi_101_21 rfl ?_
      refine zg_iload zi_101_22 rfl ?_
      refine zg_iload zi_101_23 rfl ?_
      refine zg_iload zi_101_24 rfl ?_
      refine zg_iload zi_101_25 rfl ?_
      refine zg_iload zi_101_26 rfl ?_
      obtain ⟨ht, hw⟩ := hw
      refine Gx.call (as := [.ref r3, .int a1, .int a2, .int a3, .int a4, .int a5]) (rest := []) (n := 6) zi_101_27 (by rfl) rfl (by rfl) (by rfl) (by rfl) (by decide) (by simp only [zcat, List.map, List.sum_cons, List.sum_nil, Value.category]; decide) (zrv_v ht (by rfl) (by rfl)) (by decide) ?_
      refine Ct.mono hw ?_
      rintro v h4 ⟨x5, rfl, hw⟩
      show Gx E (d + 1) 101 28 [.ref a0, .int a1, .int a2, .int a3, .int a4, .int a5, .int a6, .ref r3] [.int x5] h4 Q
      refine zg_pop zi_101_28 rfl ?_
      refine zg_aload zi_101_29 rfl ?_
      obtain ⟨ht, hw⟩ := hw
      refine zg_getL (v := .long (zL h4 r3 11)) zi_101_30 ht (by rfl) rfl ?_
      refine zg_aload zi_101_31 rfl ?_
      obtain ⟨ht, hw⟩ := hw
      obtain ⟨r6, hr, hw⟩ := hw
      refine zg_getR (v := .ref r6) zi_101_32 ht (by rfl) (by show zrv (zR h4 a0 0) = _; rw [hr]; rfl) ?_
      obtain ⟨ht, hw⟩ := hw
      refine zg_getI (v := .int (zI h4 r6 6)) zi_101_33 ht (by rfl) rfl ?_
      refine zg_iload zi_101_34 rfl ?_
      refine zg_isub zi_101_35 ?_
      refine zg_iload zi_101_36 rfl ?_
      refine Gx.call (as := [.long (zL h4 r3 11), .int ((zI h4 r6 6) - a1), .int a6]) (rest := []) (n := 3) zi_101_37 (by rfl) rfl (by rfl) (by rfl) (by rfl) (by decide) (by simp only [zcat, List.map, List.sum_cons, List.sum_nil, Value.category]; decide) (by rfl) (by decide) ?_
      refine Ct.mono hw ?_
      rintro v h7 ⟨x8, rfl, hw⟩
      show Gx E (d + 1) 101 38 [.ref a0, .int a1, .int a2, .int a3, .int a4, .int a5, .int a6, .ref r3] [.long x8] h7 Q
      exact zg_lreturn zi_101_38 hw
    · have hw := hw.2 hc
      refine zg_lconst (v := (-9000000000000000001)) zi_101_11 (by rfl) ?_
      exact zg_lreturn zi_101_12 hw
theorem zi_102_0 : (zM 102).1[0]? = some (.iload 6) := by rfl
theorem zi_102_1 : (zM 102).1[1]? = some (.ifCond .lt ((10 : Nat) : Int)) := by rfl
theorem zi_102_2 : (zM 102).1[2]? = some (.iload 6) := by rfl
theorem zi_102_3 : (zM 102).1[3]? = some (.iconst 4) := by rfl
theorem zi_102_4 : (zM 102).1[4]? = some (.if_icmp .gt ((10 : Nat) : Int)) := by rfl
theorem zi_102_5 : (zM 102).1[5]? = some (.iload 7) := by rfl
theorem zi_102_6 : (zM 102).1[6]? = some (.invokestatic 123) := by rfl
theorem zi_102_7 : (zM 102).1[7]? = some (.ifCond .eq ((10 : Nat) : Int)) := by rfl
theorem zi_102_8 : (zM 102).1[8]? = some (.iconst 1) := by rfl
theorem zi_102_9 : (zM 102).1[9]? = some (.goto ((11 : Nat) : Int)) := by rfl
theorem zi_102_10 : (zM 102).1[10]? = some (.iconst 0) := by rfl
theorem zi_102_11 : (zM 102).1[11]? = some (.istore 8) := by rfl
theorem zi_102_12 : (zM 102).1[12]? = some (.iload 8) := by rfl
theorem zi_102_13 : (zM 102).1[13]? = some (.ifCond .eq ((22 : Nat) : Int)) := by rfl
theorem zi_102_14 : (zM 102).1[14]? = some (.aload 0) := by rfl
theorem zi_102_15 : (zM 102).1[15]? = some (.iload 1) := by rfl
theorem zi_102_16 : (zM 102).1[16]? = some (.iload 2) := by rfl
theorem zi_102_17 : (zM 102).1[17]? = some (.iload 3) := by rfl
theorem zi_102_18 : (zM 102).1[18]? = some (.iload 4) := by rfl
theorem zi_102_19 : (zM 102).1[19]? = some (.iload 5) := by rfl
theorem zi_102_20 : (zM 102).1[20]? = some (.invokevirtual 127) := by rfl
theorem zi_102_21 : (zM 102).1[21]? = some (.ifCond .ne ((24 : Nat) : Int)) := by rfl
theorem zi_102_22 : (zM 102).1[22]? = some (.jsr_w (-9000000000000000001)) := by rfl
theorem zi_102_23 : (zM 102).1[23]? = some (.lreturn) := by rfl
theorem zi_102_24 : (zM 102).1[24]? = some (.aload 0) := by rfl
theorem zi_102_25 : (zM 102).1[25]? = some (.getfield 10200) := by rfl
theorem zi_102_26 : (zM 102).1[26]? = some (.iload 1) := by rfl
theorem zi_102_27 : (zM 102).1[27]? = some (.iload 6) := by rfl
theorem zi_102_28 : (zM 102).1[28]? = some (.invokevirtual 46) := by rfl
theorem zi_102_29 : (zM 102).1[29]? = some (.ifCond .ne ((32 : Nat) : Int)) := by rfl
theorem zi_102_30 : (zM 102).1[30]? = some (.jsr_w (-9000000000000000002)) := by rfl
theorem zi_102_31 : (zM 102).1[31]? = some (.lreturn) := by rfl
theorem zi_102_32 : (zM 102).1[32]? = some (.aload 0) := by rfl
theorem zi_102_33 : (zM 102).1[33]? = some (.getfield 10206) := by rfl
theorem zi_102_34 : (zM 102).1[34]? = some (.iload 1) := by rfl
theorem zi_102_35 : (zM 102).1[35]? = some (.iload 2) := by rfl
theorem zi_102_36 : (zM 102).1[36]? = some (.iload 3) := by rfl
theorem zi_102_37 : (zM 102).1[37]? = some (.iload 4) := by rfl
theorem zi_102_38 : (zM 102).1[38]? = some (.invokevirtual 16) := by rfl
theorem zi_102_39 : (zM 102).1[39]? = some (.astore 9) := by rfl
theorem zi_102_40 : (zM 102).1[40]? = some (.aload 0) := by rfl
theorem zi_102_41 : (zM 102).1[41]? = some (.getfield 10205) := by rfl
theorem zi_102_42 : (zM 102).1[42]? = some (.aload 0) := by rfl
theorem zi_102_43 : (zM 102).1[43]? = some (.getfield 10200) := by rfl
theorem zi_102_44 : (zM 102).1[44]? = some (.iload 1) := by rfl
theorem zi_102_45 : (zM 102).1[45]? = some (.iload 2) := by rfl
theorem zi_102_46 : (zM 102).1[46]? = some (.iload 3) := by rfl
theorem zi_102_47 : (zM 102).1[47]? = some (.iload 4) := by rfl
theorem zi_102_48 : (zM 102).1[48]? = some (.iload 6) := by rfl
theorem zi_102_49 : (zM 102).1[49]? = some (.invokevirtual 25) := by rfl
theorem zi_102_50 : (zM 102).1[50]? = some (.aload 0) := by rfl
theorem zi_102_51 : (zM 102).1[51]? = some (.getfield 10205) := by rfl
theorem zi_102_52 : (zM 102).1[52]? = some (.aload 0) := by rfl
theorem zi_102_53 : (zM 102).1[53]? = some (.getfield 10200) := by rfl
theorem zi_102_54 : (zM 102).1[54]? = some (.iload 1) := by rfl
theorem zi_102_55 : (zM 102).1[55]? = some (.invokevirtual 26) := by rfl
theorem zi_102_56 : (zM 102).1[56]? = some (.aload 9) := by rfl
theorem zi_102_57 : (zM 102).1[57]? = some (.aload 0) := by rfl
theorem zi_102_58 : (zM 102).1[58]? = some (.getfield 10205) := by rfl
theorem zi_102_59 : (zM 102).1[59]? = some (.iload 1) := by rfl
theorem zi_102_60 : (zM 102).1[60]? = some (.iload 5) := by rfl
theorem zi_102_61 : (zM 102).1[61]? = some (.invokevirtual 11) := by rfl
theorem zi_102_62 : (zM 102).1[62]? = some (.aload 0) := by rfl
theorem zi_102_63 : (zM 102).1[63]? = some (.getfield 10200) := by rfl
theorem zi_102_64 : (zM 102).1[64]? = some (.getfield 3006) := by rfl
theorem zi_102_65 : (zM 102).1[65]? = some (.iload 1) := by rfl
theorem zi_102_66 : (zM 102).1[66]? = some (.isub) := by rfl
theorem zi_102_67 : (zM 102).1[67]? = some (.iload 7) := by rfl
theorem zi_102_68 : (zM 102).1[68]? = some (.invokestatic 128) := by rfl
theorem zi_102_69 : (zM 102).1[69]? = some (.lreturn) := by rfl
/-- TakeOrPay.worthOf(IIIIIII)J -/
def w_102 (E : Nat → Nat) (d : Nat) (a0 : Nat) (a1 : Int32) (a2 : Int32) (a3 : Int32) (a4 : Int32) (a5 : Int32) (a6 : Int32) (a7 : Int32) (h : ZH) (Q : Option Value → ZH → Prop) : Prop := ((a6 < 0 → (True)) ∧ (¬ (a6 < 0) → (((4 < a6 → (True)) ∧ (¬ (4 < a6) → (1 ≤ d ∧ sz_123 E h a7 ∧ True))) ∧ True))) ∧ ∀ x1 : Int32, x1 = if a6 < 0 then 0 else if 4 < a6 then 0 else if (fz_123 E h a7 : Int32) = 0 then 0 else 1 → ((x1 = 0 → (Q (some (.long ((-9000000000000000001)))) h)) ∧ (¬ (x1 = 0) → (ztag h a0 = 10 ∧ 2 ≤ d ∧ sz_127 E h a0 a1 a2 a3 a4 a5 ∧ ((¬ (fz_127 E h a0 a1 a2 a3 a4 a5 : Int32) = 0 → (ztag h a0 = 10 ∧ ∃ r2 : Nat, zR h a0 0 = r2 + 1 ∧ ztag h r2 = 3 ∧ 2 ≤ d ∧ sz_46 E h r2 a1 a6 ∧ ((¬ (fz_46 E h r2 a1 a6 : Int32) = 0 → (ztag h a0 = 10 ∧ ∃ r3 : Nat, zR h a0 6 = r3 + 1 ∧ ztag h r3 = 1 ∧ Ct E d 16 [.ref r3, .int a1, .int a2, .int a3, .int a4] h (fun v h4 => ∃ r5 : Nat, v = some (.ref r5) ∧ ztag h4 a0 = 10 ∧ ∃ r6 : Nat, zR h4 a0 5 = r6 + 1 ∧ ztag h4 a0 = 10 ∧ ∃ r7 : Nat, zR h4 a0 0 = r7 + 1 ∧ ztag h4 r6 = 2 ∧ Ct E d 25 [.ref r6, .ref r7, .int a1, .int a2, .int a3, .int a4, .int a6] h4 (fun v h8 => v = none ∧ ztag h8 a0 = 10 ∧ ∃ r9 : Nat, zR h8 a0 5 = r9 + 1 ∧ ztag h8 a0 = 10 ∧ ∃ r10 : Nat, zR h8 a0 0 = r10 + 1 ∧ ztag h8 r9 = 2 ∧ Ct E d 26 [.ref r9, .ref r10, .int a1] h8 (fun v h11 => v = none ∧ ztag h11 a0 = 10 ∧ ∃ r12 : Nat, zR h11 a0 5 = r12 + 1 ∧ ztag h11 r5 = 0 ∧ 2 ≤ d ∧ sz_11 E h11 r5 r12 a1 a5 ∧ ztag h11 a0 = 10 ∧ ∃ r13 : Nat, zR h11 a0 0 = r13 + 1 ∧ ztag h11 r13 = 3 ∧ Ct E d 128 [.long (fz_11 E h11 r5 r12 a1 a5), .int ((zI h11 r13 6) - a1), .int a7] h11 (fun v h14 => ∃ x15 : Int64, v = some (.long x15) ∧ Q (some (.long x15)) h14)))))) ∧ (¬ (¬ (fz_46 E h r2 a1 a6 : Int32) = 0) → (Q (some (.long ((-9000000000000000002)))) h))))) ∧ (¬ (¬ (fz_127 E h a0 a1 a2 a3 a4 a5 : Int32) = 0) → (Q (some (.long ((-9000000000000000001)))) h))))))
set_option maxRecDepth 20000 in
theorem ok_102 {E : Nat → Nat} {d : Nat} {a0 : Nat} {a1 : Int32} {a2 : Int32} {a3 : Int32} {a4 : Int32} {a5 : Int32} {a6 : Int32} {a7 : Int32} {h : ZH} {Q : Option Value → ZH → Prop} (hw : w_102 E d a0 a1 a2 a3 a4 a5 a6 a7 h Q) : Ct E (d + 1) 102 [.ref a0, .int a1, .int a2, .int a3, .int a4, .int a5, .int a6, .int a7] h Q := by
  unfold w_102 at hw
  show Gx E (d + 1) 102 0 [.ref a0, .int a1, .int a2, .int a3, .int a4, .int a5, .int a6, .int a7, .retAddr 0, .retAddr 0] [] h Q
  refine zg_iload zi_102_0 rfl ?_
  obtain ⟨hsd1, hw⟩ := hw
  have g1 : Gx E (d + 1) 102 11 [.ref a0, .int a1, .int a2, .int a3, .int a4, .int a5, .int a6, .int a7, .retAddr 0, .retAddr 0] [.int (if a6 < 0 then 0 else if 4 < a6 then 0 else if (fz_123 E h a7 : Int32) = 0 then 0 else 1)] h Q := by
    refine zg_nameI fun x1 ex1 => ?_
    have hw := hw x1 ex1
    refine zg_istore (ls1 := [.ref a0, .int a1, .int a2, .int a3, .int a4, .int a5, .int a6, .int a7, .int x1, .retAddr 0]) zi_102_11 (by decide) rfl ?_
    refine zg_iload zi_102_12 rfl ?_
    refine zg_if_eq zi_102_13 (fun hc => ?_) (fun hc => ?_)
    · have hw := hw.1 hc
      refine zg_lconst (v := (-9000000000000000001)) zi_102_22 (by rfl) ?_
      exact zg_lreturn zi_102_23 hw
    · have hw := hw.2 hc
      refine zg_aload zi_102_14 rfl ?_
      refine zg_iload zi_102_15 rfl ?_
      refine zg_iload zi_102_16 rfl ?_
      refine zg_iload zi_102_17 rfl ?_
      refine zg_iload zi_102_18 rfl ?_
      refine zg_iload zi_102_19 rfl ?_
      obtain ⟨ht, hw⟩ := hw
      obtain ⟨hd, hs, hw⟩ := hw
      refine Gx.call (as := [.ref a0, .int a1, .int a2, .int a3, .int a4, .int a5]) (rest := []) (n := 6) zi_102_20 (by rfl) rfl (by rfl) (by rfl) (by rfl) (by decide) (by simp only [zcat, List.map, List.sum_cons, List.sum_nil, Value.category]; decide) (zrv_v ht (by rfl) (by rfl)) (by decide) ?_
      refine cz_127 hd hs ?_
      show Gx E (d + 1) 102 21 [.ref a0, .int a1, .int a2, .int a3, .int a4, .int a5, .int a6, .int a7, .int x1, .retAddr 0] [.int (fz_127 E h a0 a1 a2 a3 a4 a5)] h Q
      refine zg_if_ne zi_102_21 (fun hc => ?_) (fun hc => ?_)
      · have hw := hw.1 hc
        refine zg_aload zi_102_24 rfl ?_
        obtain ⟨ht, hw⟩ := hw
        obtain ⟨r2, hr, hw⟩ := hw
        refine zg_getR (v := .ref r2) zi_102_25 ht (by rfl) (by show zrv (zR h a0 0) = _; rw [hr]; rfl) ?_
        refine zg_iload zi_102_26 rfl ?_
        refine zg_iload zi_102_27 rfl ?_
        obtain ⟨ht, hw⟩ := hw
        obtain ⟨hd, hs, hw⟩ := hw
        refine Gx.call (as := [.ref r2, .int a1, .int a6]) (rest := []) (n := 3) zi_102_28 (by rfl) rfl (by rfl) (by rfl) (by rfl) (by decide) (by simp only [zcat, List.map, List.sum_cons, List.sum_nil, Value.category]; decide) (zrv_v ht (by rfl) (by rfl)) (by decide) ?_
        refine cz_46 hd hs ?_
        show Gx E (d + 1) 102 29 [.ref a0, .int a1, .int a2, .int a3, .int a4, .int a5, .int a6, .int a7, .int x1, .retAddr 0] [.int (fz_46 E h r2 a1 a6)] h Q
        refine zg_if_ne zi_102_29 (fun hc => ?_) (fun hc => ?_)
        · have hw := hw.1 hc
          refine zg_aload zi_102_32 rfl ?_
          obtain ⟨ht, hw⟩ := hw
          obtain ⟨r3, hr, hw⟩ := hw
          refine zg_getR (v := .ref r3) zi_102_33 ht (by rfl) (by show zrv (zR h a0 6) = _; rw [hr]; rfl) ?_
          refine zg_iload zi_102_34 rfl ?_
          refine zg_iload zi_102_35 rfl ?_
          refine zg_iload zi_102_36 rfl ?_
          refine zg_iload zi_102_37 rfl ?_
          obtain ⟨ht, hw⟩ := hw
          refine Gx.call (as := [.ref r3, .int a1, .int a2, .int a3, .int a4]) (rest := []) (n := 5) zi_102_38 (by rfl) rfl (by rfl) (by rfl) (by rfl) (by decide) (by simp only [zcat, List.map, List.sum_cons, List.sum_nil, Value.category]; decide) (zrv_v ht (by rfl) (by rfl)) (by decide) ?_
          refine Ct.mono hw ?_
          rintro v h4 ⟨r5, rfl, hw⟩
          show Gx E (d + 1) 102 39 [.ref a0, .int a1, .int a2, .int a3, .int a4, .int a5, .int a6, .int a7, .int x1, .retAddr 0] [.ref r5] h4 Q
          refine zg_astore (ls1 := [.ref a0, .int a1, .int a2, .int a3, .int a4, .int a5, .int a6, .int a7, .int x1, .ref r5]) zi_102_39 (by decide) rfl ?_
          refine zg_aload zi_102_40 rfl ?_
          obtain ⟨ht, hw⟩ := hw
          obtain ⟨r6, hr, hw⟩ := hw
          refine zg_getR (v := .ref r6) zi_102_41 ht (by rfl) (by show zrv (zR h4 a0 5) = _; rw [hr]; rfl) ?_
          refine zg_aload zi_102_42 rfl ?_
          obtain ⟨ht, hw⟩ := hw
          obtain ⟨r7, hr, hw⟩ := hw
          refine zg_getR (v := .ref r7) zi_102_43 ht (by rfl) (by show zrv (zR h4 a0 0) = _; rw [hr]; rfl) ?_
          refine zg_iload zi_102_44 rfl ?_
          refine zg_iload zi_102_45 rfl ?_
          refine zg_iload zi_102_46 rfl ?_
          refine zg_iload zi_102_47 rfl ?_
          refine zg_iload zi_102_48 rfl ?_
          obtain ⟨ht, hw⟩ := hw
          refine Gx.call (as := [.ref r6, .ref r7, .int a1, .int a2, .int a3, .int a4, .int a6]) (rest := []) (n := 7) zi_102_49 (by rfl) rfl (by rfl) (by rfl) (by rfl) (by decide) (by simp only [zcat, List.map, List.sum_cons, List.sum_nil, Value.category]; decide) (zrv_v ht (by rfl) (by rfl)) (by decide) ?_
          refine Ct.mono hw ?_
          rintro v h8 ⟨rfl, hw⟩
          show Gx E (d + 1) 102 50 [.ref a0, .int a1, .int a2, .int a3, .int a4, .int a5, .int a6, .int a7, .int x1, .ref r5] [] h8 Q
          refine zg_aload zi_102_50 rfl ?_
          obtain ⟨ht, hw⟩ := hw
          obtain ⟨r9, hr, hw⟩ := hw
          refine zg_getR (v := .ref r9) zi_102_51 ht (by rfl) (by show zrv (zR h8 a0 5) = _; rw [hr]; rfl) ?_
          refine zg_aload zi_102_52 rfl ?_
          obtain ⟨ht, hw⟩ := hw
          obtain ⟨r10, hr, hw⟩ := hw
          refine zg_getR (v := .ref r10) zi_102_53 ht (by rfl) (by show zrv (zR h8 a0 0) = _; rw [hr]; rfl) ?_
          refine zg_iload zi_102_54 rfl ?_
          obtain ⟨ht, hw⟩ := hw
          refine Gx.call (as := [.ref r9, .ref r10, .int a1]) (rest := []) (n := 3) zi_102_55 (by rfl) rfl (by rfl) (by rfl) (by rfl) (by decide) (by simp only [zcat, List.map, List.sum_cons, List.sum_nil, Value.category]; decide) (zrv_v ht (by rfl) (by rfl)) (by decide) ?_
          refine Ct.mono hw ?_
          rintro v h11 ⟨rfl, hw⟩
          show Gx E (d + 1) 102 56 [.ref a0, .int a1, .int a2, .int a3, .int a4, .int a5, .int a6, .int a7, .int x1, .ref r5] [] h11 Q
          refine zg_aload zi_102_56 rfl ?_
          refine zg_aload zi_102_57 rfl ?_
          obtain ⟨ht, hw⟩ := hw
          obtain ⟨r12, hr, hw⟩ := hw
          refine zg_getR (v := .ref r12) zi_102_58 ht (by rfl) (by show zrv (zR h11 a0 5) = _; rw [hr]; rfl) ?_
          refine zg_iload zi_102_59 rfl ?_
          refine zg_iload zi_102_60 rfl ?_
          obtain ⟨ht, hw⟩ := hw
          obtain ⟨hd, hs, hw⟩ := hw
          refine Gx.call (as := [.ref r5, .ref r12, .int a1, .int a5]) (rest := []) (n := 4) zi_102_61 (by rfl) rfl (by rfl) (by rfl) (by rfl) (by decide) (by simp only [zcat, List.map, List.sum_cons, List.sum_nil, Value.category]; decide) (zrv_v ht (by rfl) (by rfl)) (by decide) ?_
          refine cz_11 hd hs ?_
          show Gx E (d + 1) 102 62 [.ref a0, .int a1, .int a2, .int a3, .int a4, .int a5, .int a6, .int a7, .int x1, .ref r5] [.long (fz_11 E h11 r5 r12 a1 a5)] h11 Q
          refine zg_aload zi_102_62 rfl ?_
          obtain ⟨ht, hw⟩ := hw
          obtain ⟨r13, hr, hw⟩ := hw
          refine zg_getR (v := .ref r13) zi_102_63 ht (by rfl) (by show zrv (zR h11 a0 0) = _; rw [hr]; rfl) ?_
          obtain ⟨ht, hw⟩ := hw
          refine zg_getI (v := .int (zI h11 r13 6)) zi_102_64 ht (by rfl) rfl ?_
          refine zg_iload zi_102_65 rfl ?_
          refine zg_isub zi_102_66 ?_
          refine zg_iload zi_102_67 rfl ?_
          refine Gx.call (as := [.long (fz_11 E h11 r5 r12 a1 a5), .int ((zI h11 r13 6) - a1), .int a7]) (rest := []) (n := 3) zi_102_68 (by rfl) rfl (by rfl) (by rfl) (by rfl) (by decide) (by simp only [zcat, List.map, List.sum_cons, List.sum_nil, Value.category]; decide) (by rfl) (by decide) ?_
          refine Ct.mono hw ?_
          rintro v h14 ⟨x15, rfl, hw⟩
          show Gx E (d + 1) 102 69 [.ref a0, .int a1, .int a2, .int a3, .int a4, .int a5, .int a6, .int a7, .int x1, .ref r5] [.long x15] h14 Q
          exact zg_lreturn zi_102_69 hw
        · have hw := hw.2 hc
          refine zg_lconst (v := (-9000000000000000002)) zi_102_30 (by rfl) ?_
          exact zg_lreturn zi_102_31 hw
      · have hw := hw.2 hc
        refine zg_lconst (v := (-9000000000000000001)) zi_102_22 (by rfl) ?_
        exact zg_lreturn zi_102_23 hw
  refine zg_if_lt zi_102_1 (fun hc1 => ?_) (fun hc1 => ?_)
  · have hw := hsd1.1 hc1
    refine zg_const (v := 0) zi_102_10 (by rfl) ?_
    have hg := g1
    simp only [if_pos hc1] at hg
    exact hg
  · have hw := hsd1.2 hc1
    refine zg_iload zi_102_2 rfl ?_
    refine zg_const (v := 4) zi_102_3 (by rfl) ?_
    obtain ⟨hsd4, hw⟩ := hw
    have g4 : Gx E (d + 1) 102 11 [.ref a0, .int a1, .int a2, .int a3, .int a4, .int a5, .int a6, .int a7, .retAddr 0, .retAddr 0] [.int (if 4 < a6 then 0 else if (fz_123 E h a7 : Int32) = 0 then 0 else 1)] h Q := by
      have hg := g1
      simp only [if_neg hc1] at hg
      exact hg
    refine zg_icmp_gt zi_102_4 (fun hc4 => ?_) (fun hc4 => ?_)
    · have hw := hsd4.1 hc4
      refine zg_const (v := 0) zi_102_10 (by rfl) ?_
      have hg := g4
      simp only [if_pos hc4] at hg
      exact hg
    · have hw := hsd4.2 hc4
      refine zg_iload zi_102_5 rfl ?_
      obtain ⟨hd, hs, hw⟩ := hw
      refine Gx.call (as := [.int a7]) (rest := []) (n := 1) zi_102_6 (by rfl) rfl (by rfl) (by rfl) (by rfl) (by decide) (by simp only [zcat, List.map, List.sum_cons, List.sum_nil, Value.category]; decide) (by rfl) (by decide) ?_
      refine cz_123 hd hs ?_
      show Gx E (d + 1) 102 7 [.ref a0, .int a1, .int a2, .int a3, .int a4, .int a5, .int a6, .int a7, .retAddr 0, .retAddr 0] [.int (fz_123 E h a7)] h Q
      have g7 : Gx E (d + 1) 102 11 [.ref a0, .int a1, .int a2, .int a3, .int a4, .int a5, .int a6, .int a7, .retAddr 0, .retAddr 0] [.int (if (fz_123 E h a7 : Int32) = 0 then 0 else 1)] h Q := by
        have hg := g4
        simp only [if_neg hc4] at hg
        exact hg
      refine zg_if_eq zi_102_7 (fun hc7 => ?_) (fun hc7 => ?_)
      · skip
        refine zg_const (v := 0) zi_102_10 (by rfl) ?_
        have hg := g7
        simp only [if_pos hc7] at hg
        exact hg
      · skip
        refine zg_const (v := 1) zi_102_8 (by rfl) ?_
        refine zg_goto zi_102_9 ?_
        have hg := g7
        simp only [if_neg hc7] at hg
        exact hg
theorem zi_103_0 : (zM 103).1[0]? = some (.iload 1) := by rfl
theorem zi_103_1 : (zM 103).1[1]? = some (.ifCond .lt ((8 : Nat) : Int)) := by rfl
theorem zi_103_2 : (zM 103).1[2]? = some (.iload 1) := by rfl
theorem zi_103_3 : (zM 103).1[3]? = some (.iconst 1) := by rfl
theorem zi_103_4 : (zM 103).1[4]? = some (.if_icmp .gt ((8 : Nat) : Int)) := by rfl
theorem zi_103_5 : (zM 103).1[5]? = some (.iload 2) := by rfl
theorem zi_103_6 : (zM 103).1[6]? = some (.invokestatic 123) := by rfl
theorem zi_103_7 : (zM 103).1[7]? = some (.ifCond .ne ((10 : Nat) : Int)) := by rfl
theorem zi_103_8 : (zM 103).1[8]? = some (.jsr_w (-9000000000000000001)) := by rfl
theorem zi_103_9 : (zM 103).1[9]? = some (.lreturn) := by rfl
theorem zi_103_10 : (zM 103).1[10]? = some (.aload 0) := by rfl
theorem zi_103_11 : (zM 103).1[11]? = some (.getfield 10206) := by rfl
theorem zi_103_12 : (zM 103).1[12]? = some (.invokevirtual 18) := by rfl
theorem zi_103_13 : (zM 103).1[13]? = some (.aload 0) := by rfl
theorem zi_103_14 : (zM 103).1[14]? = some (.getfield 10206) := by rfl
theorem zi_103_15 : (zM 103).1[15]? = some (.getfield 1212) := by rfl
theorem zi_103_16 : (zM 103).1[16]? = some (.iload 1) := by rfl
theorem zi_103_17 : (zM 103).1[17]? = some (.laload) := by rfl
theorem zi_103_18 : (zM 103).1[18]? = some (.aload 0) := by rfl
theorem zi_103_19 : (zM 103).1[19]? = some (.getfield 10200) := by rfl
theorem zi_103_20 : (zM 103).1[20]? = some (.getfield 3006) := by rfl
theorem zi_103_21 : (zM 103).1[21]? = some (.iload 2) := by rfl
theorem zi_103_22 : (zM 103).1[22]? = some (.invokestatic 128) := by rfl
theorem zi_103_23 : (zM 103).1[23]? = some (.lreturn) := by rfl
/-- TakeOrPay.whole(II)J -/
def w_103 (E : Nat → Nat) (d : Nat) (a0 : Nat) (a1 : Int32) (a2 : Int32) (h : ZH) (Q : Option Value → ZH → Prop) : Prop := (a1 < 0 → (Q (some (.long ((-9000000000000000001)))) h)) ∧ (¬ (a1 < 0) → ((1 < a1 → (Q (some (.long ((-9000000000000000001)))) h)) ∧ (¬ (1 < a1) → (1 ≤ d ∧ sz_123 E h a2 ∧ ((¬ (fz_123 E h a2 : Int32) = 0 → (ztag h a0 = 10 ∧ ∃ r1 : Nat, zR h a0 6 = r1 + 1 ∧ ztag h r1 = 1 ∧ Ct E d 18 [.ref r1] h (fun v h2 => v = none ∧ ztag h2 a0 = 10 ∧ ∃ r3 : Nat, zR h2 a0 6 = r3 + 1 ∧ ztag h2 r3 = 1 ∧ ∃ r4 : Nat, zR h2 r3 12 = r4 + 1 ∧ ztag h2 r4 = 14 ∧ zin a1 (zlen h2 r4) = true ∧ ztag h2 a0 = 10 ∧ ∃ r5 : Nat, zR h2 a0 0 = r5 + 1 ∧ ztag h2 r5 = 3 ∧ Ct E d 128 [.long (zL h2 r4 a1.toNatClampNeg), .int (zI h2 r5 6), .int a2] h2 (fun v h6 => ∃ x7 : Int64, v = some (.long x7) ∧ Q (some (.long x7)) h6)))) ∧ (¬ (¬ (fz_123 E h a2 : Int32) = 0) → (Q (some (.long ((-9000000000000000001)))) h)))))))
set_option maxRecDepth 20000 in
theorem ok_103 {E : Nat → Nat} {d : Nat} {a0 : Nat} {a1 : Int32} {a2 : Int32} {h : ZH} {Q : Option Value → ZH → Prop} (hw : w_103 E d a0 a1 a2 h Q) : Ct E (d + 1) 103 [.ref a0, .int a1, .int a2] h Q := by
  unfold w_103 at hw
  show Gx E (d + 1) 103 0 [.ref a0, .int a1, .int a2] [] h Q
  refine zg_iload zi_103_0 rfl ?_
  refine zg_if_lt zi_103_1 (fun hc => ?_) (fun hc => ?_)
  · have hw := hw.1 hc
    refine zg_lconst (v := (-9000000000000000001)) zi_103_8 (by rfl) ?_
    exact zg_lreturn zi_103_9 hw
  · have hw := hw.2 hc
    refine zg_iload zi_103_2 rfl ?_
    refine zg_const (v := 1) zi_103_3 (by rfl) ?_
    refine zg_icmp_gt zi_103_4 (fun hc => ?_) (fun hc => ?_)
    · have hw := hw.1 hc
      refine zg_lconst (v := (-9000000000000000001)) zi_103_8 (by rfl) ?_
      exact zg_lreturn zi_103_9 hw
    · have hw := hw.2 hc
      refine zg_iload zi_103_5 rfl ?_
      obtain ⟨hd, hs, hw⟩ := hw
      refine Gx.call (as := [.int a2]) (rest := []) (n := 1) zi_103_6 (by rfl) rfl (by rfl) (by rfl) (by rfl) (by decide) (by simp only [zcat, List.map, List.sum_cons, List.sum_nil, Value.category]; decide) (by rfl) (by decide) ?_
      refine cz_123 hd hs ?_
      show Gx E (d + 1) 103 7 [.ref a0, .int a1, .int a2] [.int (fz_123 E h a2)] h Q
      refine zg_if_ne zi_103_7 (fun hc => ?_) (fun hc => ?_)
      · have hw := hw.1 hc
        refine zg_aload zi_103_10 rfl ?_
        obtain ⟨ht, hw⟩ := hw
        obtain ⟨r1, hr, hw⟩ := hw
        refine zg_getR (v := .ref r1) zi_103_11 ht (by rfl) (by show zrv (zR h a0 6) = _; rw [hr]; rfl) ?_
        obtain ⟨ht, hw⟩ := hw
        refine Gx.call (as := [.ref r1]) (rest := []) (n := 1) zi_103_12 (by rfl) rfl (by rfl) (by rfl) (by rfl) (by decide) (by simp only [zcat, List.map, List.sum_cons, List.sum_nil, Value.category]; decide) (zrv_v ht (by rfl) (by rfl)) (by decide) ?_
        refine Ct.mono hw ?_
        rintro v h2 ⟨rfl, hw⟩
        show Gx E (d + 1) 103 13 [.ref a0, .int a1, .int a2] [] h2 Q
        refine zg_aload zi_103_13 rfl ?_
        obtain ⟨ht, hw⟩ := hw
        obtain ⟨r3, hr, hw⟩ := hw
        refine zg_getR (v := .ref r3) zi_103_14 ht (by rfl) (by show zrv (zR h2 a0 6) = _; rw [hr]; rfl) ?_
        obtain ⟨ht, hw⟩ := hw
        obtain ⟨r4, hr, hw⟩ := hw
        refine zg_getR (v := .ref r4) zi_103_15 ht (by rfl) (by show zrv (zR h2 r3 12) = _; rw [hr]; rfl) ?_
        refine zg_iload zi_103_16 rfl ?_
        obtain ⟨ht, hb, hw⟩ := hw
        refine zg_laload (v := .long (zL h2 r4 a1.toNatClampNeg)) zi_103_17 ht hb rfl ?_
        refine zg_aload zi_103_18 rfl ?_
        obtain ⟨ht, hw⟩ := hw
        obtain ⟨r5, hr, hw⟩ := hw
        refine zg_getR (v := .ref r5) zi_103_19 ht (by rfl) (by show zrv (zR h2 a0 0) = _; rw [hr]; rfl) ?_
        obtain ⟨ht, hw⟩ := hw
        refine zg_getI (v := .int (zI h2 r5 6)) zi_103_20 ht (by rfl) rfl ?_
        refine zg_iload zi_103_21 rfl ?_
        refine Gx.call (as := [.long (zL h2 r4 a1.toNatClampNeg), .int (zI h2 r5 6), .int a2]) (rest := []) (n := 3) zi_103_22 (by rfl) rfl (by rfl) (by rfl) (by rfl) (by decide) (by simp only [zcat, List.map, List.sum_cons, List.sum_nil, Value.category]; decide) (by rfl) (by decide) ?_
        refine Ct.mono hw ?_
        rintro v h6 ⟨x7, rfl, hw⟩
        show Gx E (d + 1) 103 23 [.ref a0, .int a1, .int a2] [.long x7] h6 Q
        exact zg_lreturn zi_103_23 hw
      · have hw := hw.2 hc
        refine zg_lconst (v := (-9000000000000000001)) zi_103_8 (by rfl) ?_
        exact zg_lreturn zi_103_9 hw
theorem zi_104_0 : (zM 104).1[0]? = some (.iload 1) := by rfl
theorem zi_104_1 : (zM 104).1[1]? = some (.ifCond .lt ((5 : Nat) : Int)) := by rfl
theorem zi_104_2 : (zM 104).1[2]? = some (.iload 1) := by rfl
theorem zi_104_3 : (zM 104).1[3]? = some (.iconst 5) := by rfl
theorem zi_104_4 : (zM 104).1[4]? = some (.if_icmp .le ((7 : Nat) : Int)) := by rfl
theorem zi_104_5 : (zM 104).1[5]? = some (.jsr_w (-1)) := by rfl
theorem zi_104_6 : (zM 104).1[6]? = some (.lreturn) := by rfl
theorem zi_104_7 : (zM 104).1[7]? = some (.aload 0) := by rfl
theorem zi_104_8 : (zM 104).1[8]? = some (.getfield 10206) := by rfl
theorem zi_104_9 : (zM 104).1[9]? = some (.invokevirtual 18) := by rfl
theorem zi_104_10 : (zM 104).1[10]? = some (.aload 0) := by rfl
theorem zi_104_11 : (zM 104).1[11]? = some (.getfield 10206) := by rfl
theorem zi_104_12 : (zM 104).1[12]? = some (.getfield 1212) := by rfl
theorem zi_104_13 : (zM 104).1[13]? = some (.iconst 2) := by rfl
theorem zi_104_14 : (zM 104).1[14]? = some (.iload 1) := by rfl
theorem zi_104_15 : (zM 104).1[15]? = some (.iconst 2) := by rfl
theorem zi_104_16 : (zM 104).1[16]? = some (.idiv) := by rfl
theorem zi_104_17 : (zM 104).1[17]? = some (.iadd) := by rfl
theorem zi_104_18 : (zM 104).1[18]? = some (.laload) := by rfl
theorem zi_104_19 : (zM 104).1[19]? = some (.aload 0) := by rfl
theorem zi_104_20 : (zM 104).1[20]? = some (.getfield 10200) := by rfl
theorem zi_104_21 : (zM 104).1[21]? = some (.getfield 3006) := by rfl
theorem zi_104_22 : (zM 104).1[22]? = some (.iload 1) := by rfl
theorem zi_104_23 : (zM 104).1[23]? = some (.iconst 2) := by rfl
theorem zi_104_24 : (zM 104).1[24]? = some (.irem) := by rfl
theorem zi_104_25 : (zM 104).1[25]? = some (.invokestatic 128) := by rfl
theorem zi_104_26 : (zM 104).1[26]? = some (.lreturn) := by rfl
/-- TakeOrPay.units(I)J -/
def w_104 (E : Nat → Nat) (d : Nat) (a0 : Nat) (a1 : Int32) (h : ZH) (Q : Option Value → ZH → Prop) : Prop := (a1 < 0 → (Q (some (.long ((-1)))) h)) ∧ (¬ (a1 < 0) → ((a1 ≤ 5 → (ztag h a0 = 10 ∧ ∃ r1 : Nat, zR h a0 6 = r1 + 1 ∧ ztag h r1 = 1 ∧ Ct E d 18 [.ref r1] h (fun v h2 => v = none ∧ ztag h2 a0 = 10 ∧ ∃ r3 : Nat, zR h2 a0 6 = r3 + 1 ∧ ztag h2 r3 = 1 ∧ ∃ r4 : Nat, zR h2 r3 12 = r4 + 1 ∧ ztag h2 r4 = 14 ∧ zin (2 + (a1 / 2)) (zlen h2 r4) = true ∧ ztag h2 a0 = 10 ∧ ∃ r5 : Nat, zR h2 a0 0 = r5 + 1 ∧ ztag h2 r5 = 3 ∧ Ct E d 128 [.long (zL h2 r4 (2 + (a1 / 2) : Int32).toNatClampNeg), .int (zI h2 r5 6), .int (a1 - a1 / 2 * 2)] h2 (fun v h6 => ∃ x7 : Int64, v = some (.long x7) ∧ Q (some (.long x7)) h6)))) ∧ (¬ (a1 ≤ 5) → (Q (some (.long ((-1)))) h))))
set_option maxRecDepth 20000 in
theorem ok_104 {E : Nat → Nat} {d : Nat} {a0 : Nat} {a1 : Int32} {h : ZH} {Q : Option Value → ZH → Prop} (hw : w_104 E d a0 a1 h Q) : Ct E (d + 1) 104 [.ref a0, .int a1] h Q := by
  unfold w_104 at hw
  show Gx E (d + 1) 104 0 [.ref a0, .int a1] [] h Q
  refine zg_iload zi_104_0 rfl ?_
  refine zg_if_lt zi_104_1 (fun hc => ?_) (fun hc => ?_)
  · have hw := hw.1 hc
    refine zg_lconst (v := (-1)) zi_104_5 (by rfl) ?_
    exact zg_lreturn zi_104_6 hw
  · have hw := hw.2 hc
    refine zg_iload zi_104_2 rfl ?_
    refine zg_const (v := 5) zi_104_3 (by rfl) ?_
    refine zg_icmp_le zi_104_4 (fun hc => ?_) (fun hc => ?_)
    · have hw := hw.1 hc
      refine zg_aload zi_104_7 rfl ?_
      obtain ⟨ht, hw⟩ := hw
      obtain ⟨r1, hr, hw⟩ := hw
      refine zg_getR (v := .ref r1) zi_104_8 ht (by rfl) (by show zrv (zR h a0 6) = _; rw [hr]; rfl) ?_
      obtain ⟨ht, hw⟩ := hw
      refine Gx.call (as := [.ref r1]) (rest := []) (n := 1) zi_104_9 (by rfl) rfl (by rfl) (by rfl) (by rfl) (by decide) (by simp only [zcat, List.map, List.sum_cons, List.sum_nil, Value.category]; decide) (zrv_v ht (by rfl) (by rfl)) (by decide) ?_
      refine Ct.mono hw ?_
      rintro v h2 ⟨rfl, hw⟩
      show Gx E (d + 1) 104 10 [.ref a0, .int a1] [] h2 Q
      refine zg_aload zi_104_10 rfl ?_
      obtain ⟨ht, hw⟩ := hw
      obtain ⟨r3, hr, hw⟩ := hw
      refine zg_getR (v := .ref r3) zi_104_11 ht (by rfl) (by show zrv (zR h2 a0 6) = _; rw [hr]; rfl) ?_
      obtain ⟨ht, hw⟩ := hw
      obtain ⟨r4, hr, hw⟩ := hw
      refine zg_getR (v := .ref r4) zi_104_12 ht (by rfl) (by show zrv (zR h2 r3 12) = _; rw [hr]; rfl) ?_
      refine zg_const (v := 2) zi_104_13 (by rfl) ?_
      refine zg_iload zi_104_14 rfl ?_
      refine zg_const (v := 2) zi_104_15 (by rfl) ?_
      refine zg_idiv zi_104_16 (by decide) ?_
      refine zg_iadd zi_104_17 ?_
      obtain ⟨ht, hb, hw⟩ := hw
      refine zg_laload (v := .long (zL h2 r4 (2 + (a1 / 2) : Int32).toNatClampNeg)) zi_104_18 ht hb rfl ?_
      refine zg_aload zi_104_19 rfl ?_
      obtain ⟨ht, hw⟩ := hw
      obtain ⟨r5, hr, hw⟩ := hw
      refine zg_getR (v := .ref r5) zi_104_20 ht (by rfl) (by show zrv (zR h2 a0 0) = _; rw [hr]; rfl) ?_
      obtain ⟨ht, hw⟩ := hw
      refine zg_getI (v := .int (zI h2 r5 6)) zi_104_21 ht (by rfl) rfl ?_
      refine zg_iload zi_104_22 rfl ?_
      refine zg_const (v := 2) zi_104_23 (by rfl) ?_
      refine zg_irem zi_104_24 (by decide) ?_
      refine Gx.call (as := [.long (zL h2 r4 (2 + (a1 / 2) : Int32).toNatClampNeg), .int (zI h2 r5 6), .int (a1 - a1 / 2 * 2)]) (rest := []) (n := 3) zi_104_25 (by rfl) rfl (by rfl) (by rfl) (by rfl) (by decide) (by simp only [zcat, List.map, List.sum_cons, List.sum_nil, Value.category]; decide) (by rfl) (by decide) ?_
      refine Ct.mono hw ?_
      rintro v h6 ⟨x7, rfl, hw⟩
      show Gx E (d + 1) 104 26 [.ref a0, .int a1] [.long x7] h6 Q
      exact zg_lreturn zi_104_26 hw
    · have hw := hw.2 hc
      refine zg_lconst (v := (-1)) zi_104_5 (by rfl) ?_
      exact zg_lreturn zi_104_6 hw
