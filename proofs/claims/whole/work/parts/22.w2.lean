/-! what each method needs and does, printed by wip/whole/dec.py: part 2 -/
theorem zq_63 : zQ 63 1 2 4 := by unfold zQ; decide +kernel
theorem zi_63_0 : (zM 63).1[0]? = some (.aload 0) := by rfl
theorem zi_63_1 : (zM 63).1[1]? = some (.getfield 4005) := by rfl
theorem zi_63_2 : (zM 63).1[2]? = some (.iconst 15) := by rfl
theorem zi_63_3 : (zM 63).1[3]? = some (.if_icmp .ne ((10 : Nat) : Int)) := by rfl
theorem zi_63_4 : (zM 63).1[4]? = some (.aload 0) := by rfl
theorem zi_63_5 : (zM 63).1[5]? = some (.getfield 4006) := by rfl
theorem zi_63_6 : (zM 63).1[6]? = some (.iconst 3) := by rfl
theorem zi_63_7 : (zM 63).1[7]? = some (.if_icmp .ne ((10 : Nat) : Int)) := by rfl
theorem zi_63_8 : (zM 63).1[8]? = some (.iconst 1) := by rfl
theorem zi_63_9 : (zM 63).1[9]? = some (.goto ((11 : Nat) : Int)) := by rfl
theorem zi_63_10 : (zM 63).1[10]? = some (.iconst 0) := by rfl
theorem zi_63_11 : (zM 63).1[11]? = some (.istore 1) := by rfl
theorem zi_63_12 : (zM 63).1[12]? = some (.iload 1) := by rfl
theorem zi_63_13 : (zM 63).1[13]? = some (.ifCond .eq ((37 : Nat) : Int)) := by rfl
theorem zi_63_14 : (zM 63).1[14]? = some (.aload 0) := by rfl
theorem zi_63_15 : (zM 63).1[15]? = some (.getfield 4201) := by rfl
theorem zi_63_16 : (zM 63).1[16]? = some (.getfield 3200) := by rfl
theorem zi_63_17 : (zM 63).1[17]? = some (.aload 0) := by rfl
theorem zi_63_18 : (zM 63).1[18]? = some (.getfield 4007) := by rfl
theorem zi_63_19 : (zM 63).1[19]? = some (.iconst 2) := by rfl
theorem zi_63_20 : (zM 63).1[20]? = some (.isub) := by rfl
theorem zi_63_21 : (zM 63).1[21]? = some (.iaload) := by rfl
theorem zi_63_22 : (zM 63).1[22]? = some (.aload 0) := by rfl
theorem zi_63_23 : (zM 63).1[23]? = some (.getfield 4201) := by rfl
theorem zi_63_24 : (zM 63).1[24]? = some (.getfield 3200) := by rfl
theorem zi_63_25 : (zM 63).1[25]? = some (.aload 0) := by rfl
theorem zi_63_26 : (zM 63).1[26]? = some (.getfield 4007) := by rfl
theorem zi_63_27 : (zM 63).1[27]? = some (.iconst 1) := by rfl
theorem zi_63_28 : (zM 63).1[28]? = some (.isub) := by rfl
theorem zi_63_29 : (zM 63).1[29]? = some (.iaload) := by rfl
theorem zi_63_30 : (zM 63).1[30]? = some (.iadd) := by rfl
theorem zi_63_31 : (zM 63).1[31]? = some (.aload 0) := by rfl
theorem zi_63_32 : (zM 63).1[32]? = some (.getfield 4200) := by rfl
theorem zi_63_33 : (zM 63).1[33]? = some (.getfield 8004) := by rfl
theorem zi_63_34 : (zM 63).1[34]? = some (.iadd) := by rfl
theorem zi_63_35 : (zM 63).1[35]? = some (.iconst 4) := by rfl
theorem zi_63_36 : (zM 63).1[36]? = some (.if_icmp .ne ((39 : Nat) : Int)) := by rfl
theorem zi_63_37 : (zM 63).1[37]? = some (.iconst 1) := by rfl
theorem zi_63_38 : (zM 63).1[38]? = some (.goto ((40 : Nat) : Int)) := by rfl
theorem zi_63_39 : (zM 63).1[39]? = some (.iconst 0) := by rfl
theorem zi_63_40 : (zM 63).1[40]? = some (.ireturn) := by rfl
/-- TakeOrPay$Reader.fitsChances()Z -/
def w_63 (E : Nat → Nat) (d : Nat) (a0 : Nat) (h : ZH) (Q : Option Value → ZH → Prop) : Prop := ztag h a0 = 4 ∧ ∀ x2 : Int32, x2 = (if ¬ (zI h a0 5 : Int32) = 15 then 0 else if ¬ (zI h a0 6 : Int32) = 3 then 0 else 1) → (((x2 = 0 → (True)) ∧ (¬ (x2 = 0) → (¬ zR h a0 1 = 0 ∧ ztag h (zR h a0 1 - 1) = 3 ∧ ¬ zR h (zR h a0 1 - 1) 0 = 0 ∧ (ztag h (zR h (zR h a0 1 - 1) 0 - 1) = 13 ∨ ztag h (zR h (zR h a0 1 - 1) 0 - 1) = 19) ∧ zin ((zI h a0 7) - 2) (zlen h (zR h (zR h a0 1 - 1) 0 - 1)) = true ∧ ¬ zR h a0 1 = 0 ∧ ¬ zR h (zR h a0 1 - 1) 0 = 0 ∧ zin ((zI h a0 7) - 1) (zlen h (zR h (zR h a0 1 - 1) 0 - 1)) = true ∧ ¬ zR h a0 0 = 0 ∧ ztag h (zR h a0 0 - 1) = 8 ∧ True))) ∧ Q (some (.int (if x2 = 0 then 1 else if ¬ (((zI h (zR h (zR h a0 1 - 1) 0 - 1) ((zI h a0 7) - 2 : Int32).toNatClampNeg) + (zI h (zR h (zR h a0 1 - 1) 0 - 1) ((zI h a0 7) - 1 : Int32).toNatClampNeg)) + (zI h (zR h a0 0 - 1) 4) : Int32) = 4 then 0 else 1))) h)
set_option maxRecDepth 20000 in
theorem ok_63 {E : Nat → Nat} {d : Nat} {a0 : Nat} {h : ZH} {Q : Option Value → ZH → Prop} (hw : w_63 E d a0 h Q) : Ct E (d + 1) 63 [.ref a0] h Q := by
  unfold w_63 at hw
  show Gx E (d + 1) 63 0 [.ref a0, .retAddr 0] [] h Q
  refine zg_aload zi_63_0 rfl ?_
  obtain ⟨t1, hw⟩ := hw
  refine zg_getI (v := .int (zI h a0 5)) zi_63_1 t1 (by rfl) rfl ?_
  refine zg_const (v := 15) zi_63_2 (by rfl) ?_
  have g3 : Gx E (d + 1) 63 11 [.ref a0, .retAddr 0] [.int (if ¬ (zI h a0 5 : Int32) = 15 then 0 else if ¬ (zI h a0 6 : Int32) = 3 then 0 else 1)] h Q := by
    refine zg_nameI fun x2 ex2 => ?_
    have hw := hw x2 ex2
    refine zg_istore (ls1 := [.ref a0, .int x2]) zi_63_11 (Nat.le_of_ble_eq_true rfl) rfl ?_
    refine zg_iload zi_63_12 rfl ?_
    obtain ⟨hsd13, hw⟩ := hw
    have g13 : Gx E (d + 1) 63 40 [.ref a0, .int x2] [.int (if x2 = 0 then 1 else if ¬ (((zI h (zR h (zR h a0 1 - 1) 0 - 1) ((zI h a0 7) - 2 : Int32).toNatClampNeg) + (zI h (zR h (zR h a0 1 - 1) 0 - 1) ((zI h a0 7) - 1 : Int32).toNatClampNeg)) + (zI h (zR h a0 0 - 1) 4) : Int32) = 4 then 0 else 1)] h Q := by
      exact zg_zreturn zi_63_40 (by (repeat' split) <;> first | (left; rfl) | (right; rfl)) hw
    refine zg_if_eq zi_63_13 (fun hc13 => ?_) (fun hc13 => ?_)
    · have hw := hsd13.1 hc13
      refine zg_const (v := 1) zi_63_37 (by rfl) ?_
      refine zg_goto zi_63_38 ?_
      have hg := g13
      simp only [if_pos hc13] at hg
      exact hg
    · have hw := hsd13.2 hc13
      refine zg_aload zi_63_14 rfl ?_
      obtain ⟨hr, hw⟩ := hw
      refine zg_getR (v := .ref (zR h a0 1 - 1)) zi_63_15 t1 (by rfl) (zrv_p hr) ?_
      obtain ⟨t3, hw⟩ := hw
      obtain ⟨hr, hw⟩ := hw
      refine zg_getR (v := .ref (zR h (zR h a0 1 - 1) 0 - 1)) zi_63_16 t3 (by rfl) (zrv_p hr) ?_
      refine zg_aload zi_63_17 rfl ?_
      refine zg_getI (v := .int (zI h a0 7)) zi_63_18 t1 (by rfl) rfl ?_
      refine zg_const (v := 2) zi_63_19 (by rfl) ?_
      refine zg_isub zi_63_20 ?_
      obtain ⟨t4, hw⟩ := hw
      obtain ⟨hb, hw⟩ := hw
      refine zg_iaload (v := .int (zI h (zR h (zR h a0 1 - 1) 0 - 1) ((zI h a0 7) - 2 : Int32).toNatClampNeg)) zi_63_21 t4 hb rfl ?_
      refine zg_aload zi_63_22 rfl ?_
      obtain ⟨hr, hw⟩ := hw
      refine zg_getR (v := .ref (zR h a0 1 - 1)) zi_63_23 t1 (by rfl) (zrv_p hr) ?_
      obtain ⟨hr, hw⟩ := hw
      refine zg_getR (v := .ref (zR h (zR h a0 1 - 1) 0 - 1)) zi_63_24 t3 (by rfl) (zrv_p hr) ?_
      refine zg_aload zi_63_25 rfl ?_
      refine zg_getI (v := .int (zI h a0 7)) zi_63_26 t1 (by rfl) rfl ?_
      refine zg_const (v := 1) zi_63_27 (by rfl) ?_
      refine zg_isub zi_63_28 ?_
      obtain ⟨hb, hw⟩ := hw
      refine zg_iaload (v := .int (zI h (zR h (zR h a0 1 - 1) 0 - 1) ((zI h a0 7) - 1 : Int32).toNatClampNeg)) zi_63_29 t4 hb rfl ?_
      refine zg_iadd zi_63_30 ?_
      refine zg_aload zi_63_31 rfl ?_
      obtain ⟨hr, hw⟩ := hw
      refine zg_getR (v := .ref (zR h a0 0 - 1)) zi_63_32 t1 (by rfl) (zrv_p hr) ?_
      obtain ⟨t5, hw⟩ := hw
      refine zg_getI (v := .int (zI h (zR h a0 0 - 1) 4)) zi_63_33 t5 (by rfl) rfl ?_
      refine zg_iadd zi_63_34 ?_
      refine zg_const (v := 4) zi_63_35 (by rfl) ?_
      have g36 : Gx E (d + 1) 63 40 [.ref a0, .int x2] [.int (if ¬ (((zI h (zR h (zR h a0 1 - 1) 0 - 1) ((zI h a0 7) - 2 : Int32).toNatClampNeg) + (zI h (zR h (zR h a0 1 - 1) 0 - 1) ((zI h a0 7) - 1 : Int32).toNatClampNeg)) + (zI h (zR h a0 0 - 1) 4) : Int32) = 4 then 0 else 1)] h Q := by
        have hg := g13
        simp only [if_neg hc13] at hg
        exact hg
      refine zg_icmp_ne zi_63_36 (fun hc36 => ?_) (fun hc36 => ?_)
      · skip
        refine zg_const (v := 0) zi_63_39 (by rfl) ?_
        have hg := g36
        simp only [if_pos hc36] at hg
        exact hg
      · skip
        refine zg_const (v := 1) zi_63_37 (by rfl) ?_
        refine zg_goto zi_63_38 ?_
        have hg := g36
        simp only [if_neg hc36] at hg
        exact hg
  refine zg_icmp_ne zi_63_3 (fun hc3 => ?_) (fun hc3 => ?_)
  · skip
    refine zg_const (v := 0) zi_63_10 (by rfl) ?_
    have hg := g3
    simp only [if_pos hc3] at hg
    exact hg
  · skip
    refine zg_aload zi_63_4 rfl ?_
    refine zg_getI (v := .int (zI h a0 6)) zi_63_5 t1 (by rfl) rfl ?_
    refine zg_const (v := 3) zi_63_6 (by rfl) ?_
    have g7 : Gx E (d + 1) 63 11 [.ref a0, .retAddr 0] [.int (if ¬ (zI h a0 6 : Int32) = 3 then 0 else 1)] h Q := by
      have hg := g3
      simp only [if_neg hc3] at hg
      exact hg
    refine zg_icmp_ne zi_63_7 (fun hc7 => ?_) (fun hc7 => ?_)
    · skip
      refine zg_const (v := 0) zi_63_10 (by rfl) ?_
      have hg := g7
      simp only [if_pos hc7] at hg
      exact hg
    · skip
      refine zg_const (v := 1) zi_63_8 (by rfl) ?_
      refine zg_goto zi_63_9 ?_
      have hg := g7
      simp only [if_neg hc7] at hg
      exact hg
def fz_63 (E : Nat → Nat) (h : ZH) (a0 : Nat) : Int32 := let x2 : Int32 := (if ¬ (zI h a0 5 : Int32) = 15 then 0 else if ¬ (zI h a0 6 : Int32) = 3 then 0 else 1); if x2 = 0 then 1 else if ¬ (((zI h (zR h (zR h a0 1 - 1) 0 - 1) ((zI h a0 7) - 2 : Int32).toNatClampNeg) + (zI h (zR h (zR h a0 1 - 1) 0 - 1) ((zI h a0 7) - 1 : Int32).toNatClampNeg)) + (zI h (zR h a0 0 - 1) 4) : Int32) = 4 then 0 else 1
def sz_63 (E : Nat → Nat) (h : ZH) (a0 : Nat) : Prop := ztag h a0 = 4 ∧ ∀ x2 : Int32, x2 = (if ¬ (zI h a0 5 : Int32) = 15 then 0 else if ¬ (zI h a0 6 : Int32) = 3 then 0 else 1) → (((x2 = 0 → (True)) ∧ (¬ (x2 = 0) → (¬ zR h a0 1 = 0 ∧ ztag h (zR h a0 1 - 1) = 3 ∧ ¬ zR h (zR h a0 1 - 1) 0 = 0 ∧ (ztag h (zR h (zR h a0 1 - 1) 0 - 1) = 13 ∨ ztag h (zR h (zR h a0 1 - 1) 0 - 1) = 19) ∧ zin ((zI h a0 7) - 2) (zlen h (zR h (zR h a0 1 - 1) 0 - 1)) = true ∧ ¬ zR h a0 1 = 0 ∧ ¬ zR h (zR h a0 1 - 1) 0 = 0 ∧ zin ((zI h a0 7) - 1) (zlen h (zR h (zR h a0 1 - 1) 0 - 1)) = true ∧ ¬ zR h a0 0 = 0 ∧ ztag h (zR h a0 0 - 1) = 8 ∧ True))) ∧ True)
set_option maxRecDepth 20000 in
theorem fb_63 {E : Nat → Nat} {h : ZH} {a0 : Nat} : fz_63 E h a0 = 0 ∨ fz_63 E h a0 = 1 := by
  unfold fz_63
  (try dsimp only)
  (repeat' split) <;> first | (left; rfl) | (right; rfl)
set_option maxRecDepth 20000 in
theorem cz_63 {E : Nat → Nat} {d : Nat} {a0 : Nat} {h : ZH} {Q : Option Value → ZH → Prop} (hd : 1 ≤ d) (hs : sz_63 E h a0) (hq : Q (some (.int (fz_63 E h a0))) h) : Ct E d 63 [.ref a0] h Q := by
  obtain ⟨d, rfl⟩ : ∃ n, d = n + 1 := ⟨d - 1, by omega⟩
  refine ok_63 ?_
  unfold w_63
  unfold sz_63 at hs
  unfold fz_63 at hq
  refine ⟨hs.1, ?_⟩
  have hs := hs.2
  intro x2 ex2
  have hs := hs x2 ex2
  subst ex2
  refine ⟨⟨fun hc => ?_, fun hc => ?_⟩, ?_⟩
  · have hs := hs.1.1 hc
    trivial
  · have hs := hs.1.2 hc
    refine ⟨hs.1, ?_⟩
    have hs := hs.2
    refine ⟨hs.1, ?_⟩
    have hs := hs.2
    refine ⟨hs.1, ?_⟩
    have hs := hs.2
    refine ⟨hs.1, ?_⟩
    have hs := hs.2
    refine ⟨hs.1, ?_⟩
    have hs := hs.2
    refine ⟨hs.1, ?_⟩
    have hs := hs.2
    refine ⟨hs.1, ?_⟩
    have hs := hs.2
    refine ⟨hs.1, ?_⟩
    have hs := hs.2
    refine ⟨hs.1, ?_⟩
    have hs := hs.2
    refine ⟨hs.1, ?_⟩
    have hs := hs.2
    trivial
  have hs := hs.2
  exact hq
theorem zq_64 : zQ 64 1 2 4 := by unfold zQ; decide +kernel
theorem zi_64_0 : (zM 64).1[0]? = some (.aload 0) := by rfl
theorem zi_64_1 : (zM 64).1[1]? = some (.getfield 4005) := by rfl
theorem zi_64_2 : (zM 64).1[2]? = some (.iconst 14) := by rfl
theorem zi_64_3 : (zM 64).1[3]? = some (.if_icmp .ne ((6 : Nat) : Int)) := by rfl
theorem zi_64_4 : (zM 64).1[4]? = some (.iconst 1) := by rfl
theorem zi_64_5 : (zM 64).1[5]? = some (.goto ((7 : Nat) : Int)) := by rfl
theorem zi_64_6 : (zM 64).1[6]? = some (.iconst 0) := by rfl
theorem zi_64_7 : (zM 64).1[7]? = some (.istore 1) := by rfl
theorem zi_64_8 : (zM 64).1[8]? = some (.aload 0) := by rfl
theorem zi_64_9 : (zM 64).1[9]? = some (.iload 1) := by rfl
theorem zi_64_10 : (zM 64).1[10]? = some (.ifCond .eq ((13 : Nat) : Int)) := by rfl
theorem zi_64_11 : (zM 64).1[11]? = some (.iconst 17) := by rfl
theorem zi_64_12 : (zM 64).1[12]? = some (.goto ((14 : Nat) : Int)) := by rfl
theorem zi_64_13 : (zM 64).1[13]? = some (.iconst 20) := by rfl
theorem zi_64_14 : (zM 64).1[14]? = some (.aload 0) := by rfl
theorem zi_64_15 : (zM 64).1[15]? = some (.getfield 4200) := by rfl
theorem zi_64_16 : (zM 64).1[16]? = some (.getfield 8004) := by rfl
theorem zi_64_17 : (zM 64).1[17]? = some (.iadd) := by rfl
theorem zi_64_18 : (zM 64).1[18]? = some (.invokevirtual 56) := by rfl
theorem zi_64_19 : (zM 64).1[19]? = some (.aload 0) := by rfl
theorem zi_64_20 : (zM 64).1[20]? = some (.dup) := by rfl
theorem zi_64_21 : (zM 64).1[21]? = some (.getfield 4007) := by rfl
theorem zi_64_22 : (zM 64).1[22]? = some (.iload 1) := by rfl
theorem zi_64_23 : (zM 64).1[23]? = some (.ifCond .eq ((28 : Nat) : Int)) := by rfl
theorem zi_64_24 : (zM 64).1[24]? = some (.aload 0) := by rfl
theorem zi_64_25 : (zM 64).1[25]? = some (.getfield 4200) := by rfl
theorem zi_64_26 : (zM 64).1[26]? = some (.getfield 8004) := by rfl
theorem zi_64_27 : (zM 64).1[27]? = some (.goto ((33 : Nat) : Int)) := by rfl
theorem zi_64_28 : (zM 64).1[28]? = some (.iconst 3) := by rfl
theorem zi_64_29 : (zM 64).1[29]? = some (.aload 0) := by rfl
theorem zi_64_30 : (zM 64).1[30]? = some (.getfield 4200) := by rfl
theorem zi_64_31 : (zM 64).1[31]? = some (.getfield 8004) := by rfl
theorem zi_64_32 : (zM 64).1[32]? = some (.imul) := by rfl
theorem zi_64_33 : (zM 64).1[33]? = some (.iadd) := by rfl
theorem zi_64_34 : (zM 64).1[34]? = some (.putfield 4007) := by rfl
theorem zi_64_35 : (zM 64).1[35]? = some (.return_) := by rfl
/-- TakeOrPay$Reader.takeState()V -/
def w_64 (E : Nat → Nat) (d : Nat) (a0 : Nat) (h : ZH) (Q : Option Value → ZH → Prop) : Prop := ztag h a0 = 4 ∧ ∀ x2 : Int32, x2 = (if ¬ (zI h a0 5 : Int32) = 14 then 0 else 1) → ∃ r3 : Nat, zR h a0 0 = r3 + 1 ∧ ztag h r3 = 8 ∧ Ct E d 56 [.ref a0, .int ((if x2 = 0 then 20 else 17) + (zI h r3 4))] h (fun v h5 => v = none ∧ ztag h5 a0 = 4 ∧ (((x2 = 0 → (¬ zR h5 a0 0 = 0 ∧ ztag h5 (zR h5 a0 0 - 1) = 8 ∧ True)) ∧ (¬ (x2 = 0) → (¬ zR h5 a0 0 = 0 ∧ ztag h5 (zR h5 a0 0 - 1) = 8 ∧ True))) ∧ ∀ h9 : ZH, h9 = (zuI h5 a0 7 ((zI h5 a0 7) + (if x2 = 0 then 3 * (zI h5 (zR h5 a0 0 - 1) 4) else zI h5 (zR h5 a0 0 - 1) 4))) → Q none h9))
set_option maxRecDepth 20000 in
theorem ok_64 {E : Nat → Nat} {d : Nat} {a0 : Nat} {h : ZH} {Q : Option Value → ZH → Prop} (hw : w_64 E d a0 h Q) : Ct E (d + 1) 64 [.ref a0] h Q := by
  unfold w_64 at hw
  show Gx E (d + 1) 64 0 [.ref a0, .retAddr 0] [] h Q
  refine zg_aload zi_64_0 rfl ?_
  obtain ⟨t1, hw⟩ := hw
  refine zg_getI (v := .int (zI h a0 5)) zi_64_1 t1 (by rfl) rfl ?_
  refine zg_const (v := 14) zi_64_2 (by rfl) ?_
  have g3 : Gx E (d + 1) 64 7 [.ref a0, .retAddr 0] [.int (if ¬ (zI h a0 5 : Int32) = 14 then 0 else 1)] h Q := by
    refine zg_nameI fun x2 ex2 => ?_
    have hw := hw x2 ex2
    refine zg_istore (ls1 := [.ref a0, .int x2]) zi_64_7 (Nat.le_of_ble_eq_true rfl) rfl ?_
    refine zg_aload zi_64_8 rfl ?_
    refine zg_iload zi_64_9 rfl ?_
    have g10 : Gx E (d + 1) 64 14 [.ref a0, .int x2] [.int (if x2 = 0 then 20 else 17), .ref a0] h Q := by
      refine zg_aload zi_64_14 rfl ?_
      obtain ⟨r3, er3, hw⟩ := hw
      refine zg_getR (v := .ref r3) zi_64_15 t1 (by rfl) (by show zrv (zR h a0 0) = _; rw [er3]; rfl) ?_
      obtain ⟨t4, hw⟩ := hw
      refine zg_getI (v := .int (zI h r3 4)) zi_64_16 t4 (by rfl) rfl ?_
      refine zg_iadd zi_64_17 ?_
      refine Gx.call2 (as := [.ref a0, .int ((if x2 = 0 then 20 else 17) + (zI h r3 4))]) (rest := []) zq_56 zi_64_18 rfl rfl rfl (Nat.le_of_ble_eq_true rfl) (Nat.le_of_ble_eq_true rfl) (zrv_v t1 rfl rfl) (Nat.le_of_ble_eq_true rfl) ?_
      refine Ct.mono hw ?_
      rintro v h5 ⟨rfl, hw⟩
      show Gx E (d + 1) 64 19 [.ref a0, .int x2] [] h5 Q
      refine zg_aload zi_64_19 rfl ?_
      refine zg_dup zi_64_20 rfl ?_
      obtain ⟨t6, hw⟩ := hw
      refine zg_getI (v := .int (zI h5 a0 7)) zi_64_21 t6 (by rfl) rfl ?_
      refine zg_iload zi_64_22 rfl ?_
      obtain ⟨hsd23, hw⟩ := hw
      have g23 : Gx E (d + 1) 64 33 [.ref a0, .int x2] [.int (if x2 = 0 then 3 * (zI h5 (zR h5 a0 0 - 1) 4) else zI h5 (zR h5 a0 0 - 1) 4), .int (zI h5 a0 7), .ref a0] h5 Q := by
        refine zg_iadd zi_64_33 ?_
        refine zg_putI (h1 := zuI h5 a0 7 ((zI h5 a0 7) + (if x2 = 0 then 3 * (zI h5 (zR h5 a0 0 - 1) 4) else zI h5 (zR h5 a0 0 - 1) 4))) zi_64_34 t6 (by rfl) rfl ?_
        refine zg_nameH fun h9 eh9 => ?_
        have hw := hw h9 eh9
        exact zg_return zi_64_35 hw
      refine zg_if_eq zi_64_23 (fun hc23 => ?_) (fun hc23 => ?_)
      · have hw := hsd23.1 hc23
        refine zg_const (v := 3) zi_64_28 (by rfl) ?_
        refine zg_aload zi_64_29 rfl ?_
        obtain ⟨hr, hw⟩ := hw
        refine zg_getR (v := .ref (zR h5 a0 0 - 1)) zi_64_30 t6 (by rfl) (zrv_p hr) ?_
        obtain ⟨t7, hw⟩ := hw
        refine zg_getI (v := .int (zI h5 (zR h5 a0 0 - 1) 4)) zi_64_31 t7 (by rfl) rfl ?_
        refine zg_imul zi_64_32 ?_
        have hg := g23
        simp only [if_pos hc23] at hg
        exact hg
      · have hw := hsd23.2 hc23
        refine zg_aload zi_64_24 rfl ?_
        obtain ⟨hr, hw⟩ := hw
        refine zg_getR (v := .ref (zR h5 a0 0 - 1)) zi_64_25 t6 (by rfl) (zrv_p hr) ?_
        obtain ⟨t8, hw⟩ := hw
        refine zg_getI (v := .int (zI h5 (zR h5 a0 0 - 1) 4)) zi_64_26 t8 (by rfl) rfl ?_
        refine zg_goto zi_64_27 ?_
        have hg := g23
        simp only [if_neg hc23] at hg
        exact hg
    refine zg_if_eq zi_64_10 (fun hc10 => ?_) (fun hc10 => ?_)
    · skip
      refine zg_const (v := 20) zi_64_13 (by rfl) ?_
      have hg := g10
      simp only [if_pos hc10] at hg
      exact hg
    · skip
      refine zg_const (v := 17) zi_64_11 (by rfl) ?_
      refine zg_goto zi_64_12 ?_
      have hg := g10
      simp only [if_neg hc10] at hg
      exact hg
  refine zg_icmp_ne zi_64_3 (fun hc3 => ?_) (fun hc3 => ?_)
  · skip
    refine zg_const (v := 0) zi_64_6 (by rfl) ?_
    have hg := g3
    simp only [if_pos hc3] at hg
    exact hg
  · skip
    refine zg_const (v := 1) zi_64_4 (by rfl) ?_
    refine zg_goto zi_64_5 ?_
    have hg := g3
    simp only [if_neg hc3] at hg
    exact hg
theorem zq_62 : zQ 62 1 4 4 := by unfold zQ; decide +kernel
theorem zi_62_0 : (zM 62).1[0]? = some (.aload 0) := by rfl
theorem zi_62_1 : (zM 62).1[1]? = some (.getfield 4006) := by rfl
theorem zi_62_2 : (zM 62).1[2]? = some (.ifCond .ne ((13 : Nat) : Int)) := by rfl
theorem zi_62_3 : (zM 62).1[3]? = some (.aload 0) := by rfl
theorem zi_62_4 : (zM 62).1[4]? = some (.getfield 4005) := by rfl
theorem zi_62_5 : (zM 62).1[5]? = some (.iconst 14) := by rfl
theorem zi_62_6 : (zM 62).1[6]? = some (.if_icmp .eq ((11 : Nat) : Int)) := by rfl
theorem zi_62_7 : (zM 62).1[7]? = some (.aload 0) := by rfl
theorem zi_62_8 : (zM 62).1[8]? = some (.getfield 4005) := by rfl
theorem zi_62_9 : (zM 62).1[9]? = some (.iconst 15) := by rfl
theorem zi_62_10 : (zM 62).1[10]? = some (.if_icmp .ne ((13 : Nat) : Int)) := by rfl
theorem zi_62_11 : (zM 62).1[11]? = some (.iconst 1) := by rfl
theorem zi_62_12 : (zM 62).1[12]? = some (.goto ((14 : Nat) : Int)) := by rfl
theorem zi_62_13 : (zM 62).1[13]? = some (.iconst 0) := by rfl
theorem zi_62_14 : (zM 62).1[14]? = some (.istore 1) := by rfl
theorem zi_62_15 : (zM 62).1[15]? = some (.iload 1) := by rfl
theorem zi_62_16 : (zM 62).1[16]? = some (.ifCond .eq ((19 : Nat) : Int)) := by rfl
theorem zi_62_17 : (zM 62).1[17]? = some (.iconst 2) := by rfl
theorem zi_62_18 : (zM 62).1[18]? = some (.goto ((23 : Nat) : Int)) := by rfl
theorem zi_62_19 : (zM 62).1[19]? = some (.getstatic 6) := by rfl
theorem zi_62_20 : (zM 62).1[20]? = some (.aload 0) := by rfl
theorem zi_62_21 : (zM 62).1[21]? = some (.getfield 4005) := by rfl
theorem zi_62_22 : (zM 62).1[22]? = some (.iaload) := by rfl
theorem zi_62_23 : (zM 62).1[23]? = some (.istore 2) := by rfl
theorem zi_62_24 : (zM 62).1[24]? = some (.iload 1) := by rfl
theorem zi_62_25 : (zM 62).1[25]? = some (.ifCond .eq ((28 : Nat) : Int)) := by rfl
theorem zi_62_26 : (zM 62).1[26]? = some (.iconst 0) := by rfl
theorem zi_62_27 : (zM 62).1[27]? = some (.goto ((32 : Nat) : Int)) := by rfl
theorem zi_62_28 : (zM 62).1[28]? = some (.getstatic 5) := by rfl
theorem zi_62_29 : (zM 62).1[29]? = some (.aload 0) := by rfl
theorem zi_62_30 : (zM 62).1[30]? = some (.getfield 4005) := by rfl
theorem zi_62_31 : (zM 62).1[31]? = some (.iaload) := by rfl
theorem zi_62_32 : (zM 62).1[32]? = some (.istore 3) := by rfl
theorem zi_62_33 : (zM 62).1[33]? = some (.aload 0) := by rfl
theorem zi_62_34 : (zM 62).1[34]? = some (.getfield 4005) := by rfl
theorem zi_62_35 : (zM 62).1[35]? = some (.iconst 3) := by rfl
theorem zi_62_36 : (zM 62).1[36]? = some (.if_icmp .ne ((47 : Nat) : Int)) := by rfl
theorem zi_62_37 : (zM 62).1[37]? = some (.aload 0) := by rfl
theorem zi_62_38 : (zM 62).1[38]? = some (.getfield 4006) := by rfl
theorem zi_62_39 : (zM 62).1[39]? = some (.iconst 1) := by rfl
theorem zi_62_40 : (zM 62).1[40]? = some (.if_icmp .ne ((47 : Nat) : Int)) := by rfl
theorem zi_62_41 : (zM 62).1[41]? = some (.aload 0) := by rfl
theorem zi_62_42 : (zM 62).1[42]? = some (.getfield 4201) := by rfl
theorem zi_62_43 : (zM 62).1[43]? = some (.getfield 3200) := by rfl
theorem zi_62_44 : (zM 62).1[44]? = some (.iconst 3) := by rfl
theorem zi_62_45 : (zM 62).1[45]? = some (.iaload) := by rfl
theorem zi_62_46 : (zM 62).1[46]? = some (.istore 3) := by rfl
theorem zi_62_47 : (zM 62).1[47]? = some (.aload 0) := by rfl
theorem zi_62_48 : (zM 62).1[48]? = some (.getfield 4200) := by rfl
theorem zi_62_49 : (zM 62).1[49]? = some (.getfield 8003) := by rfl
theorem zi_62_50 : (zM 62).1[50]? = some (.iconst 2) := by rfl
theorem zi_62_51 : (zM 62).1[51]? = some (.if_icmp .eq ((56 : Nat) : Int)) := by rfl
theorem zi_62_52 : (zM 62).1[52]? = some (.aload 0) := by rfl
theorem zi_62_53 : (zM 62).1[53]? = some (.iconst 2) := by rfl
theorem zi_62_54 : (zM 62).1[54]? = some (.invokevirtual 54) := by rfl
theorem zi_62_55 : (zM 62).1[55]? = some (.goto ((93 : Nat) : Int)) := by rfl
theorem zi_62_56 : (zM 62).1[56]? = some (.aload 0) := by rfl
theorem zi_62_57 : (zM 62).1[57]? = some (.getfield 4200) := by rfl
theorem zi_62_58 : (zM 62).1[58]? = some (.getfield 8004) := by rfl
theorem zi_62_59 : (zM 62).1[59]? = some (.iload 3) := by rfl
theorem zi_62_60 : (zM 62).1[60]? = some (.if_icmp .lt ((69 : Nat) : Int)) := by rfl
theorem zi_62_61 : (zM 62).1[61]? = some (.aload 0) := by rfl
theorem zi_62_62 : (zM 62).1[62]? = some (.getfield 4200) := by rfl
theorem zi_62_63 : (zM 62).1[63]? = some (.getfield 8004) := by rfl
theorem zi_62_64 : (zM 62).1[64]? = some (.iload 2) := by rfl
theorem zi_62_65 : (zM 62).1[65]? = some (.if_icmp .gt ((69 : Nat) : Int)) := by rfl
theorem zi_62_66 : (zM 62).1[66]? = some (.aload 0) := by rfl
theorem zi_62_67 : (zM 62).1[67]? = some (.invokevirtual 63) := by rfl
theorem zi_62_68 : (zM 62).1[68]? = some (.ifCond .ne ((73 : Nat) : Int)) := by rfl
theorem zi_62_69 : (zM 62).1[69]? = some (.aload 0) := by rfl
theorem zi_62_70 : (zM 62).1[70]? = some (.iconst 3) := by rfl
theorem zi_62_71 : (zM 62).1[71]? = some (.invokevirtual 54) := by rfl
theorem zi_62_72 : (zM 62).1[72]? = some (.goto ((93 : Nat) : Int)) := by rfl
theorem zi_62_73 : (zM 62).1[73]? = some (.iload 1) := by rfl
theorem zi_62_74 : (zM 62).1[74]? = some (.ifCond .eq ((78 : Nat) : Int)) := by rfl
theorem zi_62_75 : (zM 62).1[75]? = some (.aload 0) := by rfl
theorem zi_62_76 : (zM 62).1[76]? = some (.invokevirtual 64) := by rfl
theorem zi_62_77 : (zM 62).1[77]? = some (.goto ((93 : Nat) : Int)) := by rfl
theorem zi_62_78 : (zM 62).1[78]? = some (.aload 0) := by rfl
theorem zi_62_79 : (zM 62).1[79]? = some (.getfield 4201) := by rfl
theorem zi_62_80 : (zM 62).1[80]? = some (.getfield 3200) := by rfl
theorem zi_62_81 : (zM 62).1[81]? = some (.aload 0) := by rfl
theorem zi_62_82 : (zM 62).1[82]? = some (.getfield 4007) := by rfl
theorem zi_62_83 : (zM 62).1[83]? = some (.aload 0) := by rfl
theorem zi_62_84 : (zM 62).1[84]? = some (.getfield 4200) := by rfl
theorem zi_62_85 : (zM 62).1[85]? = some (.getfield 8004) := by rfl
theorem zi_62_86 : (zM 62).1[86]? = some (.iastore) := by rfl
theorem zi_62_87 : (zM 62).1[87]? = some (.aload 0) := by rfl
theorem zi_62_88 : (zM 62).1[88]? = some (.dup) := by rfl
theorem zi_62_89 : (zM 62).1[89]? = some (.getfield 4007) := by rfl
theorem zi_62_90 : (zM 62).1[90]? = some (.iconst 1) := by rfl
theorem zi_62_91 : (zM 62).1[91]? = some (.iadd) := by rfl
theorem zi_62_92 : (zM 62).1[92]? = some (.putfield 4007) := by rfl
theorem zi_62_93 : (zM 62).1[93]? = some (.aload 0) := by rfl
theorem zi_62_94 : (zM 62).1[94]? = some (.dup) := by rfl
theorem zi_62_95 : (zM 62).1[95]? = some (.getfield 4006) := by rfl
theorem zi_62_96 : (zM 62).1[96]? = some (.iconst 1) := by rfl
theorem zi_62_97 : (zM 62).1[97]? = some (.iadd) := by rfl
theorem zi_62_98 : (zM 62).1[98]? = some (.putfield 4006) := by rfl
theorem zi_62_99 : (zM 62).1[99]? = some (.return_) := by rfl
def wb_62_93 (E : Nat → Nat) (d : Nat) (Q : Option Value → ZH → Prop) (a0 : Nat) (h : ZH) : Prop := ztag h a0 = 4 ∧ ∀ h13 : ZH, h13 = (zuI h a0 6 ((zI h a0 6) + 1)) → Q none h13
set_option maxRecDepth 20000 in
theorem okb_62_93 {E : Nat → Nat} {d : Nat} {Q : Option Value → ZH → Prop} {a0 : Nat} {h : ZH} (hw : wb_62_93 E d Q a0 h) : Gx E (d + 1) 62 93 [.ref a0, .retAddr 0, .retAddr 0, .retAddr 0] [] h Q := by
  unfold wb_62_93 at hw
  refine zg_aload zi_62_93 rfl ?_
  refine zg_dup zi_62_94 rfl ?_
  obtain ⟨t12, hw⟩ := hw
  refine zg_getI (v := .int (zI h a0 6)) zi_62_95 t12 (by rfl) rfl ?_
  refine zg_const (v := 1) zi_62_96 (by rfl) ?_
  refine zg_iadd zi_62_97 ?_
  refine zg_putI (h1 := zuI h a0 6 ((zI h a0 6) + 1)) zi_62_98 t12 (by rfl) rfl ?_
  refine zg_nameH fun h13 eh13 => ?_
  have hw := hw h13 eh13
  exact zg_return zi_62_99 hw
/-- TakeOrPay$Reader.takeNumber()V -/
def w_62 (E : Nat → Nat) (d : Nat) (a0 : Nat) (h : ZH) (Q : Option Value → ZH → Prop) : Prop := ztag h a0 = 4 ∧ ∀ x2 : Int32, x2 = (if ¬ (zI h a0 6 : Int32) = 0 then 0 else if (zI h a0 5 : Int32) = 14 then 1 else if ¬ (zI h a0 5 : Int32) = 15 then 0 else 1) → (((x2 = 0 → ((ztag h (E 6) = 13 ∨ ztag h (E 6) = 19) ∧ zin (zI h a0 5) (zlen h (E 6)) = true ∧ True)) ∧ (¬ (x2 = 0) → (True))) ∧ ∀ x4 : Int32, x4 = (if x2 = 0 then zI h (E 6) (zI h a0 5 : Int32).toNatClampNeg else 2) → (((x2 = 0 → ((ztag h (E 5) = 13 ∨ ztag h (E 5) = 19) ∧ zin (zI h a0 5) (zlen h (E 5)) = true ∧ True)) ∧ (¬ (x2 = 0) → (True))) ∧ ∀ x6 : Int32, x6 = (if x2 = 0 then zI h (E 5) (zI h a0 5 : Int32).toNatClampNeg else 0) → (((¬ (zI h a0 5 : Int32) = 3 → (True)) ∧ (¬ (¬ (zI h a0 5 : Int32) = 3) → (((¬ (zI h a0 6 : Int32) = 1 → (True)) ∧ (¬ (¬ (zI h a0 6 : Int32) = 1) → (¬ zR h a0 1 = 0 ∧ ztag h (zR h a0 1 - 1) = 3 ∧ ¬ zR h (zR h a0 1 - 1) 0 = 0 ∧ (ztag h (zR h (zR h a0 1 - 1) 0 - 1) = 13 ∨ ztag h (zR h (zR h a0 1 - 1) 0 - 1) = 19) ∧ zin 3 (zlen h (zR h (zR h a0 1 - 1) 0 - 1)) = true ∧ True))) ∧ True))) ∧ ∃ r9 : Nat, zR h a0 0 = r9 + 1 ∧ ztag h r9 = 8 ∧ (((zI h r9 3 : Int32) = 2 → (((zI h r9 4 : Int32) < (if ¬ (zI h a0 5 : Int32) = 3 then x6 else if ¬ (zI h a0 6 : Int32) = 1 then x6 else zI h (zR h (zR h a0 1 - 1) 0 - 1) 3 : Int32) → (Ct E d 54 [.ref a0, .int 3] h (fun v h11 => v = none ∧ wb_62_93 E d Q a0 h11))) ∧ (¬ ((zI h r9 4 : Int32) < (if ¬ (zI h a0 5 : Int32) = 3 then x6 else if ¬ (zI h a0 6 : Int32) = 1 then x6 else zI h (zR h (zR h a0 1 - 1) 0 - 1) 3 : Int32)) → ((x4 < (zI h r9 4 : Int32) → (Ct E d 54 [.ref a0, .int 3] h (fun v h14 => v = none ∧ wb_62_93 E d Q a0 h14))) ∧ (¬ (x4 < (zI h r9 4 : Int32)) → (1 ≤ d ∧ sz_63 E h a0 ∧ ((¬ (fz_63 E h a0 : Int32) = 0 → ((x2 = 0 → (∃ r15 : Nat, zR h a0 1 = r15 + 1 ∧ ztag h r15 = 3 ∧ ∃ r17 : Nat, zR h r15 0 = r17 + 1 ∧ ztag h r17 = 13 ∧ zin (zI h a0 7) (zlen h r17) = true ∧ ∀ h19 : ZH, h19 = (zuI h r17 (zI h a0 7 : Int32).toNatClampNeg (zI h r9 4)) → ∀ h20 : ZH, h20 = (zuI h19 a0 7 ((zI h19 a0 7) + 1)) → wb_62_93 E d Q a0 h20)) ∧ (¬ (x2 = 0) → (Ct E d 64 [.ref a0] h (fun v h21 => v = none ∧ wb_62_93 E d Q a0 h21))))) ∧ (¬ (¬ (fz_63 E h a0 : Int32) = 0) → (Ct E d 54 [.ref a0, .int 3] h (fun v h22 => v = none ∧ wb_62_93 E d Q a0 h22)))))))))) ∧ (¬ ((zI h r9 3 : Int32) = 2) → (Ct E d 54 [.ref a0, .int 2] h (fun v h23 => v = none ∧ wb_62_93 E d Q a0 h23)))))))
set_option maxRecDepth 20000 in
theorem ok_62 {E : Nat → Nat} {d : Nat} {a0 : Nat} {h : ZH} {Q : Option Value → ZH → Prop} (hw : w_62 E d a0 h Q) : Ct E (d + 1) 62 [.ref a0] h Q := by
  unfold w_62 at hw
  show Gx E (d + 1) 62 0 [.ref a0, .retAddr 0, .retAddr 0, .retAddr 0] [] h Q
  refine zg_aload zi_62_0 rfl ?_
  obtain ⟨t1, hw⟩ := hw
  refine zg_getI (v := .int (zI h a0 6)) zi_62_1 t1 (by rfl) rfl ?_
  have g2 : Gx E (d + 1) 62 14 [.ref a0, .retAddr 0, .retAddr 0, .retAddr 0] [.int (if ¬ (zI h a0 6 : Int32) = 0 then 0 else if (zI h a0 5 : Int32) = 14 then 1 else if ¬ (zI h a0 5 : Int32) = 15 then 0 else 1)] h Q := by
    refine zg_nameI fun x2 ex2 => ?_
    have hw := hw x2 ex2
    refine zg_istore (ls1 := [.ref a0, .int x2, .retAddr 0, .retAddr 0]) zi_62_14 (Nat.le_of_ble_eq_true rfl) rfl ?_
    refine zg_iload zi_62_15 rfl ?_
    obtain ⟨hsd16, hw⟩ := hw
    have g16 : Gx E (d + 1) 62 23 [.ref a0, .int x2, .retAddr 0, .retAddr 0] [.int (if x2 = 0 then zI h (E 6) (zI h a0 5 : Int32).toNatClampNeg else 2)] h Q := by
      refine zg_nameI fun x4 ex4 => ?_
      have hw := hw x4 ex4
      refine zg_istore (ls1 := [.ref a0, .int x2, .int x4, .retAddr 0]) zi_62_23 (Nat.le_of_ble_eq_true rfl) rfl ?_
      refine zg_iload zi_62_24 rfl ?_
      obtain ⟨hsd25, hw⟩ := hw
      have g25 : Gx E (d + 1) 62 32 [.ref a0, .int x2, .int x4, .retAddr 0] [.int (if x2 = 0 then zI h (E 5) (zI h a0 5 : Int32).toNatClampNeg else 0)] h Q := by
        refine zg_nameI fun x6 ex6 => ?_
        have hw := hw x6 ex6
        refine zg_istore (ls1 := [.ref a0, .int x2, .int x4, .int x6]) zi_62_32 (Nat.le_of_ble_eq_true rfl) rfl ?_
        refine zg_aload zi_62_33 rfl ?_
        refine zg_getI (v := .int (zI h a0 5)) zi_62_34 t1 (by rfl) rfl ?_
        refine zg_const (v := 3) zi_62_35 (by rfl) ?_
        obtain ⟨hsd36, hw⟩ := hw
        have g36 : Gx E (d + 1) 62 47 [.ref a0, .int x2, .int x4, .int (if ¬ (zI h a0 5 : Int32) = 3 then x6 else if ¬ (zI h a0 6 : Int32) = 1 then x6 else zI h (zR h (zR h a0 1 - 1) 0 - 1) 3)] [] h Q := by
          refine zg_aload zi_62_47 rfl ?_
          obtain ⟨r9, er9, hw⟩ := hw
          refine zg_getR (v := .ref r9) zi_62_48 t1 (by rfl) (by show zrv (zR h a0 0) = _; rw [er9]; rfl) ?_
          obtain ⟨t10, hw⟩ := hw
          refine zg_getI (v := .int (zI h r9 3)) zi_62_49 t10 (by rfl) rfl ?_
          refine zg_const (v := 2) zi_62_50 (by rfl) ?_
          refine zg_icmp_eq zi_62_51 (fun hc => ?_) (fun hc => ?_)
          · have hw := hw.1 hc
            refine zg_aload zi_62_56 rfl ?_
            refine zg_getR (v := .ref r9) zi_62_57 t1 (by rfl) (by show zrv (zR h a0 0) = _; rw [er9]; rfl) ?_
            refine zg_getI (v := .int (zI h r9 4)) zi_62_58 t10 (by rfl) rfl ?_
            refine zg_iload zi_62_59 rfl ?_
            refine zg_icmp_lt zi_62_60 (fun hc => ?_) (fun hc => ?_)
            · have hw := hw.1 hc
              refine zg_aload zi_62_69 rfl ?_
              refine zg_const (v := 3) zi_62_70 (by rfl) ?_
              refine Gx.call2 (as := [.ref a0, .int 3]) (rest := []) zq_54 zi_62_71 rfl rfl rfl (Nat.le_of_ble_eq_true rfl) (Nat.le_of_ble_eq_true rfl) (zrv_v t1 rfl rfl) (Nat.le_of_ble_eq_true rfl) ?_
              refine Ct.mono hw ?_
              rintro v h11 ⟨rfl, hw⟩
              show Gx E (d + 1) 62 72 [.ref a0, .int x2, .int x4, .int (if ¬ (zI h a0 5 : Int32) = 3 then x6 else if ¬ (zI h a0 6 : Int32) = 1 then x6 else zI h (zR h (zR h a0 1 - 1) 0 - 1) 3)] [] h11 Q
              refine zg_goto zi_62_72 ?_
              exact Gx.forget (zrk (zrd (zrd (zrd zr0)))) (okb_62_93 hw)
            · have hw := hw.2 hc
              refine zg_aload zi_62_61 rfl ?_
              refine zg_getR (v := .ref r9) zi_62_62 t1 (by rfl) (by show zrv (zR h a0 0) = _; rw [er9]; rfl) ?_
              refine zg_getI (v := .int (zI h r9 4)) zi_62_63 t10 (by rfl) rfl ?_
              refine zg_iload zi_62_64 rfl ?_
              refine zg_icmp_gt zi_62_65 (fun hc => ?_) (fun hc => ?_)
              · have hw := hw.1 hc
                refine zg_aload zi_62_69 rfl ?_
                refine zg_const (v := 3) zi_62_70 (by rfl) ?_
                refine Gx.call2 (as := [.ref a0, .int 3]) (rest := []) zq_54 zi_62_71 rfl rfl rfl (Nat.le_of_ble_eq_true rfl) (Nat.le_of_ble_eq_true rfl) (zrv_v t1 rfl rfl) (Nat.le_of_ble_eq_true rfl) ?_
                refine Ct.mono hw ?_
                rintro v h14 ⟨rfl, hw⟩
                show Gx E (d + 1) 62 72 [.ref a0, .int x2, .int x4, .int (if ¬ (zI h a0 5 : Int32) = 3 then x6 else if ¬ (zI h a0 6 : Int32) = 1 then x6 else zI h (zR h (zR h a0 1 - 1) 0 - 1) 3)] [] h14 Q
                refine zg_goto zi_62_72 ?_
                exact Gx.forget (zrk (zrd (zrd (zrd zr0)))) (okb_62_93 hw)
              · have hw := hw.2 hc
                refine zg_aload zi_62_66 rfl ?_
                obtain ⟨hd, hs, hw⟩ := hw
                refine Gx.call2 (as := [.ref a0]) (rest := []) zq_63 zi_62_67 rfl rfl rfl (Nat.le_of_ble_eq_true rfl) (Nat.le_of_ble_eq_true rfl) (zrv_v t1 rfl rfl) (Nat.le_of_ble_eq_true rfl) ?_
                refine cz_63 hd hs ?_
                show Gx E (d + 1) 62 68 [.ref a0, .int x2, .int x4, .int (if ¬ (zI h a0 5 : Int32) = 3 then x6 else if ¬ (zI h a0 6 : Int32) = 1 then x6 else zI h (zR h (zR h a0 1 - 1) 0 - 1) 3)] [.int (fz_63 E h a0)] h Q
                refine zg_if_ne zi_62_68 (fun hc => ?_) (fun hc => ?_)
                · have hw := hw.1 hc
                  refine zg_iload zi_62_73 rfl ?_
                  refine zg_if_eq zi_62_74 (fun hc => ?_) (fun hc => ?_)
                  · have hw := hw.1 hc
                    refine zg_aload zi_62_78 rfl ?_
                    obtain ⟨r15, er15, hw⟩ := hw
                    refine zg_getR (v := .ref r15) zi_62_79 t1 (by rfl) (by show zrv (zR h a0 1) = _; rw [er15]; rfl) ?_
                    obtain ⟨t16, hw⟩ := hw
                    obtain ⟨r17, er17, hw⟩ := hw
                    refine zg_getR (v := .ref r17) zi_62_80 t16 (by rfl) (by show zrv (zR h r15 0) = _; rw [er17]; rfl) ?_
                    refine zg_aload zi_62_81 rfl ?_
                    refine zg_getI (v := .int (zI h a0 7)) zi_62_82 t1 (by rfl) rfl ?_
                    refine zg_aload zi_62_83 rfl ?_
                    refine zg_getR (v := .ref r9) zi_62_84 t1 (by rfl) (by show zrv (zR h a0 0) = _; rw [er9]; rfl) ?_
                    refine zg_getI (v := .int (zI h r9 4)) zi_62_85 t10 (by rfl) rfl ?_
                    obtain ⟨t18, hw⟩ := hw
                    obtain ⟨hb, hw⟩ := hw
                    refine zg_iastore (h1 := zuI h r17 (zI h a0 7 : Int32).toNatClampNeg (zI h r9 4)) zi_62_86 t18 hb rfl ?_
                    refine zg_nameH fun h19 eh19 => ?_
                    have hw := hw h19 eh19
                    refine zg_aload zi_62_87 rfl ?_
                    refine zg_dup zi_62_88 rfl ?_
                    refine zg_getI (v := .int (zI h19 a0 7)) zi_62_89 (by rw [eh19]; exact t1) (by rfl) rfl ?_
                    refine zg_const (v := 1) zi_62_90 (by rfl) ?_
                    refine zg_iadd zi_62_91 ?_
                    refine zg_putI (h1 := zuI h19 a0 7 ((zI h19 a0 7) + 1)) zi_62_92 (by rw [eh19]; exact t1) (by rfl) rfl ?_
                    refine zg_nameH fun h20 eh20 => ?_
                    have hw := hw h20 eh20
                    exact Gx.forget (zrk (zrd (zrd (zrd zr0)))) (okb_62_93 hw)
                  · have hw := hw.2 hc
                    refine zg_aload zi_62_75 rfl ?_
                    refine Gx.call2 (as := [.ref a0]) (rest := []) zq_64 zi_62_76 rfl rfl rfl (Nat.le_of_ble_eq_true rfl) (Nat.le_of_ble_eq_true rfl) (zrv_v t1 rfl rfl) (Nat.le_of_ble_eq_true rfl) ?_
                    refine Ct.mono hw ?_
                    rintro v h21 ⟨rfl, hw⟩
                    show Gx E (d + 1) 62 77 [.ref a0, .int x2, .int x4, .int (if ¬ (zI h a0 5 : Int32) = 3 then x6 else if ¬ (zI h a0 6 : Int32) = 1 then x6 else zI h (zR h (zR h a0 1 - 1) 0 - 1) 3)] [] h21 Q
                    refine zg_goto zi_62_77 ?_
                    exact Gx.forget (zrk (zrd (zrd (zrd zr0)))) (okb_62_93 hw)
                · have hw := hw.2 hc
                  refine zg_aload zi_62_69 rfl ?_
                  refine zg_const (v := 3) zi_62_70 (by rfl) ?_
                  refine Gx.call2 (as := [.ref a0, .int 3]) (rest := []) zq_54 zi_62_71 rfl rfl rfl (Nat.le_of_ble_eq_true rfl) (Nat.le_of_ble_eq_true rfl) (zrv_v t1 rfl rfl) (Nat.le_of_ble_eq_true rfl) ?_
                  refine Ct.mono hw ?_
                  rintro v h22 ⟨rfl, hw⟩
                  show Gx E (d + 1) 62 72 [.ref a0, .int x2, .int x4, .int (if ¬ (zI h a0 5 : Int32) = 3 then x6 else if ¬ (zI h a0 6 : Int32) = 1 then x6 else zI h (zR h (zR h a0 1 - 1) 0 - 1) 3)] [] h22 Q
                  refine zg_goto zi_62_72 ?_
                  exact Gx.forget (zrk (zrd (zrd (zrd zr0)))) (okb_62_93 hw)
          · have hw := hw.2 hc
            refine zg_aload zi_62_52 rfl ?_
            refine zg_const (v := 2) zi_62_53 (by rfl) ?_
            refine Gx.call2 (as := [.ref a0, .int 2]) (rest := []) zq_54 zi_62_54 rfl rfl rfl (Nat.le_of_ble_eq_true rfl) (Nat.le_of_ble_eq_true rfl) (zrv_v t1 rfl rfl) (Nat.le_of_ble_eq_true rfl) ?_
            refine Ct.mono hw ?_
            rintro v h23 ⟨rfl, hw⟩
            show Gx E (d + 1) 62 55 [.ref a0, .int x2, .int x4, .int (if ¬ (zI h a0 5 : Int32) = 3 then x6 else if ¬ (zI h a0 6 : Int32) = 1 then x6 else zI h (zR h (zR h a0 1 - 1) 0 - 1) 3)] [] h23 Q
            refine zg_goto zi_62_55 ?_
            exact Gx.forget (zrk (zrd (zrd (zrd zr0)))) (okb_62_93 hw)
        refine zg_icmp_ne zi_62_36 (fun hc36 => ?_) (fun hc36 => ?_)
        · have hw := hsd36.1 hc36
          have hg := g36
          simp only [if_pos hc36] at hg
          exact hg
        · have hw := hsd36.2 hc36
          refine zg_aload zi_62_37 rfl ?_
          refine zg_getI (v := .int (zI h a0 6)) zi_62_38 t1 (by rfl) rfl ?_
          refine zg_const (v := 1) zi_62_39 (by rfl) ?_
          obtain ⟨hsd40, hw⟩ := hw
          have g40 : Gx E (d + 1) 62 47 [.ref a0, .int x2, .int x4, .int (if ¬ (zI h a0 6 : Int32) = 1 then x6 else zI h (zR h (zR h a0 1 - 1) 0 - 1) 3)] [] h Q := by
            have hg := g36
            simp only [if_neg hc36] at hg
            exact hg
          refine zg_icmp_ne zi_62_40 (fun hc40 => ?_) (fun hc40 => ?_)
          · have hw := hsd40.1 hc40
            have hg := g40
            simp only [if_pos hc40] at hg
            exact hg
          · have hw := hsd40.2 hc40
            refine zg_aload zi_62_41 rfl ?_
            obtain ⟨hr, hw⟩ := hw
            refine zg_getR (v := .ref (zR h a0 1 - 1)) zi_62_42 t1 (by rfl) (zrv_p hr) ?_
            obtain ⟨t7, hw⟩ := hw
            obtain ⟨hr, hw⟩ := hw
            refine zg_getR (v := .ref (zR h (zR h a0 1 - 1) 0 - 1)) zi_62_43 t7 (by rfl) (zrv_p hr) ?_
            refine zg_const (v := 3) zi_62_44 (by rfl) ?_
            obtain ⟨t8, hw⟩ := hw
            obtain ⟨hb, hw⟩ := hw
            refine zg_iaload (v := .int (zI h (zR h (zR h a0 1 - 1) 0 - 1) 3)) zi_62_45 t8 hb rfl ?_
            refine zg_istore (ls1 := [.ref a0, .int x2, .int x4, .int (zI h (zR h (zR h a0 1 - 1) 0 - 1) 3)]) zi_62_46 (Nat.le_of_ble_eq_true rfl) rfl ?_
            have hg := g40
            simp only [if_neg hc40] at hg
            exact hg
      refine zg_if_eq zi_62_25 (fun hc25 => ?_) (fun hc25 => ?_)
      · have hw := hsd25.1 hc25
        refine zg_getstatic zi_62_28 ?_
        refine zg_aload zi_62_29 rfl ?_
        refine zg_getI (v := .int (zI h a0 5)) zi_62_30 t1 (by rfl) rfl ?_
        obtain ⟨t5, hw⟩ := hw
        obtain ⟨hb, hw⟩ := hw
        refine zg_iaload (v := .int (zI h (E 5) (zI h a0 5 : Int32).toNatClampNeg)) zi_62_31 t5 hb rfl ?_
        have hg := g25
        simp only [if_pos hc25] at hg
        exact hg
      · have hw := hsd25.2 hc25
        refine zg_const (v := 0) zi_62_26 (by rfl) ?_
        refine zg_goto zi_62_27 ?_
        have hg := g25
        simp only [if_neg hc25] at hg
        exact hg
    refine zg_if_eq zi_62_16 (fun hc16 => ?_) (fun hc16 => ?_)
    · have hw := hsd16.1 hc16
      refine zg_getstatic zi_62_19 ?_
      refine zg_aload zi_62_20 rfl ?_
      refine zg_getI (v := .int (zI h a0 5)) zi_62_21 t1 (by rfl) rfl ?_
      obtain ⟨t3, hw⟩ := hw
      obtain ⟨hb, hw⟩ := hw
      refine zg_iaload (v := .int (zI h (E 6) (zI h a0 5 : Int32).toNatClampNeg)) zi_62_22 t3 hb rfl ?_
      have hg := g16
      simp only [if_pos hc16] at hg
      exact hg
    · have hw := hsd16.2 hc16
      refine zg_const (v := 2) zi_62_17 (by rfl) ?_
      refine zg_goto zi_62_18 ?_
      have hg := g16
      simp only [if_neg hc16] at hg
      exact hg
  refine zg_if_ne zi_62_2 (fun hc2 => ?_) (fun hc2 => ?_)
  · skip
    refine zg_const (v := 0) zi_62_13 (by rfl) ?_
    have hg := g2
    simp only [if_pos hc2] at hg
    exact hg
  · skip
    refine zg_aload zi_62_3 rfl ?_
    refine zg_getI (v := .int (zI h a0 5)) zi_62_4 t1 (by rfl) rfl ?_
    refine zg_const (v := 14) zi_62_5 (by rfl) ?_
    have g6 : Gx E (d + 1) 62 14 [.ref a0, .retAddr 0, .retAddr 0, .retAddr 0] [.int (if (zI h a0 5 : Int32) = 14 then 1 else if ¬ (zI h a0 5 : Int32) = 15 then 0 else 1)] h Q := by
      have hg := g2
      simp only [if_neg hc2] at hg
      exact hg
    refine zg_icmp_eq zi_62_6 (fun hc6 => ?_) (fun hc6 => ?_)
    · skip
      refine zg_const (v := 1) zi_62_11 (by rfl) ?_
      refine zg_goto zi_62_12 ?_
      have hg := g6
      simp only [if_pos hc6] at hg
      exact hg
    · skip
      refine zg_aload zi_62_7 rfl ?_
      refine zg_getI (v := .int (zI h a0 5)) zi_62_8 t1 (by rfl) rfl ?_
      refine zg_const (v := 15) zi_62_9 (by rfl) ?_
      have g10 : Gx E (d + 1) 62 14 [.ref a0, .retAddr 0, .retAddr 0, .retAddr 0] [.int (if ¬ (zI h a0 5 : Int32) = 15 then 0 else 1)] h Q := by
        have hg := g6
        simp only [if_neg hc6] at hg
        exact hg
      refine zg_icmp_ne zi_62_10 (fun hc10 => ?_) (fun hc10 => ?_)
      · skip
        refine zg_const (v := 0) zi_62_13 (by rfl) ?_
        have hg := g10
        simp only [if_pos hc10] at hg
        exact hg
      · skip
        refine zg_const (v := 1) zi_62_11 (by rfl) ?_
        refine zg_goto zi_62_12 ?_
        have hg := g10
        simp only [if_neg hc10] at hg
        exact hg
theorem zq_55 : zQ 55 1 1 4 := by unfold zQ; decide +kernel
theorem zi_55_0 : (zM 55).1[0]? = some (.aload 0) := by rfl
theorem zi_55_1 : (zM 55).1[1]? = some (.getfield 4200) := by rfl
theorem zi_55_2 : (zM 55).1[2]? = some (.getfield 8003) := by rfl
theorem zi_55_3 : (zM 55).1[3]? = some (.ifCond .ne ((8 : Nat) : Int)) := by rfl
theorem zi_55_4 : (zM 55).1[4]? = some (.aload 0) := by rfl
theorem zi_55_5 : (zM 55).1[5]? = some (.iconst 1) := by rfl
theorem zi_55_6 : (zM 55).1[6]? = some (.invokevirtual 54) := by rfl
theorem zi_55_7 : (zM 55).1[7]? = some (.goto ((41 : Nat) : Int)) := by rfl
theorem zi_55_8 : (zM 55).1[8]? = some (.aload 0) := by rfl
theorem zi_55_9 : (zM 55).1[9]? = some (.getfield 4005) := by rfl
theorem zi_55_10 : (zM 55).1[10]? = some (.iconst (-4)) := by rfl
theorem zi_55_11 : (zM 55).1[11]? = some (.if_icmp .ne ((15 : Nat) : Int)) := by rfl
theorem zi_55_12 : (zM 55).1[12]? = some (.aload 0) := by rfl
theorem zi_55_13 : (zM 55).1[13]? = some (.invokevirtual 57) := by rfl
theorem zi_55_14 : (zM 55).1[14]? = some (.goto ((41 : Nat) : Int)) := by rfl
theorem zi_55_15 : (zM 55).1[15]? = some (.aload 0) := by rfl
theorem zi_55_16 : (zM 55).1[16]? = some (.getfield 4006) := by rfl
theorem zi_55_17 : (zM 55).1[17]? = some (.getstatic 4) := by rfl
theorem zi_55_18 : (zM 55).1[18]? = some (.aload 0) := by rfl
theorem zi_55_19 : (zM 55).1[19]? = some (.getfield 4005) := by rfl
theorem zi_55_20 : (zM 55).1[20]? = some (.iaload) := by rfl
theorem zi_55_21 : (zM 55).1[21]? = some (.if_icmp .ne ((25 : Nat) : Int)) := by rfl
theorem zi_55_22 : (zM 55).1[22]? = some (.aload 0) := by rfl
theorem zi_55_23 : (zM 55).1[23]? = some (.invokevirtual 58) := by rfl
theorem zi_55_24 : (zM 55).1[24]? = some (.goto ((41 : Nat) : Int)) := by rfl
theorem zi_55_25 : (zM 55).1[25]? = some (.aload 0) := by rfl
theorem zi_55_26 : (zM 55).1[26]? = some (.getfield 4005) := by rfl
theorem zi_55_27 : (zM 55).1[27]? = some (.iconst 8) := by rfl
theorem zi_55_28 : (zM 55).1[28]? = some (.if_icmp .ne ((32 : Nat) : Int)) := by rfl
theorem zi_55_29 : (zM 55).1[29]? = some (.aload 0) := by rfl
theorem zi_55_30 : (zM 55).1[30]? = some (.invokevirtual 60) := by rfl
theorem zi_55_31 : (zM 55).1[31]? = some (.goto ((41 : Nat) : Int)) := by rfl
theorem zi_55_32 : (zM 55).1[32]? = some (.aload 0) := by rfl
theorem zi_55_33 : (zM 55).1[33]? = some (.getfield 4005) := by rfl
theorem zi_55_34 : (zM 55).1[34]? = some (.iconst 12) := by rfl
theorem zi_55_35 : (zM 55).1[35]? = some (.if_icmp .ne ((39 : Nat) : Int)) := by rfl
theorem zi_55_36 : (zM 55).1[36]? = some (.aload 0) := by rfl
theorem zi_55_37 : (zM 55).1[37]? = some (.invokevirtual 61) := by rfl
theorem zi_55_38 : (zM 55).1[38]? = some (.goto ((41 : Nat) : Int)) := by rfl
theorem zi_55_39 : (zM 55).1[39]? = some (.aload 0) := by rfl
theorem zi_55_40 : (zM 55).1[40]? = some (.invokevirtual 62) := by rfl
theorem zi_55_41 : (zM 55).1[41]? = some (.return_) := by rfl
/-- TakeOrPay$Reader.takeToken()V -/
def w_55 (E : Nat → Nat) (d : Nat) (a0 : Nat) (h : ZH) (Q : Option Value → ZH → Prop) : Prop := ztag h a0 = 4 ∧ ∃ r2 : Nat, zR h a0 0 = r2 + 1 ∧ ztag h r2 = 8 ∧ ((¬ (zI h r2 3 : Int32) = 0 → ((¬ (zI h a0 5 : Int32) = ((-4) : Int32) → ((ztag h (E 4) = 13 ∨ ztag h (E 4) = 19) ∧ zin (zI h a0 5) (zlen h (E 4)) = true ∧ ((¬ (zI h a0 6 : Int32) = (zI h (E 4) (zI h a0 5 : Int32).toNatClampNeg : Int32) → ((¬ (zI h a0 5 : Int32) = 8 → ((¬ (zI h a0 5 : Int32) = 12 → (Ct E d 62 [.ref a0] h (fun v h5 => v = none ∧ Q none h5))) ∧ (¬ (¬ (zI h a0 5 : Int32) = 12) → (Ct E d 61 [.ref a0] h (fun v h6 => v = none ∧ Q none h6))))) ∧ (¬ (¬ (zI h a0 5 : Int32) = 8) → (Ct E d 60 [.ref a0] h (fun v h7 => v = none ∧ Q none h7))))) ∧ (¬ (¬ (zI h a0 6 : Int32) = (zI h (E 4) (zI h a0 5 : Int32).toNatClampNeg : Int32)) → (Ct E d 58 [.ref a0] h (fun v h8 => v = none ∧ Q none h8)))))) ∧ (¬ (¬ (zI h a0 5 : Int32) = ((-4) : Int32)) → (Ct E d 57 [.ref a0] h (fun v h9 => v = none ∧ Q none h9))))) ∧ (¬ (¬ (zI h r2 3 : Int32) = 0) → (Ct E d 54 [.ref a0, .int 1] h (fun v h10 => v = none ∧ Q none h10))))
set_option maxRecDepth 20000 in
theorem ok_55 {E : Nat → Nat} {d : Nat} {a0 : Nat} {h : ZH} {Q : Option Value → ZH → Prop} (hw : w_55 E d a0 h Q) : Ct E (d + 1) 55 [.ref a0] h Q := by
  unfold w_55 at hw
  show Gx E (d + 1) 55 0 [.ref a0] [] h Q
  refine zg_aload zi_55_0 rfl ?_
  obtain ⟨t1, hw⟩ := hw
  obtain ⟨r2, er2, hw⟩ := hw
  refine zg_getR (v := .ref r2) zi_55_1 t1 (by rfl) (by show zrv (zR h a0 0) = _; rw [er2]; rfl) ?_
  obtain ⟨t3, hw⟩ := hw
  refine zg_getI (v := .int (zI h r2 3)) zi_55_2 t3 (by rfl) rfl ?_
  refine zg_if_ne zi_55_3 (fun hc => ?_) (fun hc => ?_)
  · have hw := hw.1 hc
    refine zg_aload zi_55_8 rfl ?_
    refine zg_getI (v := .int (zI h a0 5)) zi_55_9 t1 (by rfl) rfl ?_
    refine zg_const (v := (-4)) zi_55_10 (by rfl) ?_
    refine zg_icmp_ne zi_55_11 (fun hc => ?_) (fun hc => ?_)
    · have hw := hw.1 hc
      refine zg_aload zi_55_15 rfl ?_
      refine zg_getI (v := .int (zI h a0 6)) zi_55_16 t1 (by rfl) rfl ?_
      refine zg_getstatic zi_55_17 ?_
      refine zg_aload zi_55_18 rfl ?_
      refine zg_getI (v := .int (zI h a0 5)) zi_55_19 t1 (by rfl) rfl ?_
      obtain ⟨t4, hw⟩ := hw
      obtain ⟨hb, hw⟩ := hw
      refine zg_iaload (v := .int (zI h (E 4) (zI h a0 5 : Int32).toNatClampNeg)) zi_55_20 t4 hb rfl ?_
      refine zg_icmp_ne zi_55_21 (fun hc => ?_) (fun hc => ?_)
      · have hw := hw.1 hc
        refine zg_aload zi_55_25 rfl ?_
        refine zg_getI (v := .int (zI h a0 5)) zi_55_26 t1 (by rfl) rfl ?_
        refine zg_const (v := 8) zi_55_27 (by rfl) ?_
        refine zg_icmp_ne zi_55_28 (fun hc => ?_) (fun hc => ?_)
        · have hw := hw.1 hc
          refine zg_aload zi_55_32 rfl ?_
          refine zg_getI (v := .int (zI h a0 5)) zi_55_33 t1 (by rfl) rfl ?_
          refine zg_const (v := 12) zi_55_34 (by rfl) ?_
          refine zg_icmp_ne zi_55_35 (fun hc => ?_) (fun hc => ?_)
          · have hw := hw.1 hc
            refine zg_aload zi_55_39 rfl ?_
            refine Gx.call2 (as := [.ref a0]) (rest := []) zq_62 zi_55_40 rfl rfl rfl (Nat.le_of_ble_eq_true rfl) (Nat.le_of_ble_eq_true rfl) (zrv_v t1 rfl rfl) (Nat.le_of_ble_eq_true rfl) ?_
            refine Ct.mono hw ?_
            rintro v h5 ⟨rfl, hw⟩
            show Gx E (d + 1) 55 41 [.ref a0] [] h5 Q
            exact zg_return zi_55_41 hw
          · have hw := hw.2 hc
            refine zg_aload zi_55_36 rfl ?_
            refine Gx.call2 (as := [.ref a0]) (rest := []) zq_61 zi_55_37 rfl rfl rfl (Nat.le_of_ble_eq_true rfl) (Nat.le_of_ble_eq_true rfl) (zrv_v t1 rfl rfl) (Nat.le_of_ble_eq_true rfl) ?_
            refine Ct.mono hw ?_
            rintro v h6 ⟨rfl, hw⟩
            show Gx E (d + 1) 55 38 [.ref a0] [] h6 Q
            refine zg_goto zi_55_38 ?_
            exact zg_return zi_55_41 hw
        · have hw := hw.2 hc
          refine zg_aload zi_55_29 rfl ?_
          refine Gx.call2 (as := [.ref a0]) (rest := []) zq_60 zi_55_30 rfl rfl rfl (Nat.le_of_ble_eq_true rfl) (Nat.le_of_ble_eq_true rfl) (zrv_v t1 rfl rfl) (Nat.le_of_ble_eq_true rfl) ?_
          refine Ct.mono hw ?_
          rintro v h7 ⟨rfl, hw⟩
          show Gx E (d + 1) 55 31 [.ref a0] [] h7 Q
          refine zg_goto zi_55_31 ?_
          exact zg_return zi_55_41 hw
      · have hw := hw.2 hc
        refine zg_aload zi_55_22 rfl ?_
        refine Gx.call2 (as := [.ref a0]) (rest := []) zq_58 zi_55_23 rfl rfl rfl (Nat.le_of_ble_eq_true rfl) (Nat.le_of_ble_eq_true rfl) (zrv_v t1 rfl rfl) (Nat.le_of_ble_eq_true rfl) ?_
        refine Ct.mono hw ?_
        rintro v h8 ⟨rfl, hw⟩
        show Gx E (d + 1) 55 24 [.ref a0] [] h8 Q
        refine zg_goto zi_55_24 ?_
        exact zg_return zi_55_41 hw
    · have hw := hw.2 hc
      refine zg_aload zi_55_12 rfl ?_
      refine Gx.call2 (as := [.ref a0]) (rest := []) zq_57 zi_55_13 rfl rfl rfl (Nat.le_of_ble_eq_true rfl) (Nat.le_of_ble_eq_true rfl) (zrv_v t1 rfl rfl) (Nat.le_of_ble_eq_true rfl) ?_
      refine Ct.mono hw ?_
      rintro v h9 ⟨rfl, hw⟩
      show Gx E (d + 1) 55 14 [.ref a0] [] h9 Q
      refine zg_goto zi_55_14 ?_
      exact zg_return zi_55_41 hw
  · have hw := hw.2 hc
    refine zg_aload zi_55_4 rfl ?_
    refine zg_const (v := 1) zi_55_5 (by rfl) ?_
    refine Gx.call2 (as := [.ref a0, .int 1]) (rest := []) zq_54 zi_55_6 rfl rfl rfl (Nat.le_of_ble_eq_true rfl) (Nat.le_of_ble_eq_true rfl) (zrv_v t1 rfl rfl) (Nat.le_of_ble_eq_true rfl) ?_
    refine Ct.mono hw ?_
    rintro v h10 ⟨rfl, hw⟩
    show Gx E (d + 1) 55 7 [.ref a0] [] h10 Q
    refine zg_goto zi_55_7 ?_
    exact zg_return zi_55_41 hw
theorem zq_53 : zQ 53 1 3 4 := by unfold zQ; decide +kernel
theorem zi_53_0 : (zM 53).1[0]? = some (.aload 0) := by rfl
theorem zi_53_1 : (zM 53).1[1]? = some (.getfield 4201) := by rfl
theorem zi_53_2 : (zM 53).1[2]? = some (.invokevirtual 30) := by rfl
theorem zi_53_3 : (zM 53).1[3]? = some (.aload 0) := by rfl
theorem zi_53_4 : (zM 53).1[4]? = some (.iconst 0) := by rfl
theorem zi_53_5 : (zM 53).1[5]? = some (.putfield 4002) := by rfl
theorem zi_53_6 : (zM 53).1[6]? = some (.aload 0) := by rfl
theorem zi_53_7 : (zM 53).1[7]? = some (.iconst 0) := by rfl
theorem zi_53_8 : (zM 53).1[8]? = some (.putfield 4003) := by rfl
theorem zi_53_9 : (zM 53).1[9]? = some (.aload 0) := by rfl
theorem zi_53_10 : (zM 53).1[10]? = some (.iconst (-4)) := by rfl
theorem zi_53_11 : (zM 53).1[11]? = some (.putfield 4005) := by rfl
theorem zi_53_12 : (zM 53).1[12]? = some (.iconst 0) := by rfl
theorem zi_53_13 : (zM 53).1[13]? = some (.istore 1) := by rfl
theorem zi_53_14 : (zM 53).1[14]? = some (.aload 0) := by rfl
theorem zi_53_15 : (zM 53).1[15]? = some (.getfield 4200) := by rfl
theorem zi_53_16 : (zM 53).1[16]? = some (.iconst 0) := by rfl
theorem zi_53_17 : (zM 53).1[17]? = some (.putfield 8002) := by rfl
theorem zi_53_18 : (zM 53).1[18]? = some (.aload 0) := by rfl
theorem zi_53_19 : (zM 53).1[19]? = some (.getfield 4200) := by rfl
theorem zi_53_20 : (zM 53).1[20]? = some (.invokevirtual 79) := by rfl
theorem zi_53_21 : (zM 53).1[21]? = some (.iconst 0) := by rfl
theorem zi_53_22 : (zM 53).1[22]? = some (.istore 2) := by rfl
theorem zi_53_23 : (zM 53).1[23]? = some (.iload 2) := by rfl
theorem zi_53_24 : (zM 53).1[24]? = some (.iconst 320) := by rfl
theorem zi_53_25 : (zM 53).1[25]? = some (.if_icmp .ge ((55 : Nat) : Int)) := by rfl
theorem zi_53_26 : (zM 53).1[26]? = some (.aload 0) := by rfl
theorem zi_53_27 : (zM 53).1[27]? = some (.getfield 4200) := by rfl
theorem zi_53_28 : (zM 53).1[28]? = some (.getfield 8003) := by rfl
theorem zi_53_29 : (zM 53).1[29]? = some (.iconst 4) := by rfl
theorem zi_53_30 : (zM 53).1[30]? = some (.if_icmp .eq ((55 : Nat) : Int)) := by rfl
theorem zi_53_31 : (zM 53).1[31]? = some (.aload 0) := by rfl
theorem zi_53_32 : (zM 53).1[32]? = some (.getfield 4003) := by rfl
theorem zi_53_33 : (zM 53).1[33]? = some (.ifCond .ne ((55 : Nat) : Int)) := by rfl
theorem zi_53_34 : (zM 53).1[34]? = some (.aload 0) := by rfl
theorem zi_53_35 : (zM 53).1[35]? = some (.invokevirtual 55) := by rfl
theorem zi_53_36 : (zM 53).1[36]? = some (.aload 0) := by rfl
theorem zi_53_37 : (zM 53).1[37]? = some (.getfield 4003) := by rfl
theorem zi_53_38 : (zM 53).1[38]? = some (.ifCond .ne ((53 : Nat) : Int)) := by rfl
theorem zi_53_39 : (zM 53).1[39]? = some (.iload 1) := by rfl
theorem zi_53_40 : (zM 53).1[40]? = some (.aload 0) := by rfl
theorem zi_53_41 : (zM 53).1[41]? = some (.getfield 4200) := by rfl
theorem zi_53_42 : (zM 53).1[42]? = some (.getfield 8003) := by rfl
theorem zi_53_43 : (zM 53).1[43]? = some (.iconst 3) := by rfl
theorem zi_53_44 : (zM 53).1[44]? = some (.if_icmp .ne ((47 : Nat) : Int)) := by rfl
theorem zi_53_45 : (zM 53).1[45]? = some (.iconst 1) := by rfl
theorem zi_53_46 : (zM 53).1[46]? = some (.goto ((48 : Nat) : Int)) := by rfl
theorem zi_53_47 : (zM 53).1[47]? = some (.iconst 0) := by rfl
theorem zi_53_48 : (zM 53).1[48]? = some (.iadd) := by rfl
theorem zi_53_49 : (zM 53).1[49]? = some (.istore 1) := by rfl
theorem zi_53_50 : (zM 53).1[50]? = some (.aload 0) := by rfl
theorem zi_53_51 : (zM 53).1[51]? = some (.getfield 4200) := by rfl
theorem zi_53_52 : (zM 53).1[52]? = some (.invokevirtual 79) := by rfl
theorem zi_53_53 : (zM 53).1[53]? = some (.iinc 2 1) := by rfl
theorem zi_53_54 : (zM 53).1[54]? = some (.goto ((23 : Nat) : Int)) := by rfl
theorem zi_53_55 : (zM 53).1[55]? = some (.aload 0) := by rfl
theorem zi_53_56 : (zM 53).1[56]? = some (.getfield 4005) := by rfl
theorem zi_53_57 : (zM 53).1[57]? = some (.iconst (-4)) := by rfl
theorem zi_53_58 : (zM 53).1[58]? = some (.if_icmp .eq ((62 : Nat) : Int)) := by rfl
theorem zi_53_59 : (zM 53).1[59]? = some (.aload 0) := by rfl
theorem zi_53_60 : (zM 53).1[60]? = some (.iconst 2) := by rfl
theorem zi_53_61 : (zM 53).1[61]? = some (.invokevirtual 54) := by rfl
theorem zi_53_62 : (zM 53).1[62]? = some (.iload 1) := by rfl
theorem zi_53_63 : (zM 53).1[63]? = some (.ireturn) := by rfl
def wb_53_62 (E : Nat → Nat) (d : Nat) (Q : Option Value → ZH → Prop) (a1 : Int32) (h : ZH) : Prop := Q (some (.int a1)) h
set_option maxRecDepth 20000 in
theorem okb_53_62 {E : Nat → Nat} {d : Nat} {Q : Option Value → ZH → Prop} {a1 : Int32} {h : ZH} (hw : wb_53_62 E d Q a1 h) : Gx E (d + 1) 53 62 [.retAddr 0, .int a1, .retAddr 0] [] h Q := by
  unfold wb_53_62 at hw
  refine zg_iload zi_53_62 rfl ?_
  exact zg_ireturn zi_53_63 (by decide) hw
def wb_53_55 (E : Nat → Nat) (d : Nat) (Q : Option Value → ZH → Prop) (a0 : Nat) (a1 : Int32) (h : ZH) : Prop := ztag h a0 = 4 ∧ (((zI h a0 5 : Int32) = ((-4) : Int32) → (wb_53_62 E d Q a1 h)) ∧ (¬ ((zI h a0 5 : Int32) = ((-4) : Int32)) → (Ct E d 54 [.ref a0, .int 2] h (fun v h14 => v = none ∧ wb_53_62 E d Q a1 h14))))
set_option maxRecDepth 20000 in
theorem okb_53_55 {E : Nat → Nat} {d : Nat} {Q : Option Value → ZH → Prop} {a0 : Nat} {a1 : Int32} {h : ZH} (hw : wb_53_55 E d Q a0 a1 h) : Gx E (d + 1) 53 55 [.ref a0, .int a1, .retAddr 0] [] h Q := by
  unfold wb_53_55 at hw
  refine zg_aload zi_53_55 rfl ?_
  obtain ⟨t13, hw⟩ := hw
  refine zg_getI (v := .int (zI h a0 5)) zi_53_56 t13 (by rfl) rfl ?_
  refine zg_const (v := (-4)) zi_53_57 (by rfl) ?_
  refine zg_icmp_eq zi_53_58 (fun hc => ?_) (fun hc => ?_)
  · have hw := hw.1 hc
    exact Gx.forget (zrd (zrk (zrk zr0))) (okb_53_62 hw)
  · have hw := hw.2 hc
    refine zg_aload zi_53_59 rfl ?_
    refine zg_const (v := 2) zi_53_60 (by rfl) ?_
    refine Gx.call2 (as := [.ref a0, .int 2]) (rest := []) zq_54 zi_53_61 rfl rfl rfl (Nat.le_of_ble_eq_true rfl) (Nat.le_of_ble_eq_true rfl) (zrv_v t13 rfl rfl) (Nat.le_of_ble_eq_true rfl) ?_
    refine Ct.mono hw ?_
    rintro v h14 ⟨rfl, hw⟩
    show Gx E (d + 1) 53 62 [.ref a0, .int a1, .retAddr 0] [] h14 Q
    exact Gx.forget (zrd (zrk (zrk zr0))) (okb_53_62 hw)
def wb_53_53 (E : Nat → Nat) (d : Nat) (Q : Option Value → ZH → Prop) (L_23 : Nat → Int32 → Int32 → ZH → Prop) (a0 : Nat) (a1 : Int32) (a2 : Int32) (h : ZH) : Prop := ∀ x20 : Int32, x20 = (a2 + 1) → L_23 a0 a1 x20 h
set_option maxRecDepth 20000 in
theorem okb_53_53 {E : Nat → Nat} {d : Nat} {Q : Option Value → ZH → Prop} {L_23 : Nat → Int32 → Int32 → ZH → Prop} (hL_23 : ∀ (b0 : Nat) (b1 : Int32) (b2 : Int32) (h : ZH), L_23 b0 b1 b2 h → Gx E (d + 1) 53 23 [.ref b0, .int b1, .int b2] [] h Q) {a0 : Nat} {a1 : Int32} {a2 : Int32} {h : ZH} (hw : wb_53_53 E d Q L_23 a0 a1 a2 h) : Gx E (d + 1) 53 53 [.ref a0, .int a1, .int a2] [] h Q := by
  unfold wb_53_53 at hw
  obtain ⟨x20, ex20⟩ : ∃ x : Int32, x = a2 + 1 := ⟨_, rfl⟩
  have hw := hw x20 ex20
  refine zg_iinc (v := x20) (ls1 := [.ref a0, .int a1, .int x20]) zi_53_53 rfl (by rw [ex20]; rfl) rfl ?_
  refine zg_goto zi_53_54 ?_
  exact hL_23 a0 a1 x20 h hw
def wl_53_23 (E : Nat → Nat) (d : Nat) (Q : Option Value → ZH → Prop) : Nat → Nat → Int32 → Int32 → ZH → Prop
  | 0, _, _, _, _ => False
  | n + 1, a0, a1, a2, h => (320 ≤ a2 → (wb_53_55 E d Q a0 a1 h)) ∧ (¬ (320 ≤ a2) → (ztag h a0 = 4 ∧ ∃ r16 : Nat, zR h a0 0 = r16 + 1 ∧ ztag h r16 = 8 ∧ (((zI h r16 3 : Int32) = 4 → (wb_53_55 E d Q a0 a1 h)) ∧ (¬ ((zI h r16 3 : Int32) = 4) → ((¬ (zI h a0 3 : Int32) = 0 → (wb_53_55 E d Q a0 a1 h)) ∧ (¬ (¬ (zI h a0 3 : Int32) = 0) → (Ct E d 55 [.ref a0] h (fun v h18 => v = none ∧ ztag h18 a0 = 4 ∧ ((¬ (zI h18 a0 3 : Int32) = 0 → (wb_53_53 E d Q (wl_53_23 E d Q n) a0 a1 a2 h18)) ∧ (¬ (¬ (zI h18 a0 3 : Int32) = 0) → (∃ r21 : Nat, zR h18 a0 0 = r21 + 1 ∧ ztag h18 r21 = 8 ∧ ∀ x23 : Int32, x23 = (a1 + (if ¬ (zI h18 r21 3 : Int32) = 3 then 0 else 1)) → Ct E d 79 [.ref r21] h18 (fun v h24 => v = none ∧ wb_53_53 E d Q (wl_53_23 E d Q n) a0 x23 a2 h24))))))))))))
set_option maxRecDepth 20000 in
theorem okl_53_23 {E : Nat → Nat} {d : Nat} {Q : Option Value → ZH → Prop} : ∀ (n : Nat) (a0 : Nat) (a1 : Int32) (a2 : Int32) (h : ZH), wl_53_23 E d Q n a0 a1 a2 h → Gx E (d + 1) 53 23 [.ref a0, .int a1, .int a2] [] h Q := by
  intro n
  induction n with
  | zero => intro a0 a1 a2 h hw; exact hw.elim
  | succ n ih =>
    intro a0 a1 a2 h hw
    rw [wl_53_23] at hw
    refine zg_iload zi_53_23 rfl ?_
    refine zg_const (v := 320) zi_53_24 (by rfl) ?_
    refine zg_icmp_ge zi_53_25 (fun hc => ?_) (fun hc => ?_)
    · have hw := hw.1 hc
      exact Gx.forget (zrk (zrk (zrd zr0))) (okb_53_55 hw)
    · have hw := hw.2 hc
      refine zg_aload zi_53_26 rfl ?_
      obtain ⟨t15, hw⟩ := hw
      obtain ⟨r16, er16, hw⟩ := hw
      refine zg_getR (v := .ref r16) zi_53_27 t15 (by rfl) (by show zrv (zR h a0 0) = _; rw [er16]; rfl) ?_
      obtain ⟨t17, hw⟩ := hw
      refine zg_getI (v := .int (zI h r16 3)) zi_53_28 t17 (by rfl) rfl ?_
      refine zg_const (v := 4) zi_53_29 (by rfl) ?_
      refine zg_icmp_eq zi_53_30 (fun hc => ?_) (fun hc => ?_)
      · have hw := hw.1 hc
        exact Gx.forget (zrk (zrk (zrd zr0))) (okb_53_55 hw)
      · have hw := hw.2 hc
        refine zg_aload zi_53_31 rfl ?_
        refine zg_getI (v := .int (zI h a0 3)) zi_53_32 t15 (by rfl) rfl ?_
        refine zg_if_ne zi_53_33 (fun hc => ?_) (fun hc => ?_)
        · have hw := hw.1 hc
          exact Gx.forget (zrk (zrk (zrd zr0))) (okb_53_55 hw)
        · have hw := hw.2 hc
          refine zg_aload zi_53_34 rfl ?_
          refine Gx.call2 (as := [.ref a0]) (rest := []) zq_55 zi_53_35 rfl rfl rfl (Nat.le_of_ble_eq_true rfl) (Nat.le_of_ble_eq_true rfl) (zrv_v t15 rfl rfl) (Nat.le_of_ble_eq_true rfl) ?_
          refine Ct.mono hw ?_
          rintro v h18 ⟨rfl, hw⟩
          show Gx E (d + 1) 53 36 [.ref a0, .int a1, .int a2] [] h18 Q
          refine zg_aload zi_53_36 rfl ?_
          obtain ⟨t19, hw⟩ := hw
          refine zg_getI (v := .int (zI h18 a0 3)) zi_53_37 t19 (by rfl) rfl ?_
          refine zg_if_ne zi_53_38 (fun hc => ?_) (fun hc => ?_)
          · have hw := hw.1 hc
            exact okb_53_53 ih hw
          · have hw := hw.2 hc
            refine zg_iload zi_53_39 rfl ?_
            refine zg_aload zi_53_40 rfl ?_
            obtain ⟨r21, er21, hw⟩ := hw
            refine zg_getR (v := .ref r21) zi_53_41 t19 (by rfl) (by show zrv (zR h18 a0 0) = _; rw [er21]; rfl) ?_
            obtain ⟨t22, hw⟩ := hw
            refine zg_getI (v := .int (zI h18 r21 3)) zi_53_42 t22 (by rfl) rfl ?_
            refine zg_const (v := 3) zi_53_43 (by rfl) ?_
            have g44 : Gx E (d + 1) 53 48 [.ref a0, .int a1, .int a2] [.int (if ¬ (zI h18 r21 3 : Int32) = 3 then 0 else 1), .int a1] h18 Q := by
              refine zg_iadd zi_53_48 ?_
              refine zg_nameI fun x23 ex23 => ?_
              have hw := hw x23 ex23
              refine zg_istore (ls1 := [.ref a0, .int x23, .int a2]) zi_53_49 (Nat.le_of_ble_eq_true rfl) rfl ?_
              refine zg_aload zi_53_50 rfl ?_
              refine zg_getR (v := .ref r21) zi_53_51 t19 (by rfl) (by show zrv (zR h18 a0 0) = _; rw [er21]; rfl) ?_
              refine Gx.call2 (as := [.ref r21]) (rest := []) zq_79 zi_53_52 rfl rfl rfl (Nat.le_of_ble_eq_true rfl) (Nat.le_of_ble_eq_true rfl) (zrv_v t22 rfl rfl) (Nat.le_of_ble_eq_true rfl) ?_
              refine Ct.mono hw ?_
              rintro v h24 ⟨rfl, hw⟩
              show Gx E (d + 1) 53 53 [.ref a0, .int x23, .int a2] [] h24 Q
              exact okb_53_53 ih hw
            refine zg_icmp_ne zi_53_44 (fun hc44 => ?_) (fun hc44 => ?_)
            · skip
              refine zg_const (v := 0) zi_53_47 (by rfl) ?_
              have hg := g44
              simp only [if_pos hc44] at hg
              exact hg
            · skip
              refine zg_const (v := 1) zi_53_45 (by rfl) ?_
              refine zg_goto zi_53_46 ?_
              have hg := g44
              simp only [if_neg hc44] at hg
              exact hg
/-- TakeOrPay$Reader.readLines()I -/
def w_53 (E : Nat → Nat) (d : Nat) (a0 : Nat) (h : ZH) (Q : Option Value → ZH → Prop) : Prop := ztag h a0 = 4 ∧ ∃ r2 : Nat, zR h a0 1 = r2 + 1 ∧ ztag h r2 = 3 ∧ Ct E d 30 [.ref r2] h (fun v h4 => v = none ∧ ztag h4 a0 = 4 ∧ ∀ h6 : ZH, h6 = (zuI h4 a0 2 0) → ∀ h7 : ZH, h7 = (zuI h6 a0 3 0) → ∀ h8 : ZH, h8 = (zuI h7 a0 5 ((-4))) → ∃ r9 : Nat, zR h8 a0 0 = r9 + 1 ∧ ztag h8 r9 = 8 ∧ ∀ h11 : ZH, h11 = (zuI h8 r9 2 0) → Ct E d 79 [.ref r9] h11 (fun v h12 => v = none ∧ (∃ mm : Nat, wl_53_23 E d Q mm a0 0 0 h12)))
set_option maxRecDepth 20000 in
theorem ok_53 {E : Nat → Nat} {d : Nat} {a0 : Nat} {h : ZH} {Q : Option Value → ZH → Prop} (hw : w_53 E d a0 h Q) : Ct E (d + 1) 53 [.ref a0] h Q := by
  unfold w_53 at hw
  show Gx E (d + 1) 53 0 [.ref a0, .retAddr 0, .retAddr 0] [] h Q
  refine zg_aload zi_53_0 rfl ?_
  obtain ⟨t1, hw⟩ := hw
  obtain ⟨r2, er2, hw⟩ := hw
  refine zg_getR (v := .ref r2) zi_53_1 t1 (by rfl) (by show zrv (zR h a0 1) = _; rw [er2]; rfl) ?_
  obtain ⟨t3, hw⟩ := hw
  refine Gx.call2 (as := [.ref r2]) (rest := []) zq_30 zi_53_2 rfl rfl rfl (Nat.le_of_ble_eq_true rfl) (Nat.le_of_ble_eq_true rfl) (zrv_v t3 rfl rfl) (Nat.le_of_ble_eq_true rfl) ?_
  refine Ct.mono hw ?_
  rintro v h4 ⟨rfl, hw⟩
  show Gx E (d + 1) 53 3 [.ref a0, .retAddr 0, .retAddr 0] [] h4 Q
  refine zg_aload zi_53_3 rfl ?_
  refine zg_const (v := 0) zi_53_4 (by rfl) ?_
  obtain ⟨t5, hw⟩ := hw
  refine zg_putI (h1 := zuI h4 a0 2 0) zi_53_5 t5 (by rfl) rfl ?_
  refine zg_nameH fun h6 eh6 => ?_
  have hw := hw h6 eh6
  refine zg_aload zi_53_6 rfl ?_
  refine zg_const (v := 0) zi_53_7 (by rfl) ?_
  refine zg_putI (h1 := zuI h6 a0 3 0) zi_53_8 (by rw [eh6]; exact t5) (by rfl) rfl ?_
  refine zg_nameH fun h7 eh7 => ?_
  have hw := hw h7 eh7
  refine zg_aload zi_53_9 rfl ?_
  refine zg_const (v := (-4)) zi_53_10 (by rfl) ?_
  refine zg_putI (h1 := zuI h7 a0 5 ((-4))) zi_53_11 (by rw [eh7, eh6]; exact t5) (by rfl) rfl ?_
  refine zg_nameH fun h8 eh8 => ?_
  have hw := hw h8 eh8
  refine zg_const (v := 0) zi_53_12 (by rfl) ?_
  refine zg_istore (ls1 := [.ref a0, .int 0, .retAddr 0]) zi_53_13 (Nat.le_of_ble_eq_true rfl) rfl ?_
  refine zg_aload zi_53_14 rfl ?_
  obtain ⟨r9, er9, hw⟩ := hw
  refine zg_getR (v := .ref r9) zi_53_15 (by rw [eh8, eh7, eh6]; exact t5) (by rfl) (by show zrv (zR h8 a0 0) = _; rw [er9]; rfl) ?_
  refine zg_const (v := 0) zi_53_16 (by rfl) ?_
  obtain ⟨t10, hw⟩ := hw
  refine zg_putI (h1 := zuI h8 r9 2 0) zi_53_17 t10 (by rfl) rfl ?_
  refine zg_nameH fun h11 eh11 => ?_
  have hw := hw h11 eh11
  refine zg_aload zi_53_18 rfl ?_
  refine zg_getR (v := .ref r9) zi_53_19 (by rw [eh11, eh8, eh7, eh6]; exact t5) (by rfl) (by rw [eh11]; show zrv (zR h8 a0 0) = _; rw [er9]; rfl) ?_
  refine Gx.call2 (as := [.ref r9]) (rest := []) zq_79 zi_53_20 rfl rfl rfl (Nat.le_of_ble_eq_true rfl) (Nat.le_of_ble_eq_true rfl) (zrv_v (by rw [eh11]; exact t10) rfl rfl) (Nat.le_of_ble_eq_true rfl) ?_
  refine Ct.mono hw ?_
  rintro v h12 ⟨rfl, hw⟩
  show Gx E (d + 1) 53 21 [.ref a0, .int 0, .retAddr 0] [] h12 Q
  refine zg_const (v := 0) zi_53_21 (by rfl) ?_
  refine zg_istore (ls1 := [.ref a0, .int 0, .int 0]) zi_53_22 (Nat.le_of_ble_eq_true rfl) rfl ?_
  obtain ⟨mm, hw⟩ := hw
  exact okl_53_23 mm a0 0 0 h12 hw
theorem zq_65 : zQ 65 1 1 5 := by unfold zQ; decide +kernel
theorem zi_65_0 : (zM 65).1[0]? = some (.aload 0) := by rfl
theorem zi_65_1 : (zM 65).1[1]? = some (.invokedynamic 3) := by rfl
theorem zi_65_2 : (zM 65).1[2]? = some (.aload 0) := by rfl
theorem zi_65_3 : (zM 65).1[3]? = some (.iconst 20) := by rfl
theorem zi_65_4 : (zM 65).1[4]? = some (.newarray .int) := by rfl
theorem zi_65_5 : (zM 65).1[5]? = some (.putfield 5200) := by rfl
theorem zi_65_6 : (zM 65).1[6]? = some (.aload 0) := by rfl
theorem zi_65_7 : (zM 65).1[7]? = some (.iconst 20) := by rfl
theorem zi_65_8 : (zM 65).1[8]? = some (.newarray .int) := by rfl
theorem zi_65_9 : (zM 65).1[9]? = some (.putfield 5201) := by rfl
theorem zi_65_10 : (zM 65).1[10]? = some (.return_) := by rfl
/-- TakeOrPay$Row.<init>()V -/
def w_65 (E : Nat → Nat) (d : Nat) (a0 : Nat) (h : ZH) (Q : Option Value → ZH → Prop) : Prop := 4 ≤ d ∧ ∀ h1 : ZH, h1 = (znew h 13 20) → ∀ r2 : Nat, r2 = (zsz h) → ztag h1 a0 = 5 ∧ ∀ h4 : ZH, h4 = (zuR h1 a0 0 (r2 + 1)) → ∀ h5 : ZH, h5 = (znew h4 13 20) → ∀ r6 : Nat, r6 = (zsz h4) → ztag h5 a0 = 5 ∧ ∀ h8 : ZH, h8 = (zuR h5 a0 1 (r6 + 1)) → Q none h8
set_option maxRecDepth 20000 in
theorem ok_65 {E : Nat → Nat} {d : Nat} {a0 : Nat} {h : ZH} {Q : Option Value → ZH → Prop} (hw : w_65 E d a0 h Q) : Ct E (d + 1) 65 [.ref a0] h Q := by
  unfold w_65 at hw
  show Gx E (d + 1) 65 0 [.ref a0] [] h Q
  refine zg_aload zi_65_0 rfl ?_
  obtain ⟨hd, hw⟩ := hw
  refine zg_object zi_65_1 ⟨by omega, Nat.le_of_ble_eq_true rfl⟩ ?_
  refine zg_aload zi_65_2 rfl ?_
  refine zg_const (v := 20) zi_65_3 (by rfl) ?_
  refine zg_newarray_int (N := 20) zi_65_4 (by decide) (by decide) ?_
  refine zg_nameH fun h1 eh1 => ?_
  have hw := hw h1 eh1
  refine zg_nameA fun r2 er2 => ?_
  have hw := hw r2 er2
  obtain ⟨t3, hw⟩ := hw
  refine zg_putR (h1 := zuR h1 a0 0 (r2 + 1)) zi_65_5 t3 (by rfl) rfl ?_
  refine zg_nameH fun h4 eh4 => ?_
  have hw := hw h4 eh4
  refine zg_aload zi_65_6 rfl ?_
  refine zg_const (v := 20) zi_65_7 (by rfl) ?_
  refine zg_newarray_int (N := 20) zi_65_8 (by decide) (by decide) ?_
  refine zg_nameH fun h5 eh5 => ?_
  have hw := hw h5 eh5
  refine zg_nameA fun r6 er6 => ?_
  have hw := hw r6 er6
  obtain ⟨t7, hw⟩ := hw
  refine zg_putR (h1 := zuR h5 a0 1 (r6 + 1)) zi_65_9 t7 (by rfl) rfl ?_
  refine zg_nameH fun h8 eh8 => ?_
  have hw := hw h8 eh8
  exact zg_return zi_65_10 hw
theorem zq_66 : zQ 66 3 3 5 := by unfold zQ; decide +kernel
theorem zi_66_0 : (zM 66).1[0]? = some (.aload 0) := by rfl
theorem zi_66_1 : (zM 66).1[1]? = some (.getfield 5002) := by rfl
theorem zi_66_2 : (zM 66).1[2]? = some (.iconst 20) := by rfl
theorem zi_66_3 : (zM 66).1[3]? = some (.if_icmp .ge ((22 : Nat) : Int)) := by rfl
theorem zi_66_4 : (zM 66).1[4]? = some (.aload 0) := by rfl
theorem zi_66_5 : (zM 66).1[5]? = some (.getfield 5200) := by rfl
theorem zi_66_6 : (zM 66).1[6]? = some (.aload 0) := by rfl
theorem zi_66_7 : (zM 66).1[7]? = some (.getfield 5002) := by rfl
theorem zi_66_8 : (zM 66).1[8]? = some (.iload 1) := by rfl
theorem zi_66_9 : (zM 66).1[9]? = some (.iastore) := by rfl
theorem zi_66_10 : (zM 66).1[10]? = some (.aload 0) := by rfl
theorem zi_66_11 : (zM 66).1[11]? = some (.getfield 5201) := by rfl
theorem zi_66_12 : (zM 66).1[12]? = some (.aload 0) := by rfl
theorem zi_66_13 : (zM 66).1[13]? = some (.getfield 5002) := by rfl
theorem zi_66_14 : (zM 66).1[14]? = some (.iload 2) := by rfl
theorem zi_66_15 : (zM 66).1[15]? = some (.iastore) := by rfl
theorem zi_66_16 : (zM 66).1[16]? = some (.aload 0) := by rfl
theorem zi_66_17 : (zM 66).1[17]? = some (.dup) := by rfl
theorem zi_66_18 : (zM 66).1[18]? = some (.getfield 5002) := by rfl
theorem zi_66_19 : (zM 66).1[19]? = some (.iconst 1) := by rfl
theorem zi_66_20 : (zM 66).1[20]? = some (.iadd) := by rfl
theorem zi_66_21 : (zM 66).1[21]? = some (.putfield 5002) := by rfl
theorem zi_66_22 : (zM 66).1[22]? = some (.return_) := by rfl
/-- TakeOrPay$Row.add(II)V -/
def w_66 (E : Nat → Nat) (d : Nat) (a0 : Nat) (a1 : Int32) (a2 : Int32) (h : ZH) (Q : Option Value → ZH → Prop) : Prop := ztag h a0 = 5 ∧ ((20 ≤ (zI h a0 2 : Int32) → (Q none h)) ∧ (¬ (20 ≤ (zI h a0 2 : Int32)) → (∃ r2 : Nat, zR h a0 0 = r2 + 1 ∧ ztag h r2 = 13 ∧ zin (zI h a0 2) (zlen h r2) = true ∧ ∀ h4 : ZH, h4 = (zuI h r2 (zI h a0 2 : Int32).toNatClampNeg a1) → ∃ r5 : Nat, zR h4 a0 1 = r5 + 1 ∧ ztag h4 r5 = 13 ∧ zin (zI h4 a0 2) (zlen h4 r5) = true ∧ ∀ h7 : ZH, h7 = (zuI h4 r5 (zI h4 a0 2 : Int32).toNatClampNeg a2) → ∀ h8 : ZH, h8 = (zuI h7 a0 2 ((zI h7 a0 2) + 1)) → Q none h8)))
set_option maxRecDepth 20000 in
theorem ok_66 {E : Nat → Nat} {d : Nat} {a0 : Nat} {a1 : Int32} {a2 : Int32} {h : ZH} {Q : Option Value → ZH → Prop} (hw : w_66 E d a0 a1 a2 h Q) : Ct E (d + 1) 66 [.ref a0, .int a1, .int a2] h Q := by
  unfold w_66 at hw
  show Gx E (d + 1) 66 0 [.ref a0, .int a1, .int a2] [] h Q
  refine zg_aload zi_66_0 rfl ?_
  obtain ⟨t1, hw⟩ := hw
  refine zg_getI (v := .int (zI h a0 2)) zi_66_1 t1 (by rfl) rfl ?_
  refine zg_const (v := 20) zi_66_2 (by rfl) ?_
  refine zg_icmp_ge zi_66_3 (fun hc => ?_) (fun hc => ?_)
  · have hw := hw.1 hc
    exact zg_return zi_66_22 hw
  · have hw := hw.2 hc
    refine zg_aload zi_66_4 rfl ?_
    obtain ⟨r2, er2, hw⟩ := hw
    refine zg_getR (v := .ref r2) zi_66_5 t1 (by rfl) (by show zrv (zR h a0 0) = _; rw [er2]; rfl) ?_
    refine zg_aload zi_66_6 rfl ?_
    refine zg_getI (v := .int (zI h a0 2)) zi_66_7 t1 (by rfl) rfl ?_
    refine zg_iload zi_66_8 rfl ?_
    obtain ⟨t3, hw⟩ := hw
    obtain ⟨hb, hw⟩ := hw
    refine zg_iastore (h1 := zuI h r2 (zI h a0 2 : Int32).toNatClampNeg a1) zi_66_9 t3 hb rfl ?_
    refine zg_nameH fun h4 eh4 => ?_
    have hw := hw h4 eh4
    refine zg_aload zi_66_10 rfl ?_
    obtain ⟨r5, er5, hw⟩ := hw
    refine zg_getR (v := .ref r5) zi_66_11 (by rw [eh4]; exact t1) (by rfl) (by show zrv (zR h4 a0 1) = _; rw [er5]; rfl) ?_
    refine zg_aload zi_66_12 rfl ?_
    refine zg_getI (v := .int (zI h4 a0 2)) zi_66_13 (by rw [eh4]; exact t1) (by rfl) rfl ?_
    refine zg_iload zi_66_14 rfl ?_
    obtain ⟨t6, hw⟩ := hw
    obtain ⟨hb, hw⟩ := hw
    refine zg_iastore (h1 := zuI h4 r5 (zI h4 a0 2 : Int32).toNatClampNeg a2) zi_66_15 t6 hb rfl ?_
    refine zg_nameH fun h7 eh7 => ?_
    have hw := hw h7 eh7
    refine zg_aload zi_66_16 rfl ?_
    refine zg_dup zi_66_17 rfl ?_
    refine zg_getI (v := .int (zI h7 a0 2)) zi_66_18 (by rw [eh7, eh4]; exact t1) (by rfl) rfl ?_
    refine zg_const (v := 1) zi_66_19 (by rfl) ?_
    refine zg_iadd zi_66_20 ?_
    refine zg_putI (h1 := zuI h7 a0 2 ((zI h7 a0 2) + 1)) zi_66_21 (by rw [eh7, eh4]; exact t1) (by rfl) rfl ?_
    refine zg_nameH fun h8 eh8 => ?_
    have hw := hw h8 eh8
    exact zg_return zi_66_22 hw
theorem zq_67 : zQ 67 1 1 6 := by unfold zQ; decide +kernel
theorem zi_67_0 : (zM 67).1[0]? = some (.aload 0) := by rfl
theorem zi_67_1 : (zM 67).1[1]? = some (.invokedynamic 3) := by rfl
theorem zi_67_2 : (zM 67).1[2]? = some (.aload 0) := by rfl
theorem zi_67_3 : (zM 67).1[3]? = some (.iconst 48) := by rfl
theorem zi_67_4 : (zM 67).1[4]? = some (.newarray .int) := by rfl
theorem zi_67_5 : (zM 67).1[5]? = some (.putfield 6200) := by rfl
theorem zi_67_6 : (zM 67).1[6]? = some (.aload 0) := by rfl
theorem zi_67_7 : (zM 67).1[7]? = some (.iconst (-4)) := by rfl
theorem zi_67_8 : (zM 67).1[8]? = some (.putfield 6001) := by rfl
theorem zi_67_9 : (zM 67).1[9]? = some (.return_) := by rfl
/-- TakeOrPay$Sheet.<init>()V -/
def w_67 (E : Nat → Nat) (d : Nat) (a0 : Nat) (h : ZH) (Q : Option Value → ZH → Prop) : Prop := 4 ≤ d ∧ ∀ h1 : ZH, h1 = (znew h 13 48) → ∀ r2 : Nat, r2 = (zsz h) → ztag h1 a0 = 6 ∧ ∀ h4 : ZH, h4 = (zuR h1 a0 0 (r2 + 1)) → ztag h4 a0 = 6 ∧ ∀ h6 : ZH, h6 = (zuI h4 a0 1 ((-4))) → Q none h6
set_option maxRecDepth 20000 in
theorem ok_67 {E : Nat → Nat} {d : Nat} {a0 : Nat} {h : ZH} {Q : Option Value → ZH → Prop} (hw : w_67 E d a0 h Q) : Ct E (d + 1) 67 [.ref a0] h Q := by
  unfold w_67 at hw
  show Gx E (d + 1) 67 0 [.ref a0] [] h Q
  refine zg_aload zi_67_0 rfl ?_
  obtain ⟨hd, hw⟩ := hw
  refine zg_object zi_67_1 ⟨by omega, Nat.le_of_ble_eq_true rfl⟩ ?_
  refine zg_aload zi_67_2 rfl ?_
  refine zg_const (v := 48) zi_67_3 (by rfl) ?_
  refine zg_newarray_int (N := 48) zi_67_4 (by decide) (by decide) ?_
  refine zg_nameH fun h1 eh1 => ?_
  have hw := hw h1 eh1
  refine zg_nameA fun r2 er2 => ?_
  have hw := hw r2 er2
  obtain ⟨t3, hw⟩ := hw
  refine zg_putR (h1 := zuR h1 a0 0 (r2 + 1)) zi_67_5 t3 (by rfl) rfl ?_
  refine zg_nameH fun h4 eh4 => ?_
  have hw := hw h4 eh4
  refine zg_aload zi_67_6 rfl ?_
  refine zg_const (v := (-4)) zi_67_7 (by rfl) ?_
  obtain ⟨t5, hw⟩ := hw
  refine zg_putI (h1 := zuI h4 a0 1 ((-4))) zi_67_8 t5 (by rfl) rfl ?_
  refine zg_nameH fun h6 eh6 => ?_
  have hw := hw h6 eh6
  exact zg_return zi_67_9 hw
theorem zq_68 : zQ 68 3 4 6 := by unfold zQ; decide +kernel
theorem zi_68_0 : (zM 68).1[0]? = some (.aload 0) := by rfl
theorem zi_68_1 : (zM 68).1[1]? = some (.iload 1) := by rfl
theorem zi_68_2 : (zM 68).1[2]? = some (.putfield 6001) := by rfl
theorem zi_68_3 : (zM 68).1[3]? = some (.aload 0) := by rfl
theorem zi_68_4 : (zM 68).1[4]? = some (.iload 2) := by rfl
theorem zi_68_5 : (zM 68).1[5]? = some (.putfield 6002) := by rfl
theorem zi_68_6 : (zM 68).1[6]? = some (.iconst 0) := by rfl
theorem zi_68_7 : (zM 68).1[7]? = some (.istore 3) := by rfl
theorem zi_68_8 : (zM 68).1[8]? = some (.iload 3) := by rfl
theorem zi_68_9 : (zM 68).1[9]? = some (.iconst 48) := by rfl
theorem zi_68_10 : (zM 68).1[10]? = some (.if_icmp .ge ((18 : Nat) : Int)) := by rfl
theorem zi_68_11 : (zM 68).1[11]? = some (.aload 0) := by rfl
theorem zi_68_12 : (zM 68).1[12]? = some (.getfield 6200) := by rfl
theorem zi_68_13 : (zM 68).1[13]? = some (.iload 3) := by rfl
theorem zi_68_14 : (zM 68).1[14]? = some (.iconst 0) := by rfl
theorem zi_68_15 : (zM 68).1[15]? = some (.iastore) := by rfl
theorem zi_68_16 : (zM 68).1[16]? = some (.iinc 3 1) := by rfl
theorem zi_68_17 : (zM 68).1[17]? = some (.goto ((8 : Nat) : Int)) := by rfl
theorem zi_68_18 : (zM 68).1[18]? = some (.return_) := by rfl
def wl_68_8 (E : Nat → Nat) (d : Nat) (Q : Option Value → ZH → Prop) : Nat → Nat → Int32 → ZH → Prop
  | 0, _, _, _ => False
  | n + 1, a0, a3, h => (48 ≤ a3 → (Q none h)) ∧ (¬ (48 ≤ a3) → (ztag h a0 = 6 ∧ ∃ r5 : Nat, zR h a0 0 = r5 + 1 ∧ ztag h r5 = 13 ∧ zin a3 (zlen h r5) = true ∧ ∀ h7 : ZH, h7 = (zuI h r5 a3.toNatClampNeg 0) → ∀ x8 : Int32, x8 = (a3 + 1) → wl_68_8 E d Q n a0 x8 h7))
set_option maxRecDepth 20000 in
theorem okl_68_8 {E : Nat → Nat} {d : Nat} {Q : Option Value → ZH → Prop} : ∀ (n : Nat) (a0 : Nat) (a3 : Int32) (h : ZH), wl_68_8 E d Q n a0 a3 h → Gx E (d + 1) 68 8 [.ref a0, .retAddr 0, .retAddr 0, .int a3] [] h Q := by
  intro n
  induction n with
  | zero => intro a0 a3 h hw; exact hw.elim
  | succ n ih =>
    intro a0 a3 h hw
    rw [wl_68_8] at hw
    refine zg_iload zi_68_8 rfl ?_
    refine zg_const (v := 48) zi_68_9 (by rfl) ?_
    refine zg_icmp_ge zi_68_10 (fun hc => ?_) (fun hc => ?_)
    · have hw := hw.1 hc
      exact zg_return zi_68_18 hw
    · have hw := hw.2 hc
      refine zg_aload zi_68_11 rfl ?_
      obtain ⟨t4, hw⟩ := hw
      obtain ⟨r5, er5, hw⟩ := hw
      refine zg_getR (v := .ref r5) zi_68_12 t4 (by rfl) (by show zrv (zR h a0 0) = _; rw [er5]; rfl) ?_
      refine zg_iload zi_68_13 rfl ?_
      refine zg_const (v := 0) zi_68_14 (by rfl) ?_
      obtain ⟨t6, hw⟩ := hw
      obtain ⟨hb, hw⟩ := hw
      refine zg_iastore (h1 := zuI h r5 a3.toNatClampNeg 0) zi_68_15 t6 hb rfl ?_
      refine zg_nameH fun h7 eh7 => ?_
      have hw := hw h7 eh7
      obtain ⟨x8, ex8⟩ : ∃ x : Int32, x = a3 + 1 := ⟨_, rfl⟩
      have hw := hw x8 ex8
      refine zg_iinc (v := x8) (ls1 := [.ref a0, .retAddr 0, .retAddr 0, .int x8]) zi_68_16 rfl (by rw [ex8]; rfl) rfl ?_
      refine zg_goto zi_68_17 ?_
      exact ih a0 x8 h7 hw
/-- TakeOrPay$Sheet.renew(II)V -/
def w_68 (E : Nat → Nat) (d : Nat) (a0 : Nat) (a1 : Int32) (a2 : Int32) (h : ZH) (Q : Option Value → ZH → Prop) : Prop := ztag h a0 = 6 ∧ ∀ h2 : ZH, h2 = (zuI h a0 1 a1) → ∀ h3 : ZH, h3 = (zuI h2 a0 2 a2) → (∃ mm : Nat, wl_68_8 E d Q mm a0 0 h3)
set_option maxRecDepth 20000 in
theorem ok_68 {E : Nat → Nat} {d : Nat} {a0 : Nat} {a1 : Int32} {a2 : Int32} {h : ZH} {Q : Option Value → ZH → Prop} (hw : w_68 E d a0 a1 a2 h Q) : Ct E (d + 1) 68 [.ref a0, .int a1, .int a2] h Q := by
  unfold w_68 at hw
  show Gx E (d + 1) 68 0 [.ref a0, .int a1, .int a2, .retAddr 0] [] h Q
  refine zg_aload zi_68_0 rfl ?_
  refine zg_iload zi_68_1 rfl ?_
  obtain ⟨t1, hw⟩ := hw
  refine zg_putI (h1 := zuI h a0 1 a1) zi_68_2 t1 (by rfl) rfl ?_
  refine zg_nameH fun h2 eh2 => ?_
  have hw := hw h2 eh2
  refine zg_aload zi_68_3 rfl ?_
  refine zg_iload zi_68_4 rfl ?_
  refine zg_putI (h1 := zuI h2 a0 2 a2) zi_68_5 (by rw [eh2]; exact t1) (by rfl) rfl ?_
  refine zg_nameH fun h3 eh3 => ?_
  have hw := hw h3 eh3
  refine zg_const (v := 0) zi_68_6 (by rfl) ?_
  refine zg_istore (ls1 := [.ref a0, .int a1, .int a2, .int 0]) zi_68_7 (Nat.le_of_ble_eq_true rfl) rfl ?_
  obtain ⟨mm, hw⟩ := hw
  exact Gx.forget (zrk (zrd (zrd (zrk zr0)))) (okl_68_8 mm a0 0 h3 hw)
theorem zq_69 : zQ 69 2 2 6 := by unfold zQ; decide +kernel
theorem zi_69_0 : (zM 69).1[0]? = some (.iload 1) := by rfl
theorem zi_69_1 : (zM 69).1[1]? = some (.ifCond .lt ((8 : Nat) : Int)) := by rfl
theorem zi_69_2 : (zM 69).1[2]? = some (.iload 1) := by rfl
theorem zi_69_3 : (zM 69).1[3]? = some (.aload 0) := by rfl
theorem zi_69_4 : (zM 69).1[4]? = some (.getfield 6002) := by rfl
theorem zi_69_5 : (zM 69).1[5]? = some (.if_icmp .ge ((8 : Nat) : Int)) := by rfl
theorem zi_69_6 : (zM 69).1[6]? = some (.iconst 1) := by rfl
theorem zi_69_7 : (zM 69).1[7]? = some (.goto ((9 : Nat) : Int)) := by rfl
theorem zi_69_8 : (zM 69).1[8]? = some (.iconst 0) := by rfl
theorem zi_69_9 : (zM 69).1[9]? = some (.ireturn) := by rfl
/-- TakeOrPay$Sheet.has(I)Z -/
def w_69 (E : Nat → Nat) (d : Nat) (a0 : Nat) (a1 : Int32) (h : ZH) (Q : Option Value → ZH → Prop) : Prop := ((a1 < 0 → (True)) ∧ (¬ (a1 < 0) → (ztag h a0 = 6 ∧ True))) ∧ Q (some (.int (if a1 < 0 then 0 else if (zI h a0 2 : Int32) ≤ a1 then 0 else 1))) h
set_option maxRecDepth 20000 in
theorem ok_69 {E : Nat → Nat} {d : Nat} {a0 : Nat} {a1 : Int32} {h : ZH} {Q : Option Value → ZH → Prop} (hw : w_69 E d a0 a1 h Q) : Ct E (d + 1) 69 [.ref a0, .int a1] h Q := by
  unfold w_69 at hw
  show Gx E (d + 1) 69 0 [.ref a0, .int a1] [] h Q
  refine zg_iload zi_69_0 rfl ?_
  obtain ⟨hsd1, hw⟩ := hw
  have g1 : Gx E (d + 1) 69 9 [.ref a0, .int a1] [.int (if a1 < 0 then 0 else if (zI h a0 2 : Int32) ≤ a1 then 0 else 1)] h Q := by
    exact zg_zreturn zi_69_9 (by (repeat' split) <;> first | (left; rfl) | (right; rfl)) hw
  refine zg_if_lt zi_69_1 (fun hc1 => ?_) (fun hc1 => ?_)
  · have hw := hsd1.1 hc1
    refine zg_const (v := 0) zi_69_8 (by rfl) ?_
    have hg := g1
    simp only [if_pos hc1] at hg
    exact hg
  · have hw := hsd1.2 hc1
    refine zg_iload zi_69_2 rfl ?_
    refine zg_aload zi_69_3 rfl ?_
    obtain ⟨t1, hw⟩ := hw
    refine zg_getI (v := .int (zI h a0 2)) zi_69_4 t1 (by rfl) rfl ?_
    have g5 : Gx E (d + 1) 69 9 [.ref a0, .int a1] [.int (if (zI h a0 2 : Int32) ≤ a1 then 0 else 1)] h Q := by
      have hg := g1
      simp only [if_neg hc1] at hg
      exact hg
    refine zg_icmp_ge zi_69_5 (fun hc5 => ?_) (fun hc5 => ?_)
    · skip
      refine zg_const (v := 0) zi_69_8 (by rfl) ?_
      have hg := g5
      simp only [if_pos hc5] at hg
      exact hg
    · skip
      refine zg_const (v := 1) zi_69_6 (by rfl) ?_
      refine zg_goto zi_69_7 ?_
      have hg := g5
      simp only [if_neg hc5] at hg
      exact hg
def fz_69 (E : Nat → Nat) (h : ZH) (a0 : Nat) (a1 : Int32) : Int32 := if a1 < 0 then 0 else if (zI h a0 2 : Int32) ≤ a1 then 0 else 1
def sz_69 (E : Nat → Nat) (h : ZH) (a0 : Nat) (a1 : Int32) : Prop := ((a1 < 0 → (True)) ∧ (¬ (a1 < 0) → (ztag h a0 = 6 ∧ True))) ∧ True
set_option maxRecDepth 20000 in
theorem fb_69 {E : Nat → Nat} {h : ZH} {a0 : Nat} {a1 : Int32} : fz_69 E h a0 a1 = 0 ∨ fz_69 E h a0 a1 = 1 := by
  unfold fz_69
  (try dsimp only)
  (repeat' split) <;> first | (left; rfl) | (right; rfl)
set_option maxRecDepth 20000 in
theorem cz_69 {E : Nat → Nat} {d : Nat} {a0 : Nat} {a1 : Int32} {h : ZH} {Q : Option Value → ZH → Prop} (hd : 1 ≤ d) (hs : sz_69 E h a0 a1) (hq : Q (some (.int (fz_69 E h a0 a1))) h) : Ct E d 69 [.ref a0, .int a1] h Q := by
  obtain ⟨d, rfl⟩ : ∃ n, d = n + 1 := ⟨d - 1, by omega⟩
  refine ok_69 ?_
  unfold w_69
  unfold sz_69 at hs
  unfold fz_69 at hq
  refine ⟨⟨fun hc => ?_, fun hc => ?_⟩, ?_⟩
  · have hs := hs.1.1 hc
    trivial
  · have hs := hs.1.2 hc
    refine ⟨hs.1, ?_⟩
    have hs := hs.2
    trivial
  have hs := hs.2
  exact hq
theorem zq_70 : zQ 70 3 3 6 := by unfold zQ; decide +kernel
theorem zi_70_0 : (zM 70).1[0]? = some (.aload 0) := by rfl
theorem zi_70_1 : (zM 70).1[1]? = some (.getfield 6200) := by rfl
theorem zi_70_2 : (zM 70).1[2]? = some (.iload 1) := by rfl
theorem zi_70_3 : (zM 70).1[3]? = some (.aload 0) := by rfl
theorem zi_70_4 : (zM 70).1[4]? = some (.getfield 6001) := by rfl
theorem zi_70_5 : (zM 70).1[5]? = some (.ifCond .ne ((9 : Nat) : Int)) := by rfl
theorem zi_70_6 : (zM 70).1[6]? = some (.iload 2) := by rfl
theorem zi_70_7 : (zM 70).1[7]? = some (.i2b) := by rfl
theorem zi_70_8 : (zM 70).1[8]? = some (.goto ((17 : Nat) : Int)) := by rfl
theorem zi_70_9 : (zM 70).1[9]? = some (.aload 0) := by rfl
theorem zi_70_10 : (zM 70).1[10]? = some (.getfield 6001) := by rfl
theorem zi_70_11 : (zM 70).1[11]? = some (.iconst 1) := by rfl
theorem zi_70_12 : (zM 70).1[12]? = some (.if_icmp .ne ((16 : Nat) : Int)) := by rfl
theorem zi_70_13 : (zM 70).1[13]? = some (.iload 2) := by rfl
theorem zi_70_14 : (zM 70).1[14]? = some (.i2s) := by rfl
theorem zi_70_15 : (zM 70).1[15]? = some (.goto ((17 : Nat) : Int)) := by rfl
theorem zi_70_16 : (zM 70).1[16]? = some (.iload 2) := by rfl
theorem zi_70_17 : (zM 70).1[17]? = some (.iastore) := by rfl
theorem zi_70_18 : (zM 70).1[18]? = some (.return_) := by rfl
/-- TakeOrPay$Sheet.put(II)V -/
def w_70 (E : Nat → Nat) (d : Nat) (a0 : Nat) (a1 : Int32) (a2 : Int32) (h : ZH) (Q : Option Value → ZH → Prop) : Prop := ztag h a0 = 6 ∧ ∃ r2 : Nat, zR h a0 0 = r2 + 1 ∧ ztag h r2 = 13 ∧ zin a1 (zlen h r2) = true ∧ ∀ h4 : ZH, h4 = (zuI h r2 a1.toNatClampNeg (if ¬ (zI h a0 1 : Int32) = 0 then if ¬ (zI h a0 1 : Int32) = 1 then a2 else a2.toInt16.toInt32 else a2.toInt8.toInt32)) → Q none h4
set_option maxRecDepth 20000 in
theorem ok_70 {E : Nat → Nat} {d : Nat} {a0 : Nat} {a1 : Int32} {a2 : Int32} {h : ZH} {Q : Option Value → ZH → Prop} (hw : w_70 E d a0 a1 a2 h Q) : Ct E (d + 1) 70 [.ref a0, .int a1, .int a2] h Q := by
  unfold w_70 at hw
  show Gx E (d + 1) 70 0 [.ref a0, .int a1, .int a2] [] h Q
  refine zg_aload zi_70_0 rfl ?_
  obtain ⟨t1, hw⟩ := hw
  obtain ⟨r2, er2, hw⟩ := hw
  refine zg_getR (v := .ref r2) zi_70_1 t1 (by rfl) (by show zrv (zR h a0 0) = _; rw [er2]; rfl) ?_
  refine zg_iload zi_70_2 rfl ?_
  refine zg_aload zi_70_3 rfl ?_
  refine zg_getI (v := .int (zI h a0 1)) zi_70_4 t1 (by rfl) rfl ?_
  have g5 : Gx E (d + 1) 70 17 [.ref a0, .int a1, .int a2] [.int (if ¬ (zI h a0 1 : Int32) = 0 then if ¬ (zI h a0 1 : Int32) = 1 then a2 else a2.toInt16.toInt32 else a2.toInt8.toInt32), .int a1, .ref r2] h Q := by
    obtain ⟨t3, hw⟩ := hw
    obtain ⟨hb, hw⟩ := hw
    refine zg_iastore (h1 := zuI h r2 a1.toNatClampNeg (if ¬ (zI h a0 1 : Int32) = 0 then if ¬ (zI h a0 1 : Int32) = 1 then a2 else a2.toInt16.toInt32 else a2.toInt8.toInt32)) zi_70_17 t3 hb rfl ?_
    refine zg_nameH fun h4 eh4 => ?_
    have hw := hw h4 eh4
    exact zg_return zi_70_18 hw
  refine zg_if_ne zi_70_5 (fun hc5 => ?_) (fun hc5 => ?_)
  · skip
    refine zg_aload zi_70_9 rfl ?_
    refine zg_getI (v := .int (zI h a0 1)) zi_70_10 t1 (by rfl) rfl ?_
    refine zg_const (v := 1) zi_70_11 (by rfl) ?_
    have g12 : Gx E (d + 1) 70 17 [.ref a0, .int a1, .int a2] [.int (if ¬ (zI h a0 1 : Int32) = 1 then a2 else a2.toInt16.toInt32), .int a1, .ref r2] h Q := by
      have hg := g5
      simp only [if_pos hc5] at hg
      exact hg
    refine zg_icmp_ne zi_70_12 (fun hc12 => ?_) (fun hc12 => ?_)
    · skip
      refine zg_iload zi_70_16 rfl ?_
      have hg := g12
      simp only [if_pos hc12] at hg
      exact hg
    · skip
      refine zg_iload zi_70_13 rfl ?_
      refine zg_i2s zi_70_14 ?_
      refine zg_goto zi_70_15 ?_
      have hg := g12
      simp only [if_neg hc12] at hg
      exact hg
  · skip
    refine zg_iload zi_70_6 rfl ?_
    refine zg_i2b zi_70_7 ?_
    refine zg_goto zi_70_8 ?_
    have hg := g5
    simp only [if_neg hc5] at hg
    exact hg
theorem zq_71 : zQ 71 2 2 6 := by unfold zQ; decide +kernel
theorem zi_71_0 : (zM 71).1[0]? = some (.aload 0) := by rfl
theorem zi_71_1 : (zM 71).1[1]? = some (.getfield 6001) := by rfl
theorem zi_71_2 : (zM 71).1[2]? = some (.iconst (-4)) := by rfl
theorem zi_71_3 : (zM 71).1[3]? = some (.if_icmp .ne ((6 : Nat) : Int)) := by rfl
theorem zi_71_4 : (zM 71).1[4]? = some (.iconst 1) := by rfl
theorem zi_71_5 : (zM 71).1[5]? = some (.ireturn) := by rfl
theorem zi_71_6 : (zM 71).1[6]? = some (.aload 0) := by rfl
theorem zi_71_7 : (zM 71).1[7]? = some (.getfield 6001) := by rfl
theorem zi_71_8 : (zM 71).1[8]? = some (.iload 1) := by rfl
theorem zi_71_9 : (zM 71).1[9]? = some (.if_icmp .ne ((12 : Nat) : Int)) := by rfl
theorem zi_71_10 : (zM 71).1[10]? = some (.iconst 0) := by rfl
theorem zi_71_11 : (zM 71).1[11]? = some (.goto ((13 : Nat) : Int)) := by rfl
theorem zi_71_12 : (zM 71).1[12]? = some (.iconst 3) := by rfl
theorem zi_71_13 : (zM 71).1[13]? = some (.ireturn) := by rfl
/-- TakeOrPay$Sheet.faultAs(I)I -/
def w_71 (E : Nat → Nat) (d : Nat) (a0 : Nat) (a1 : Int32) (h : ZH) (Q : Option Value → ZH → Prop) : Prop := ztag h a0 = 6 ∧ ((¬ (zI h a0 1 : Int32) = ((-4) : Int32) → (Q (some (.int (if ¬ (zI h a0 1 : Int32) = a1 then 3 else 0))) h)) ∧ (¬ (¬ (zI h a0 1 : Int32) = ((-4) : Int32)) → (Q (some (.int 1)) h)))
set_option maxRecDepth 20000 in
theorem ok_71 {E : Nat → Nat} {d : Nat} {a0 : Nat} {a1 : Int32} {h : ZH} {Q : Option Value → ZH → Prop} (hw : w_71 E d a0 a1 h Q) : Ct E (d + 1) 71 [.ref a0, .int a1] h Q := by
  unfold w_71 at hw
  show Gx E (d + 1) 71 0 [.ref a0, .int a1] [] h Q
  refine zg_aload zi_71_0 rfl ?_
  obtain ⟨t1, hw⟩ := hw
  refine zg_getI (v := .int (zI h a0 1)) zi_71_1 t1 (by rfl) rfl ?_
  refine zg_const (v := (-4)) zi_71_2 (by rfl) ?_
  refine zg_icmp_ne zi_71_3 (fun hc => ?_) (fun hc => ?_)
  · have hw := hw.1 hc
    refine zg_aload zi_71_6 rfl ?_
    refine zg_getI (v := .int (zI h a0 1)) zi_71_7 t1 (by rfl) rfl ?_
    refine zg_iload zi_71_8 rfl ?_
    have g9 : Gx E (d + 1) 71 13 [.ref a0, .int a1] [.int (if ¬ (zI h a0 1 : Int32) = a1 then 3 else 0)] h Q := by
      exact zg_ireturn zi_71_13 (by decide) hw
    refine zg_icmp_ne zi_71_9 (fun hc9 => ?_) (fun hc9 => ?_)
    · skip
      refine zg_const (v := 3) zi_71_12 (by rfl) ?_
      have hg := g9
      simp only [if_pos hc9] at hg
      exact hg
    · skip
      refine zg_const (v := 0) zi_71_10 (by rfl) ?_
      refine zg_goto zi_71_11 ?_
      have hg := g9
      simp only [if_neg hc9] at hg
      exact hg
  · have hw := hw.2 hc
    refine zg_const (v := 1) zi_71_4 (by rfl) ?_
    exact zg_ireturn zi_71_5 (by decide) hw
def fz_71 (E : Nat → Nat) (h : ZH) (a0 : Nat) (a1 : Int32) : Int32 := if ¬ (zI h a0 1 : Int32) = ((-4) : Int32) then (if ¬ (zI h a0 1 : Int32) = a1 then 3 else 0) else (1)
def sz_71 (E : Nat → Nat) (h : ZH) (a0 : Nat) (a1 : Int32) : Prop := ztag h a0 = 6 ∧ ((¬ (zI h a0 1 : Int32) = ((-4) : Int32) → (True)) ∧ (¬ (¬ (zI h a0 1 : Int32) = ((-4) : Int32)) → (True)))
set_option maxRecDepth 20000 in
theorem cz_71 {E : Nat → Nat} {d : Nat} {a0 : Nat} {a1 : Int32} {h : ZH} {Q : Option Value → ZH → Prop} (hd : 1 ≤ d) (hs : sz_71 E h a0 a1) (hq : Q (some (.int (fz_71 E h a0 a1))) h) : Ct E d 71 [.ref a0, .int a1] h Q := by
  obtain ⟨d, rfl⟩ : ∃ n, d = n + 1 := ⟨d - 1, by omega⟩
  refine ok_71 ?_
  unfold w_71
  unfold sz_71 at hs
  unfold fz_71 at hq
  refine ⟨hs.1, ?_⟩
  have hs := hs.2
  refine ⟨fun hc => ?_, fun hc => ?_⟩
  · have hs := hs.1 hc
    rw [if_pos hc] at hq
    exact hq
  · have hs := hs.2 hc
    rw [if_neg hc] at hq
    exact hq
theorem zq_77 : zQ 77 1 1 8 := by unfold zQ; decide +kernel
theorem zi_77_0 : (zM 77).1[0]? = some (.aload 0) := by rfl
theorem zi_77_1 : (zM 77).1[1]? = some (.invokedynamic 3) := by rfl
theorem zi_77_2 : (zM 77).1[2]? = some (.aload 0) := by rfl
theorem zi_77_3 : (zM 77).1[3]? = some (.iconst 320) := by rfl
theorem zi_77_4 : (zM 77).1[4]? = some (.newarray .byte) := by rfl
theorem zi_77_5 : (zM 77).1[5]? = some (.putfield 8200) := by rfl
theorem zi_77_6 : (zM 77).1[6]? = some (.return_) := by rfl
/-- TakeOrPay$Tape.<init>()V -/
def w_77 (E : Nat → Nat) (d : Nat) (a0 : Nat) (h : ZH) (Q : Option Value → ZH → Prop) : Prop := 4 ≤ d ∧ ∀ h1 : ZH, h1 = (znew h 12 320) → ∀ r2 : Nat, r2 = (zsz h) → ztag h1 a0 = 8 ∧ ∀ h4 : ZH, h4 = (zuR h1 a0 0 (r2 + 1)) → Q none h4
set_option maxRecDepth 20000 in
theorem ok_77 {E : Nat → Nat} {d : Nat} {a0 : Nat} {h : ZH} {Q : Option Value → ZH → Prop} (hw : w_77 E d a0 h Q) : Ct E (d + 1) 77 [.ref a0] h Q := by
  unfold w_77 at hw
  show Gx E (d + 1) 77 0 [.ref a0] [] h Q
  refine zg_aload zi_77_0 rfl ?_
  obtain ⟨hd, hw⟩ := hw
  refine zg_object zi_77_1 ⟨by omega, Nat.le_of_ble_eq_true rfl⟩ ?_
  refine zg_aload zi_77_2 rfl ?_
  refine zg_const (v := 320) zi_77_3 (by rfl) ?_
  refine zg_newarray_byte (N := 320) zi_77_4 (by decide) (by decide) ?_
  refine zg_nameH fun h1 eh1 => ?_
  have hw := hw h1 eh1
  refine zg_nameA fun r2 er2 => ?_
  have hw := hw r2 er2
  obtain ⟨t3, hw⟩ := hw
  refine zg_putR (h1 := zuR h1 a0 0 (r2 + 1)) zi_77_5 t3 (by rfl) rfl ?_
  refine zg_nameH fun h4 eh4 => ?_
  have hw := hw h4 eh4
  exact zg_return zi_77_6 hw
theorem zq_78 : zQ 78 2 4 8 := by unfold zQ; decide +kernel
theorem zi_78_0 : (zM 78).1[0]? = some (.aload 0) := by rfl
theorem zi_78_1 : (zM 78).1[1]? = some (.getfield 8001) := by rfl
theorem zi_78_2 : (zM 78).1[2]? = some (.iconst 8) := by rfl
theorem zi_78_3 : (zM 78).1[3]? = some (.iadd) := by rfl
theorem zi_78_4 : (zM 78).1[4]? = some (.iconst 320) := by rfl
theorem zi_78_5 : (zM 78).1[5]? = some (.if_icmp .le ((8 : Nat) : Int)) := by rfl
theorem zi_78_6 : (zM 78).1[6]? = some (.iconst 0) := by rfl
theorem zi_78_7 : (zM 78).1[7]? = some (.ireturn) := by rfl
theorem zi_78_8 : (zM 78).1[8]? = some (.iconst 56) := by rfl
theorem zi_78_9 : (zM 78).1[9]? = some (.istore 3) := by rfl
theorem zi_78_10 : (zM 78).1[10]? = some (.iload 3) := by rfl
theorem zi_78_11 : (zM 78).1[11]? = some (.ifCond .lt ((30 : Nat) : Int)) := by rfl
theorem zi_78_12 : (zM 78).1[12]? = some (.aload 0) := by rfl
theorem zi_78_13 : (zM 78).1[13]? = some (.getfield 8200) := by rfl
theorem zi_78_14 : (zM 78).1[14]? = some (.aload 0) := by rfl
theorem zi_78_15 : (zM 78).1[15]? = some (.getfield 8001) := by rfl
theorem zi_78_16 : (zM 78).1[16]? = some (.lload 1) := by rfl
theorem zi_78_17 : (zM 78).1[17]? = some (.iload 3) := by rfl
theorem zi_78_18 : (zM 78).1[18]? = some (.lshr) := by rfl
theorem zi_78_19 : (zM 78).1[19]? = some (.l2i) := by rfl
theorem zi_78_20 : (zM 78).1[20]? = some (.i2b) := by rfl
theorem zi_78_21 : (zM 78).1[21]? = some (.bastore) := by rfl
theorem zi_78_22 : (zM 78).1[22]? = some (.aload 0) := by rfl
theorem zi_78_23 : (zM 78).1[23]? = some (.dup) := by rfl
theorem zi_78_24 : (zM 78).1[24]? = some (.getfield 8001) := by rfl
theorem zi_78_25 : (zM 78).1[25]? = some (.iconst 1) := by rfl
theorem zi_78_26 : (zM 78).1[26]? = some (.iadd) := by rfl
theorem zi_78_27 : (zM 78).1[27]? = some (.putfield 8001) := by rfl
theorem zi_78_28 : (zM 78).1[28]? = some (.iinc 3 (-8)) := by rfl
theorem zi_78_29 : (zM 78).1[29]? = some (.goto ((10 : Nat) : Int)) := by rfl
theorem zi_78_30 : (zM 78).1[30]? = some (.iconst 1) := by rfl
theorem zi_78_31 : (zM 78).1[31]? = some (.ireturn) := by rfl
def wb_78_30 (E : Nat → Nat) (d : Nat) (Q : Option Value → ZH → Prop) (h : ZH) : Prop := Q (some (.int 1)) h
set_option maxRecDepth 20000 in
theorem okb_78_30 {E : Nat → Nat} {d : Nat} {Q : Option Value → ZH → Prop} {h : ZH} (hw : wb_78_30 E d Q  h) : Gx E (d + 1) 78 30 [.retAddr 0, .retAddr 0, .retAddr 0, .retAddr 0] [] h Q := by
  unfold wb_78_30 at hw
  refine zg_const (v := 1) zi_78_30 (by rfl) ?_
  exact zg_zreturn zi_78_31 (by decide) hw
def wl_78_10 (E : Nat → Nat) (d : Nat) (Q : Option Value → ZH → Prop) : Nat → Nat → Int64 → Int32 → ZH → Prop
  | 0, _, _, _, _ => False
  | n + 1, a0, a1, a3, h => (a3 < 0 → (wb_78_30 E d Q  h)) ∧ (¬ (a3 < 0) → (ztag h a0 = 8 ∧ ∃ r3 : Nat, zR h a0 0 = r3 + 1 ∧ (ztag h r3 = 12 ∨ ztag h r3 = 15) ∧ zin (zI h a0 1) (zlen h r3) = true ∧ ∀ h5 : ZH, h5 = (zuI h r3 (zI h a0 1 : Int32).toNatClampNeg (zbyte (ztag h r3) (((a1 >>> (a3.toInt64 &&& 63) : Int64).toInt32 : Int32).toInt8.toInt32))) → ∀ h6 : ZH, h6 = (zuI h5 a0 1 ((zI h5 a0 1) + 1)) → ∀ x7 : Int32, x7 = (a3 + (-8)) → wl_78_10 E d Q n a0 a1 x7 h6))
set_option maxRecDepth 20000 in
theorem okl_78_10 {E : Nat → Nat} {d : Nat} {Q : Option Value → ZH → Prop} : ∀ (n : Nat) (a0 : Nat) (a1 : Int64) (a3 : Int32) (h : ZH), wl_78_10 E d Q n a0 a1 a3 h → Gx E (d + 1) 78 10 [.ref a0, .long a1, .retAddr 0, .int a3] [] h Q := by
  intro n
  induction n with
  | zero => intro a0 a1 a3 h hw; exact hw.elim
  | succ n ih =>
    intro a0 a1 a3 h hw
    rw [wl_78_10] at hw
    refine zg_iload zi_78_10 rfl ?_
    refine zg_if_lt zi_78_11 (fun hc => ?_) (fun hc => ?_)
    · have hw := hw.1 hc
      exact Gx.forget (zrd (zrd (zrk (zrd zr0)))) (okb_78_30 hw)
    · have hw := hw.2 hc
      refine zg_aload zi_78_12 rfl ?_
      obtain ⟨t2, hw⟩ := hw
      obtain ⟨r3, er3, hw⟩ := hw
      refine zg_getR (v := .ref r3) zi_78_13 t2 (by rfl) (by show zrv (zR h a0 0) = _; rw [er3]; rfl) ?_
      refine zg_aload zi_78_14 rfl ?_
      refine zg_getI (v := .int (zI h a0 1)) zi_78_15 t2 (by rfl) rfl ?_
      refine zg_lload zi_78_16 rfl ?_
      refine zg_iload zi_78_17 rfl ?_
      refine zg_lshr zi_78_18 ?_
      refine zg_l2i zi_78_19 ?_
      refine zg_i2b zi_78_20 ?_
      obtain ⟨t4, hw⟩ := hw
      obtain ⟨hb, hw⟩ := hw
      refine zg_bastore (h1 := zuI h r3 (zI h a0 1 : Int32).toNatClampNeg (zbyte (ztag h r3) (((a1 >>> (a3.toInt64 &&& 63) : Int64).toInt32 : Int32).toInt8.toInt32))) zi_78_21 t4 hb rfl ?_
      refine zg_nameH fun h5 eh5 => ?_
      have hw := hw h5 eh5
      refine zg_aload zi_78_22 rfl ?_
      refine zg_dup zi_78_23 rfl ?_
      refine zg_getI (v := .int (zI h5 a0 1)) zi_78_24 (by rw [eh5]; exact t2) (by rfl) rfl ?_
      refine zg_const (v := 1) zi_78_25 (by rfl) ?_
      refine zg_iadd zi_78_26 ?_
      refine zg_putI (h1 := zuI h5 a0 1 ((zI h5 a0 1) + 1)) zi_78_27 (by rw [eh5]; exact t2) (by rfl) rfl ?_
      refine zg_nameH fun h6 eh6 => ?_
      have hw := hw h6 eh6
      obtain ⟨x7, ex7⟩ : ∃ x : Int32, x = a3 + (-8) := ⟨_, rfl⟩
      have hw := hw x7 ex7
      refine zg_iinc (v := x7) (ls1 := [.ref a0, .long a1, .retAddr 0, .int x7]) zi_78_28 rfl (by rw [ex7]; rfl) rfl ?_
      refine zg_goto zi_78_29 ?_
      exact ih a0 a1 x7 h6 hw
/-- TakeOrPay$Tape.append(J)Z -/
def w_78 (E : Nat → Nat) (d : Nat) (a0 : Nat) (a1 : Int64) (h : ZH) (Q : Option Value → ZH → Prop) : Prop := ztag h a0 = 8 ∧ ((((zI h a0 1) + 8 : Int32) ≤ 320 → (∃ mm : Nat, wl_78_10 E d Q mm a0 a1 56 h)) ∧ (¬ (((zI h a0 1) + 8 : Int32) ≤ 320) → (Q (some (.int 0)) h)))
set_option maxRecDepth 20000 in
theorem ok_78 {E : Nat → Nat} {d : Nat} {a0 : Nat} {a1 : Int64} {h : ZH} {Q : Option Value → ZH → Prop} (hw : w_78 E d a0 a1 h Q) : Ct E (d + 1) 78 [.ref a0, .long a1] h Q := by
  unfold w_78 at hw
  show Gx E (d + 1) 78 0 [.ref a0, .long a1, .retAddr 0, .retAddr 0] [] h Q
  refine zg_aload zi_78_0 rfl ?_
  obtain ⟨t1, hw⟩ := hw
  refine zg_getI (v := .int (zI h a0 1)) zi_78_1 t1 (by rfl) rfl ?_
  refine zg_const (v := 8) zi_78_2 (by rfl) ?_
  refine zg_iadd zi_78_3 ?_
  refine zg_const (v := 320) zi_78_4 (by rfl) ?_
  refine zg_icmp_le zi_78_5 (fun hc => ?_) (fun hc => ?_)
  · have hw := hw.1 hc
    refine zg_const (v := 56) zi_78_8 (by rfl) ?_
    refine zg_istore (ls1 := [.ref a0, .long a1, .retAddr 0, .int 56]) zi_78_9 (Nat.le_of_ble_eq_true rfl) rfl ?_
    obtain ⟨mm, hw⟩ := hw
    exact okl_78_10 mm a0 a1 56 h hw
  · have hw := hw.2 hc
    refine zg_const (v := 0) zi_78_6 (by rfl) ?_
    exact zg_zreturn zi_78_7 (by decide) hw
theorem zq_85 : zQ 85 1 1 9 := by unfold zQ; decide +kernel
theorem zi_85_0 : (zM 85).1[0]? = some (.aload 0) := by rfl
theorem zi_85_1 : (zM 85).1[1]? = some (.invokedynamic 3) := by rfl
theorem zi_85_2 : (zM 85).1[2]? = some (.aload 0) := by rfl
theorem zi_85_3 : (zM 85).1[3]? = some (.new 2) := by rfl
theorem zi_85_4 : (zM 85).1[4]? = some (.dup) := by rfl
theorem zi_85_5 : (zM 85).1[5]? = some (.invokespecial 23) := by rfl
theorem zi_85_6 : (zM 85).1[6]? = some (.putfield 9200) := by rfl
theorem zi_85_7 : (zM 85).1[7]? = some (.return_) := by rfl
/-- TakeOrPay$Walk.<init>()V -/
def w_85 (E : Nat → Nat) (d : Nat) (a0 : Nat) (h : ZH) (Q : Option Value → ZH → Prop) : Prop := 4 ≤ d ∧ ∀ h1 : ZH, h1 = (znew h 2 (zN 2)) → ∀ r2 : Nat, r2 = (zsz h) → ztag h1 r2 = 2 ∧ Ct E d 23 [.ref r2] h1 (fun v h4 => v = none ∧ ztag h4 a0 = 9 ∧ ∀ h6 : ZH, h6 = (zuR h4 a0 0 (r2 + 1)) → Q none h6)
set_option maxRecDepth 20000 in
theorem ok_85 {E : Nat → Nat} {d : Nat} {a0 : Nat} {h : ZH} {Q : Option Value → ZH → Prop} (hw : w_85 E d a0 h Q) : Ct E (d + 1) 85 [.ref a0] h Q := by
  unfold w_85 at hw
  show Gx E (d + 1) 85 0 [.ref a0] [] h Q
  refine zg_aload zi_85_0 rfl ?_
  obtain ⟨hd, hw⟩ := hw
  refine zg_object zi_85_1 ⟨by omega, Nat.le_of_ble_eq_true rfl⟩ ?_
  refine zg_aload zi_85_2 rfl ?_
  refine zg_new zi_85_3 (by decide) ?_
  refine zg_nameH fun h1 eh1 => ?_
  have hw := hw h1 eh1
  refine zg_nameA fun r2 er2 => ?_
  have hw := hw r2 er2
  refine zg_dup zi_85_4 rfl ?_
  obtain ⟨t3, hw⟩ := hw
  refine Gx.call2 (as := [.ref r2]) (rest := [.ref r2, .ref a0]) zq_23 zi_85_5 rfl rfl rfl (Nat.le_of_ble_eq_true rfl) (Nat.le_of_ble_eq_true rfl) (zrv_i t3 rfl rfl) (Nat.le_of_ble_eq_true rfl) ?_
  refine Ct.mono hw ?_
  rintro v h4 ⟨rfl, hw⟩
  show Gx E (d + 1) 85 6 [.ref a0] [.ref r2, .ref a0] h4 Q
  obtain ⟨t5, hw⟩ := hw
  refine zg_putR (h1 := zuR h4 a0 0 (r2 + 1)) zi_85_6 t5 (by rfl) rfl ?_
  refine zg_nameH fun h6 eh6 => ?_
  have hw := hw h6 eh6
  exact zg_return zi_85_7 hw
theorem zq_86 : zQ 86 1 1 9 := by unfold zQ; decide +kernel
theorem zi_86_0 : (zM 86).1[0]? = some (.aload 0) := by rfl
theorem zi_86_1 : (zM 86).1[1]? = some (.iconst 0) := by rfl
theorem zi_86_2 : (zM 86).1[2]? = some (.putfield 9001) := by rfl
theorem zi_86_3 : (zM 86).1[3]? = some (.aload 0) := by rfl
theorem zi_86_4 : (zM 86).1[4]? = some (.iconst (-4)) := by rfl
theorem zi_86_5 : (zM 86).1[5]? = some (.putfield 9002) := by rfl
theorem zi_86_6 : (zM 86).1[6]? = some (.aload 0) := by rfl
theorem zi_86_7 : (zM 86).1[7]? = some (.iconst 0) := by rfl
theorem zi_86_8 : (zM 86).1[8]? = some (.putfield 9003) := by rfl
theorem zi_86_9 : (zM 86).1[9]? = some (.aload 0) := by rfl
theorem zi_86_10 : (zM 86).1[10]? = some (.iconst 0) := by rfl
theorem zi_86_11 : (zM 86).1[11]? = some (.putfield 9004) := by rfl
theorem zi_86_12 : (zM 86).1[12]? = some (.aload 0) := by rfl
theorem zi_86_13 : (zM 86).1[13]? = some (.iconst 0) := by rfl
theorem zi_86_14 : (zM 86).1[14]? = some (.putfield 9005) := by rfl
theorem zi_86_15 : (zM 86).1[15]? = some (.aload 0) := by rfl
theorem zi_86_16 : (zM 86).1[16]? = some (.iconst 0) := by rfl
theorem zi_86_17 : (zM 86).1[17]? = some (.putfield 9006) := by rfl
theorem zi_86_18 : (zM 86).1[18]? = some (.aload 0) := by rfl
theorem zi_86_19 : (zM 86).1[19]? = some (.iconst 0) := by rfl
theorem zi_86_20 : (zM 86).1[20]? = some (.putfield 9007) := by rfl
theorem zi_86_21 : (zM 86).1[21]? = some (.aload 0) := by rfl
theorem zi_86_22 : (zM 86).1[22]? = some (.iconst 0) := by rfl
theorem zi_86_23 : (zM 86).1[23]? = some (.putfield 9008) := by rfl
theorem zi_86_24 : (zM 86).1[24]? = some (.return_) := by rfl
/-- TakeOrPay$Walk.begin()V -/
def w_86 (E : Nat → Nat) (d : Nat) (a0 : Nat) (h : ZH) (Q : Option Value → ZH → Prop) : Prop := ztag h a0 = 9 ∧ ∀ h2 : ZH, h2 = (zuI h a0 1 0) → ∀ h3 : ZH, h3 = (zuI h2 a0 2 ((-4))) → ∀ h4 : ZH, h4 = (zuI h3 a0 3 0) → ∀ h5 : ZH, h5 = (zuI h4 a0 4 0) → ∀ h6 : ZH, h6 = (zuI h5 a0 5 0) → ∀ h7 : ZH, h7 = (zuI h6 a0 6 0) → ∀ h8 : ZH, h8 = (zuI h7 a0 7 0) → ∀ h9 : ZH, h9 = (zuI h8 a0 8 0) → Q none h9
set_option maxRecDepth 20000 in
theorem ok_86 {E : Nat → Nat} {d : Nat} {a0 : Nat} {h : ZH} {Q : Option Value → ZH → Prop} (hw : w_86 E d a0 h Q) : Ct E (d + 1) 86 [.ref a0] h Q := by
  unfold w_86 at hw
  show Gx E (d + 1) 86 0 [.ref a0] [] h Q
  refine zg_aload zi_86_0 rfl ?_
  refine zg_const (v := 0) zi_86_1 (by rfl) ?_
  obtain ⟨t1, hw⟩ := hw
  refine zg_putI (h1 := zuI h a0 1 0) zi_86_2 t1 (by rfl) rfl ?_
  refine zg_nameH fun h2 eh2 => ?_
  have hw := hw h2 eh2
  refine zg_aload zi_86_3 rfl ?_
  refine zg_const (v := (-4)) zi_86_4 (by rfl) ?_
  refine zg_putI (h1 := zuI h2 a0 2 ((-4))) zi_86_5 (by rw [eh2]; exact t1) (by rfl) rfl ?_
  refine zg_nameH fun h3 eh3 => ?_
  have hw := hw h3 eh3
  refine zg_aload zi_86_6 rfl ?_
  refine zg_const (v := 0) zi_86_7 (by rfl) ?_
  refine zg_putI (h1 := zuI h3 a0 3 0) zi_86_8 (by rw [eh3, eh2]; exact t1) (by rfl) rfl ?_
  refine zg_nameH fun h4 eh4 => ?_
  have hw := hw h4 eh4
  refine zg_aload zi_86_9 rfl ?_
  refine zg_const (v := 0) zi_86_10 (by rfl) ?_
  refine zg_putI (h1 := zuI h4 a0 4 0) zi_86_11 (by rw [eh4, eh3, eh2]; exact t1) (by rfl) rfl ?_
  refine zg_nameH fun h5 eh5 => ?_
  have hw := hw h5 eh5
  refine zg_aload zi_86_12 rfl ?_
  refine zg_const (v := 0) zi_86_13 (by rfl) ?_
  refine zg_putI (h1 := zuI h5 a0 5 0) zi_86_14 (by rw [eh5, eh4, eh3, eh2]; exact t1) (by rfl) rfl ?_
  refine zg_nameH fun h6 eh6 => ?_
  have hw := hw h6 eh6
  refine zg_aload zi_86_15 rfl ?_
  refine zg_const (v := 0) zi_86_16 (by rfl) ?_
  refine zg_putI (h1 := zuI h6 a0 6 0) zi_86_17 (by rw [eh6, eh5, eh4, eh3, eh2]; exact t1) (by rfl) rfl ?_
  refine zg_nameH fun h7 eh7 => ?_
  have hw := hw h7 eh7
  refine zg_aload zi_86_18 rfl ?_
  refine zg_const (v := 0) zi_86_19 (by rfl) ?_
  refine zg_putI (h1 := zuI h7 a0 7 0) zi_86_20 (by rw [eh7, eh6, eh5, eh4, eh3, eh2]; exact t1) (by rfl) rfl ?_
  refine zg_nameH fun h8 eh8 => ?_
  have hw := hw h8 eh8
  refine zg_aload zi_86_21 rfl ?_
  refine zg_const (v := 0) zi_86_22 (by rfl) ?_
  refine zg_putI (h1 := zuI h8 a0 8 0) zi_86_23 (by rw [eh8, eh7, eh6, eh5, eh4, eh3, eh2]; exact t1) (by rfl) rfl ?_
  refine zg_nameH fun h9 eh9 => ?_
  have hw := hw h9 eh9
  exact zg_return zi_86_24 hw
theorem zq_88 : zQ 88 1 1 9 := by unfold zQ; decide +kernel
theorem zi_88_0 : (zM 88).1[0]? = some (.aload 0) := by rfl
theorem zi_88_1 : (zM 88).1[1]? = some (.aload 0) := by rfl
theorem zi_88_2 : (zM 88).1[2]? = some (.getfield 9200) := by rfl
theorem zi_88_3 : (zM 88).1[3]? = some (.getfield 2003) := by rfl
theorem zi_88_4 : (zM 88).1[4]? = some (.putfield 9003) := by rfl
theorem zi_88_5 : (zM 88).1[5]? = some (.aload 0) := by rfl
theorem zi_88_6 : (zM 88).1[6]? = some (.aload 0) := by rfl
theorem zi_88_7 : (zM 88).1[7]? = some (.getfield 9200) := by rfl
theorem zi_88_8 : (zM 88).1[8]? = some (.getfield 2004) := by rfl
theorem zi_88_9 : (zM 88).1[9]? = some (.putfield 9004) := by rfl
theorem zi_88_10 : (zM 88).1[10]? = some (.aload 0) := by rfl
theorem zi_88_11 : (zM 88).1[11]? = some (.aload 0) := by rfl
theorem zi_88_12 : (zM 88).1[12]? = some (.getfield 9200) := by rfl
theorem zi_88_13 : (zM 88).1[13]? = some (.getfield 2005) := by rfl
theorem zi_88_14 : (zM 88).1[14]? = some (.putfield 9005) := by rfl
theorem zi_88_15 : (zM 88).1[15]? = some (.return_) := by rfl
/-- TakeOrPay$Walk.keepPlace()V -/
def w_88 (E : Nat → Nat) (d : Nat) (a0 : Nat) (h : ZH) (Q : Option Value → ZH → Prop) : Prop := ztag h a0 = 9 ∧ ∃ r2 : Nat, zR h a0 0 = r2 + 1 ∧ ztag h r2 = 2 ∧ ∀ h4 : ZH, h4 = (zuI h a0 3 (zI h r2 3)) → ∀ h5 : ZH, h5 = (zuI h4 a0 4 (zI h4 r2 4)) → ∀ h6 : ZH, h6 = (zuI h5 a0 5 (zI h5 r2 5)) → Q none h6
set_option maxRecDepth 20000 in
theorem ok_88 {E : Nat → Nat} {d : Nat} {a0 : Nat} {h : ZH} {Q : Option Value → ZH → Prop} (hw : w_88 E d a0 h Q) : Ct E (d + 1) 88 [.ref a0] h Q := by
  unfold w_88 at hw
  show Gx E (d + 1) 88 0 [.ref a0] [] h Q
  refine zg_aload zi_88_0 rfl ?_
  refine zg_aload zi_88_1 rfl ?_
  obtain ⟨t1, hw⟩ := hw
  obtain ⟨r2, er2, hw⟩ := hw
  refine zg_getR (v := .ref r2) zi_88_2 t1 (by rfl) (by show zrv (zR h a0 0) = _; rw [er2]; rfl) ?_
  obtain ⟨t3, hw⟩ := hw
  refine zg_getI (v := .int (zI h r2 3)) zi_88_3 t3 (by rfl) rfl ?_
  refine zg_putI (h1 := zuI h a0 3 (zI h r2 3)) zi_88_4 t1 (by rfl) rfl ?_
  refine zg_nameH fun h4 eh4 => ?_
  have hw := hw h4 eh4
  refine zg_aload zi_88_5 rfl ?_
  refine zg_aload zi_88_6 rfl ?_
  refine zg_getR (v := .ref r2) zi_88_7 (by rw [eh4]; exact t1) (by rfl) (by rw [eh4]; show zrv (zR h a0 0) = _; rw [er2]; rfl) ?_
  refine zg_getI (v := .int (zI h4 r2 4)) zi_88_8 (by rw [eh4]; exact t3) (by rfl) rfl ?_
  refine zg_putI (h1 := zuI h4 a0 4 (zI h4 r2 4)) zi_88_9 (by rw [eh4]; exact t1) (by rfl) rfl ?_
  refine zg_nameH fun h5 eh5 => ?_
  have hw := hw h5 eh5
  refine zg_aload zi_88_10 rfl ?_
  refine zg_aload zi_88_11 rfl ?_
  refine zg_getR (v := .ref r2) zi_88_12 (by rw [eh5, eh4]; exact t1) (by rfl) (by rw [eh5, eh4]; show zrv (zR h a0 0) = _; rw [er2]; rfl) ?_
  refine zg_getI (v := .int (zI h5 r2 5)) zi_88_13 (by rw [eh5, eh4]; exact t3) (by rfl) rfl ?_
  refine zg_putI (h1 := zuI h5 a0 5 (zI h5 r2 5)) zi_88_14 (by rw [eh5, eh4]; exact t1) (by rfl) rfl ?_
  refine zg_nameH fun h6 eh6 => ?_
  have hw := hw h6 eh6
  exact zg_return zi_88_15 hw
theorem zq_87 : zQ 87 4 4 9 := by unfold zQ; decide +kernel
theorem zi_87_0 : (zM 87).1[0]? = some (.aload 1) := by rfl
theorem zi_87_1 : (zM 87).1[1]? = some (.aload 0) := by rfl
theorem zi_87_2 : (zM 87).1[2]? = some (.getfield 9001) := by rfl
theorem zi_87_3 : (zM 87).1[3]? = some (.invokevirtual 35) := by rfl
theorem zi_87_4 : (zM 87).1[4]? = some (.ifCond .ne ((6 : Nat) : Int)) := by rfl
theorem zi_87_5 : (zM 87).1[5]? = some (.return_) := by rfl
theorem zi_87_6 : (zM 87).1[6]? = some (.aload 0) := by rfl
theorem zi_87_7 : (zM 87).1[7]? = some (.getfield 9002) := by rfl
theorem zi_87_8 : (zM 87).1[8]? = some (.iconst (-4)) := by rfl
theorem zi_87_9 : (zM 87).1[9]? = some (.if_icmp .ne ((20 : Nat) : Int)) := by rfl
theorem zi_87_10 : (zM 87).1[10]? = some (.aload 1) := by rfl
theorem zi_87_11 : (zM 87).1[11]? = some (.aload 0) := by rfl
theorem zi_87_12 : (zM 87).1[12]? = some (.getfield 9001) := by rfl
theorem zi_87_13 : (zM 87).1[13]? = some (.iload 3) := by rfl
theorem zi_87_14 : (zM 87).1[14]? = some (.invokevirtual 46) := by rfl
theorem zi_87_15 : (zM 87).1[15]? = some (.ifCond .ne ((20 : Nat) : Int)) := by rfl
theorem zi_87_16 : (zM 87).1[16]? = some (.aload 0) := by rfl
theorem zi_87_17 : (zM 87).1[17]? = some (.aload 0) := by rfl
theorem zi_87_18 : (zM 87).1[18]? = some (.getfield 9001) := by rfl
theorem zi_87_19 : (zM 87).1[19]? = some (.putfield 9002) := by rfl
theorem zi_87_20 : (zM 87).1[20]? = some (.aload 0) := by rfl
theorem zi_87_21 : (zM 87).1[21]? = some (.getfield 9200) := by rfl
theorem zi_87_22 : (zM 87).1[22]? = some (.aload 1) := by rfl
theorem zi_87_23 : (zM 87).1[23]? = some (.aload 0) := by rfl
theorem zi_87_24 : (zM 87).1[24]? = some (.getfield 9001) := by rfl
theorem zi_87_25 : (zM 87).1[25]? = some (.aload 0) := by rfl
theorem zi_87_26 : (zM 87).1[26]? = some (.getfield 9003) := by rfl
theorem zi_87_27 : (zM 87).1[27]? = some (.aload 0) := by rfl
theorem zi_87_28 : (zM 87).1[28]? = some (.getfield 9004) := by rfl
theorem zi_87_29 : (zM 87).1[29]? = some (.aload 0) := by rfl
theorem zi_87_30 : (zM 87).1[30]? = some (.getfield 9005) := by rfl
theorem zi_87_31 : (zM 87).1[31]? = some (.iload 3) := by rfl
theorem zi_87_32 : (zM 87).1[32]? = some (.invokevirtual 25) := by rfl
theorem zi_87_33 : (zM 87).1[33]? = some (.aload 0) := by rfl
theorem zi_87_34 : (zM 87).1[34]? = some (.aload 0) := by rfl
theorem zi_87_35 : (zM 87).1[35]? = some (.getfield 9200) := by rfl
theorem zi_87_36 : (zM 87).1[36]? = some (.aload 1) := by rfl
theorem zi_87_37 : (zM 87).1[37]? = some (.iload 2) := by rfl
theorem zi_87_38 : (zM 87).1[38]? = some (.invokevirtual 27) := by rfl
theorem zi_87_39 : (zM 87).1[39]? = some (.putfield 9009) := by rfl
theorem zi_87_40 : (zM 87).1[40]? = some (.aload 0) := by rfl
theorem zi_87_41 : (zM 87).1[41]? = some (.aload 0) := by rfl
theorem zi_87_42 : (zM 87).1[42]? = some (.getfield 9200) := by rfl
theorem zi_87_43 : (zM 87).1[43]? = some (.getfield 2001) := by rfl
theorem zi_87_44 : (zM 87).1[44]? = some (.putfield 9010) := by rfl
theorem zi_87_45 : (zM 87).1[45]? = some (.aload 0) := by rfl
theorem zi_87_46 : (zM 87).1[46]? = some (.dup) := by rfl
theorem zi_87_47 : (zM 87).1[47]? = some (.getfield 9006) := by rfl
theorem zi_87_48 : (zM 87).1[48]? = some (.aload 0) := by rfl
theorem zi_87_49 : (zM 87).1[49]? = some (.getfield 9009) := by rfl
theorem zi_87_50 : (zM 87).1[50]? = some (.iadd) := by rfl
theorem zi_87_51 : (zM 87).1[51]? = some (.putfield 9006) := by rfl
theorem zi_87_52 : (zM 87).1[52]? = some (.aload 0) := by rfl
theorem zi_87_53 : (zM 87).1[53]? = some (.dup) := by rfl
theorem zi_87_54 : (zM 87).1[54]? = some (.getfield 9007) := by rfl
theorem zi_87_55 : (zM 87).1[55]? = some (.aload 0) := by rfl
theorem zi_87_56 : (zM 87).1[56]? = some (.getfield 9200) := by rfl
theorem zi_87_57 : (zM 87).1[57]? = some (.aload 1) := by rfl
theorem zi_87_58 : (zM 87).1[58]? = some (.iload 2) := by rfl
theorem zi_87_59 : (zM 87).1[59]? = some (.invokevirtual 28) := by rfl
theorem zi_87_60 : (zM 87).1[60]? = some (.iadd) := by rfl
theorem zi_87_61 : (zM 87).1[61]? = some (.putfield 9007) := by rfl
theorem zi_87_62 : (zM 87).1[62]? = some (.aload 0) := by rfl
theorem zi_87_63 : (zM 87).1[63]? = some (.invokevirtual 88) := by rfl
theorem zi_87_64 : (zM 87).1[64]? = some (.aload 0) := by rfl
theorem zi_87_65 : (zM 87).1[65]? = some (.getfield 9200) := by rfl
theorem zi_87_66 : (zM 87).1[66]? = some (.aload 1) := by rfl
theorem zi_87_67 : (zM 87).1[67]? = some (.aload 0) := by rfl
theorem zi_87_68 : (zM 87).1[68]? = some (.getfield 9001) := by rfl
theorem zi_87_69 : (zM 87).1[69]? = some (.invokevirtual 26) := by rfl
theorem zi_87_70 : (zM 87).1[70]? = some (.aload 0) := by rfl
theorem zi_87_71 : (zM 87).1[71]? = some (.dup) := by rfl
theorem zi_87_72 : (zM 87).1[72]? = some (.getfield 9008) := by rfl
theorem zi_87_73 : (zM 87).1[73]? = some (.aload 0) := by rfl
theorem zi_87_74 : (zM 87).1[74]? = some (.getfield 9200) := by rfl
theorem zi_87_75 : (zM 87).1[75]? = some (.getfield 2006) := by rfl
theorem zi_87_76 : (zM 87).1[76]? = some (.iadd) := by rfl
theorem zi_87_77 : (zM 87).1[77]? = some (.putfield 9008) := by rfl
theorem zi_87_78 : (zM 87).1[78]? = some (.aload 0) := by rfl
theorem zi_87_79 : (zM 87).1[79]? = some (.dup) := by rfl
theorem zi_87_80 : (zM 87).1[80]? = some (.getfield 9006) := by rfl
theorem zi_87_81 : (zM 87).1[81]? = some (.aload 0) := by rfl
theorem zi_87_82 : (zM 87).1[82]? = some (.getfield 9200) := by rfl
theorem zi_87_83 : (zM 87).1[83]? = some (.getfield 2008) := by rfl
theorem zi_87_84 : (zM 87).1[84]? = some (.iadd) := by rfl
theorem zi_87_85 : (zM 87).1[85]? = some (.putfield 9006) := by rfl
theorem zi_87_86 : (zM 87).1[86]? = some (.aload 0) := by rfl
theorem zi_87_87 : (zM 87).1[87]? = some (.dup) := by rfl
theorem zi_87_88 : (zM 87).1[88]? = some (.getfield 9007) := by rfl
theorem zi_87_89 : (zM 87).1[89]? = some (.aload 0) := by rfl
theorem zi_87_90 : (zM 87).1[90]? = some (.getfield 9200) := by rfl
theorem zi_87_91 : (zM 87).1[91]? = some (.getfield 2008) := by rfl
theorem zi_87_92 : (zM 87).1[92]? = some (.isub) := by rfl
theorem zi_87_93 : (zM 87).1[93]? = some (.putfield 9007) := by rfl
theorem zi_87_94 : (zM 87).1[94]? = some (.aload 0) := by rfl
theorem zi_87_95 : (zM 87).1[95]? = some (.dup) := by rfl
theorem zi_87_96 : (zM 87).1[96]? = some (.getfield 9001) := by rfl
theorem zi_87_97 : (zM 87).1[97]? = some (.iconst 1) := by rfl
theorem zi_87_98 : (zM 87).1[98]? = some (.iadd) := by rfl
theorem zi_87_99 : (zM 87).1[99]? = some (.putfield 9001) := by rfl
theorem zi_87_100 : (zM 87).1[100]? = some (.aload 1) := by rfl
theorem zi_87_101 : (zM 87).1[101]? = some (.aload 0) := by rfl
theorem zi_87_102 : (zM 87).1[102]? = some (.getfield 9001) := by rfl
theorem zi_87_103 : (zM 87).1[103]? = some (.invokevirtual 35) := by rfl
theorem zi_87_104 : (zM 87).1[104]? = some (.ifCond .eq ((107 : Nat) : Int)) := by rfl
theorem zi_87_105 : (zM 87).1[105]? = some (.aload 0) := by rfl
theorem zi_87_106 : (zM 87).1[106]? = some (.invokevirtual 88) := by rfl
theorem zi_87_107 : (zM 87).1[107]? = some (.return_) := by rfl
def wb_87_20 (E : Nat → Nat) (d : Nat) (Q : Option Value → ZH → Prop) (a0 : Nat) (a1 : Nat) (a2 : Int32) (a3 : Int32) (h : ZH) : Prop := ztag h a0 = 9 ∧ ∃ r4 : Nat, zR h a0 0 = r4 + 1 ∧ ztag h r4 = 2 ∧ Ct E d 25 [.ref r4, .ref a1, .int (zI h a0 1), .int (zI h a0 3), .int (zI h a0 4), .int (zI h a0 5), .int a3] h (fun v h6 => v = none ∧ ztag h6 a0 = 9 ∧ ∃ r8 : Nat, zR h6 a0 0 = r8 + 1 ∧ ztag h6 r8 = 2 ∧ 2 ≤ d ∧ sz_27 E h6 r8 a1 a2 ∧ ∀ h10 : ZH, h10 = (zuI h6 a0 9 (fz_27 E h6 r8 a1 a2)) → ∀ h11 : ZH, h11 = (zuI h10 a0 10 (zI h10 r8 1)) → ∀ h12 : ZH, h12 = (zuI h11 a0 6 ((zI h11 a0 6) + (zI h11 a0 9))) → 3 ≤ d ∧ sz_28 E h12 r8 a1 a2 ∧ ∀ h13 : ZH, h13 = (zuI h12 a0 7 ((zI h12 a0 7) + (fz_28 E h12 r8 a1 a2))) → Ct E d 88 [.ref a0] h13 (fun v h14 => v = none ∧ ztag h14 a0 = 9 ∧ ∃ r16 : Nat, zR h14 a0 0 = r16 + 1 ∧ ztag h14 r16 = 2 ∧ Ct E d 26 [.ref r16, .ref a1, .int (zI h14 a0 1)] h14 (fun v h18 => v = none ∧ ztag h18 a0 = 9 ∧ ∃ r20 : Nat, zR h18 a0 0 = r20 + 1 ∧ ztag h18 r20 = 2 ∧ ∀ h22 : ZH, h22 = (zuI h18 a0 8 ((zI h18 a0 8) + (zI h18 r20 6))) → ∀ h23 : ZH, h23 = (zuI h22 a0 6 ((zI h22 a0 6) + (zI h22 r20 8))) → ∀ h24 : ZH, h24 = (zuI h23 a0 7 ((zI h23 a0 7) - (zI h23 r20 8))) → ∀ h25 : ZH, h25 = (zuI h24 a0 1 ((zI h24 a0 1) + 1)) → ztag h25 a1 = 3 ∧ 1 ≤ d ∧ sz_35 E h25 a1 (zI h25 a0 1) ∧ (((fz_35 E h25 a1 (zI h25 a0 1) : Int32) = 0 → (Q none h25)) ∧ (¬ ((fz_35 E h25 a1 (zI h25 a0 1) : Int32) = 0) → (Ct E d 88 [.ref a0] h25 (fun v h27 => v = none ∧ Q none h27)))))))
set_option maxRecDepth 20000 in
theorem okb_87_20 {E : Nat → Nat} {d : Nat} {Q : Option Value → ZH → Prop} {a0 : Nat} {a1 : Nat} {a2 : Int32} {a3 : Int32} {h : ZH} (hw : wb_87_20 E d Q a0 a1 a2 a3 h) : Gx E (d + 1) 87 20 [.ref a0, .ref a1, .int a2, .int a3] [] h Q := by
  unfold wb_87_20 at hw
  refine zg_aload zi_87_20 rfl ?_
  obtain ⟨t3, hw⟩ := hw
  obtain ⟨r4, er4, hw⟩ := hw
  refine zg_getR (v := .ref r4) zi_87_21 t3 (by rfl) (by show zrv (zR h a0 0) = _; rw [er4]; rfl) ?_
  refine zg_aload zi_87_22 rfl ?_
  refine zg_aload zi_87_23 rfl ?_
  refine zg_getI (v := .int (zI h a0 1)) zi_87_24 t3 (by rfl) rfl ?_
  refine zg_aload zi_87_25 rfl ?_
  refine zg_getI (v := .int (zI h a0 3)) zi_87_26 t3 (by rfl) rfl ?_
  refine zg_aload zi_87_27 rfl ?_
  refine zg_getI (v := .int (zI h a0 4)) zi_87_28 t3 (by rfl) rfl ?_
  refine zg_aload zi_87_29 rfl ?_
  refine zg_getI (v := .int (zI h a0 5)) zi_87_30 t3 (by rfl) rfl ?_
  refine zg_iload zi_87_31 rfl ?_
  obtain ⟨t5, hw⟩ := hw
  refine Gx.call2 (as := [.ref r4, .ref a1, .int (zI h a0 1), .int (zI h a0 3), .int (zI h a0 4), .int (zI h a0 5), .int a3]) (rest := []) zq_25 zi_87_32 rfl rfl rfl (Nat.le_of_ble_eq_true rfl) (Nat.le_of_ble_eq_true rfl) (zrv_v t5 rfl rfl) (Nat.le_of_ble_eq_true rfl) ?_
  refine Ct.mono hw ?_
  rintro v h6 ⟨rfl, hw⟩
  show Gx E (d + 1) 87 33 [.ref a0, .ref a1, .int a2, .int a3] [] h6 Q
  refine zg_aload zi_87_33 rfl ?_
  refine zg_aload zi_87_34 rfl ?_
  obtain ⟨t7, hw⟩ := hw
  obtain ⟨r8, er8, hw⟩ := hw
  refine zg_getR (v := .ref r8) zi_87_35 t7 (by rfl) (by show zrv (zR h6 a0 0) = _; rw [er8]; rfl) ?_
  refine zg_aload zi_87_36 rfl ?_
  refine zg_iload zi_87_37 rfl ?_
  obtain ⟨t9, hw⟩ := hw
  obtain ⟨hd, hs, hw⟩ := hw
  refine Gx.call2 (as := [.ref r8, .ref a1, .int a2]) (rest := [.ref a0]) zq_27 zi_87_38 rfl rfl rfl (Nat.le_of_ble_eq_true rfl) (Nat.le_of_ble_eq_true rfl) (zrv_v t9 rfl rfl) (Nat.le_of_ble_eq_true rfl) ?_
  refine cz_27 hd hs ?_
  show Gx E (d + 1) 87 39 [.ref a0, .ref a1, .int a2, .int a3] [.int (fz_27 E h6 r8 a1 a2), .ref a0] h6 Q
  refine zg_putI (h1 := zuI h6 a0 9 (fz_27 E h6 r8 a1 a2)) zi_87_39 t7 (by rfl) rfl ?_
  refine zg_nameH fun h10 eh10 => ?_
  have hw := hw h10 eh10
  refine zg_aload zi_87_40 rfl ?_
  refine zg_aload zi_87_41 rfl ?_
  refine zg_getR (v := .ref r8) zi_87_42 (by rw [eh10]; exact t7) (by rfl) (by rw [eh10]; show zrv (zR h6 a0 0) = _; rw [er8]; rfl) ?_
  refine zg_getI (v := .int (zI h10 r8 1)) zi_87_43 (by rw [eh10]; exact t9) (by rfl) rfl ?_
  refine zg_putI (h1 := zuI h10 a0 10 (zI h10 r8 1)) zi_87_44 (by rw [eh10]; exact t7) (by rfl) rfl ?_
  refine zg_nameH fun h11 eh11 => ?_
  have hw := hw h11 eh11
  refine zg_aload zi_87_45 rfl ?_
  refine zg_dup zi_87_46 rfl ?_
  refine zg_getI (v := .int (zI h11 a0 6)) zi_87_47 (by rw [eh11, eh10]; exact t7) (by rfl) rfl ?_
  refine zg_aload zi_87_48 rfl ?_
  refine zg_getI (v := .int (zI h11 a0 9)) zi_87_49 (by rw [eh11, eh10]; exact t7) (by rfl) rfl ?_
  refine zg_iadd zi_87_50 ?_
  refine zg_putI (h1 := zuI h11 a0 6 ((zI h11 a0 6) + (zI h11 a0 9))) zi_87_51 (by rw [eh11, eh10]; exact t7) (by rfl) rfl ?_
  refine zg_nameH fun h12 eh12 => ?_
  have hw := hw h12 eh12
  refine zg_aload zi_87_52 rfl ?_
  refine zg_dup zi_87_53 rfl ?_
  refine zg_getI (v := .int (zI h12 a0 7)) zi_87_54 (by rw [eh12, eh11, eh10]; exact t7) (by rfl) rfl ?_
  refine zg_aload zi_87_55 rfl ?_
  refine zg_getR (v := .ref r8) zi_87_56 (by rw [eh12, eh11, eh10]; exact t7) (by rfl) (by rw [eh12, eh11, eh10]; show zrv (zR h6 a0 0) = _; rw [er8]; rfl) ?_
  refine zg_aload zi_87_57 rfl ?_
  refine zg_iload zi_87_58 rfl ?_
  obtain ⟨hd, hs, hw⟩ := hw
  refine Gx.call2 (as := [.ref r8, .ref a1, .int a2]) (rest := [.int (zI h12 a0 7), .ref a0]) zq_28 zi_87_59 rfl rfl rfl (Nat.le_of_ble_eq_true rfl) (Nat.le_of_ble_eq_true rfl) (zrv_v (by rw [eh12, eh11, eh10]; exact t9) rfl rfl) (Nat.le_of_ble_eq_true rfl) ?_
  refine cz_28 hd hs ?_
  show Gx E (d + 1) 87 60 [.ref a0, .ref a1, .int a2, .int a3] [.int (fz_28 E h12 r8 a1 a2), .int (zI h12 a0 7), .ref a0] h12 Q
  refine zg_iadd zi_87_60 ?_
  refine zg_putI (h1 := zuI h12 a0 7 ((zI h12 a0 7) + (fz_28 E h12 r8 a1 a2))) zi_87_61 (by rw [eh12, eh11, eh10]; exact t7) (by rfl) rfl ?_
  refine zg_nameH fun h13 eh13 => ?_
  have hw := hw h13 eh13
  refine zg_aload zi_87_62 rfl ?_
  refine Gx.call2 (as := [.ref a0]) (rest := []) zq_88 zi_87_63 rfl rfl rfl (Nat.le_of_ble_eq_true rfl) (Nat.le_of_ble_eq_true rfl) (zrv_v (by rw [eh13, eh12, eh11, eh10]; exact t7) rfl rfl) (Nat.le_of_ble_eq_true rfl) ?_
  refine Ct.mono hw ?_
  rintro v h14 ⟨rfl, hw⟩
  show Gx E (d + 1) 87 64 [.ref a0, .ref a1, .int a2, .int a3] [] h14 Q
  refine zg_aload zi_87_64 rfl ?_
  obtain ⟨t15, hw⟩ := hw
  obtain ⟨r16, er16, hw⟩ := hw
  refine zg_getR (v := .ref r16) zi_87_65 t15 (by rfl) (by show zrv (zR h14 a0 0) = _; rw [er16]; rfl) ?_
  refine zg_aload zi_87_66 rfl ?_
  refine zg_aload zi_87_67 rfl ?_
  refine zg_getI (v := .int (zI h14 a0 1)) zi_87_68 t15 (by rfl) rfl ?_
  obtain ⟨t17, hw⟩ := hw
  refine Gx.call2 (as := [.ref r16, .ref a1, .int (zI h14 a0 1)]) (rest := []) zq_26 zi_87_69 rfl rfl rfl (Nat.le_of_ble_eq_true rfl) (Nat.le_of_ble_eq_true rfl) (zrv_v t17 rfl rfl) (Nat.le_of_ble_eq_true rfl) ?_
  refine Ct.mono hw ?_
  rintro v h18 ⟨rfl, hw⟩
  show Gx E (d + 1) 87 70 [.ref a0, .ref a1, .int a2, .int a3] [] h18 Q
  refine zg_aload zi_87_70 rfl ?_
  refine zg_dup zi_87_71 rfl ?_
  obtain ⟨t19, hw⟩ := hw
  refine zg_getI (v := .int (zI h18 a0 8)) zi_87_72 t19 (by rfl) rfl ?_
  refine zg_aload zi_87_73 rfl ?_
  obtain ⟨r20, er20, hw⟩ := hw
  refine zg_getR (v := .ref r20) zi_87_74 t19 (by rfl) (by show zrv (zR h18 a0 0) = _; rw [er20]; rfl) ?_
  obtain ⟨t21, hw⟩ := hw
  refine zg_getI (v := .int (zI h18 r20 6)) zi_87_75 t21 (by rfl) rfl ?_
  refine zg_iadd zi_87_76 ?_
  refine zg_putI (h1 := zuI h18 a0 8 ((zI h18 a0 8) + (zI h18 r20 6))) zi_87_77 t19 (by rfl) rfl ?_
  refine zg_nameH fun h22 eh22 => ?_
  have hw := hw h22 eh22
  refine zg_aload zi_87_78 rfl ?_
  refine zg_dup zi_87_79 rfl ?_
  refine zg_getI (v := .int (zI h22 a0 6)) zi_87_80 (by rw [eh22]; exact t19) (by rfl) rfl ?_
  refine zg_aload zi_87_81 rfl ?_
  refine zg_getR (v := .ref r20) zi_87_82 (by rw [eh22]; exact t19) (by rfl) (by rw [eh22]; show zrv (zR h18 a0 0) = _; rw [er20]; rfl) ?_
  refine zg_getI (v := .int (zI h22 r20 8)) zi_87_83 (by rw [eh22]; exact t21) (by rfl) rfl ?_
  refine zg_iadd zi_87_84 ?_
  refine zg_putI (h1 := zuI h22 a0 6 ((zI h22 a0 6) + (zI h22 r20 8))) zi_87_85 (by rw [eh22]; exact t19) (by rfl) rfl ?_
  refine zg_nameH fun h23 eh23 => ?_
  have hw := hw h23 eh23
  refine zg_aload zi_87_86 rfl ?_
  refine zg_dup zi_87_87 rfl ?_
  refine zg_getI (v := .int (zI h23 a0 7)) zi_87_88 (by rw [eh23, eh22]; exact t19) (by rfl) rfl ?_
  refine zg_aload zi_87_89 rfl ?_
  refine zg_getR (v := .ref r20) zi_87_90 (by rw [eh23, eh22]; exact t19) (by rfl) (by rw [eh23, eh22]; show zrv (zR h18 a0 0) = _; rw [er20]; rfl) ?_
  refine zg_getI (v := .int (zI h23 r20 8)) zi_87_91 (by rw [eh23, eh22]; exact t21) (by rfl) rfl ?_
  refine zg_isub zi_87_92 ?_
  refine zg_putI (h1 := zuI h23 a0 7 ((zI h23 a0 7) - (zI h23 r20 8))) zi_87_93 (by rw [eh23, eh22]; exact t19) (by rfl) rfl ?_
  refine zg_nameH fun h24 eh24 => ?_
  have hw := hw h24 eh24
  refine zg_aload zi_87_94 rfl ?_
  refine zg_dup zi_87_95 rfl ?_
  refine zg_getI (v := .int (zI h24 a0 1)) zi_87_96 (by rw [eh24, eh23, eh22]; exact t19) (by rfl) rfl ?_
  refine zg_const (v := 1) zi_87_97 (by rfl) ?_
  refine zg_iadd zi_87_98 ?_
  refine zg_putI (h1 := zuI h24 a0 1 ((zI h24 a0 1) + 1)) zi_87_99 (by rw [eh24, eh23, eh22]; exact t19) (by rfl) rfl ?_
  refine zg_nameH fun h25 eh25 => ?_
  have hw := hw h25 eh25
  refine zg_aload zi_87_100 rfl ?_
  refine zg_aload zi_87_101 rfl ?_
  refine zg_getI (v := .int (zI h25 a0 1)) zi_87_102 (by rw [eh25, eh24, eh23, eh22]; exact t19) (by rfl) rfl ?_
  obtain ⟨t26, hw⟩ := hw
  obtain ⟨hd, hs, hw⟩ := hw
  refine Gx.call2 (as := [.ref a1, .int (zI h25 a0 1)]) (rest := []) zq_35 zi_87_103 rfl rfl rfl (Nat.le_of_ble_eq_true rfl) (Nat.le_of_ble_eq_true rfl) (zrv_v t26 rfl rfl) (Nat.le_of_ble_eq_true rfl) ?_
  refine cz_35 hd hs ?_
  show Gx E (d + 1) 87 104 [.ref a0, .ref a1, .int a2, .int a3] [.int (fz_35 E h25 a1 (zI h25 a0 1))] h25 Q
  refine zg_if_eq zi_87_104 (fun hc => ?_) (fun hc => ?_)
  · have hw := hw.1 hc
    exact zg_return zi_87_107 hw
  · have hw := hw.2 hc
    refine zg_aload zi_87_105 rfl ?_
    refine Gx.call2 (as := [.ref a0]) (rest := []) zq_88 zi_87_106 rfl rfl rfl (Nat.le_of_ble_eq_true rfl) (Nat.le_of_ble_eq_true rfl) (zrv_v (by rw [eh25, eh24, eh23, eh22]; exact t19) rfl rfl) (Nat.le_of_ble_eq_true rfl) ?_
    refine Ct.mono hw ?_
    rintro v h27 ⟨rfl, hw⟩
    show Gx E (d + 1) 87 107 [.ref a0, .ref a1, .int a2, .int a3] [] h27 Q
    exact zg_return zi_87_107 hw
/-- TakeOrPay$Walk.go(LTakeOrPay$Page;II)V -/
def w_87 (E : Nat → Nat) (d : Nat) (a0 : Nat) (a1 : Nat) (a2 : Int32) (a3 : Int32) (h : ZH) (Q : Option Value → ZH → Prop) : Prop := ztag h a0 = 9 ∧ ztag h a1 = 3 ∧ 1 ≤ d ∧ sz_35 E h a1 (zI h a0 1) ∧ ((¬ (fz_35 E h a1 (zI h a0 1) : Int32) = 0 → ((¬ (zI h a0 2 : Int32) = ((-4) : Int32) → (wb_87_20 E d Q a0 a1 a2 a3 h)) ∧ (¬ (¬ (zI h a0 2 : Int32) = ((-4) : Int32)) → (2 ≤ d ∧ sz_46 E h a1 (zI h a0 1) a3 ∧ ((¬ (fz_46 E h a1 (zI h a0 1) a3 : Int32) = 0 → (wb_87_20 E d Q a0 a1 a2 a3 h)) ∧ (¬ (¬ (fz_46 E h a1 (zI h a0 1) a3 : Int32) = 0) → (∀ h28 : ZH, h28 = (zuI h a0 2 (zI h a0 1)) → wb_87_20 E d Q a0 a1 a2 a3 h28))))))) ∧ (¬ (¬ (fz_35 E h a1 (zI h a0 1) : Int32) = 0) → (Q none h)))
set_option maxRecDepth 20000 in
theorem ok_87 {E : Nat → Nat} {d : Nat} {a0 : Nat} {a1 : Nat} {a2 : Int32} {a3 : Int32} {h : ZH} {Q : Option Value → ZH → Prop} (hw : w_87 E d a0 a1 a2 a3 h Q) : Ct E (d + 1) 87 [.ref a0, .ref a1, .int a2, .int a3] h Q := by
  unfold w_87 at hw
  show Gx E (d + 1) 87 0 [.ref a0, .ref a1, .int a2, .int a3] [] h Q
  refine zg_aload zi_87_0 rfl ?_
  refine zg_aload zi_87_1 rfl ?_
  obtain ⟨t1, hw⟩ := hw
  refine zg_getI (v := .int (zI h a0 1)) zi_87_2 t1 (by rfl) rfl ?_
  obtain ⟨t2, hw⟩ := hw
  obtain ⟨hd, hs, hw⟩ := hw
  refine Gx.call2 (as := [.ref a1, .int (zI h a0 1)]) (rest := []) zq_35 zi_87_3 rfl rfl rfl (Nat.le_of_ble_eq_true rfl) (Nat.le_of_ble_eq_true rfl) (zrv_v t2 rfl rfl) (Nat.le_of_ble_eq_true rfl) ?_
  refine cz_35 hd hs ?_
  show Gx E (d + 1) 87 4 [.ref a0, .ref a1, .int a2, .int a3] [.int (fz_35 E h a1 (zI h a0 1))] h Q
  refine zg_if_ne zi_87_4 (fun hc => ?_) (fun hc => ?_)
  · have hw := hw.1 hc
    refine zg_aload zi_87_6 rfl ?_
    refine zg_getI (v := .int (zI h a0 2)) zi_87_7 t1 (by rfl) rfl ?_
    refine zg_const (v := (-4)) zi_87_8 (by rfl) ?_
    refine zg_icmp_ne zi_87_9 (fun hc => ?_) (fun hc => ?_)
    · have hw := hw.1 hc
      exact okb_87_20 hw
    · have hw := hw.2 hc
      refine zg_aload zi_87_10 rfl ?_
      refine zg_aload zi_87_11 rfl ?_
      refine zg_getI (v := .int (zI h a0 1)) zi_87_12 t1 (by rfl) rfl ?_
      refine zg_iload zi_87_13 rfl ?_
      obtain ⟨hd, hs, hw⟩ := hw
      refine Gx.call2 (as := [.ref a1, .int (zI h a0 1), .int a3]) (rest := []) zq_46 zi_87_14 rfl rfl rfl (Nat.le_of_ble_eq_true rfl) (Nat.le_of_ble_eq_true rfl) (zrv_v t2 rfl rfl) (Nat.le_of_ble_eq_true rfl) ?_
      refine cz_46 hd hs ?_
      show Gx E (d + 1) 87 15 [.ref a0, .ref a1, .int a2, .int a3] [.int (fz_46 E h a1 (zI h a0 1) a3)] h Q
      refine zg_if_ne zi_87_15 (fun hc => ?_) (fun hc => ?_)
      · have hw := hw.1 hc
        exact okb_87_20 hw
      · have hw := hw.2 hc
        refine zg_aload zi_87_16 rfl ?_
        refine zg_aload zi_87_17 rfl ?_
        refine zg_getI (v := .int (zI h a0 1)) zi_87_18 t1 (by rfl) rfl ?_
        refine zg_putI (h1 := zuI h a0 2 (zI h a0 1)) zi_87_19 t1 (by rfl) rfl ?_
        refine zg_nameH fun h28 eh28 => ?_
        have hw := hw h28 eh28
        exact okb_87_20 hw
  · have hw := hw.2 hc
    exact zg_return zi_87_5 hw
theorem zq_89 : zQ 89 1 2 10 := by unfold zQ; decide +kernel
theorem zi_89_0 : (zM 89).1[0]? = some (.aload 0) := by rfl
theorem zi_89_1 : (zM 89).1[1]? = some (.invokedynamic 3) := by rfl
theorem zi_89_2 : (zM 89).1[2]? = some (.aload 0) := by rfl
theorem zi_89_3 : (zM 89).1[3]? = some (.new 3) := by rfl
theorem zi_89_4 : (zM 89).1[4]? = some (.dup) := by rfl
theorem zi_89_5 : (zM 89).1[5]? = some (.invokespecial 29) := by rfl
theorem zi_89_6 : (zM 89).1[6]? = some (.putfield 10200) := by rfl
theorem zi_89_7 : (zM 89).1[7]? = some (.aload 0) := by rfl
theorem zi_89_8 : (zM 89).1[8]? = some (.new 8) := by rfl
theorem zi_89_9 : (zM 89).1[9]? = some (.dup) := by rfl
theorem zi_89_10 : (zM 89).1[10]? = some (.invokespecial 77) := by rfl
theorem zi_89_11 : (zM 89).1[11]? = some (.putfield 10201) := by rfl
theorem zi_89_12 : (zM 89).1[12]? = some (.aload 0) := by rfl
theorem zi_89_13 : (zM 89).1[13]? = some (.new 4) := by rfl
theorem zi_89_14 : (zM 89).1[14]? = some (.dup) := by rfl
theorem zi_89_15 : (zM 89).1[15]? = some (.aload 0) := by rfl
theorem zi_89_16 : (zM 89).1[16]? = some (.getfield 10201) := by rfl
theorem zi_89_17 : (zM 89).1[17]? = some (.invokespecial 52) := by rfl
theorem zi_89_18 : (zM 89).1[18]? = some (.putfield 10202) := by rfl
theorem zi_89_19 : (zM 89).1[19]? = some (.aload 0) := by rfl
theorem zi_89_20 : (zM 89).1[20]? = some (.new 5) := by rfl
theorem zi_89_21 : (zM 89).1[21]? = some (.dup) := by rfl
theorem zi_89_22 : (zM 89).1[22]? = some (.invokespecial 65) := by rfl
theorem zi_89_23 : (zM 89).1[23]? = some (.putfield 10203) := by rfl
theorem zi_89_24 : (zM 89).1[24]? = some (.aload 0) := by rfl
theorem zi_89_25 : (zM 89).1[25]? = some (.new 9) := by rfl
theorem zi_89_26 : (zM 89).1[26]? = some (.dup) := by rfl
theorem zi_89_27 : (zM 89).1[27]? = some (.invokespecial 85) := by rfl
theorem zi_89_28 : (zM 89).1[28]? = some (.putfield 10204) := by rfl
theorem zi_89_29 : (zM 89).1[29]? = some (.aload 0) := by rfl
theorem zi_89_30 : (zM 89).1[30]? = some (.new 2) := by rfl
theorem zi_89_31 : (zM 89).1[31]? = some (.dup) := by rfl
theorem zi_89_32 : (zM 89).1[32]? = some (.invokespecial 23) := by rfl
theorem zi_89_33 : (zM 89).1[33]? = some (.putfield 10205) := by rfl
theorem zi_89_34 : (zM 89).1[34]? = some (.aload 0) := by rfl
theorem zi_89_35 : (zM 89).1[35]? = some (.new 1) := by rfl
theorem zi_89_36 : (zM 89).1[36]? = some (.dup) := by rfl
theorem zi_89_37 : (zM 89).1[37]? = some (.aload 0) := by rfl
theorem zi_89_38 : (zM 89).1[38]? = some (.getfield 10200) := by rfl
theorem zi_89_39 : (zM 89).1[39]? = some (.aload 0) := by rfl
theorem zi_89_40 : (zM 89).1[40]? = some (.getfield 10203) := by rfl
theorem zi_89_41 : (zM 89).1[41]? = some (.invokespecial 13) := by rfl
theorem zi_89_42 : (zM 89).1[42]? = some (.putfield 10206) := by rfl
theorem zi_89_43 : (zM 89).1[43]? = some (.aload 0) := by rfl
theorem zi_89_44 : (zM 89).1[44]? = some (.iconst 4) := by rfl
theorem zi_89_45 : (zM 89).1[45]? = some (.anewarray 17) := by rfl
theorem zi_89_46 : (zM 89).1[46]? = some (.putfield 10207) := by rfl
theorem zi_89_47 : (zM 89).1[47]? = some (.iconst 0) := by rfl
theorem zi_89_48 : (zM 89).1[48]? = some (.istore 1) := by rfl
theorem zi_89_49 : (zM 89).1[49]? = some (.iload 1) := by rfl
theorem zi_89_50 : (zM 89).1[50]? = some (.iconst 4) := by rfl
theorem zi_89_51 : (zM 89).1[51]? = some (.if_icmp .ge ((61 : Nat) : Int)) := by rfl
theorem zi_89_52 : (zM 89).1[52]? = some (.aload 0) := by rfl
theorem zi_89_53 : (zM 89).1[53]? = some (.getfield 10207) := by rfl
theorem zi_89_54 : (zM 89).1[54]? = some (.iload 1) := by rfl
theorem zi_89_55 : (zM 89).1[55]? = some (.new 6) := by rfl
theorem zi_89_56 : (zM 89).1[56]? = some (.dup) := by rfl
theorem zi_89_57 : (zM 89).1[57]? = some (.invokespecial 67) := by rfl
theorem zi_89_58 : (zM 89).1[58]? = some (.aastore) := by rfl
theorem zi_89_59 : (zM 89).1[59]? = some (.iinc 1 1) := by rfl
theorem zi_89_60 : (zM 89).1[60]? = some (.goto ((49 : Nat) : Int)) := by rfl
theorem zi_89_61 : (zM 89).1[61]? = some (.return_) := by rfl
def wl_89_49 (E : Nat → Nat) (d : Nat) (Q : Option Value → ZH → Prop) : Nat → Nat → Int32 → ZH → Prop
  | 0, _, _, _ => False
  | n + 1, a0, a1, h => (4 ≤ a1 → (Q none h)) ∧ (¬ (4 ≤ a1) → (ztag h a0 = 10 ∧ ∃ r53 : Nat, zR h a0 7 = r53 + 1 ∧ ∀ h54 : ZH, h54 = (znew h 6 (zN 6)) → ∀ r55 : Nat, r55 = (zsz h) → ztag h54 r55 = 6 ∧ Ct E d 67 [.ref r55] h54 (fun v h57 => v = none ∧ ((ztag h57 r53 = 16 ∧ ztag h57 r55 = 2) ∨ (ztag h57 r53 = 17 ∧ ztag h57 r55 = 6)) ∧ zin a1 (zlen h57 r53) = true ∧ ∀ h59 : ZH, h59 = (zuR h57 r53 a1.toNatClampNeg (r55 + 1)) → ∀ x60 : Int32, x60 = (a1 + 1) → wl_89_49 E d Q n a0 x60 h59)))
set_option maxRecDepth 20000 in
theorem okl_89_49 {E : Nat → Nat} {d : Nat} {Q : Option Value → ZH → Prop} : ∀ (n : Nat) (a0 : Nat) (a1 : Int32) (h : ZH), wl_89_49 E d Q n a0 a1 h → Gx E (d + 1) 89 49 [.ref a0, .int a1] [] h Q := by
  intro n
  induction n with
  | zero => intro a0 a1 h hw; exact hw.elim
  | succ n ih =>
    intro a0 a1 h hw
    rw [wl_89_49] at hw
    refine zg_iload zi_89_49 rfl ?_
    refine zg_const (v := 4) zi_89_50 (by rfl) ?_
    refine zg_icmp_ge zi_89_51 (fun hc => ?_) (fun hc => ?_)
    · have hw := hw.1 hc
      exact zg_return zi_89_61 hw
    · have hw := hw.2 hc
      refine zg_aload zi_89_52 rfl ?_
      obtain ⟨t52, hw⟩ := hw
      obtain ⟨r53, er53, hw⟩ := hw
      refine zg_getR (v := .ref r53) zi_89_53 t52 (by rfl) (by show zrv (zR h a0 7) = _; rw [er53]; rfl) ?_
      refine zg_iload zi_89_54 rfl ?_
      refine zg_new zi_89_55 (by decide) ?_
      refine zg_nameH fun h54 eh54 => ?_
      have hw := hw h54 eh54
      refine zg_nameA fun r55 er55 => ?_
      have hw := hw r55 er55
      refine zg_dup zi_89_56 rfl ?_
      obtain ⟨t56, hw⟩ := hw
      refine Gx.call2 (as := [.ref r55]) (rest := [.ref r55, .int a1, .ref r53]) zq_67 zi_89_57 rfl rfl rfl (Nat.le_of_ble_eq_true rfl) (Nat.le_of_ble_eq_true rfl) (zrv_i t56 rfl rfl) (Nat.le_of_ble_eq_true rfl) ?_
      refine Ct.mono hw ?_
      rintro v h57 ⟨rfl, hw⟩
      show Gx E (d + 1) 89 58 [.ref a0, .int a1] [.ref r55, .int a1, .ref r53] h57 Q
      obtain ⟨t58, hw⟩ := hw
      obtain ⟨hb, hw⟩ := hw
      refine zg_aastore (h1 := zuR h57 r53 a1.toNatClampNeg (r55 + 1)) zi_89_58 t58 hb rfl ?_
      refine zg_nameH fun h59 eh59 => ?_
      have hw := hw h59 eh59
      obtain ⟨x60, ex60⟩ : ∃ x : Int32, x = a1 + 1 := ⟨_, rfl⟩
      have hw := hw x60 ex60
      refine zg_iinc (v := x60) (ls1 := [.ref a0, .int x60]) zi_89_59 rfl (by rw [ex60]; rfl) rfl ?_
      refine zg_goto zi_89_60 ?_
      exact ih a0 x60 h59 hw
/-- TakeOrPay.<init>()V -/
def w_89 (E : Nat → Nat) (d : Nat) (a0 : Nat) (h : ZH) (Q : Option Value → ZH → Prop) : Prop := 4 ≤ d ∧ ∀ h1 : ZH, h1 = (znew h 3 (zN 3)) → ∀ r2 : Nat, r2 = (zsz h) → ztag h1 r2 = 3 ∧ Ct E d 29 [.ref r2] h1 (fun v h4 => v = none ∧ ztag h4 a0 = 10 ∧ ∀ h6 : ZH, h6 = (zuR h4 a0 0 (r2 + 1)) → ∀ h7 : ZH, h7 = (znew h6 8 (zN 8)) → ∀ r8 : Nat, r8 = (zsz h6) → ztag h7 r8 = 8 ∧ Ct E d 77 [.ref r8] h7 (fun v h10 => v = none ∧ ztag h10 a0 = 10 ∧ ∀ h12 : ZH, h12 = (zuR h10 a0 1 (r8 + 1)) → ∀ h13 : ZH, h13 = (znew h12 4 (zN 4)) → ∀ r14 : Nat, r14 = (zsz h12) → ztag h13 a0 = 10 ∧ ∃ r16 : Nat, zR h13 a0 1 = r16 + 1 ∧ ztag h13 r14 = 4 ∧ Ct E d 52 [.ref r14, .ref r16] h13 (fun v h18 => v = none ∧ ztag h18 a0 = 10 ∧ ∀ h20 : ZH, h20 = (zuR h18 a0 2 (r14 + 1)) → ∀ h21 : ZH, h21 = (znew h20 5 (zN 5)) → ∀ r22 : Nat, r22 = (zsz h20) → ztag h21 r22 = 5 ∧ Ct E d 65 [.ref r22] h21 (fun v h24 => v = none ∧ ztag h24 a0 = 10 ∧ ∀ h26 : ZH, h26 = (zuR h24 a0 3 (r22 + 1)) → ∀ h27 : ZH, h27 = (znew h26 9 (zN 9)) → ∀ r28 : Nat, r28 = (zsz h26) → ztag h27 r28 = 9 ∧ Ct E d 85 [.ref r28] h27 (fun v h30 => v = none ∧ ztag h30 a0 = 10 ∧ ∀ h32 : ZH, h32 = (zuR h30 a0 4 (r28 + 1)) → ∀ h33 : ZH, h33 = (znew h32 2 (zN 2)) → ∀ r34 : Nat, r34 = (zsz h32) → ztag h33 r34 = 2 ∧ Ct E d 23 [.ref r34] h33 (fun v h36 => v = none ∧ ztag h36 a0 = 10 ∧ ∀ h38 : ZH, h38 = (zuR h36 a0 5 (r34 + 1)) → ∀ h39 : ZH, h39 = (znew h38 1 (zN 1)) → ∀ r40 : Nat, r40 = (zsz h38) → ztag h39 a0 = 10 ∧ ∃ r42 : Nat, zR h39 a0 0 = r42 + 1 ∧ ∃ r43 : Nat, zR h39 a0 3 = r43 + 1 ∧ ztag h39 r40 = 1 ∧ Ct E d 13 [.ref r40, .ref r42, .ref r43] h39 (fun v h45 => v = none ∧ ztag h45 a0 = 10 ∧ ∀ h47 : ZH, h47 = (zuR h45 a0 6 (r40 + 1)) → ∀ h48 : ZH, h48 = (znew h47 17 4) → ∀ r49 : Nat, r49 = (zsz h47) → ztag h48 a0 = 10 ∧ ∀ h51 : ZH, h51 = (zuR h48 a0 7 (r49 + 1)) → (∃ mm : Nat, wl_89_49 E d Q mm a0 0 h51))))))))
set_option maxRecDepth 20000 in
theorem ok_89 {E : Nat → Nat} {d : Nat} {a0 : Nat} {h : ZH} {Q : Option Value → ZH → Prop} (hw : w_89 E d a0 h Q) : Ct E (d + 1) 89 [.ref a0] h Q := by
  unfold w_89 at hw
  show Gx E (d + 1) 89 0 [.ref a0, .retAddr 0] [] h Q
  refine zg_aload zi_89_0 rfl ?_
  obtain ⟨hd, hw⟩ := hw
  refine zg_object zi_89_1 ⟨by omega, Nat.le_of_ble_eq_true rfl⟩ ?_
  refine zg_aload zi_89_2 rfl ?_
  refine zg_new zi_89_3 (by decide) ?_
  refine zg_nameH fun h1 eh1 => ?_
  have hw := hw h1 eh1
  refine zg_nameA fun r2 er2 => ?_
  have hw := hw r2 er2
  refine zg_dup zi_89_4 rfl ?_
  obtain ⟨t3, hw⟩ := hw
  refine Gx.call2 (as := [.ref r2]) (rest := [.ref r2, .ref a0]) zq_29 zi_89_5 rfl rfl rfl (Nat.le_of_ble_eq_true rfl) (Nat.le_of_ble_eq_true rfl) (zrv_i t3 rfl rfl) (Nat.le_of_ble_eq_true rfl) ?_
  refine Ct.mono hw ?_
  rintro v h4 ⟨rfl, hw⟩
  show Gx E (d + 1) 89 6 [.ref a0, .retAddr 0] [.ref r2, .ref a0] h4 Q
  obtain ⟨t5, hw⟩ := hw
  refine zg_putR (h1 := zuR h4 a0 0 (r2 + 1)) zi_89_6 t5 (by rfl) rfl ?_
  refine zg_nameH fun h6 eh6 => ?_
  have hw := hw h6 eh6
  refine zg_aload zi_89_7 rfl ?_
  refine zg_new zi_89_8 (by decide) ?_
  refine zg_nameH fun h7 eh7 => ?_
  have hw := hw h7 eh7
  refine zg_nameA fun r8 er8 => ?_
  have hw := hw r8 er8
  refine zg_dup zi_89_9 rfl ?_
  obtain ⟨t9, hw⟩ := hw
  refine Gx.call2 (as := [.ref r8]) (rest := [.ref r8, .ref a0]) zq_77 zi_89_10 rfl rfl rfl (Nat.le_of_ble_eq_true rfl) (Nat.le_of_ble_eq_true rfl) (zrv_i t9 rfl rfl) (Nat.le_of_ble_eq_true rfl) ?_
  refine Ct.mono hw ?_
  rintro v h10 ⟨rfl, hw⟩
  show Gx E (d + 1) 89 11 [.ref a0, .retAddr 0] [.ref r8, .ref a0] h10 Q
  obtain ⟨t11, hw⟩ := hw
  refine zg_putR (h1 := zuR h10 a0 1 (r8 + 1)) zi_89_11 t11 (by rfl) rfl ?_
  refine zg_nameH fun h12 eh12 => ?_
  have hw := hw h12 eh12
  refine zg_aload zi_89_12 rfl ?_
  refine zg_new zi_89_13 (by decide) ?_
  refine zg_nameH fun h13 eh13 => ?_
  have hw := hw h13 eh13
  refine zg_nameA fun r14 er14 => ?_
  have hw := hw r14 er14
  refine zg_dup zi_89_14 rfl ?_
  refine zg_aload zi_89_15 rfl ?_
  obtain ⟨t15, hw⟩ := hw
  obtain ⟨r16, er16, hw⟩ := hw
  refine zg_getR (v := .ref r16) zi_89_16 t15 (by rfl) (by show zrv (zR h13 a0 1) = _; rw [er16]; rfl) ?_
  obtain ⟨t17, hw⟩ := hw
  refine Gx.call2 (as := [.ref r14, .ref r16]) (rest := [.ref r14, .ref a0]) zq_52 zi_89_17 rfl rfl rfl (Nat.le_of_ble_eq_true rfl) (Nat.le_of_ble_eq_true rfl) (zrv_i t17 rfl rfl) (Nat.le_of_ble_eq_true rfl) ?_
  refine Ct.mono hw ?_
  rintro v h18 ⟨rfl, hw⟩
  show Gx E (d + 1) 89 18 [.ref a0, .retAddr 0] [.ref r14, .ref a0] h18 Q
  obtain ⟨t19, hw⟩ := hw
  refine zg_putR (h1 := zuR h18 a0 2 (r14 + 1)) zi_89_18 t19 (by rfl) rfl ?_
  refine zg_nameH fun h20 eh20 => ?_
  have hw := hw h20 eh20
  refine zg_aload zi_89_19 rfl ?_
  refine zg_new zi_89_20 (by decide) ?_
  refine zg_nameH fun h21 eh21 => ?_
  have hw := hw h21 eh21
  refine zg_nameA fun r22 er22 => ?_
  have hw := hw r22 er22
  refine zg_dup zi_89_21 rfl ?_
  obtain ⟨t23, hw⟩ := hw
  refine Gx.call2 (as := [.ref r22]) (rest := [.ref r22, .ref a0]) zq_65 zi_89_22 rfl rfl rfl (Nat.le_of_ble_eq_true rfl) (Nat.le_of_ble_eq_true rfl) (zrv_i t23 rfl rfl) (Nat.le_of_ble_eq_true rfl) ?_
  refine Ct.mono hw ?_
  rintro v h24 ⟨rfl, hw⟩
  show Gx E (d + 1) 89 23 [.ref a0, .retAddr 0] [.ref r22, .ref a0] h24 Q
  obtain ⟨t25, hw⟩ := hw
  refine zg_putR (h1 := zuR h24 a0 3 (r22 + 1)) zi_89_23 t25 (by rfl) rfl ?_
  refine zg_nameH fun h26 eh26 => ?_
  have hw := hw h26 eh26
  refine zg_aload zi_89_24 rfl ?_
  refine zg_new zi_89_25 (by decide) ?_
  refine zg_nameH fun h27 eh27 => ?_
  have hw := hw h27 eh27
  refine zg_nameA fun r28 er28 => ?_
  have hw := hw r28 er28
  refine zg_dup zi_89_26 rfl ?_
  obtain ⟨t29, hw⟩ := hw
  refine Gx.call2 (as := [.ref r28]) (rest := [.ref r28, .ref a0]) zq_85 zi_89_27 rfl rfl rfl (Nat.le_of_ble_eq_true rfl) (Nat.le_of_ble_eq_true rfl) (zrv_i t29 rfl rfl) (Nat.le_of_ble_eq_true rfl) ?_
  refine Ct.mono hw ?_
  rintro v h30 ⟨rfl, hw⟩
  show Gx E (d + 1) 89 28 [.ref a0, .retAddr 0] [.ref r28, .ref a0] h30 Q
  obtain ⟨t31, hw⟩ := hw
  refine zg_putR (h1 := zuR h30 a0 4 (r28 + 1)) zi_89_28 t31 (by rfl) rfl ?_
  refine zg_nameH fun h32 eh32 => ?_
  have hw := hw h32 eh32
  refine zg_aload zi_89_29 rfl ?_
  refine zg_new zi_89_30 (by decide) ?_
  refine zg_nameH fun h33 eh33 => ?_
  have hw := hw h33 eh33
  refine zg_nameA fun r34 er34 => ?_
  have hw := hw r34 er34
  refine zg_dup zi_89_31 rfl ?_
  obtain ⟨t35, hw⟩ := hw
  refine Gx.call2 (as := [.ref r34]) (rest := [.ref r34, .ref a0]) zq_23 zi_89_32 rfl rfl rfl (Nat.le_of_ble_eq_true rfl) (Nat.le_of_ble_eq_true rfl) (zrv_i t35 rfl rfl) (Nat.le_of_ble_eq_true rfl) ?_
  refine Ct.mono hw ?_
  rintro v h36 ⟨rfl, hw⟩
  show Gx E (d + 1) 89 33 [.ref a0, .retAddr 0] [.ref r34, .ref a0] h36 Q
  obtain ⟨t37, hw⟩ := hw
  refine zg_putR (h1 := zuR h36 a0 5 (r34 + 1)) zi_89_33 t37 (by rfl) rfl ?_
  refine zg_nameH fun h38 eh38 => ?_
  have hw := hw h38 eh38
  refine zg_aload zi_89_34 rfl ?_
  refine zg_new zi_89_35 (by decide) ?_
  refine zg_nameH fun h39 eh39 => ?_
  have hw := hw h39 eh39
  refine zg_nameA fun r40 er40 => ?_
  have hw := hw r40 er40
  refine zg_dup zi_89_36 rfl ?_
  refine zg_aload zi_89_37 rfl ?_
  obtain ⟨t41, hw⟩ := hw
  obtain ⟨r42, er42, hw⟩ := hw
  refine zg_getR (v := .ref r42) zi_89_38 t41 (by rfl) (by show zrv (zR h39 a0 0) = _; rw [er42]; rfl) ?_
  refine zg_aload zi_89_39 rfl ?_
  obtain ⟨r43, er43, hw⟩ := hw
  refine zg_getR (v := .ref r43) zi_89_40 t41 (by rfl) (by show zrv (zR h39 a0 3) = _; rw [er43]; rfl) ?_
  obtain ⟨t44, hw⟩ := hw
  refine Gx.call2 (as := [.ref r40, .ref r42, .ref r43]) (rest := [.ref r40, .ref a0]) zq_13 zi_89_41 rfl rfl rfl (Nat.le_of_ble_eq_true rfl) (Nat.le_of_ble_eq_true rfl) (zrv_i t44 rfl rfl) (Nat.le_of_ble_eq_true rfl) ?_
  refine Ct.mono hw ?_
  rintro v h45 ⟨rfl, hw⟩
  show Gx E (d + 1) 89 42 [.ref a0, .retAddr 0] [.ref r40, .ref a0] h45 Q
  obtain ⟨t46, hw⟩ := hw
  refine zg_putR (h1 := zuR h45 a0 6 (r40 + 1)) zi_89_42 t46 (by rfl) rfl ?_
  refine zg_nameH fun h47 eh47 => ?_
  have hw := hw h47 eh47
  refine zg_aload zi_89_43 rfl ?_
  refine zg_const (v := 4) zi_89_44 (by rfl) ?_
  refine zg_anewarray (N := 4) zi_89_45 (by decide) (by decide) ?_
  refine zg_nameH fun h48 eh48 => ?_
  have hw := hw h48 eh48
  refine zg_nameA fun r49 er49 => ?_
  have hw := hw r49 er49
  obtain ⟨t50, hw⟩ := hw
  refine zg_putR (h1 := zuR h48 a0 7 (r49 + 1)) zi_89_46 t50 (by rfl) rfl ?_
  refine zg_nameH fun h51 eh51 => ?_
  have hw := hw h51 eh51
  refine zg_const (v := 0) zi_89_47 (by rfl) ?_
  refine zg_istore (ls1 := [.ref a0, .int 0]) zi_89_48 (Nat.le_of_ble_eq_true rfl) rfl ?_
  obtain ⟨mm, hw⟩ := hw
  exact okl_89_49 mm a0 0 h51 hw
theorem zq_90 : zQ 90 2 3 10 := by unfold zQ; decide +kernel
theorem zi_90_0 : (zM 90).1[0]? = some (.aload 0) := by rfl
theorem zi_90_1 : (zM 90).1[1]? = some (.getfield 10201) := by rfl
theorem zi_90_2 : (zM 90).1[2]? = some (.lload 1) := by rfl
theorem zi_90_3 : (zM 90).1[3]? = some (.invokevirtual 78) := by rfl
theorem zi_90_4 : (zM 90).1[4]? = some (.ifCond .eq ((9 : Nat) : Int)) := by rfl
theorem zi_90_5 : (zM 90).1[5]? = some (.aload 0) := by rfl
theorem zi_90_6 : (zM 90).1[6]? = some (.getfield 10201) := by rfl
theorem zi_90_7 : (zM 90).1[7]? = some (.getfield 8001) := by rfl
theorem zi_90_8 : (zM 90).1[8]? = some (.goto ((10 : Nat) : Int)) := by rfl
theorem zi_90_9 : (zM 90).1[9]? = some (.iconst (-3)) := by rfl
theorem zi_90_10 : (zM 90).1[10]? = some (.ireturn) := by rfl
/-- TakeOrPay.feed(J)I -/
def w_90 (E : Nat → Nat) (d : Nat) (a0 : Nat) (a1 : Int64) (h : ZH) (Q : Option Value → ZH → Prop) : Prop := ztag h a0 = 10 ∧ ∃ r2 : Nat, zR h a0 1 = r2 + 1 ∧ ztag h r2 = 8 ∧ Ct E d 78 [.ref r2, .long a1] h (fun v h4 => ∃ x5 : Int32, v = some (.int x5) ∧ (((x5 = 0 → (True)) ∧ (¬ (x5 = 0) → (ztag h4 a0 = 10 ∧ ¬ zR h4 a0 1 = 0 ∧ ztag h4 (zR h4 a0 1 - 1) = 8 ∧ True))) ∧ Q (some (.int (if x5 = 0 then (-3) else zI h4 (zR h4 a0 1 - 1) 1))) h4))
set_option maxRecDepth 20000 in
theorem ok_90 {E : Nat → Nat} {d : Nat} {a0 : Nat} {a1 : Int64} {h : ZH} {Q : Option Value → ZH → Prop} (hw : w_90 E d a0 a1 h Q) : Ct E (d + 1) 90 [.ref a0, .long a1] h Q := by
  unfold w_90 at hw
  show Gx E (d + 1) 90 0 [.ref a0, .long a1, .retAddr 0] [] h Q
  refine zg_aload zi_90_0 rfl ?_
  obtain ⟨t1, hw⟩ := hw
  obtain ⟨r2, er2, hw⟩ := hw
  refine zg_getR (v := .ref r2) zi_90_1 t1 (by rfl) (by show zrv (zR h a0 1) = _; rw [er2]; rfl) ?_
  refine zg_lload zi_90_2 rfl ?_
  obtain ⟨t3, hw⟩ := hw
  refine Gx.call2 (as := [.ref r2, .long a1]) (rest := []) zq_78 zi_90_3 rfl rfl rfl (Nat.le_of_ble_eq_true rfl) (Nat.le_of_ble_eq_true rfl) (zrv_v t3 rfl rfl) (Nat.le_of_ble_eq_true rfl) ?_
  refine Ct.mono hw ?_
  rintro v h4 ⟨x5, rfl, hw⟩
  show Gx E (d + 1) 90 4 [.ref a0, .long a1, .retAddr 0] [.int x5] h4 Q
  obtain ⟨hsd4, hw⟩ := hw
  have g4 : Gx E (d + 1) 90 10 [.ref a0, .long a1, .retAddr 0] [.int (if x5 = 0 then (-3) else zI h4 (zR h4 a0 1 - 1) 1)] h4 Q := by
    exact zg_ireturn zi_90_10 (by decide) hw
  refine zg_if_eq zi_90_4 (fun hc4 => ?_) (fun hc4 => ?_)
  · have hw := hsd4.1 hc4
    refine zg_const (v := (-3)) zi_90_9 (by rfl) ?_
    have hg := g4
    simp only [if_pos hc4] at hg
    exact hg
  · have hw := hsd4.2 hc4
    refine zg_aload zi_90_5 rfl ?_
    obtain ⟨t6, hw⟩ := hw
    obtain ⟨hr, hw⟩ := hw
    refine zg_getR (v := .ref (zR h4 a0 1 - 1)) zi_90_6 t6 (by rfl) (zrv_p hr) ?_
    obtain ⟨t7, hw⟩ := hw
    refine zg_getI (v := .int (zI h4 (zR h4 a0 1 - 1) 1)) zi_90_7 t7 (by rfl) rfl ?_
    refine zg_goto zi_90_8 ?_
    have hg := g4
    simp only [if_neg hc4] at hg
    exact hg
theorem zq_91 : zQ 91 2 3 10 := by unfold zQ; decide +kernel
theorem zi_91_0 : (zM 91).1[0]? = some (.iload 1) := by rfl
theorem zi_91_1 : (zM 91).1[1]? = some (.ifCond .lt ((7 : Nat) : Int)) := by rfl
theorem zi_91_2 : (zM 91).1[2]? = some (.iload 1) := by rfl
theorem zi_91_3 : (zM 91).1[3]? = some (.aload 0) := by rfl
theorem zi_91_4 : (zM 91).1[4]? = some (.getfield 10201) := by rfl
theorem zi_91_5 : (zM 91).1[5]? = some (.getfield 8001) := by rfl
theorem zi_91_6 : (zM 91).1[6]? = some (.if_icmp .le ((9 : Nat) : Int)) := by rfl
theorem zi_91_7 : (zM 91).1[7]? = some (.iconst (-1)) := by rfl
theorem zi_91_8 : (zM 91).1[8]? = some (.ireturn) := by rfl
theorem zi_91_9 : (zM 91).1[9]? = some (.aload 0) := by rfl
theorem zi_91_10 : (zM 91).1[10]? = some (.getfield 10201) := by rfl
theorem zi_91_11 : (zM 91).1[11]? = some (.getfield 8001) := by rfl
theorem zi_91_12 : (zM 91).1[12]? = some (.istore 2) := by rfl
theorem zi_91_13 : (zM 91).1[13]? = some (.aload 0) := by rfl
theorem zi_91_14 : (zM 91).1[14]? = some (.getfield 10201) := by rfl
theorem zi_91_15 : (zM 91).1[15]? = some (.iload 1) := by rfl
theorem zi_91_16 : (zM 91).1[16]? = some (.putfield 8001) := by rfl
theorem zi_91_17 : (zM 91).1[17]? = some (.iload 2) := by rfl
theorem zi_91_18 : (zM 91).1[18]? = some (.ireturn) := by rfl
/-- TakeOrPay.end(I)I -/
def w_91 (E : Nat → Nat) (d : Nat) (a0 : Nat) (a1 : Int32) (h : ZH) (Q : Option Value → ZH → Prop) : Prop := (a1 < 0 → (Q (some (.int ((-1)))) h)) ∧ (¬ (a1 < 0) → (ztag h a0 = 10 ∧ ∃ r2 : Nat, zR h a0 1 = r2 + 1 ∧ ztag h r2 = 8 ∧ ((a1 ≤ (zI h r2 1 : Int32) → (∀ x4 : Int32, x4 = (zI h r2 1) → ∀ h5 : ZH, h5 = (zuI h r2 1 a1) → Q (some (.int x4)) h5)) ∧ (¬ (a1 ≤ (zI h r2 1 : Int32)) → (Q (some (.int ((-1)))) h)))))
set_option maxRecDepth 20000 in
theorem ok_91 {E : Nat → Nat} {d : Nat} {a0 : Nat} {a1 : Int32} {h : ZH} {Q : Option Value → ZH → Prop} (hw : w_91 E d a0 a1 h Q) : Ct E (d + 1) 91 [.ref a0, .int a1] h Q := by
  unfold w_91 at hw
  show Gx E (d + 1) 91 0 [.ref a0, .int a1, .retAddr 0] [] h Q
  refine zg_iload zi_91_0 rfl ?_
  refine zg_if_lt zi_91_1 (fun hc => ?_) (fun hc => ?_)
  · have hw := hw.1 hc
    refine zg_const (v := (-1)) zi_91_7 (by rfl) ?_
    exact zg_ireturn zi_91_8 (by decide) hw
  · have hw := hw.2 hc
    refine zg_iload zi_91_2 rfl ?_
    refine zg_aload zi_91_3 rfl ?_
    obtain ⟨t1, hw⟩ := hw
    obtain ⟨r2, er2, hw⟩ := hw
    refine zg_getR (v := .ref r2) zi_91_4 t1 (by rfl) (by show zrv (zR h a0 1) = _; rw [er2]; rfl) ?_
    obtain ⟨t3, hw⟩ := hw
    refine zg_getI (v := .int (zI h r2 1)) zi_91_5 t3 (by rfl) rfl ?_
    refine zg_icmp_le zi_91_6 (fun hc => ?_) (fun hc => ?_)
    · have hw := hw.1 hc
      refine zg_aload zi_91_9 rfl ?_
      refine zg_getR (v := .ref r2) zi_91_10 t1 (by rfl) (by show zrv (zR h a0 1) = _; rw [er2]; rfl) ?_
      refine zg_getI (v := .int (zI h r2 1)) zi_91_11 t3 (by rfl) rfl ?_
      refine zg_nameI fun x4 ex4 => ?_
      have hw := hw x4 ex4
      refine zg_istore (ls1 := [.ref a0, .int a1, .int x4]) zi_91_12 (Nat.le_of_ble_eq_true rfl) rfl ?_
      refine zg_aload zi_91_13 rfl ?_
      refine zg_getR (v := .ref r2) zi_91_14 t1 (by rfl) (by show zrv (zR h a0 1) = _; rw [er2]; rfl) ?_
      refine zg_iload zi_91_15 rfl ?_
      refine zg_putI (h1 := zuI h r2 1 a1) zi_91_16 t3 (by rfl) rfl ?_
      refine zg_nameH fun h5 eh5 => ?_
      have hw := hw h5 eh5
      refine zg_iload zi_91_17 rfl ?_
      exact zg_ireturn zi_91_18 (by decide) hw
    · have hw := hw.2 hc
      refine zg_const (v := (-1)) zi_91_7 (by rfl) ?_
      exact zg_ireturn zi_91_8 (by decide) hw
theorem zq_92 : zQ 92 1 2 10 := by unfold zQ; decide +kernel
theorem zi_92_0 : (zM 92).1[0]? = some (.aload 0) := by rfl
theorem zi_92_1 : (zM 92).1[1]? = some (.getfield 10202) := by rfl
theorem zi_92_2 : (zM 92).1[2]? = some (.invokevirtual 53) := by rfl
theorem zi_92_3 : (zM 92).1[3]? = some (.istore 1) := by rfl
theorem zi_92_4 : (zM 92).1[4]? = some (.aload 0) := by rfl
theorem zi_92_5 : (zM 92).1[5]? = some (.getfield 10201) := by rfl
theorem zi_92_6 : (zM 92).1[6]? = some (.iconst 0) := by rfl
theorem zi_92_7 : (zM 92).1[7]? = some (.putfield 8001) := by rfl
theorem zi_92_8 : (zM 92).1[8]? = some (.aload 0) := by rfl
theorem zi_92_9 : (zM 92).1[9]? = some (.getfield 10202) := by rfl
theorem zi_92_10 : (zM 92).1[10]? = some (.getfield 4003) := by rfl
theorem zi_92_11 : (zM 92).1[11]? = some (.ifCond .eq ((18 : Nat) : Int)) := by rfl
theorem zi_92_12 : (zM 92).1[12]? = some (.iconst (-10)) := by rfl
theorem zi_92_13 : (zM 92).1[13]? = some (.aload 0) := by rfl
theorem zi_92_14 : (zM 92).1[14]? = some (.getfield 10202) := by rfl
theorem zi_92_15 : (zM 92).1[15]? = some (.getfield 4004) := by rfl
theorem zi_92_16 : (zM 92).1[16]? = some (.isub) := by rfl
theorem zi_92_17 : (zM 92).1[17]? = some (.ireturn) := by rfl
theorem zi_92_18 : (zM 92).1[18]? = some (.aload 0) := by rfl
theorem zi_92_19 : (zM 92).1[19]? = some (.getfield 10200) := by rfl
theorem zi_92_20 : (zM 92).1[20]? = some (.aload 0) := by rfl
theorem zi_92_21 : (zM 92).1[21]? = some (.getfield 10202) := by rfl
theorem zi_92_22 : (zM 92).1[22]? = some (.getfield 4201) := by rfl
theorem zi_92_23 : (zM 92).1[23]? = some (.invokevirtual 31) := by rfl
theorem zi_92_24 : (zM 92).1[24]? = some (.aload 0) := by rfl
theorem zi_92_25 : (zM 92).1[25]? = some (.getfield 10200) := by rfl
theorem zi_92_26 : (zM 92).1[26]? = some (.invokevirtual 33) := by rfl
theorem zi_92_27 : (zM 92).1[27]? = some (.aload 0) := by rfl
theorem zi_92_28 : (zM 92).1[28]? = some (.getfield 10203) := by rfl
theorem zi_92_29 : (zM 92).1[29]? = some (.iconst 0) := by rfl
theorem zi_92_30 : (zM 92).1[30]? = some (.putfield 5002) := by rfl
theorem zi_92_31 : (zM 92).1[31]? = some (.aload 0) := by rfl
theorem zi_92_32 : (zM 92).1[32]? = some (.getfield 10206) := by rfl
theorem zi_92_33 : (zM 92).1[33]? = some (.invokevirtual 14) := by rfl
theorem zi_92_34 : (zM 92).1[34]? = some (.iload 1) := by rfl
theorem zi_92_35 : (zM 92).1[35]? = some (.ireturn) := by rfl
/-- TakeOrPay.page()I -/
def w_92 (E : Nat → Nat) (d : Nat) (a0 : Nat) (h : ZH) (Q : Option Value → ZH → Prop) : Prop := ztag h a0 = 10 ∧ ∃ r2 : Nat, zR h a0 2 = r2 + 1 ∧ ztag h r2 = 4 ∧ Ct E d 53 [.ref r2] h (fun v h4 => ∃ x5 : Int32, v = some (.int x5) ∧ ztag h4 a0 = 10 ∧ ∃ r7 : Nat, zR h4 a0 1 = r7 + 1 ∧ ztag h4 r7 = 8 ∧ ∀ h9 : ZH, h9 = (zuI h4 r7 1 0) → ∃ r10 : Nat, zR h9 a0 2 = r10 + 1 ∧ ztag h9 r10 = 4 ∧ (((zI h9 r10 3 : Int32) = 0 → (∃ r12 : Nat, zR h9 a0 0 = r12 + 1 ∧ ∃ r13 : Nat, zR h9 r10 1 = r13 + 1 ∧ ztag h9 r12 = 3 ∧ Ct E d 31 [.ref r12, .ref r13] h9 (fun v h15 => v = none ∧ ztag h15 a0 = 10 ∧ ∃ r17 : Nat, zR h15 a0 0 = r17 + 1 ∧ ztag h15 r17 = 3 ∧ Ct E d 33 [.ref r17] h15 (fun v h19 => v = none ∧ ztag h19 a0 = 10 ∧ ∃ r21 : Nat, zR h19 a0 3 = r21 + 1 ∧ ztag h19 r21 = 5 ∧ ∀ h23 : ZH, h23 = (zuI h19 r21 2 0) → ∃ r24 : Nat, zR h23 a0 6 = r24 + 1 ∧ ztag h23 r24 = 1 ∧ Ct E d 14 [.ref r24] h23 (fun v h26 => v = none ∧ Q (some (.int x5)) h26))))) ∧ (¬ ((zI h9 r10 3 : Int32) = 0) → (Q (some (.int (((-10)) - (zI h9 r10 4)))) h9))))
set_option maxRecDepth 20000 in
theorem ok_92 {E : Nat → Nat} {d : Nat} {a0 : Nat} {h : ZH} {Q : Option Value → ZH → Prop} (hw : w_92 E d a0 h Q) : Ct E (d + 1) 92 [.ref a0] h Q := by
  unfold w_92 at hw
  show Gx E (d + 1) 92 0 [.ref a0, .retAddr 0] [] h Q
  refine zg_aload zi_92_0 rfl ?_
  obtain ⟨t1, hw⟩ := hw
  obtain ⟨r2, er2, hw⟩ := hw
  refine zg_getR (v := .ref r2) zi_92_1 t1 (by rfl) (by show zrv (zR h a0 2) = _; rw [er2]; rfl) ?_
  obtain ⟨t3, hw⟩ := hw
  refine Gx.call2 (as := [.ref r2]) (rest := []) zq_53 zi_92_2 rfl rfl rfl (Nat.le_of_ble_eq_true rfl) (Nat.le_of_ble_eq_true rfl) (zrv_v t3 rfl rfl) (Nat.le_of_ble_eq_true rfl) ?_
  refine Ct.mono hw ?_
  rintro v h4 ⟨x5, rfl, hw⟩
  show Gx E (d + 1) 92 3 [.ref a0, .retAddr 0] [.int x5] h4 Q
  refine zg_istore (ls1 := [.ref a0, .int x5]) zi_92_3 (Nat.le_of_ble_eq_true rfl) rfl ?_
  refine zg_aload zi_92_4 rfl ?_
  obtain ⟨t6, hw⟩ := hw
  obtain ⟨r7, er7, hw⟩ := hw
  refine zg_getR (v := .ref r7) zi_92_5 t6 (by rfl) (by show zrv (zR h4 a0 1) = _; rw [er7]; rfl) ?_
  refine zg_const (v := 0) zi_92_6 (by rfl) ?_
  obtain ⟨t8, hw⟩ := hw
  refine zg_putI (h1 := zuI h4 r7 1 0) zi_92_7 t8 (by rfl) rfl ?_
  refine zg_nameH fun h9 eh9 => ?_
  have hw := hw h9 eh9
  refine zg_aload zi_92_8 rfl ?_
  obtain ⟨r10, er10, hw⟩ := hw
  refine zg_getR (v := .ref r10) zi_92_9 (by rw [eh9]; exact t6) (by rfl) (by show zrv (zR h9 a0 2) = _; rw [er10]; rfl) ?_
  obtain ⟨t11, hw⟩ := hw
  refine zg_getI (v := .int (zI h9 r10 3)) zi_92_10 t11 (by rfl) rfl ?_
  refine zg_if_eq zi_92_11 (fun hc => ?_) (fun hc => ?_)
  · have hw := hw.1 hc
    refine zg_aload zi_92_18 rfl ?_
    obtain ⟨r12, er12, hw⟩ := hw
    refine zg_getR (v := .ref r12) zi_92_19 (by rw [eh9]; exact t6) (by rfl) (by show zrv (zR h9 a0 0) = _; rw [er12]; rfl) ?_
    refine zg_aload zi_92_20 rfl ?_
    refine zg_getR (v := .ref r10) zi_92_21 (by rw [eh9]; exact t6) (by rfl) (by show zrv (zR h9 a0 2) = _; rw [er10]; rfl) ?_
    obtain ⟨r13, er13, hw⟩ := hw
    refine zg_getR (v := .ref r13) zi_92_22 t11 (by rfl) (by show zrv (zR h9 r10 1) = _; rw [er13]; rfl) ?_
    obtain ⟨t14, hw⟩ := hw
    refine Gx.call2 (as := [.ref r12, .ref r13]) (rest := []) zq_31 zi_92_23 rfl rfl rfl (Nat.le_of_ble_eq_true rfl) (Nat.le_of_ble_eq_true rfl) (zrv_v t14 rfl rfl) (Nat.le_of_ble_eq_true rfl) ?_
    refine Ct.mono hw ?_
    rintro v h15 ⟨rfl, hw⟩
    show Gx E (d + 1) 92 24 [.ref a0, .int x5] [] h15 Q
    refine zg_aload zi_92_24 rfl ?_
    obtain ⟨t16, hw⟩ := hw
    obtain ⟨r17, er17, hw⟩ := hw
    refine zg_getR (v := .ref r17) zi_92_25 t16 (by rfl) (by show zrv (zR h15 a0 0) = _; rw [er17]; rfl) ?_
    obtain ⟨t18, hw⟩ := hw
    refine Gx.call2 (as := [.ref r17]) (rest := []) zq_33 zi_92_26 rfl rfl rfl (Nat.le_of_ble_eq_true rfl) (Nat.le_of_ble_eq_true rfl) (zrv_v t18 rfl rfl) (Nat.le_of_ble_eq_true rfl) ?_
    refine Ct.mono hw ?_
    rintro v h19 ⟨rfl, hw⟩
    show Gx E (d + 1) 92 27 [.ref a0, .int x5] [] h19 Q
    refine zg_aload zi_92_27 rfl ?_
    obtain ⟨t20, hw⟩ := hw
    obtain ⟨r21, er21, hw⟩ := hw
    refine zg_getR (v := .ref r21) zi_92_28 t20 (by rfl) (by show zrv (zR h19 a0 3) = _; rw [er21]; rfl) ?_
    refine zg_const (v := 0) zi_92_29 (by rfl) ?_
    obtain ⟨t22, hw⟩ := hw
    refine zg_putI (h1 := zuI h19 r21 2 0) zi_92_30 t22 (by rfl) rfl ?_
    refine zg_nameH fun h23 eh23 => ?_
    have hw := hw h23 eh23
    refine zg_aload zi_92_31 rfl ?_
    obtain ⟨r24, er24, hw⟩ := hw
    refine zg_getR (v := .ref r24) zi_92_32 (by rw [eh23]; exact t20) (by rfl) (by show zrv (zR h23 a0 6) = _; rw [er24]; rfl) ?_
    obtain ⟨t25, hw⟩ := hw
    refine Gx.call2 (as := [.ref r24]) (rest := []) zq_14 zi_92_33 rfl rfl rfl (Nat.le_of_ble_eq_true rfl) (Nat.le_of_ble_eq_true rfl) (zrv_v t25 rfl rfl) (Nat.le_of_ble_eq_true rfl) ?_
    refine Ct.mono hw ?_
    rintro v h26 ⟨rfl, hw⟩
    show Gx E (d + 1) 92 34 [.ref a0, .int x5] [] h26 Q
    refine zg_iload zi_92_34 rfl ?_
    exact zg_ireturn zi_92_35 (by decide) hw
  · have hw := hw.2 hc
    refine zg_const (v := (-10)) zi_92_12 (by rfl) ?_
    refine zg_aload zi_92_13 rfl ?_
    refine zg_getR (v := .ref r10) zi_92_14 (by rw [eh9]; exact t6) (by rfl) (by show zrv (zR h9 a0 2) = _; rw [er10]; rfl) ?_
    refine zg_getI (v := .int (zI h9 r10 4)) zi_92_15 t11 (by rfl) rfl ?_
    refine zg_isub zi_92_16 ?_
    exact zg_ireturn zi_92_17 (by decide) hw
theorem zq_93 : zQ 93 1 1 10 := by unfold zQ; decide +kernel
theorem zi_93_0 : (zM 93).1[0]? = some (.aload 0) := by rfl
theorem zi_93_1 : (zM 93).1[1]? = some (.getfield 10202) := by rfl
theorem zi_93_2 : (zM 93).1[2]? = some (.getfield 4003) := by rfl
theorem zi_93_3 : (zM 93).1[3]? = some (.ireturn) := by rfl
/-- TakeOrPay.fault()I -/
def w_93 (E : Nat → Nat) (d : Nat) (a0 : Nat) (h : ZH) (Q : Option Value → ZH → Prop) : Prop := ztag h a0 = 10 ∧ ∃ r2 : Nat, zR h a0 2 = r2 + 1 ∧ ztag h r2 = 4 ∧ Q (some (.int (zI h r2 3))) h
set_option maxRecDepth 20000 in
theorem ok_93 {E : Nat → Nat} {d : Nat} {a0 : Nat} {h : ZH} {Q : Option Value → ZH → Prop} (hw : w_93 E d a0 h Q) : Ct E (d + 1) 93 [.ref a0] h Q := by
  unfold w_93 at hw
  show Gx E (d + 1) 93 0 [.ref a0] [] h Q
  refine zg_aload zi_93_0 rfl ?_
  obtain ⟨t1, hw⟩ := hw
  obtain ⟨r2, er2, hw⟩ := hw
  refine zg_getR (v := .ref r2) zi_93_1 t1 (by rfl) (by show zrv (zR h a0 2) = _; rw [er2]; rfl) ?_
  obtain ⟨t3, hw⟩ := hw
  refine zg_getI (v := .int (zI h r2 3)) zi_93_2 t3 (by rfl) rfl ?_
  exact zg_ireturn zi_93_3 (by decide) hw
def fz_93 (E : Nat → Nat) (h : ZH) (a0 : Nat) : Int32 := (fun r2 : Nat => zI h r2 3) (zR h a0 2 - 1)
def sz_93 (E : Nat → Nat) (h : ZH) (a0 : Nat) : Prop := ztag h a0 = 10 ∧ ∃ r2 : Nat, zR h a0 2 = r2 + 1 ∧ ztag h r2 = 4 ∧ True
set_option maxRecDepth 20000 in
theorem cz_93 {E : Nat → Nat} {d : Nat} {a0 : Nat} {h : ZH} {Q : Option Value → ZH → Prop} (hd : 1 ≤ d) (hs : sz_93 E h a0) (hq : Q (some (.int (fz_93 E h a0))) h) : Ct E d 93 [.ref a0] h Q := by
  obtain ⟨d, rfl⟩ : ∃ n, d = n + 1 := ⟨d - 1, by omega⟩
  refine ok_93 ?_
  unfold w_93
  unfold sz_93 at hs
  unfold fz_93 at hq
  refine ⟨hs.1, ?_⟩
  have hs := hs.2
  obtain ⟨r2, hr, hs⟩ := hs
  refine ⟨r2, hr, ?_⟩
  rw [hr] at hq
  simp only [Nat.add_sub_cancel] at hq
  refine ⟨hs.1, ?_⟩
  have hs := hs.2
  exact hq
theorem zq_94 : zQ 94 2 5 10 := by unfold zQ; decide +kernel
theorem zi_94_0 : (zM 94).1[0]? = some (.iload 1) := by rfl
theorem zi_94_1 : (zM 94).1[1]? = some (.ifCond .lt ((7 : Nat) : Int)) := by rfl
theorem zi_94_2 : (zM 94).1[2]? = some (.iload 1) := by rfl
theorem zi_94_3 : (zM 94).1[3]? = some (.iconst 15) := by rfl
theorem zi_94_4 : (zM 94).1[4]? = some (.if_icmp .gt ((7 : Nat) : Int)) := by rfl
theorem zi_94_5 : (zM 94).1[5]? = some (.iconst 1) := by rfl
theorem zi_94_6 : (zM 94).1[6]? = some (.goto ((8 : Nat) : Int)) := by rfl
theorem zi_94_7 : (zM 94).1[7]? = some (.iconst 0) := by rfl
theorem zi_94_8 : (zM 94).1[8]? = some (.istore 2) := by rfl
theorem zi_94_9 : (zM 94).1[9]? = some (.iload 1) := by rfl
theorem zi_94_10 : (zM 94).1[10]? = some (.iconst 20) := by rfl
theorem zi_94_11 : (zM 94).1[11]? = some (.if_icmp .lt ((17 : Nat) : Int)) := by rfl
theorem zi_94_12 : (zM 94).1[12]? = some (.iload 1) := by rfl
theorem zi_94_13 : (zM 94).1[13]? = some (.iconst 23) := by rfl
theorem zi_94_14 : (zM 94).1[14]? = some (.if_icmp .ge ((17 : Nat) : Int)) := by rfl
theorem zi_94_15 : (zM 94).1[15]? = some (.iconst 1) := by rfl
theorem zi_94_16 : (zM 94).1[16]? = some (.goto ((18 : Nat) : Int)) := by rfl
theorem zi_94_17 : (zM 94).1[17]? = some (.iconst 0) := by rfl
theorem zi_94_18 : (zM 94).1[18]? = some (.istore 3) := by rfl
theorem zi_94_19 : (zM 94).1[19]? = some (.iload 1) := by rfl
theorem zi_94_20 : (zM 94).1[20]? = some (.iconst 30) := by rfl
theorem zi_94_21 : (zM 94).1[21]? = some (.if_icmp .lt ((27 : Nat) : Int)) := by rfl
theorem zi_94_22 : (zM 94).1[22]? = some (.iload 1) := by rfl
theorem zi_94_23 : (zM 94).1[23]? = some (.iconst 39) := by rfl
theorem zi_94_24 : (zM 94).1[24]? = some (.if_icmp .ge ((27 : Nat) : Int)) := by rfl
theorem zi_94_25 : (zM 94).1[25]? = some (.iconst 1) := by rfl
theorem zi_94_26 : (zM 94).1[26]? = some (.goto ((28 : Nat) : Int)) := by rfl
theorem zi_94_27 : (zM 94).1[27]? = some (.iconst 0) := by rfl
theorem zi_94_28 : (zM 94).1[28]? = some (.istore 4) := by rfl
theorem zi_94_29 : (zM 94).1[29]? = some (.iload 2) := by rfl
theorem zi_94_30 : (zM 94).1[30]? = some (.ifCond .ne ((35 : Nat) : Int)) := by rfl
theorem zi_94_31 : (zM 94).1[31]? = some (.iload 3) := by rfl
theorem zi_94_32 : (zM 94).1[32]? = some (.ifCond .ne ((35 : Nat) : Int)) := by rfl
theorem zi_94_33 : (zM 94).1[33]? = some (.iload 4) := by rfl
theorem zi_94_34 : (zM 94).1[34]? = some (.ifCond .eq ((41 : Nat) : Int)) := by rfl
theorem zi_94_35 : (zM 94).1[35]? = some (.aload 0) := by rfl
theorem zi_94_36 : (zM 94).1[36]? = some (.getfield 10200) := by rfl
theorem zi_94_37 : (zM 94).1[37]? = some (.getfield 3200) := by rfl
theorem zi_94_38 : (zM 94).1[38]? = some (.iload 1) := by rfl
theorem zi_94_39 : (zM 94).1[39]? = some (.iaload) := by rfl
theorem zi_94_40 : (zM 94).1[40]? = some (.goto ((42 : Nat) : Int)) := by rfl
theorem zi_94_41 : (zM 94).1[41]? = some (.iconst (-1)) := by rfl
theorem zi_94_42 : (zM 94).1[42]? = some (.ireturn) := by rfl
/-- TakeOrPay.told(I)I -/
def w_94 (E : Nat → Nat) (d : Nat) (a0 : Nat) (a1 : Int32) (h : ZH) (Q : Option Value → ZH → Prop) : Prop := ∀ x1 : Int32, x1 = (if a1 < 0 then 0 else if 15 < a1 then 0 else 1) → ∀ x2 : Int32, x2 = (if a1 < 20 then 0 else if 23 ≤ a1 then 0 else 1) → ∀ x3 : Int32, x3 = (if a1 < 30 then 0 else if 39 ≤ a1 then 0 else 1) → (((¬ x1 = 0 → (ztag h a0 = 10 ∧ ¬ zR h a0 0 = 0 ∧ ztag h (zR h a0 0 - 1) = 3 ∧ ¬ zR h (zR h a0 0 - 1) 0 = 0 ∧ (ztag h (zR h (zR h a0 0 - 1) 0 - 1) = 13 ∨ ztag h (zR h (zR h a0 0 - 1) 0 - 1) = 19) ∧ zin a1 (zlen h (zR h (zR h a0 0 - 1) 0 - 1)) = true ∧ True)) ∧ (¬ (¬ x1 = 0) → (((¬ x2 = 0 → (ztag h a0 = 10 ∧ ¬ zR h a0 0 = 0 ∧ ztag h (zR h a0 0 - 1) = 3 ∧ ¬ zR h (zR h a0 0 - 1) 0 = 0 ∧ (ztag h (zR h (zR h a0 0 - 1) 0 - 1) = 13 ∨ ztag h (zR h (zR h a0 0 - 1) 0 - 1) = 19) ∧ zin a1 (zlen h (zR h (zR h a0 0 - 1) 0 - 1)) = true ∧ True)) ∧ (¬ (¬ x2 = 0) → (((x3 = 0 → (True)) ∧ (¬ (x3 = 0) → (ztag h a0 = 10 ∧ ¬ zR h a0 0 = 0 ∧ ztag h (zR h a0 0 - 1) = 3 ∧ ¬ zR h (zR h a0 0 - 1) 0 = 0 ∧ (ztag h (zR h (zR h a0 0 - 1) 0 - 1) = 13 ∨ ztag h (zR h (zR h a0 0 - 1) 0 - 1) = 19) ∧ zin a1 (zlen h (zR h (zR h a0 0 - 1) 0 - 1)) = true ∧ True))) ∧ True))) ∧ True))) ∧ Q (some (.int (if ¬ x1 = 0 then zI h (zR h (zR h a0 0 - 1) 0 - 1) a1.toNatClampNeg else if ¬ x2 = 0 then zI h (zR h (zR h a0 0 - 1) 0 - 1) a1.toNatClampNeg else if x3 = 0 then (-1) else zI h (zR h (zR h a0 0 - 1) 0 - 1) a1.toNatClampNeg))) h)
set_option maxRecDepth 20000 in
theorem ok_94 {E : Nat → Nat} {d : Nat} {a0 : Nat} {a1 : Int32} {h : ZH} {Q : Option Value → ZH → Prop} (hw : w_94 E d a0 a1 h Q) : Ct E (d + 1) 94 [.ref a0, .int a1] h Q := by
  unfold w_94 at hw
  show Gx E (d + 1) 94 0 [.ref a0, .int a1, .retAddr 0, .retAddr 0, .retAddr 0] [] h Q
  refine zg_iload zi_94_0 rfl ?_
  have g1 : Gx E (d + 1) 94 8 [.ref a0, .int a1, .retAddr 0, .retAddr 0, .retAddr 0] [.int (if a1 < 0 then 0 else if 15 < a1 then 0 else 1)] h Q := by
    refine zg_nameI fun x1 ex1 => ?_
    have hw := hw x1 ex1
    refine zg_istore (ls1 := [.ref a0, .int a1, .int x1, .retAddr 0, .retAddr 0]) zi_94_8 (Nat.le_of_ble_eq_true rfl) rfl ?_
    refine zg_iload zi_94_9 rfl ?_
    refine zg_const (v := 20) zi_94_10 (by rfl) ?_
    have g11 : Gx E (d + 1) 94 18 [.ref a0, .int a1, .int x1, .retAddr 0, .retAddr 0] [.int (if a1 < 20 then 0 else if 23 ≤ a1 then 0 else 1)] h Q := by
      refine zg_nameI fun x2 ex2 => ?_
      have hw := hw x2 ex2
      refine zg_istore (ls1 := [.ref a0, .int a1, .int x1, .int x2, .retAddr 0]) zi_94_18 (Nat.le_of_ble_eq_true rfl) rfl ?_
      refine zg_iload zi_94_19 rfl ?_
      refine zg_const (v := 30) zi_94_20 (by rfl) ?_
      have g21 : Gx E (d + 1) 94 28 [.ref a0, .int a1, .int x1, .int x2, .retAddr 0] [.int (if a1 < 30 then 0 else if 39 ≤ a1 then 0 else 1)] h Q := by
        refine zg_nameI fun x3 ex3 => ?_
        have hw := hw x3 ex3
        refine zg_istore (ls1 := [.ref a0, .int a1, .int x1, .int x2, .int x3]) zi_94_28 (Nat.le_of_ble_eq_true rfl) rfl ?_
        refine zg_iload zi_94_29 rfl ?_
        obtain ⟨hsd30, hw⟩ := hw
        have g30 : Gx E (d + 1) 94 42 [.ref a0, .int a1, .int x1, .int x2, .int x3] [.int (if ¬ x1 = 0 then zI h (zR h (zR h a0 0 - 1) 0 - 1) a1.toNatClampNeg else if ¬ x2 = 0 then zI h (zR h (zR h a0 0 - 1) 0 - 1) a1.toNatClampNeg else if x3 = 0 then (-1) else zI h (zR h (zR h a0 0 - 1) 0 - 1) a1.toNatClampNeg)] h Q := by
          exact zg_ireturn zi_94_42 (by decide) hw
        refine zg_if_ne zi_94_30 (fun hc30 => ?_) (fun hc30 => ?_)
        · have hw := hsd30.1 hc30
          refine zg_aload zi_94_35 rfl ?_
          obtain ⟨t4, hw⟩ := hw
          obtain ⟨hr, hw⟩ := hw
          refine zg_getR (v := .ref (zR h a0 0 - 1)) zi_94_36 t4 (by rfl) (zrv_p hr) ?_
          obtain ⟨t5, hw⟩ := hw
          obtain ⟨hr, hw⟩ := hw
          refine zg_getR (v := .ref (zR h (zR h a0 0 - 1) 0 - 1)) zi_94_37 t5 (by rfl) (zrv_p hr) ?_
          refine zg_iload zi_94_38 rfl ?_
          obtain ⟨t6, hw⟩ := hw
          obtain ⟨hb, hw⟩ := hw
          refine zg_iaload (v := .int (zI h (zR h (zR h a0 0 - 1) 0 - 1) a1.toNatClampNeg)) zi_94_39 t6 hb rfl ?_
          refine zg_goto zi_94_40 ?_
          have hg := g30
          simp only [if_pos hc30] at hg
          exact hg
        · have hw := hsd30.2 hc30
          refine zg_iload zi_94_31 rfl ?_
          obtain ⟨hsd32, hw⟩ := hw
          have g32 : Gx E (d + 1) 94 42 [.ref a0, .int a1, .int x1, .int x2, .int x3] [.int (if ¬ x2 = 0 then zI h (zR h (zR h a0 0 - 1) 0 - 1) a1.toNatClampNeg else if x3 = 0 then (-1) else zI h (zR h (zR h a0 0 - 1) 0 - 1) a1.toNatClampNeg)] h Q := by
            have hg := g30
            simp only [if_neg hc30] at hg
            exact hg
          refine zg_if_ne zi_94_32 (fun hc32 => ?_) (fun hc32 => ?_)
          · have hw := hsd32.1 hc32
            refine zg_aload zi_94_35 rfl ?_
            obtain ⟨t7, hw⟩ := hw
            obtain ⟨hr, hw⟩ := hw
            refine zg_getR (v := .ref (zR h a0 0 - 1)) zi_94_36 t7 (by rfl) (zrv_p hr) ?_
            obtain ⟨t8, hw⟩ := hw
            obtain ⟨hr, hw⟩ := hw
            refine zg_getR (v := .ref (zR h (zR h a0 0 - 1) 0 - 1)) zi_94_37 t8 (by rfl) (zrv_p hr) ?_
            refine zg_iload zi_94_38 rfl ?_
            obtain ⟨t9, hw⟩ := hw
            obtain ⟨hb, hw⟩ := hw
            refine zg_iaload (v := .int (zI h (zR h (zR h a0 0 - 1) 0 - 1) a1.toNatClampNeg)) zi_94_39 t9 hb rfl ?_
            refine zg_goto zi_94_40 ?_
            have hg := g32
            simp only [if_pos hc32] at hg
            exact hg
          · have hw := hsd32.2 hc32
            refine zg_iload zi_94_33 rfl ?_
            obtain ⟨hsd34, hw⟩ := hw
            have g34 : Gx E (d + 1) 94 42 [.ref a0, .int a1, .int x1, .int x2, .int x3] [.int (if x3 = 0 then (-1) else zI h (zR h (zR h a0 0 - 1) 0 - 1) a1.toNatClampNeg)] h Q := by
              have hg := g32
              simp only [if_neg hc32] at hg
              exact hg
            refine zg_if_eq zi_94_34 (fun hc34 => ?_) (fun hc34 => ?_)
            · have hw := hsd34.1 hc34
              refine zg_const (v := (-1)) zi_94_41 (by rfl) ?_
              have hg := g34
              simp only [if_pos hc34] at hg
              exact hg
            · have hw := hsd34.2 hc34
              refine zg_aload zi_94_35 rfl ?_
              obtain ⟨t10, hw⟩ := hw
              obtain ⟨hr, hw⟩ := hw
              refine zg_getR (v := .ref (zR h a0 0 - 1)) zi_94_36 t10 (by rfl) (zrv_p hr) ?_
              obtain ⟨t11, hw⟩ := hw
              obtain ⟨hr, hw⟩ := hw
              refine zg_getR (v := .ref (zR h (zR h a0 0 - 1) 0 - 1)) zi_94_37 t11 (by rfl) (zrv_p hr) ?_
              refine zg_iload zi_94_38 rfl ?_
              obtain ⟨t12, hw⟩ := hw
              obtain ⟨hb, hw⟩ := hw
              refine zg_iaload (v := .int (zI h (zR h (zR h a0 0 - 1) 0 - 1) a1.toNatClampNeg)) zi_94_39 t12 hb rfl ?_
              refine zg_goto zi_94_40 ?_
              have hg := g34
              simp only [if_neg hc34] at hg
              exact hg
      refine zg_icmp_lt zi_94_21 (fun hc21 => ?_) (fun hc21 => ?_)
      · skip
        refine zg_const (v := 0) zi_94_27 (by rfl) ?_
        have hg := g21
        simp only [if_pos hc21] at hg
        exact hg
      · skip
        refine zg_iload zi_94_22 rfl ?_
        refine zg_const (v := 39) zi_94_23 (by rfl) ?_
        have g24 : Gx E (d + 1) 94 28 [.ref a0, .int a1, .int x1, .int x2, .retAddr 0] [.int (if 39 ≤ a1 then 0 else 1)] h Q := by
          have hg := g21
          simp only [if_neg hc21] at hg
          exact hg
        refine zg_icmp_ge zi_94_24 (fun hc24 => ?_) (fun hc24 => ?_)
        · skip
          refine zg_const (v := 0) zi_94_27 (by rfl) ?_
          have hg := g24
          simp only [if_pos hc24] at hg
          exact hg
        · skip
          refine zg_const (v := 1) zi_94_25 (by rfl) ?_
          refine zg_goto zi_94_26 ?_
          have hg := g24
          simp only [if_neg hc24] at hg
          exact hg
    refine zg_icmp_lt zi_94_11 (fun hc11 => ?_) (fun hc11 => ?_)
    · skip
      refine zg_const (v := 0) zi_94_17 (by rfl) ?_
      have hg := g11
      simp only [if_pos hc11] at hg
      exact hg
    · skip
      refine zg_iload zi_94_12 rfl ?_
      refine zg_const (v := 23) zi_94_13 (by rfl) ?_
      have g14 : Gx E (d + 1) 94 18 [.ref a0, .int a1, .int x1, .retAddr 0, .retAddr 0] [.int (if 23 ≤ a1 then 0 else 1)] h Q := by
        have hg := g11
        simp only [if_neg hc11] at hg
        exact hg
      refine zg_icmp_ge zi_94_14 (fun hc14 => ?_) (fun hc14 => ?_)
      · skip
        refine zg_const (v := 0) zi_94_17 (by rfl) ?_
        have hg := g14
        simp only [if_pos hc14] at hg
        exact hg
      · skip
        refine zg_const (v := 1) zi_94_15 (by rfl) ?_
        refine zg_goto zi_94_16 ?_
        have hg := g14
        simp only [if_neg hc14] at hg
        exact hg
  refine zg_if_lt zi_94_1 (fun hc1 => ?_) (fun hc1 => ?_)
  · skip
    refine zg_const (v := 0) zi_94_7 (by rfl) ?_
    have hg := g1
    simp only [if_pos hc1] at hg
    exact hg
  · skip
    refine zg_iload zi_94_2 rfl ?_
    refine zg_const (v := 15) zi_94_3 (by rfl) ?_
    have g4 : Gx E (d + 1) 94 8 [.ref a0, .int a1, .retAddr 0, .retAddr 0, .retAddr 0] [.int (if 15 < a1 then 0 else 1)] h Q := by
      have hg := g1
      simp only [if_neg hc1] at hg
      exact hg
    refine zg_icmp_gt zi_94_4 (fun hc4 => ?_) (fun hc4 => ?_)
    · skip
      refine zg_const (v := 0) zi_94_7 (by rfl) ?_
      have hg := g4
      simp only [if_pos hc4] at hg
      exact hg
    · skip
      refine zg_const (v := 1) zi_94_5 (by rfl) ?_
      refine zg_goto zi_94_6 ?_
      have hg := g4
      simp only [if_neg hc4] at hg
      exact hg
def fz_94 (E : Nat → Nat) (h : ZH) (a0 : Nat) (a1 : Int32) : Int32 := let x1 : Int32 := (if a1 < 0 then 0 else if 15 < a1 then 0 else 1); let x2 : Int32 := (if a1 < 20 then 0 else if 23 ≤ a1 then 0 else 1); let x3 : Int32 := (if a1 < 30 then 0 else if 39 ≤ a1 then 0 else 1); if ¬ x1 = 0 then zI h (zR h (zR h a0 0 - 1) 0 - 1) a1.toNatClampNeg else if ¬ x2 = 0 then zI h (zR h (zR h a0 0 - 1) 0 - 1) a1.toNatClampNeg else if x3 = 0 then (-1) else zI h (zR h (zR h a0 0 - 1) 0 - 1) a1.toNatClampNeg
def sz_94 (E : Nat → Nat) (h : ZH) (a0 : Nat) (a1 : Int32) : Prop := ∀ x1 : Int32, x1 = (if a1 < 0 then 0 else if 15 < a1 then 0 else 1) → ∀ x2 : Int32, x2 = (if a1 < 20 then 0 else if 23 ≤ a1 then 0 else 1) → ∀ x3 : Int32, x3 = (if a1 < 30 then 0 else if 39 ≤ a1 then 0 else 1) → (((¬ x1 = 0 → (ztag h a0 = 10 ∧ ¬ zR h a0 0 = 0 ∧ ztag h (zR h a0 0 - 1) = 3 ∧ ¬ zR h (zR h a0 0 - 1) 0 = 0 ∧ (ztag h (zR h (zR h a0 0 - 1) 0 - 1) = 13 ∨ ztag h (zR h (zR h a0 0 - 1) 0 - 1) = 19) ∧ zin a1 (zlen h (zR h (zR h a0 0 - 1) 0 - 1)) = true ∧ True)) ∧ (¬ (¬ x1 = 0) → (((¬ x2 = 0 → (ztag h a0 = 10 ∧ ¬ zR h a0 0 = 0 ∧ ztag h (zR h a0 0 - 1) = 3 ∧ ¬ zR h (zR h a0 0 - 1) 0 = 0 ∧ (ztag h (zR h (zR h a0 0 - 1) 0 - 1) = 13 ∨ ztag h (zR h (zR h a0 0 - 1) 0 - 1) = 19) ∧ zin a1 (zlen h (zR h (zR h a0 0 - 1) 0 - 1)) = true ∧ True)) ∧ (¬ (¬ x2 = 0) → (((x3 = 0 → (True)) ∧ (¬ (x3 = 0) → (ztag h a0 = 10 ∧ ¬ zR h a0 0 = 0 ∧ ztag h (zR h a0 0 - 1) = 3 ∧ ¬ zR h (zR h a0 0 - 1) 0 = 0 ∧ (ztag h (zR h (zR h a0 0 - 1) 0 - 1) = 13 ∨ ztag h (zR h (zR h a0 0 - 1) 0 - 1) = 19) ∧ zin a1 (zlen h (zR h (zR h a0 0 - 1) 0 - 1)) = true ∧ True))) ∧ True))) ∧ True))) ∧ True)
set_option maxRecDepth 20000 in
theorem cz_94 {E : Nat → Nat} {d : Nat} {a0 : Nat} {a1 : Int32} {h : ZH} {Q : Option Value → ZH → Prop} (hd : 1 ≤ d) (hs : sz_94 E h a0 a1) (hq : Q (some (.int (fz_94 E h a0 a1))) h) : Ct E d 94 [.ref a0, .int a1] h Q := by
  obtain ⟨d, rfl⟩ : ∃ n, d = n + 1 := ⟨d - 1, by omega⟩
  refine ok_94 ?_
  unfold w_94
  unfold sz_94 at hs
  unfold fz_94 at hq
  intro x1 ex1
  have hs := hs x1 ex1
  subst ex1
  intro x2 ex2
  have hs := hs x2 ex2
  subst ex2
  intro x3 ex3
  have hs := hs x3 ex3
  subst ex3
  refine ⟨⟨fun hc => ?_, fun hc => ?_⟩, ?_⟩
  · have hs := hs.1.1 hc
    refine ⟨hs.1, ?_⟩
    have hs := hs.2
    refine ⟨hs.1, ?_⟩
    have hs := hs.2
    refine ⟨hs.1, ?_⟩
    have hs := hs.2
    refine ⟨hs.1, ?_⟩
    have hs := hs.2
    refine ⟨hs.1, ?_⟩
    have hs := hs.2
    refine ⟨hs.1, ?_⟩
    have hs := hs.2
    trivial
  · have hs := hs.1.2 hc
    refine ⟨⟨fun hc => ?_, fun hc => ?_⟩, ?_⟩
    · have hs := hs.1.1 hc
      refine ⟨hs.1, ?_⟩
      have hs := hs.2
      refine ⟨hs.1, ?_⟩
      have hs := hs.2
      refine ⟨hs.1, ?_⟩
      have hs := hs.2
      refine ⟨hs.1, ?_⟩
      have hs := hs.2
      refine ⟨hs.1, ?_⟩
      have hs := hs.2
      refine ⟨hs.1, ?_⟩
      have hs := hs.2
      trivial
    · have hs := hs.1.2 hc
      refine ⟨⟨fun hc => ?_, fun hc => ?_⟩, ?_⟩
      · have hs := hs.1.1 hc
        trivial
      · have hs := hs.1.2 hc
        refine ⟨hs.1, ?_⟩
        have hs := hs.2
        refine ⟨hs.1, ?_⟩
        have hs := hs.2
        refine ⟨hs.1, ?_⟩
        have hs := hs.2
        refine ⟨hs.1, ?_⟩
        have hs := hs.2
        refine ⟨hs.1, ?_⟩
        have hs := hs.2
        refine ⟨hs.1, ?_⟩
        have hs := hs.2
        trivial
      have hs := hs.2
      trivial
    have hs := hs.2
    trivial
  have hs := hs.2
  exact hq
theorem zq_120 : zQ 120 1 1 10 := by unfold zQ; decide +kernel
theorem zi_120_0 : (zM 120).1[0]? = some (.iload 0) := by rfl
theorem zi_120_1 : (zM 120).1[1]? = some (.ifCond .lt ((7 : Nat) : Int)) := by rfl
theorem zi_120_2 : (zM 120).1[2]? = some (.iload 0) := by rfl
theorem zi_120_3 : (zM 120).1[3]? = some (.iconst 3) := by rfl
theorem zi_120_4 : (zM 120).1[4]? = some (.if_icmp .ge ((7 : Nat) : Int)) := by rfl
theorem zi_120_5 : (zM 120).1[5]? = some (.iconst 1) := by rfl
theorem zi_120_6 : (zM 120).1[6]? = some (.goto ((8 : Nat) : Int)) := by rfl
theorem zi_120_7 : (zM 120).1[7]? = some (.iconst 0) := by rfl
theorem zi_120_8 : (zM 120).1[8]? = some (.ireturn) := by rfl
/-- TakeOrPay.isState(I)Z -/
def w_120 (E : Nat → Nat) (d : Nat) (a0 : Int32) (h : ZH) (Q : Option Value → ZH → Prop) : Prop := Q (some (.int (if a0 < 0 then 0 else if 3 ≤ a0 then 0 else 1))) h
set_option maxRecDepth 20000 in
theorem ok_120 {E : Nat → Nat} {d : Nat} {a0 : Int32} {h : ZH} {Q : Option Value → ZH → Prop} (hw : w_120 E d a0 h Q) : Ct E (d + 1) 120 [.int a0] h Q := by
  unfold w_120 at hw
  show Gx E (d + 1) 120 0 [.int a0] [] h Q
  refine zg_iload zi_120_0 rfl ?_
  have g1 : Gx E (d + 1) 120 8 [.int a0] [.int (if a0 < 0 then 0 else if 3 ≤ a0 then 0 else 1)] h Q := by
    exact zg_zreturn zi_120_8 (by (repeat' split) <;> first | (left; rfl) | (right; rfl)) hw
  refine zg_if_lt zi_120_1 (fun hc1 => ?_) (fun hc1 => ?_)
  · skip
    refine zg_const (v := 0) zi_120_7 (by rfl) ?_
    have hg := g1
    simp only [if_pos hc1] at hg
    exact hg
  · skip
    refine zg_iload zi_120_2 rfl ?_
    refine zg_const (v := 3) zi_120_3 (by rfl) ?_
    have g4 : Gx E (d + 1) 120 8 [.int a0] [.int (if 3 ≤ a0 then 0 else 1)] h Q := by
      have hg := g1
      simp only [if_neg hc1] at hg
      exact hg
    refine zg_icmp_ge zi_120_4 (fun hc4 => ?_) (fun hc4 => ?_)
    · skip
      refine zg_const (v := 0) zi_120_7 (by rfl) ?_
      have hg := g4
      simp only [if_pos hc4] at hg
      exact hg
    · skip
      refine zg_const (v := 1) zi_120_5 (by rfl) ?_
      refine zg_goto zi_120_6 ?_
      have hg := g4
      simp only [if_neg hc4] at hg
      exact hg
def fz_120 (E : Nat → Nat) (h : ZH) (a0 : Int32) : Int32 := if a0 < 0 then 0 else if 3 ≤ a0 then 0 else 1
def sz_120 (E : Nat → Nat) (h : ZH) (a0 : Int32) : Prop := True
set_option maxRecDepth 20000 in
theorem fb_120 {E : Nat → Nat} {h : ZH} {a0 : Int32} : fz_120 E h a0 = 0 ∨ fz_120 E h a0 = 1 := by
  unfold fz_120
  (try dsimp only)
  (repeat' split) <;> first | (left; rfl) | (right; rfl)
set_option maxRecDepth 20000 in
theorem cz_120 {E : Nat → Nat} {d : Nat} {a0 : Int32} {h : ZH} {Q : Option Value → ZH → Prop} (hd : 1 ≤ d) (hs : sz_120 E h a0) (hq : Q (some (.int (fz_120 E h a0))) h) : Ct E d 120 [.int a0] h Q := by
  obtain ⟨d, rfl⟩ : ∃ n, d = n + 1 := ⟨d - 1, by omega⟩
  refine ok_120 ?_
  unfold w_120
  unfold sz_120 at hs
  unfold fz_120 at hq
  exact hq
theorem zq_95 : zQ 95 3 4 10 := by unfold zQ; decide +kernel
theorem zi_95_0 : (zM 95).1[0]? = some (.aload 0) := by rfl
theorem zi_95_1 : (zM 95).1[1]? = some (.getfield 10200) := by rfl
theorem zi_95_2 : (zM 95).1[2]? = some (.iload 1) := by rfl
theorem zi_95_3 : (zM 95).1[3]? = some (.invokevirtual 35) := by rfl
theorem zi_95_4 : (zM 95).1[4]? = some (.ifCond .eq ((11 : Nat) : Int)) := by rfl
theorem zi_95_5 : (zM 95).1[5]? = some (.iload 2) := by rfl
theorem zi_95_6 : (zM 95).1[6]? = some (.iconst (-4)) := by rfl
theorem zi_95_7 : (zM 95).1[7]? = some (.if_icmp .eq ((13 : Nat) : Int)) := by rfl
theorem zi_95_8 : (zM 95).1[8]? = some (.iload 2) := by rfl
theorem zi_95_9 : (zM 95).1[9]? = some (.invokestatic 120) := by rfl
theorem zi_95_10 : (zM 95).1[10]? = some (.ifCond .ne ((13 : Nat) : Int)) := by rfl
theorem zi_95_11 : (zM 95).1[11]? = some (.iconst (-1)) := by rfl
theorem zi_95_12 : (zM 95).1[12]? = some (.ireturn) := by rfl
theorem zi_95_13 : (zM 95).1[13]? = some (.aload 0) := by rfl
theorem zi_95_14 : (zM 95).1[14]? = some (.getfield 10200) := by rfl
theorem zi_95_15 : (zM 95).1[15]? = some (.getfield 3201) := by rfl
theorem zi_95_16 : (zM 95).1[16]? = some (.iload 1) := by rfl
theorem zi_95_17 : (zM 95).1[17]? = some (.iaload) := by rfl
theorem zi_95_18 : (zM 95).1[18]? = some (.istore 3) := by rfl
theorem zi_95_19 : (zM 95).1[19]? = some (.iload 3) := by rfl
theorem zi_95_20 : (zM 95).1[20]? = some (.iload 2) := by rfl
theorem zi_95_21 : (zM 95).1[21]? = some (.if_icmp .eq ((34 : Nat) : Int)) := by rfl
theorem zi_95_22 : (zM 95).1[22]? = some (.aload 0) := by rfl
theorem zi_95_23 : (zM 95).1[23]? = some (.getfield 10200) := by rfl
theorem zi_95_24 : (zM 95).1[24]? = some (.getfield 3201) := by rfl
theorem zi_95_25 : (zM 95).1[25]? = some (.iload 1) := by rfl
theorem zi_95_26 : (zM 95).1[26]? = some (.iload 2) := by rfl
theorem zi_95_27 : (zM 95).1[27]? = some (.iastore) := by rfl
theorem zi_95_28 : (zM 95).1[28]? = some (.aload 0) := by rfl
theorem zi_95_29 : (zM 95).1[29]? = some (.getfield 10200) := by rfl
theorem zi_95_30 : (zM 95).1[30]? = some (.invokevirtual 34) := by rfl
theorem zi_95_31 : (zM 95).1[31]? = some (.aload 0) := by rfl
theorem zi_95_32 : (zM 95).1[32]? = some (.getfield 10206) := by rfl
theorem zi_95_33 : (zM 95).1[33]? = some (.invokevirtual 14) := by rfl
theorem zi_95_34 : (zM 95).1[34]? = some (.iload 3) := by rfl
theorem zi_95_35 : (zM 95).1[35]? = some (.ireturn) := by rfl
def wb_95_34 (E : Nat → Nat) (d : Nat) (Q : Option Value → ZH → Prop) (a3 : Int32) (h : ZH) : Prop := Q (some (.int a3)) h
set_option maxRecDepth 20000 in
theorem okb_95_34 {E : Nat → Nat} {d : Nat} {Q : Option Value → ZH → Prop} {a3 : Int32} {h : ZH} (hw : wb_95_34 E d Q a3 h) : Gx E (d + 1) 95 34 [.retAddr 0, .retAddr 0, .retAddr 0, .int a3] [] h Q := by
  unfold wb_95_34 at hw
  refine zg_iload zi_95_34 rfl ?_
  exact zg_ireturn zi_95_35 (by decide) hw
/-- TakeOrPay.shut(II)I -/
def w_95 (E : Nat → Nat) (d : Nat) (a0 : Nat) (a1 : Int32) (a2 : Int32) (h : ZH) (Q : Option Value → ZH → Prop) : Prop := ztag h a0 = 10 ∧ ∃ r2 : Nat, zR h a0 0 = r2 + 1 ∧ ztag h r2 = 3 ∧ 1 ≤ d ∧ sz_35 E h r2 a1 ∧ (((fz_35 E h r2 a1 : Int32) = 0 → (Q (some (.int ((-1)))) h)) ∧ (¬ ((fz_35 E h r2 a1 : Int32) = 0) → ((a2 = ((-4) : Int32) → (∃ r4 : Nat, zR h r2 1 = r4 + 1 ∧ (ztag h r4 = 13 ∨ ztag h r4 = 19) ∧ zin a1 (zlen h r4) = true ∧ ∀ x6 : Int32, x6 = (zI h r4 a1.toNatClampNeg) → ((x6 = a2 → (wb_95_34 E d Q x6 h)) ∧ (¬ (x6 = a2) → (ztag h r4 = 13 ∧ zin a1 (zlen h r4) = true ∧ ∀ h8 : ZH, h8 = (zuI h r4 a1.toNatClampNeg a2) → Ct E d 34 [.ref r2] h8 (fun v h9 => v = none ∧ ztag h9 a0 = 10 ∧ ∃ r11 : Nat, zR h9 a0 6 = r11 + 1 ∧ ztag h9 r11 = 1 ∧ Ct E d 14 [.ref r11] h9 (fun v h13 => v = none ∧ wb_95_34 E d Q x6 h13))))))) ∧ (¬ (a2 = ((-4) : Int32)) → (1 ≤ d ∧ sz_120 E h a2 ∧ ((¬ (fz_120 E h a2 : Int32) = 0 → (∃ r14 : Nat, zR h r2 1 = r14 + 1 ∧ (ztag h r14 = 13 ∨ ztag h r14 = 19) ∧ zin a1 (zlen h r14) = true ∧ ∀ x16 : Int32, x16 = (zI h r14 a1.toNatClampNeg) → ((x16 = a2 → (wb_95_34 E d Q x16 h)) ∧ (¬ (x16 = a2) → (ztag h r14 = 13 ∧ zin a1 (zlen h r14) = true ∧ ∀ h18 : ZH, h18 = (zuI h r14 a1.toNatClampNeg a2) → Ct E d 34 [.ref r2] h18 (fun v h19 => v = none ∧ ztag h19 a0 = 10 ∧ ∃ r21 : Nat, zR h19 a0 6 = r21 + 1 ∧ ztag h19 r21 = 1 ∧ Ct E d 14 [.ref r21] h19 (fun v h23 => v = none ∧ wb_95_34 E d Q x16 h23))))))) ∧ (¬ (¬ (fz_120 E h a2 : Int32) = 0) → (Q (some (.int ((-1)))) h))))))))
set_option maxRecDepth 20000 in
theorem ok_95 {E : Nat → Nat} {d : Nat} {a0 : Nat} {a1 : Int32} {a2 : Int32} {h : ZH} {Q : Option Value → ZH → Prop} (hw : w_95 E d a0 a1 a2 h Q) : Ct E (d + 1) 95 [.ref a0, .int a1, .int a2] h Q := by
  unfold w_95 at hw
  show Gx E (d + 1) 95 0 [.ref a0, .int a1, .int a2, .retAddr 0] [] h Q
  refine zg_aload zi_95_0 rfl ?_
  obtain ⟨t1, hw⟩ := hw
  obtain ⟨r2, er2, hw⟩ := hw
  refine zg_getR (v := .ref r2) zi_95_1 t1 (by rfl) (by show zrv (zR h a0 0) = _; rw [er2]; rfl) ?_
  refine zg_iload zi_95_2 rfl ?_
  obtain ⟨t3, hw⟩ := hw
  obtain ⟨hd, hs, hw⟩ := hw
  refine Gx.call2 (as := [.ref r2, .int a1]) (rest := []) zq_35 zi_95_3 rfl rfl rfl (Nat.le_of_ble_eq_true rfl) (Nat.le_of_ble_eq_true rfl) (zrv_v t3 rfl rfl) (Nat.le_of_ble_eq_true rfl) ?_
  refine cz_35 hd hs ?_
  show Gx E (d + 1) 95 4 [.ref a0, .int a1, .int a2, .retAddr 0] [.int (fz_35 E h r2 a1)] h Q
  refine zg_if_eq zi_95_4 (fun hc => ?_) (fun hc => ?_)
  · have hw := hw.1 hc
    refine zg_const (v := (-1)) zi_95_11 (by rfl) ?_
    exact zg_ireturn zi_95_12 (by decide) hw
  · have hw := hw.2 hc
    refine zg_iload zi_95_5 rfl ?_
    refine zg_const (v := (-4)) zi_95_6 (by rfl) ?_
    refine zg_icmp_eq zi_95_7 (fun hc => ?_) (fun hc => ?_)
    · have hw := hw.1 hc
      refine zg_aload zi_95_13 rfl ?_
      refine zg_getR (v := .ref r2) zi_95_14 t1 (by rfl) (by show zrv (zR h a0 0) = _; rw [er2]; rfl) ?_
      obtain ⟨r4, er4, hw⟩ := hw
      refine zg_getR (v := .ref r4) zi_95_15 t3 (by rfl) (by show zrv (zR h r2 1) = _; rw [er4]; rfl) ?_
      refine zg_iload zi_95_16 rfl ?_
      obtain ⟨t5, hw⟩ := hw
      obtain ⟨hb, hw⟩ := hw
      refine zg_iaload (v := .int (zI h r4 a1.toNatClampNeg)) zi_95_17 t5 hb rfl ?_
      refine zg_nameI fun x6 ex6 => ?_
      have hw := hw x6 ex6
      refine zg_istore (ls1 := [.ref a0, .int a1, .int a2, .int x6]) zi_95_18 (Nat.le_of_ble_eq_true rfl) rfl ?_
      refine zg_iload zi_95_19 rfl ?_
      refine zg_iload zi_95_20 rfl ?_
      refine zg_icmp_eq zi_95_21 (fun hc => ?_) (fun hc => ?_)
      · have hw := hw.1 hc
        exact Gx.forget (zrd (zrd (zrd (zrk zr0)))) (okb_95_34 hw)
      · have hw := hw.2 hc
        refine zg_aload zi_95_22 rfl ?_
        refine zg_getR (v := .ref r2) zi_95_23 t1 (by rfl) (by show zrv (zR h a0 0) = _; rw [er2]; rfl) ?_
        refine zg_getR (v := .ref r4) zi_95_24 t3 (by rfl) (by show zrv (zR h r2 1) = _; rw [er4]; rfl) ?_
        refine zg_iload zi_95_25 rfl ?_
        refine zg_iload zi_95_26 rfl ?_
        obtain ⟨t7, hw⟩ := hw
        obtain ⟨hb, hw⟩ := hw
        refine zg_iastore (h1 := zuI h r4 a1.toNatClampNeg a2) zi_95_27 t7 hb rfl ?_
        refine zg_nameH fun h8 eh8 => ?_
        have hw := hw h8 eh8
        refine zg_aload zi_95_28 rfl ?_
        refine zg_getR (v := .ref r2) zi_95_29 (by rw [eh8]; exact t1) (by rfl) (by rw [eh8]; show zrv (zR h a0 0) = _; rw [er2]; rfl) ?_
        refine Gx.call2 (as := [.ref r2]) (rest := []) zq_34 zi_95_30 rfl rfl rfl (Nat.le_of_ble_eq_true rfl) (Nat.le_of_ble_eq_true rfl) (zrv_v (by rw [eh8]; exact t3) rfl rfl) (Nat.le_of_ble_eq_true rfl) ?_
        refine Ct.mono hw ?_
        rintro v h9 ⟨rfl, hw⟩
        show Gx E (d + 1) 95 31 [.ref a0, .int a1, .int a2, .int x6] [] h9 Q
        refine zg_aload zi_95_31 rfl ?_
        obtain ⟨t10, hw⟩ := hw
        obtain ⟨r11, er11, hw⟩ := hw
        refine zg_getR (v := .ref r11) zi_95_32 t10 (by rfl) (by show zrv (zR h9 a0 6) = _; rw [er11]; rfl) ?_
        obtain ⟨t12, hw⟩ := hw
        refine Gx.call2 (as := [.ref r11]) (rest := []) zq_14 zi_95_33 rfl rfl rfl (Nat.le_of_ble_eq_true rfl) (Nat.le_of_ble_eq_true rfl) (zrv_v t12 rfl rfl) (Nat.le_of_ble_eq_true rfl) ?_
        refine Ct.mono hw ?_
        rintro v h13 ⟨rfl, hw⟩
        show Gx E (d + 1) 95 34 [.ref a0, .int a1, .int a2, .int x6] [] h13 Q
        exact Gx.forget (zrd (zrd (zrd (zrk zr0)))) (okb_95_34 hw)
    · have hw := hw.2 hc
      refine zg_iload zi_95_8 rfl ?_
      obtain ⟨hd, hs, hw⟩ := hw
      refine Gx.call2 (as := [.int a2]) (rest := []) zq_120 zi_95_9 rfl rfl rfl (Nat.le_of_ble_eq_true rfl) (Nat.le_of_ble_eq_true rfl) (rfl) (Nat.le_of_ble_eq_true rfl) ?_
      refine cz_120 hd hs ?_
      show Gx E (d + 1) 95 10 [.ref a0, .int a1, .int a2, .retAddr 0] [.int (fz_120 E h a2)] h Q
      refine zg_if_ne zi_95_10 (fun hc => ?_) (fun hc => ?_)
      · have hw := hw.1 hc
        refine zg_aload zi_95_13 rfl ?_
        refine zg_getR (v := .ref r2) zi_95_14 t1 (by rfl) (by show zrv (zR h a0 0) = _; rw [er2]; rfl) ?_
        obtain ⟨r14, er14, hw⟩ := hw
        refine zg_getR (v := .ref r14) zi_95_15 t3 (by rfl) (by show zrv (zR h r2 1) = _; rw [er14]; rfl) ?_
        refine zg_iload zi_95_16 rfl ?_
        obtain ⟨t15, hw⟩ := hw
        obtain ⟨hb, hw⟩ := hw
        refine zg_iaload (v := .int (zI h r14 a1.toNatClampNeg)) zi_95_17 t15 hb rfl ?_
        refine zg_nameI fun x16 ex16 => ?_
        have hw := hw x16 ex16
        refine zg_istore (ls1 := [.ref a0, .int a1, .int a2, .int x16]) zi_95_18 (Nat.le_of_ble_eq_true rfl) rfl ?_
        refine zg_iload zi_95_19 rfl ?_
        refine zg_iload zi_95_20 rfl ?_
        refine zg_icmp_eq zi_95_21 (fun hc => ?_) (fun hc => ?_)
        · have hw := hw.1 hc
          exact Gx.forget (zrd (zrd (zrd (zrk zr0)))) (okb_95_34 hw)
        · have hw := hw.2 hc
          refine zg_aload zi_95_22 rfl ?_
          refine zg_getR (v := .ref r2) zi_95_23 t1 (by rfl) (by show zrv (zR h a0 0) = _; rw [er2]; rfl) ?_
          refine zg_getR (v := .ref r14) zi_95_24 t3 (by rfl) (by show zrv (zR h r2 1) = _; rw [er14]; rfl) ?_
          refine zg_iload zi_95_25 rfl ?_
          refine zg_iload zi_95_26 rfl ?_
          obtain ⟨t17, hw⟩ := hw
          obtain ⟨hb, hw⟩ := hw
          refine zg_iastore (h1 := zuI h r14 a1.toNatClampNeg a2) zi_95_27 t17 hb rfl ?_
          refine zg_nameH fun h18 eh18 => ?_
          have hw := hw h18 eh18
          refine zg_aload zi_95_28 rfl ?_
          refine zg_getR (v := .ref r2) zi_95_29 (by rw [eh18]; exact t1) (by rfl) (by rw [eh18]; show zrv (zR h a0 0) = _; rw [er2]; rfl) ?_
          refine Gx.call2 (as := [.ref r2]) (rest := []) zq_34 zi_95_30 rfl rfl rfl (Nat.le_of_ble_eq_true rfl) (Nat.le_of_ble_eq_true rfl) (zrv_v (by rw [eh18]; exact t3) rfl rfl) (Nat.le_of_ble_eq_true rfl) ?_
          refine Ct.mono hw ?_
          rintro v h19 ⟨rfl, hw⟩
          show Gx E (d + 1) 95 31 [.ref a0, .int a1, .int a2, .int x16] [] h19 Q
          refine zg_aload zi_95_31 rfl ?_
          obtain ⟨t20, hw⟩ := hw
          obtain ⟨r21, er21, hw⟩ := hw
          refine zg_getR (v := .ref r21) zi_95_32 t20 (by rfl) (by show zrv (zR h19 a0 6) = _; rw [er21]; rfl) ?_
          obtain ⟨t22, hw⟩ := hw
          refine Gx.call2 (as := [.ref r21]) (rest := []) zq_14 zi_95_33 rfl rfl rfl (Nat.le_of_ble_eq_true rfl) (Nat.le_of_ble_eq_true rfl) (zrv_v t22 rfl rfl) (Nat.le_of_ble_eq_true rfl) ?_
          refine Ct.mono hw ?_
          rintro v h23 ⟨rfl, hw⟩
          show Gx E (d + 1) 95 34 [.ref a0, .int a1, .int a2, .int x16] [] h23 Q
          exact Gx.forget (zrd (zrd (zrd (zrk zr0)))) (okb_95_34 hw)
      · have hw := hw.2 hc
        refine zg_const (v := (-1)) zi_95_11 (by rfl) ?_
        exact zg_ireturn zi_95_12 (by decide) hw
theorem zq_96 : zQ 96 3 3 10 := by unfold zQ; decide +kernel
theorem zi_96_0 : (zM 96).1[0]? = some (.aload 0) := by rfl
theorem zi_96_1 : (zM 96).1[1]? = some (.getfield 10200) := by rfl
theorem zi_96_2 : (zM 96).1[2]? = some (.iload 1) := by rfl
theorem zi_96_3 : (zM 96).1[3]? = some (.invokevirtual 36) := by rfl
theorem zi_96_4 : (zM 96).1[4]? = some (.ifCond .eq ((10 : Nat) : Int)) := by rfl
theorem zi_96_5 : (zM 96).1[5]? = some (.iload 2) := by rfl
theorem zi_96_6 : (zM 96).1[6]? = some (.ifCond .lt ((10 : Nat) : Int)) := by rfl
theorem zi_96_7 : (zM 96).1[7]? = some (.iload 2) := by rfl
theorem zi_96_8 : (zM 96).1[8]? = some (.iconst 2) := by rfl
theorem zi_96_9 : (zM 96).1[9]? = some (.if_icmp .le ((12 : Nat) : Int)) := by rfl
theorem zi_96_10 : (zM 96).1[10]? = some (.iconst (-1)) := by rfl
theorem zi_96_11 : (zM 96).1[11]? = some (.ireturn) := by rfl
theorem zi_96_12 : (zM 96).1[12]? = some (.iload 2) := by rfl
theorem zi_96_13 : (zM 96).1[13]? = some (.iconst 2) := by rfl
theorem zi_96_14 : (zM 96).1[14]? = some (.if_icmp .ne ((20 : Nat) : Int)) := by rfl
theorem zi_96_15 : (zM 96).1[15]? = some (.aload 0) := by rfl
theorem zi_96_16 : (zM 96).1[16]? = some (.getfield 10200) := by rfl
theorem zi_96_17 : (zM 96).1[17]? = some (.iload 1) := by rfl
theorem zi_96_18 : (zM 96).1[18]? = some (.invokevirtual 41) := by rfl
theorem zi_96_19 : (zM 96).1[19]? = some (.ireturn) := by rfl
theorem zi_96_20 : (zM 96).1[20]? = some (.iload 2) := by rfl
theorem zi_96_21 : (zM 96).1[21]? = some (.ifCond .ne ((28 : Nat) : Int)) := by rfl
theorem zi_96_22 : (zM 96).1[22]? = some (.aload 0) := by rfl
theorem zi_96_23 : (zM 96).1[23]? = some (.getfield 10200) := by rfl
theorem zi_96_24 : (zM 96).1[24]? = some (.getfield 3202) := by rfl
theorem zi_96_25 : (zM 96).1[25]? = some (.iload 1) := by rfl
theorem zi_96_26 : (zM 96).1[26]? = some (.iaload) := by rfl
theorem zi_96_27 : (zM 96).1[27]? = some (.goto ((33 : Nat) : Int)) := by rfl
theorem zi_96_28 : (zM 96).1[28]? = some (.aload 0) := by rfl
theorem zi_96_29 : (zM 96).1[29]? = some (.getfield 10200) := by rfl
theorem zi_96_30 : (zM 96).1[30]? = some (.getfield 3203) := by rfl
theorem zi_96_31 : (zM 96).1[31]? = some (.iload 1) := by rfl
theorem zi_96_32 : (zM 96).1[32]? = some (.iaload) := by rfl
theorem zi_96_33 : (zM 96).1[33]? = some (.ireturn) := by rfl
/-- TakeOrPay.year(II)I -/
def w_96 (E : Nat → Nat) (d : Nat) (a0 : Nat) (a1 : Int32) (a2 : Int32) (h : ZH) (Q : Option Value → ZH → Prop) : Prop := ztag h a0 = 10 ∧ ∃ r2 : Nat, zR h a0 0 = r2 + 1 ∧ ztag h r2 = 3 ∧ 1 ≤ d ∧ sz_36 E h r2 a1 ∧ (((fz_36 E h r2 a1 : Int32) = 0 → (Q (some (.int ((-1)))) h)) ∧ (¬ ((fz_36 E h r2 a1 : Int32) = 0) → ((a2 < 0 → (Q (some (.int ((-1)))) h)) ∧ (¬ (a2 < 0) → ((a2 ≤ 2 → ((¬ a2 = 2 → (((¬ a2 = 0 → (¬ zR h r2 3 = 0 ∧ (ztag h (zR h r2 3 - 1) = 13 ∨ ztag h (zR h r2 3 - 1) = 19) ∧ zin a1 (zlen h (zR h r2 3 - 1)) = true ∧ True)) ∧ (¬ (¬ a2 = 0) → (¬ zR h r2 2 = 0 ∧ (ztag h (zR h r2 2 - 1) = 13 ∨ ztag h (zR h r2 2 - 1) = 19) ∧ zin a1 (zlen h (zR h r2 2 - 1)) = true ∧ True))) ∧ Q (some (.int (if ¬ a2 = 0 then zI h (zR h r2 3 - 1) a1.toNatClampNeg else zI h (zR h r2 2 - 1) a1.toNatClampNeg))) h)) ∧ (¬ (¬ a2 = 2) → (Ct E d 41 [.ref r2, .int a1] h (fun v h6 => ∃ x7 : Int32, v = some (.int x7) ∧ Q (some (.int x7)) h6))))) ∧ (¬ (a2 ≤ 2) → (Q (some (.int ((-1)))) h)))))))
set_option maxRecDepth 20000 in
theorem ok_96 {E : Nat → Nat} {d : Nat} {a0 : Nat} {a1 : Int32} {a2 : Int32} {h : ZH} {Q : Option Value → ZH → Prop} (hw : w_96 E d a0 a1 a2 h Q) : Ct E (d + 1) 96 [.ref a0, .int a1, .int a2] h Q := by
  unfold w_96 at hw
  show Gx E (d + 1) 96 0 [.ref a0, .int a1, .int a2] [] h Q
  refine zg_aload zi_96_0 rfl ?_
  obtain ⟨t1, hw⟩ := hw
  obtain ⟨r2, er2, hw⟩ := hw
  refine zg_getR (v := .ref r2) zi_96_1 t1 (by rfl) (by show zrv (zR h a0 0) = _; rw [er2]; rfl) ?_
  refine zg_iload zi_96_2 rfl ?_
  obtain ⟨t3, hw⟩ := hw
  obtain ⟨hd, hs, hw⟩ := hw
  refine Gx.call2 (as := [.ref r2, .int a1]) (rest := []) zq_36 zi_96_3 rfl rfl rfl (Nat.le_of_ble_eq_true rfl) (Nat.le_of_ble_eq_true rfl) (zrv_v t3 rfl rfl) (Nat.le_of_ble_eq_true rfl) ?_
  refine cz_36 hd hs ?_
  show Gx E (d + 1) 96 4 [.ref a0, .int a1, .int a2] [.int (fz_36 E h r2 a1)] h Q
  refine zg_if_eq zi_96_4 (fun hc => ?_) (fun hc => ?_)
  · have hw := hw.1 hc
    refine zg_const (v := (-1)) zi_96_10 (by rfl) ?_
    exact zg_ireturn zi_96_11 (by decide) hw
  · have hw := hw.2 hc
    refine zg_iload zi_96_5 rfl ?_
    refine zg_if_lt zi_96_6 (fun hc => ?_) (fun hc => ?_)
    · have hw := hw.1 hc
      refine zg_const (v := (-1)) zi_96_10 (by rfl) ?_
      exact zg_ireturn zi_96_11 (by decide) hw
    · have hw := hw.2 hc
      refine zg_iload zi_96_7 rfl ?_
      refine zg_const (v := 2) zi_96_8 (by rfl) ?_
      refine zg_icmp_le zi_96_9 (fun hc => ?_) (fun hc => ?_)
      · have hw := hw.1 hc
        refine zg_iload zi_96_12 rfl ?_
        refine zg_const (v := 2) zi_96_13 (by rfl) ?_
        refine zg_icmp_ne zi_96_14 (fun hc => ?_) (fun hc => ?_)
        · have hw := hw.1 hc
          refine zg_iload zi_96_20 rfl ?_
          obtain ⟨hsd21, hw⟩ := hw
          have g21 : Gx E (d + 1) 96 33 [.ref a0, .int a1, .int a2] [.int (if ¬ a2 = 0 then zI h (zR h r2 3 - 1) a1.toNatClampNeg else zI h (zR h r2 2 - 1) a1.toNatClampNeg)] h Q := by
            exact zg_ireturn zi_96_33 (by decide) hw
          refine zg_if_ne zi_96_21 (fun hc21 => ?_) (fun hc21 => ?_)
          · have hw := hsd21.1 hc21
            refine zg_aload zi_96_28 rfl ?_
            refine zg_getR (v := .ref r2) zi_96_29 t1 (by rfl) (by show zrv (zR h a0 0) = _; rw [er2]; rfl) ?_
            obtain ⟨hr, hw⟩ := hw
            refine zg_getR (v := .ref (zR h r2 3 - 1)) zi_96_30 t3 (by rfl) (zrv_p hr) ?_
            refine zg_iload zi_96_31 rfl ?_
            obtain ⟨t4, hw⟩ := hw
            obtain ⟨hb, hw⟩ := hw
            refine zg_iaload (v := .int (zI h (zR h r2 3 - 1) a1.toNatClampNeg)) zi_96_32 t4 hb rfl ?_
            have hg := g21
            simp only [if_pos hc21] at hg
            exact hg
          · have hw := hsd21.2 hc21
            refine zg_aload zi_96_22 rfl ?_
            refine zg_getR (v := .ref r2) zi_96_23 t1 (by rfl) (by show zrv (zR h a0 0) = _; rw [er2]; rfl) ?_
            obtain ⟨hr, hw⟩ := hw
            refine zg_getR (v := .ref (zR h r2 2 - 1)) zi_96_24 t3 (by rfl) (zrv_p hr) ?_
            refine zg_iload zi_96_25 rfl ?_
            obtain ⟨t5, hw⟩ := hw
            obtain ⟨hb, hw⟩ := hw
            refine zg_iaload (v := .int (zI h (zR h r2 2 - 1) a1.toNatClampNeg)) zi_96_26 t5 hb rfl ?_
            refine zg_goto zi_96_27 ?_
            have hg := g21
            simp only [if_neg hc21] at hg
            exact hg
        · have hw := hw.2 hc
          refine zg_aload zi_96_15 rfl ?_
          refine zg_getR (v := .ref r2) zi_96_16 t1 (by rfl) (by show zrv (zR h a0 0) = _; rw [er2]; rfl) ?_
          refine zg_iload zi_96_17 rfl ?_
          refine Gx.call2 (as := [.ref r2, .int a1]) (rest := []) zq_41 zi_96_18 rfl rfl rfl (Nat.le_of_ble_eq_true rfl) (Nat.le_of_ble_eq_true rfl) (zrv_v t3 rfl rfl) (Nat.le_of_ble_eq_true rfl) ?_
          refine Ct.mono hw ?_
          rintro v h6 ⟨x7, rfl, hw⟩
          show Gx E (d + 1) 96 19 [.ref a0, .int a1, .int a2] [.int x7] h6 Q
          exact zg_ireturn zi_96_19 (by decide) hw
      · have hw := hw.2 hc
        refine zg_const (v := (-1)) zi_96_10 (by rfl) ?_
        exact zg_ireturn zi_96_11 (by decide) hw
theorem zq_97 : zQ 97 3 5 10 := by unfold zQ; decide +kernel
theorem zi_97_0 : (zM 97).1[0]? = some (.aload 0) := by rfl
theorem zi_97_1 : (zM 97).1[1]? = some (.getfield 10200) := by rfl
theorem zi_97_2 : (zM 97).1[2]? = some (.iload 1) := by rfl
theorem zi_97_3 : (zM 97).1[3]? = some (.invokevirtual 36) := by rfl
theorem zi_97_4 : (zM 97).1[4]? = some (.ifCond .eq ((10 : Nat) : Int)) := by rfl
theorem zi_97_5 : (zM 97).1[5]? = some (.iload 2) := by rfl
theorem zi_97_6 : (zM 97).1[6]? = some (.ifCond .lt ((10 : Nat) : Int)) := by rfl
theorem zi_97_7 : (zM 97).1[7]? = some (.iload 2) := by rfl
theorem zi_97_8 : (zM 97).1[8]? = some (.iconst 2) := by rfl
theorem zi_97_9 : (zM 97).1[9]? = some (.if_icmp .le ((12 : Nat) : Int)) := by rfl
theorem zi_97_10 : (zM 97).1[10]? = some (.iconst (-1)) := by rfl
theorem zi_97_11 : (zM 97).1[11]? = some (.ireturn) := by rfl
theorem zi_97_12 : (zM 97).1[12]? = some (.iload 2) := by rfl
theorem zi_97_13 : (zM 97).1[13]? = some (.ifCond .ne ((16 : Nat) : Int)) := by rfl
theorem zi_97_14 : (zM 97).1[14]? = some (.iconst 1) := by rfl
theorem zi_97_15 : (zM 97).1[15]? = some (.goto ((22 : Nat) : Int)) := by rfl
theorem zi_97_16 : (zM 97).1[16]? = some (.iload 2) := by rfl
theorem zi_97_17 : (zM 97).1[17]? = some (.iconst 1) := by rfl
theorem zi_97_18 : (zM 97).1[18]? = some (.if_icmp .ne ((21 : Nat) : Int)) := by rfl
theorem zi_97_19 : (zM 97).1[19]? = some (.iconst 2) := by rfl
theorem zi_97_20 : (zM 97).1[20]? = some (.goto ((22 : Nat) : Int)) := by rfl
theorem zi_97_21 : (zM 97).1[21]? = some (.iconst 0) := by rfl
theorem zi_97_22 : (zM 97).1[22]? = some (.istore 3) := by rfl
theorem zi_97_23 : (zM 97).1[23]? = some (.aload 0) := by rfl
theorem zi_97_24 : (zM 97).1[24]? = some (.getfield 10200) := by rfl
theorem zi_97_25 : (zM 97).1[25]? = some (.iload 3) := by rfl
theorem zi_97_26 : (zM 97).1[26]? = some (.invokevirtual 38) := by rfl
theorem zi_97_27 : (zM 97).1[27]? = some (.ifCond .eq ((33 : Nat) : Int)) := by rfl
theorem zi_97_28 : (zM 97).1[28]? = some (.aload 0) := by rfl
theorem zi_97_29 : (zM 97).1[29]? = some (.getfield 10200) := by rfl
theorem zi_97_30 : (zM 97).1[30]? = some (.iload 1) := by rfl
theorem zi_97_31 : (zM 97).1[31]? = some (.invokevirtual 42) := by rfl
theorem zi_97_32 : (zM 97).1[32]? = some (.goto ((34 : Nat) : Int)) := by rfl
theorem zi_97_33 : (zM 97).1[33]? = some (.iconst 0) := by rfl
theorem zi_97_34 : (zM 97).1[34]? = some (.istore 4) := by rfl
theorem zi_97_35 : (zM 97).1[35]? = some (.aload 0) := by rfl
theorem zi_97_36 : (zM 97).1[36]? = some (.getfield 10200) := by rfl
theorem zi_97_37 : (zM 97).1[37]? = some (.aload 0) := by rfl
theorem zi_97_38 : (zM 97).1[38]? = some (.getfield 10200) := by rfl
theorem zi_97_39 : (zM 97).1[39]? = some (.invokevirtual 39) := by rfl
theorem zi_97_40 : (zM 97).1[40]? = some (.iload 4) := by rfl
theorem zi_97_41 : (zM 97).1[41]? = some (.invokevirtual 40) := by rfl
theorem zi_97_42 : (zM 97).1[42]? = some (.ireturn) := by rfl
def wb_97_34 (E : Nat → Nat) (d : Nat) (Q : Option Value → ZH → Prop) (a0 : Nat) (s0 : Int32) (h : ZH) : Prop := ztag h a0 = 10 ∧ ∃ r6 : Nat, zR h a0 0 = r6 + 1 ∧ ztag h r6 = 3 ∧ 5 ≤ d ∧ sz_39 E h r6 ∧ 1 ≤ d ∧ sz_40 E h r6 (fz_39 E h r6) s0 ∧ Q (some (.int (fz_40 E h r6 (fz_39 E h r6) s0))) h
set_option maxRecDepth 20000 in
theorem okb_97_34 {E : Nat → Nat} {d : Nat} {Q : Option Value → ZH → Prop} {a0 : Nat} {s0 : Int32} {h : ZH} (hw : wb_97_34 E d Q a0 s0 h) : Gx E (d + 1) 97 34 [.ref a0, .retAddr 0, .retAddr 0, .retAddr 0, .retAddr 0] [.int s0] h Q := by
  unfold wb_97_34 at hw
  refine zg_istore (ls1 := [.ref a0, .retAddr 0, .retAddr 0, .retAddr 0, .int s0]) zi_97_34 (Nat.le_of_ble_eq_true rfl) rfl ?_
  refine zg_aload zi_97_35 rfl ?_
  obtain ⟨t5, hw⟩ := hw
  obtain ⟨r6, er6, hw⟩ := hw
  refine zg_getR (v := .ref r6) zi_97_36 t5 (by rfl) (by show zrv (zR h a0 0) = _; rw [er6]; rfl) ?_
  refine zg_aload zi_97_37 rfl ?_
  refine zg_getR (v := .ref r6) zi_97_38 t5 (by rfl) (by show zrv (zR h a0 0) = _; rw [er6]; rfl) ?_
  obtain ⟨t7, hw⟩ := hw
  obtain ⟨hd, hs, hw⟩ := hw
  refine Gx.call2 (as := [.ref r6]) (rest := [.ref r6]) zq_39 zi_97_39 rfl rfl rfl (Nat.le_of_ble_eq_true rfl) (Nat.le_of_ble_eq_true rfl) (zrv_v t7 rfl rfl) (Nat.le_of_ble_eq_true rfl) ?_
  refine cz_39 hd hs ?_
  show Gx E (d + 1) 97 40 [.ref a0, .retAddr 0, .retAddr 0, .retAddr 0, .int s0] [.int (fz_39 E h r6), .ref r6] h Q
  refine zg_iload zi_97_40 rfl ?_
  obtain ⟨hd, hs, hw⟩ := hw
  refine Gx.call2 (as := [.ref r6, .int (fz_39 E h r6), .int s0]) (rest := []) zq_40 zi_97_41 rfl rfl rfl (Nat.le_of_ble_eq_true rfl) (Nat.le_of_ble_eq_true rfl) (zrv_v t7 rfl rfl) (Nat.le_of_ble_eq_true rfl) ?_
  refine cz_40 hd hs ?_
  show Gx E (d + 1) 97 42 [.ref a0, .retAddr 0, .retAddr 0, .retAddr 0, .int s0] [.int (fz_40 E h r6 (fz_39 E h r6) s0)] h Q
  exact zg_ireturn zi_97_42 (by decide) hw
/-- TakeOrPay.whose(II)I -/
def w_97 (E : Nat → Nat) (d : Nat) (a0 : Nat) (a1 : Int32) (a2 : Int32) (h : ZH) (Q : Option Value → ZH → Prop) : Prop := ztag h a0 = 10 ∧ ∃ r2 : Nat, zR h a0 0 = r2 + 1 ∧ ztag h r2 = 3 ∧ 1 ≤ d ∧ sz_36 E h r2 a1 ∧ (((fz_36 E h r2 a1 : Int32) = 0 → (Q (some (.int ((-1)))) h)) ∧ (¬ ((fz_36 E h r2 a1 : Int32) = 0) → ((a2 < 0 → (Q (some (.int ((-1)))) h)) ∧ (¬ (a2 < 0) → ((a2 ≤ 2 → (∀ x4 : Int32, x4 = (if ¬ a2 = 0 then if ¬ a2 = 1 then 0 else 2 else 1) → 1 ≤ d ∧ sz_38 E h r2 x4 ∧ (((fz_38 E h r2 x4 : Int32) = 0 → (wb_97_34 E d Q a0 0 h)) ∧ (¬ ((fz_38 E h r2 x4 : Int32) = 0) → (Ct E d 42 [.ref r2, .int a1] h (fun v h8 => ∃ x9 : Int32, v = some (.int x9) ∧ wb_97_34 E d Q a0 x9 h8)))))) ∧ (¬ (a2 ≤ 2) → (Q (some (.int ((-1)))) h)))))))
set_option maxRecDepth 20000 in
theorem ok_97 {E : Nat → Nat} {d : Nat} {a0 : Nat} {a1 : Int32} {a2 : Int32} {h : ZH} {Q : Option Value → ZH → Prop} (hw : w_97 E d a0 a1 a2 h Q) : Ct E (d + 1) 97 [.ref a0, .int a1, .int a2] h Q := by
  unfold w_97 at hw
  show Gx E (d + 1) 97 0 [.ref a0, .int a1, .int a2, .retAddr 0, .retAddr 0] [] h Q
  refine zg_aload zi_97_0 rfl ?_
  obtain ⟨t1, hw⟩ := hw
  obtain ⟨r2, er2, hw⟩ := hw
  refine zg_getR (v := .ref r2) zi_97_1 t1 (by rfl) (by show zrv (zR h a0 0) = _; rw [er2]; rfl) ?_
  refine zg_iload zi_97_2 rfl ?_
  obtain ⟨t3, hw⟩ := hw
  obtain ⟨hd, hs, hw⟩ := hw
  refine Gx.call2 (as := [.ref r2, .int a1]) (rest := []) zq_36 zi_97_3 rfl rfl rfl (Nat.le_of_ble_eq_true rfl) (Nat.le_of_ble_eq_true rfl) (zrv_v t3 rfl rfl) (Nat.le_of_ble_eq_true rfl) ?_
  refine cz_36 hd hs ?_
  show Gx E (d + 1) 97 4 [.ref a0, .int a1, .int a2, .retAddr 0, .retAddr 0] [.int (fz_36 E h r2 a1)] h Q
  refine zg_if_eq zi_97_4 (fun hc => ?_) (fun hc => ?_)
  · have hw := hw.1 hc
    refine zg_const (v := (-1)) zi_97_10 (by rfl) ?_
    exact zg_ireturn zi_97_11 (by decide) hw
  · have hw := hw.2 hc
    refine zg_iload zi_97_5 rfl ?_
    refine zg_if_lt zi_97_6 (fun hc => ?_) (fun hc => ?_)
    · have hw := hw.1 hc
      refine zg_const (v := (-1)) zi_97_10 (by rfl) ?_
      exact zg_ireturn zi_97_11 (by decide) hw
    · have hw := hw.2 hc
      refine zg_iload zi_97_7 rfl ?_
      refine zg_const (v := 2) zi_97_8 (by rfl) ?_
      refine zg_icmp_le zi_97_9 (fun hc => ?_) (fun hc => ?_)
      · have hw := hw.1 hc
        refine zg_iload zi_97_12 rfl ?_
        have g13 : Gx E (d + 1) 97 22 [.ref a0, .int a1, .int a2, .retAddr 0, .retAddr 0] [.int (if ¬ a2 = 0 then if ¬ a2 = 1 then 0 else 2 else 1)] h Q := by
          refine zg_nameI fun x4 ex4 => ?_
          have hw := hw x4 ex4
          refine zg_istore (ls1 := [.ref a0, .int a1, .int a2, .int x4, .retAddr 0]) zi_97_22 (Nat.le_of_ble_eq_true rfl) rfl ?_
          refine zg_aload zi_97_23 rfl ?_
          refine zg_getR (v := .ref r2) zi_97_24 t1 (by rfl) (by show zrv (zR h a0 0) = _; rw [er2]; rfl) ?_
          refine zg_iload zi_97_25 rfl ?_
          obtain ⟨hd, hs, hw⟩ := hw
          refine Gx.call2 (as := [.ref r2, .int x4]) (rest := []) zq_38 zi_97_26 rfl rfl rfl (Nat.le_of_ble_eq_true rfl) (Nat.le_of_ble_eq_true rfl) (zrv_v t3 rfl rfl) (Nat.le_of_ble_eq_true rfl) ?_
          refine cz_38 hd hs ?_
          show Gx E (d + 1) 97 27 [.ref a0, .int a1, .int a2, .int x4, .retAddr 0] [.int (fz_38 E h r2 x4)] h Q
          refine zg_if_eq zi_97_27 (fun hc => ?_) (fun hc => ?_)
          · have hw := hw.1 hc
            refine zg_const (v := 0) zi_97_33 (by rfl) ?_
            exact Gx.forget (zrk (zrd (zrd (zrd (zrk zr0))))) (okb_97_34 hw)
          · have hw := hw.2 hc
            refine zg_aload zi_97_28 rfl ?_
            refine zg_getR (v := .ref r2) zi_97_29 t1 (by rfl) (by show zrv (zR h a0 0) = _; rw [er2]; rfl) ?_
            refine zg_iload zi_97_30 rfl ?_
            refine Gx.call2 (as := [.ref r2, .int a1]) (rest := []) zq_42 zi_97_31 rfl rfl rfl (Nat.le_of_ble_eq_true rfl) (Nat.le_of_ble_eq_true rfl) (zrv_v t3 rfl rfl) (Nat.le_of_ble_eq_true rfl) ?_
            refine Ct.mono hw ?_
            rintro v h8 ⟨x9, rfl, hw⟩
            show Gx E (d + 1) 97 32 [.ref a0, .int a1, .int a2, .int x4, .retAddr 0] [.int x9] h8 Q
            refine zg_goto zi_97_32 ?_
            exact Gx.forget (zrk (zrd (zrd (zrd (zrk zr0))))) (okb_97_34 hw)
        refine zg_if_ne zi_97_13 (fun hc13 => ?_) (fun hc13 => ?_)
        · skip
          refine zg_iload zi_97_16 rfl ?_
          refine zg_const (v := 1) zi_97_17 (by rfl) ?_
          have g18 : Gx E (d + 1) 97 22 [.ref a0, .int a1, .int a2, .retAddr 0, .retAddr 0] [.int (if ¬ a2 = 1 then 0 else 2)] h Q := by
            have hg := g13
            simp only [if_pos hc13] at hg
            exact hg
          refine zg_icmp_ne zi_97_18 (fun hc18 => ?_) (fun hc18 => ?_)
          · skip
            refine zg_const (v := 0) zi_97_21 (by rfl) ?_
            have hg := g18
            simp only [if_pos hc18] at hg
            exact hg
          · skip
            refine zg_const (v := 2) zi_97_19 (by rfl) ?_
            refine zg_goto zi_97_20 ?_
            have hg := g18
            simp only [if_neg hc18] at hg
            exact hg
        · skip
          refine zg_const (v := 1) zi_97_14 (by rfl) ?_
          refine zg_goto zi_97_15 ?_
          have hg := g13
          simp only [if_neg hc13] at hg
          exact hg
      · have hw := hw.2 hc
        refine zg_const (v := (-1)) zi_97_10 (by rfl) ?_
        exact zg_ireturn zi_97_11 (by decide) hw
theorem zq_121 : zQ 121 1 1 10 := by unfold zQ; decide +kernel
theorem zi_121_0 : (zM 121).1[0]? = some (.iload 0) := by rfl
theorem zi_121_1 : (zM 121).1[1]? = some (.ifCond .lt ((7 : Nat) : Int)) := by rfl
theorem zi_121_2 : (zM 121).1[2]? = some (.iload 0) := by rfl
theorem zi_121_3 : (zM 121).1[3]? = some (.iconst 20) := by rfl
theorem zi_121_4 : (zM 121).1[4]? = some (.if_icmp .gt ((7 : Nat) : Int)) := by rfl
theorem zi_121_5 : (zM 121).1[5]? = some (.iconst 1) := by rfl
theorem zi_121_6 : (zM 121).1[6]? = some (.goto ((8 : Nat) : Int)) := by rfl
theorem zi_121_7 : (zM 121).1[7]? = some (.iconst 0) := by rfl
theorem zi_121_8 : (zM 121).1[8]? = some (.ireturn) := by rfl
/-- TakeOrPay.isCounted(I)Z -/
def w_121 (E : Nat → Nat) (d : Nat) (a0 : Int32) (h : ZH) (Q : Option Value → ZH → Prop) : Prop := Q (some (.int (if a0 < 0 then 0 else if 20 < a0 then 0 else 1))) h
set_option maxRecDepth 20000 in
theorem ok_121 {E : Nat → Nat} {d : Nat} {a0 : Int32} {h : ZH} {Q : Option Value → ZH → Prop} (hw : w_121 E d a0 h Q) : Ct E (d + 1) 121 [.int a0] h Q := by
  unfold w_121 at hw
  show Gx E (d + 1) 121 0 [.int a0] [] h Q
  refine zg_iload zi_121_0 rfl ?_
  have g1 : Gx E (d + 1) 121 8 [.int a0] [.int (if a0 < 0 then 0 else if 20 < a0 then 0 else 1)] h Q := by
    exact zg_zreturn zi_121_8 (by (repeat' split) <;> first | (left; rfl) | (right; rfl)) hw
  refine zg_if_lt zi_121_1 (fun hc1 => ?_) (fun hc1 => ?_)
  · skip
    refine zg_const (v := 0) zi_121_7 (by rfl) ?_
    have hg := g1
    simp only [if_pos hc1] at hg
    exact hg
  · skip
    refine zg_iload zi_121_2 rfl ?_
    refine zg_const (v := 20) zi_121_3 (by rfl) ?_
    have g4 : Gx E (d + 1) 121 8 [.int a0] [.int (if 20 < a0 then 0 else 1)] h Q := by
      have hg := g1
      simp only [if_neg hc1] at hg
      exact hg
    refine zg_icmp_gt zi_121_4 (fun hc4 => ?_) (fun hc4 => ?_)
    · skip
      refine zg_const (v := 0) zi_121_7 (by rfl) ?_
      have hg := g4
      simp only [if_pos hc4] at hg
      exact hg
    · skip
      refine zg_const (v := 1) zi_121_5 (by rfl) ?_
      refine zg_goto zi_121_6 ?_
      have hg := g4
      simp only [if_neg hc4] at hg
      exact hg
def fz_121 (E : Nat → Nat) (h : ZH) (a0 : Int32) : Int32 := if a0 < 0 then 0 else if 20 < a0 then 0 else 1
def sz_121 (E : Nat → Nat) (h : ZH) (a0 : Int32) : Prop := True
set_option maxRecDepth 20000 in
theorem fb_121 {E : Nat → Nat} {h : ZH} {a0 : Int32} : fz_121 E h a0 = 0 ∨ fz_121 E h a0 = 1 := by
  unfold fz_121
  (try dsimp only)
  (repeat' split) <;> first | (left; rfl) | (right; rfl)
set_option maxRecDepth 20000 in
theorem cz_121 {E : Nat → Nat} {d : Nat} {a0 : Int32} {h : ZH} {Q : Option Value → ZH → Prop} (hd : 1 ≤ d) (hs : sz_121 E h a0) (hq : Q (some (.int (fz_121 E h a0))) h) : Ct E d 121 [.int a0] h Q := by
  obtain ⟨d, rfl⟩ : ∃ n, d = n + 1 := ⟨d - 1, by omega⟩
  refine ok_121 ?_
  unfold w_121
  unfold sz_121 at hs
  unfold fz_121 at hq
  exact hq
theorem zq_122 : zQ 122 1 1 10 := by unfold zQ; decide +kernel
theorem zi_122_0 : (zM 122).1[0]? = some (.iload 0) := by rfl
theorem zi_122_1 : (zM 122).1[1]? = some (.ifCond .lt ((7 : Nat) : Int)) := by rfl
theorem zi_122_2 : (zM 122).1[2]? = some (.iload 0) := by rfl
theorem zi_122_3 : (zM 122).1[3]? = some (.iconst 8) := by rfl
theorem zi_122_4 : (zM 122).1[4]? = some (.if_icmp .gt ((7 : Nat) : Int)) := by rfl
theorem zi_122_5 : (zM 122).1[5]? = some (.iconst 1) := by rfl
theorem zi_122_6 : (zM 122).1[6]? = some (.goto ((8 : Nat) : Int)) := by rfl
theorem zi_122_7 : (zM 122).1[7]? = some (.iconst 0) := by rfl
theorem zi_122_8 : (zM 122).1[8]? = some (.ireturn) := by rfl
/-- TakeOrPay.isCredit(I)Z -/
def w_122 (E : Nat → Nat) (d : Nat) (a0 : Int32) (h : ZH) (Q : Option Value → ZH → Prop) : Prop := Q (some (.int (if a0 < 0 then 0 else if 8 < a0 then 0 else 1))) h
set_option maxRecDepth 20000 in
theorem ok_122 {E : Nat → Nat} {d : Nat} {a0 : Int32} {h : ZH} {Q : Option Value → ZH → Prop} (hw : w_122 E d a0 h Q) : Ct E (d + 1) 122 [.int a0] h Q := by
  unfold w_122 at hw
  show Gx E (d + 1) 122 0 [.int a0] [] h Q
  refine zg_iload zi_122_0 rfl ?_
  have g1 : Gx E (d + 1) 122 8 [.int a0] [.int (if a0 < 0 then 0 else if 8 < a0 then 0 else 1)] h Q := by
    exact zg_zreturn zi_122_8 (by (repeat' split) <;> first | (left; rfl) | (right; rfl)) hw
  refine zg_if_lt zi_122_1 (fun hc1 => ?_) (fun hc1 => ?_)
  · skip
    refine zg_const (v := 0) zi_122_7 (by rfl) ?_
    have hg := g1
    simp only [if_pos hc1] at hg
    exact hg
  · skip
    refine zg_iload zi_122_2 rfl ?_
    refine zg_const (v := 8) zi_122_3 (by rfl) ?_
    have g4 : Gx E (d + 1) 122 8 [.int a0] [.int (if 8 < a0 then 0 else 1)] h Q := by
      have hg := g1
      simp only [if_neg hc1] at hg
      exact hg
    refine zg_icmp_gt zi_122_4 (fun hc4 => ?_) (fun hc4 => ?_)
    · skip
      refine zg_const (v := 0) zi_122_7 (by rfl) ?_
      have hg := g4
      simp only [if_pos hc4] at hg
      exact hg
    · skip
      refine zg_const (v := 1) zi_122_5 (by rfl) ?_
      refine zg_goto zi_122_6 ?_
      have hg := g4
      simp only [if_neg hc4] at hg
      exact hg
def fz_122 (E : Nat → Nat) (h : ZH) (a0 : Int32) : Int32 := if a0 < 0 then 0 else if 8 < a0 then 0 else 1
def sz_122 (E : Nat → Nat) (h : ZH) (a0 : Int32) : Prop := True
set_option maxRecDepth 20000 in
theorem fb_122 {E : Nat → Nat} {h : ZH} {a0 : Int32} : fz_122 E h a0 = 0 ∨ fz_122 E h a0 = 1 := by
  unfold fz_122
  (try dsimp only)
  (repeat' split) <;> first | (left; rfl) | (right; rfl)
set_option maxRecDepth 20000 in
theorem cz_122 {E : Nat → Nat} {d : Nat} {a0 : Int32} {h : ZH} {Q : Option Value → ZH → Prop} (hd : 1 ≤ d) (hs : sz_122 E h a0) (hq : Q (some (.int (fz_122 E h a0))) h) : Ct E d 122 [.int a0] h Q := by
  obtain ⟨d, rfl⟩ : ∃ n, d = n + 1 := ⟨d - 1, by omega⟩
  refine ok_122 ?_
  unfold w_122
  unfold sz_122 at hs
  unfold fz_122 at hq
  exact hq
theorem zq_127 : zQ 127 6 7 10 := by unfold zQ; decide +kernel
theorem zi_127_0 : (zM 127).1[0]? = some (.iload 2) := by rfl
theorem zi_127_1 : (zM 127).1[1]? = some (.invokestatic 121) := by rfl
theorem zi_127_2 : (zM 127).1[2]? = some (.ifCond .eq ((13 : Nat) : Int)) := by rfl
theorem zi_127_3 : (zM 127).1[3]? = some (.iload 3) := by rfl
theorem zi_127_4 : (zM 127).1[4]? = some (.ifCond .lt ((13 : Nat) : Int)) := by rfl
theorem zi_127_5 : (zM 127).1[5]? = some (.iload 3) := by rfl
theorem zi_127_6 : (zM 127).1[6]? = some (.iconst 12) := by rfl
theorem zi_127_7 : (zM 127).1[7]? = some (.if_icmp .gt ((13 : Nat) : Int)) := by rfl
theorem zi_127_8 : (zM 127).1[8]? = some (.iload 4) := by rfl
theorem zi_127_9 : (zM 127).1[9]? = some (.invokestatic 122) := by rfl
theorem zi_127_10 : (zM 127).1[10]? = some (.ifCond .eq ((13 : Nat) : Int)) := by rfl
theorem zi_127_11 : (zM 127).1[11]? = some (.iconst 1) := by rfl
theorem zi_127_12 : (zM 127).1[12]? = some (.goto ((14 : Nat) : Int)) := by rfl
theorem zi_127_13 : (zM 127).1[13]? = some (.iconst 0) := by rfl
theorem zi_127_14 : (zM 127).1[14]? = some (.istore 6) := by rfl
theorem zi_127_15 : (zM 127).1[15]? = some (.aload 0) := by rfl
theorem zi_127_16 : (zM 127).1[16]? = some (.getfield 10200) := by rfl
theorem zi_127_17 : (zM 127).1[17]? = some (.iload 1) := by rfl
theorem zi_127_18 : (zM 127).1[18]? = some (.invokevirtual 35) := by rfl
theorem zi_127_19 : (zM 127).1[19]? = some (.ifCond .eq ((27 : Nat) : Int)) := by rfl
theorem zi_127_20 : (zM 127).1[20]? = some (.iload 6) := by rfl
theorem zi_127_21 : (zM 127).1[21]? = some (.ifCond .eq ((27 : Nat) : Int)) := by rfl
theorem zi_127_22 : (zM 127).1[22]? = some (.iload 5) := by rfl
theorem zi_127_23 : (zM 127).1[23]? = some (.invokestatic 120) := by rfl
theorem zi_127_24 : (zM 127).1[24]? = some (.ifCond .eq ((27 : Nat) : Int)) := by rfl
theorem zi_127_25 : (zM 127).1[25]? = some (.iconst 1) := by rfl
theorem zi_127_26 : (zM 127).1[26]? = some (.goto ((28 : Nat) : Int)) := by rfl
theorem zi_127_27 : (zM 127).1[27]? = some (.iconst 0) := by rfl
theorem zi_127_28 : (zM 127).1[28]? = some (.ireturn) := by rfl
/-- TakeOrPay.isPlace(IIIII)Z -/
def w_127 (E : Nat → Nat) (d : Nat) (a0 : Nat) (a1 : Int32) (a2 : Int32) (a3 : Int32) (a4 : Int32) (a5 : Int32) (h : ZH) (Q : Option Value → ZH → Prop) : Prop := 1 ≤ d ∧ sz_121 E h a2 ∧ ((((fz_121 E h a2 : Int32) = 0 → (True)) ∧ (¬ ((fz_121 E h a2 : Int32) = 0) → (((a3 < 0 → (True)) ∧ (¬ (a3 < 0) → (((12 < a3 → (True)) ∧ (¬ (12 < a3) → (1 ≤ d ∧ sz_122 E h a4 ∧ True))) ∧ True))) ∧ True))) ∧ ∀ x1 : Int32, x1 = (if (fz_121 E h a2 : Int32) = 0 then 0 else if a3 < 0 then 0 else if 12 < a3 then 0 else if (fz_122 E h a4 : Int32) = 0 then 0 else 1) → ztag h a0 = 10 ∧ ∃ r3 : Nat, zR h a0 0 = r3 + 1 ∧ ztag h r3 = 3 ∧ 1 ≤ d ∧ sz_35 E h r3 a1 ∧ ((((fz_35 E h r3 a1 : Int32) = 0 → (True)) ∧ (¬ ((fz_35 E h r3 a1 : Int32) = 0) → (((x1 = 0 → (True)) ∧ (¬ (x1 = 0) → (1 ≤ d ∧ sz_120 E h a5 ∧ True))) ∧ True))) ∧ Q (some (.int (if (fz_35 E h r3 a1 : Int32) = 0 then 0 else if x1 = 0 then 0 else if (fz_120 E h a5 : Int32) = 0 then 0 else 1))) h))
set_option maxRecDepth 20000 in
theorem ok_127 {E : Nat → Nat} {d : Nat} {a0 : Nat} {a1 : Int32} {a2 : Int32} {a3 : Int32} {a4 : Int32} {a5 : Int32} {h : ZH} {Q : Option Value → ZH → Prop} (hw : w_127 E d a0 a1 a2 a3 a4 a5 h Q) : Ct E (d + 1) 127 [.ref a0, .int a1, .int a2, .int a3, .int a4, .int a5] h Q := by
  unfold w_127 at hw
  show Gx E (d + 1) 127 0 [.ref a0, .int a1, .int a2, .int a3, .int a4, .int a5, .retAddr 0] [] h Q
  refine zg_iload zi_127_0 rfl ?_
  obtain ⟨hd, hs, hw⟩ := hw
  refine Gx.call2 (as := [.int a2]) (rest := []) zq_121 zi_127_1 rfl rfl rfl (Nat.le_of_ble_eq_true rfl) (Nat.le_of_ble_eq_true rfl) (rfl) (Nat.le_of_ble_eq_true rfl) ?_
  refine cz_121 hd hs ?_
  show Gx E (d + 1) 127 2 [.ref a0, .int a1, .int a2, .int a3, .int a4, .int a5, .retAddr 0] [.int (fz_121 E h a2)] h Q
  obtain ⟨hsd2, hw⟩ := hw
  have g2 : Gx E (d + 1) 127 14 [.ref a0, .int a1, .int a2, .int a3, .int a4, .int a5, .retAddr 0] [.int (if (fz_121 E h a2 : Int32) = 0 then 0 else if a3 < 0 then 0 else if 12 < a3 then 0 else if (fz_122 E h a4 : Int32) = 0 then 0 else 1)] h Q := by
    refine zg_nameI fun x1 ex1 => ?_
    have hw := hw x1 ex1
    refine zg_istore (ls1 := [.ref a0, .int a1, .int a2, .int a3, .int a4, .int a5, .int x1]) zi_127_14 (Nat.le_of_ble_eq_true rfl) rfl ?_
    refine zg_aload zi_127_15 rfl ?_
    obtain ⟨t2, hw⟩ := hw
    obtain ⟨r3, er3, hw⟩ := hw
    refine zg_getR (v := .ref r3) zi_127_16 t2 (by rfl) (by show zrv (zR h a0 0) = _; rw [er3]; rfl) ?_
    refine zg_iload zi_127_17 rfl ?_
    obtain ⟨t4, hw⟩ := hw
    obtain ⟨hd, hs, hw⟩ := hw
    refine Gx.call2 (as := [.ref r3, .int a1]) (rest := []) zq_35 zi_127_18 rfl rfl rfl (Nat.le_of_ble_eq_true rfl) (Nat.le_of_ble_eq_true rfl) (zrv_v t4 rfl rfl) (Nat.le_of_ble_eq_true rfl) ?_
    refine cz_35 hd hs ?_
    show Gx E (d + 1) 127 19 [.ref a0, .int a1, .int a2, .int a3, .int a4, .int a5, .int x1] [.int (fz_35 E h r3 a1)] h Q
    obtain ⟨hsd19, hw⟩ := hw
    have g19 : Gx E (d + 1) 127 28 [.ref a0, .int a1, .int a2, .int a3, .int a4, .int a5, .int x1] [.int (if (fz_35 E h r3 a1 : Int32) = 0 then 0 else if x1 = 0 then 0 else if (fz_120 E h a5 : Int32) = 0 then 0 else 1)] h Q := by
      exact zg_zreturn zi_127_28 (by (repeat' split) <;> first | (left; rfl) | (right; rfl) | exact fb_35 | exact fb_120) hw
    refine zg_if_eq zi_127_19 (fun hc19 => ?_) (fun hc19 => ?_)
    · have hw := hsd19.1 hc19
      refine zg_const (v := 0) zi_127_27 (by rfl) ?_
      have hg := g19
      simp only [if_pos hc19] at hg
      exact hg
    · have hw := hsd19.2 hc19
      refine zg_iload zi_127_20 rfl ?_
      obtain ⟨hsd21, hw⟩ := hw
      have g21 : Gx E (d + 1) 127 28 [.ref a0, .int a1, .int a2, .int a3, .int a4, .int a5, .int x1] [.int (if x1 = 0 then 0 else if (fz_120 E h a5 : Int32) = 0 then 0 else 1)] h Q := by
        have hg := g19
        simp only [if_neg hc19] at hg
        exact hg
      refine zg_if_eq zi_127_21 (fun hc21 => ?_) (fun hc21 => ?_)
      · have hw := hsd21.1 hc21
        refine zg_const (v := 0) zi_127_27 (by rfl) ?_
        have hg := g21
        simp only [if_pos hc21] at hg
        exact hg
      · have hw := hsd21.2 hc21
        refine zg_iload zi_127_22 rfl ?_
        obtain ⟨hd, hs, hw⟩ := hw
        refine Gx.call2 (as := [.int a5]) (rest := []) zq_120 zi_127_23 rfl rfl rfl (Nat.le_of_ble_eq_true rfl) (Nat.le_of_ble_eq_true rfl) (rfl) (Nat.le_of_ble_eq_true rfl) ?_
        refine cz_120 hd hs ?_
        show Gx E (d + 1) 127 24 [.ref a0, .int a1, .int a2, .int a3, .int a4, .int a5, .int x1] [.int (fz_120 E h a5)] h Q
        have g24 : Gx E (d + 1) 127 28 [.ref a0, .int a1, .int a2, .int a3, .int a4, .int a5, .int x1] [.int (if (fz_120 E h a5 : Int32) = 0 then 0 else 1)] h Q := by
          have hg := g21
          simp only [if_neg hc21] at hg
          exact hg
        refine zg_if_eq zi_127_24 (fun hc24 => ?_) (fun hc24 => ?_)
        · skip
          refine zg_const (v := 0) zi_127_27 (by rfl) ?_
          have hg := g24
          simp only [if_pos hc24] at hg
          exact hg
        · skip
          refine zg_const (v := 1) zi_127_25 (by rfl) ?_
          refine zg_goto zi_127_26 ?_
          have hg := g24
          simp only [if_neg hc24] at hg
          exact hg
  refine zg_if_eq zi_127_2 (fun hc2 => ?_) (fun hc2 => ?_)
  · have hw := hsd2.1 hc2
    refine zg_const (v := 0) zi_127_13 (by rfl) ?_
    have hg := g2
    simp only [if_pos hc2] at hg
    exact hg
  · have hw := hsd2.2 hc2
    refine zg_iload zi_127_3 rfl ?_
    obtain ⟨hsd4, hw⟩ := hw
    have g4 : Gx E (d + 1) 127 14 [.ref a0, .int a1, .int a2, .int a3, .int a4, .int a5, .retAddr 0] [.int (if a3 < 0 then 0 else if 12 < a3 then 0 else if (fz_122 E h a4 : Int32) = 0 then 0 else 1)] h Q := by
      have hg := g2
      simp only [if_neg hc2] at hg
      exact hg
    refine zg_if_lt zi_127_4 (fun hc4 => ?_) (fun hc4 => ?_)
    · have hw := hsd4.1 hc4
      refine zg_const (v := 0) zi_127_13 (by rfl) ?_
      have hg := g4
      simp only [if_pos hc4] at hg
      exact hg
    · have hw := hsd4.2 hc4
      refine zg_iload zi_127_5 rfl ?_
      refine zg_const (v := 12) zi_127_6 (by rfl) ?_
      obtain ⟨hsd7, hw⟩ := hw
      have g7 : Gx E (d + 1) 127 14 [.ref a0, .int a1, .int a2, .int a3, .int a4, .int a5, .retAddr 0] [.int (if 12 < a3 then 0 else if (fz_122 E h a4 : Int32) = 0 then 0 else 1)] h Q := by
        have hg := g4
        simp only [if_neg hc4] at hg
        exact hg
      refine zg_icmp_gt zi_127_7 (fun hc7 => ?_) (fun hc7 => ?_)
      · have hw := hsd7.1 hc7
        refine zg_const (v := 0) zi_127_13 (by rfl) ?_
        have hg := g7
        simp only [if_pos hc7] at hg
        exact hg
      · have hw := hsd7.2 hc7
        refine zg_iload zi_127_8 rfl ?_
        obtain ⟨hd, hs, hw⟩ := hw
        refine Gx.call2 (as := [.int a4]) (rest := []) zq_122 zi_127_9 rfl rfl rfl (Nat.le_of_ble_eq_true rfl) (Nat.le_of_ble_eq_true rfl) (rfl) (Nat.le_of_ble_eq_true rfl) ?_
        refine cz_122 hd hs ?_
        show Gx E (d + 1) 127 10 [.ref a0, .int a1, .int a2, .int a3, .int a4, .int a5, .retAddr 0] [.int (fz_122 E h a4)] h Q
        have g10 : Gx E (d + 1) 127 14 [.ref a0, .int a1, .int a2, .int a3, .int a4, .int a5, .retAddr 0] [.int (if (fz_122 E h a4 : Int32) = 0 then 0 else 1)] h Q := by
          have hg := g7
          simp only [if_neg hc7] at hg
          exact hg
        refine zg_if_eq zi_127_10 (fun hc10 => ?_) (fun hc10 => ?_)
        · skip
          refine zg_const (v := 0) zi_127_13 (by rfl) ?_
          have hg := g10
          simp only [if_pos hc10] at hg
          exact hg
        · skip
          refine zg_const (v := 1) zi_127_11 (by rfl) ?_
          refine zg_goto zi_127_12 ?_
          have hg := g10
          simp only [if_neg hc10] at hg
          exact hg
def fz_127 (E : Nat → Nat) (h : ZH) (a0 : Nat) (a1 : Int32) (a2 : Int32) (a3 : Int32) (a4 : Int32) (a5 : Int32) : Int32 := let x1 : Int32 := (if (fz_121 E h a2 : Int32) = 0 then 0 else if a3 < 0 then 0 else if 12 < a3 then 0 else if (fz_122 E h a4 : Int32) = 0 then 0 else 1); (fun r3 : Nat => if (fz_35 E h r3 a1 : Int32) = 0 then 0 else if x1 = 0 then 0 else if (fz_120 E h a5 : Int32) = 0 then 0 else 1) (zR h a0 0 - 1)
def sz_127 (E : Nat → Nat) (h : ZH) (a0 : Nat) (a1 : Int32) (a2 : Int32) (a3 : Int32) (a4 : Int32) (a5 : Int32) : Prop := sz_121 E h a2 ∧ ((((fz_121 E h a2 : Int32) = 0 → (True)) ∧ (¬ ((fz_121 E h a2 : Int32) = 0) → (((a3 < 0 → (True)) ∧ (¬ (a3 < 0) → (((12 < a3 → (True)) ∧ (¬ (12 < a3) → (sz_122 E h a4 ∧ True))) ∧ True))) ∧ True))) ∧ ∀ x1 : Int32, x1 = (if (fz_121 E h a2 : Int32) = 0 then 0 else if a3 < 0 then 0 else if 12 < a3 then 0 else if (fz_122 E h a4 : Int32) = 0 then 0 else 1) → ztag h a0 = 10 ∧ ∃ r3 : Nat, zR h a0 0 = r3 + 1 ∧ ztag h r3 = 3 ∧ sz_35 E h r3 a1 ∧ ((((fz_35 E h r3 a1 : Int32) = 0 → (True)) ∧ (¬ ((fz_35 E h r3 a1 : Int32) = 0) → (((x1 = 0 → (True)) ∧ (¬ (x1 = 0) → (sz_120 E h a5 ∧ True))) ∧ True))) ∧ True))
set_option maxRecDepth 20000 in
theorem fb_127 {E : Nat → Nat} {h : ZH} {a0 : Nat} {a1 : Int32} {a2 : Int32} {a3 : Int32} {a4 : Int32} {a5 : Int32} : fz_127 E h a0 a1 a2 a3 a4 a5 = 0 ∨ fz_127 E h a0 a1 a2 a3 a4 a5 = 1 := by
  unfold fz_127
  (try dsimp only)
  (repeat' split) <;> first | (left; rfl) | (right; rfl) | exact fb_35 | exact fb_120 | exact fb_121 | exact fb_122
set_option maxRecDepth 20000 in
theorem cz_127 {E : Nat → Nat} {d : Nat} {a0 : Nat} {a1 : Int32} {a2 : Int32} {a3 : Int32} {a4 : Int32} {a5 : Int32} {h : ZH} {Q : Option Value → ZH → Prop} (hd : 2 ≤ d) (hs : sz_127 E h a0 a1 a2 a3 a4 a5) (hq : Q (some (.int (fz_127 E h a0 a1 a2 a3 a4 a5))) h) : Ct E d 127 [.ref a0, .int a1, .int a2, .int a3, .int a4, .int a5] h Q := by
  obtain ⟨d, rfl⟩ : ∃ n, d = n + 1 := ⟨d - 1, by omega⟩
  refine ok_127 ?_
  unfold w_127
  unfold sz_127 at hs
  unfold fz_127 at hq
  refine ⟨by omega, ?_⟩
  refine ⟨hs.1, ?_⟩
  have hs := hs.2
  refine ⟨⟨fun hc => ?_, fun hc => ?_⟩, ?_⟩
  · have hs := hs.1.1 hc
    trivial
  · have hs := hs.1.2 hc
    refine ⟨⟨fun hc => ?_, fun hc => ?_⟩, ?_⟩
    · have hs := hs.1.1 hc
      trivial
    · have hs := hs.1.2 hc
      refine ⟨⟨fun hc => ?_, fun hc => ?_⟩, ?_⟩
      · have hs := hs.1.1 hc
        trivial
      · have hs := hs.1.2 hc
        refine ⟨by omega, ?_⟩
        refine ⟨hs.1, ?_⟩
        have hs := hs.2
        trivial
      have hs := hs.2
      trivial
    have hs := hs.2
    trivial
  have hs := hs.2
  intro x1 ex1
  have hs := hs x1 ex1
  subst ex1
  refine ⟨hs.1, ?_⟩
  have hs := hs.2
  obtain ⟨r3, hr, hs⟩ := hs
  refine ⟨r3, hr, ?_⟩
  rw [hr] at hq
  simp only [Nat.add_sub_cancel] at hq
  refine ⟨hs.1, ?_⟩
  have hs := hs.2
  refine ⟨by omega, ?_⟩
  refine ⟨hs.1, ?_⟩
  have hs := hs.2
  refine ⟨⟨fun hc => ?_, fun hc => ?_⟩, ?_⟩
  · have hs := hs.1.1 hc
    trivial
  · have hs := hs.1.2 hc
    refine ⟨⟨fun hc => ?_, fun hc => ?_⟩, ?_⟩
    · have hs := hs.1.1 hc
      trivial
    · have hs := hs.1.2 hc
      refine ⟨by omega, ?_⟩
      refine ⟨hs.1, ?_⟩
      have hs := hs.2
      trivial
    have hs := hs.2
    trivial
  have hs := hs.2
  exact hq
theorem zq_98 : zQ 98 8 9 10 := by unfold zQ; decide +kernel
theorem zi_98_0 : (zM 98).1[0]? = some (.iload 6) := by rfl
theorem zi_98_1 : (zM 98).1[1]? = some (.ifCond .lt ((12 : Nat) : Int)) := by rfl
theorem zi_98_2 : (zM 98).1[2]? = some (.iload 6) := by rfl
theorem zi_98_3 : (zM 98).1[3]? = some (.iconst 4) := by rfl
theorem zi_98_4 : (zM 98).1[4]? = some (.if_icmp .gt ((12 : Nat) : Int)) := by rfl
theorem zi_98_5 : (zM 98).1[5]? = some (.iload 7) := by rfl
theorem zi_98_6 : (zM 98).1[6]? = some (.ifCond .lt ((12 : Nat) : Int)) := by rfl
theorem zi_98_7 : (zM 98).1[7]? = some (.iload 7) := by rfl
theorem zi_98_8 : (zM 98).1[8]? = some (.iconst 3) := by rfl
theorem zi_98_9 : (zM 98).1[9]? = some (.if_icmp .gt ((12 : Nat) : Int)) := by rfl
theorem zi_98_10 : (zM 98).1[10]? = some (.iconst 1) := by rfl
theorem zi_98_11 : (zM 98).1[11]? = some (.goto ((13 : Nat) : Int)) := by rfl
theorem zi_98_12 : (zM 98).1[12]? = some (.iconst 0) := by rfl
theorem zi_98_13 : (zM 98).1[13]? = some (.istore 8) := by rfl
theorem zi_98_14 : (zM 98).1[14]? = some (.iload 8) := by rfl
theorem zi_98_15 : (zM 98).1[15]? = some (.ifCond .eq ((24 : Nat) : Int)) := by rfl
theorem zi_98_16 : (zM 98).1[16]? = some (.aload 0) := by rfl
theorem zi_98_17 : (zM 98).1[17]? = some (.iload 1) := by rfl
theorem zi_98_18 : (zM 98).1[18]? = some (.iload 2) := by rfl
theorem zi_98_19 : (zM 98).1[19]? = some (.iload 3) := by rfl
theorem zi_98_20 : (zM 98).1[20]? = some (.iload 4) := by rfl
theorem zi_98_21 : (zM 98).1[21]? = some (.iload 5) := by rfl
theorem zi_98_22 : (zM 98).1[22]? = some (.invokevirtual 127) := by rfl
theorem zi_98_23 : (zM 98).1[23]? = some (.ifCond .ne ((26 : Nat) : Int)) := by rfl
theorem zi_98_24 : (zM 98).1[24]? = some (.iconst (-1000000)) := by rfl
theorem zi_98_25 : (zM 98).1[25]? = some (.ireturn) := by rfl
theorem zi_98_26 : (zM 98).1[26]? = some (.aload 0) := by rfl
theorem zi_98_27 : (zM 98).1[27]? = some (.getfield 10200) := by rfl
theorem zi_98_28 : (zM 98).1[28]? = some (.iload 1) := by rfl
theorem zi_98_29 : (zM 98).1[29]? = some (.iload 6) := by rfl
theorem zi_98_30 : (zM 98).1[30]? = some (.invokevirtual 46) := by rfl
theorem zi_98_31 : (zM 98).1[31]? = some (.ifCond .ne ((34 : Nat) : Int)) := by rfl
theorem zi_98_32 : (zM 98).1[32]? = some (.iconst (-1000002)) := by rfl
theorem zi_98_33 : (zM 98).1[33]? = some (.ireturn) := by rfl
theorem zi_98_34 : (zM 98).1[34]? = some (.aload 0) := by rfl
theorem zi_98_35 : (zM 98).1[35]? = some (.getfield 10205) := by rfl
theorem zi_98_36 : (zM 98).1[36]? = some (.aload 0) := by rfl
theorem zi_98_37 : (zM 98).1[37]? = some (.getfield 10200) := by rfl
theorem zi_98_38 : (zM 98).1[38]? = some (.iload 1) := by rfl
theorem zi_98_39 : (zM 98).1[39]? = some (.iload 2) := by rfl
theorem zi_98_40 : (zM 98).1[40]? = some (.iload 3) := by rfl
theorem zi_98_41 : (zM 98).1[41]? = some (.iload 4) := by rfl
theorem zi_98_42 : (zM 98).1[42]? = some (.iload 6) := by rfl
theorem zi_98_43 : (zM 98).1[43]? = some (.invokevirtual 25) := by rfl
theorem zi_98_44 : (zM 98).1[44]? = some (.iload 7) := by rfl
theorem zi_98_45 : (zM 98).1[45]? = some (.tableswitch 61 0 2 #[46, 50, 54]) := by rfl
theorem zi_98_46 : (zM 98).1[46]? = some (.aload 0) := by rfl
theorem zi_98_47 : (zM 98).1[47]? = some (.getfield 10205) := by rfl
theorem zi_98_48 : (zM 98).1[48]? = some (.getfield 2003) := by rfl
theorem zi_98_49 : (zM 98).1[49]? = some (.ireturn) := by rfl
theorem zi_98_50 : (zM 98).1[50]? = some (.aload 0) := by rfl
theorem zi_98_51 : (zM 98).1[51]? = some (.getfield 10205) := by rfl
theorem zi_98_52 : (zM 98).1[52]? = some (.getfield 2004) := by rfl
theorem zi_98_53 : (zM 98).1[53]? = some (.ireturn) := by rfl
theorem zi_98_54 : (zM 98).1[54]? = some (.aload 0) := by rfl
theorem zi_98_55 : (zM 98).1[55]? = some (.getfield 10205) := by rfl
theorem zi_98_56 : (zM 98).1[56]? = some (.aload 0) := by rfl
theorem zi_98_57 : (zM 98).1[57]? = some (.getfield 10200) := by rfl
theorem zi_98_58 : (zM 98).1[58]? = some (.iload 5) := by rfl
theorem zi_98_59 : (zM 98).1[59]? = some (.invokevirtual 27) := by rfl
theorem zi_98_60 : (zM 98).1[60]? = some (.ireturn) := by rfl
theorem zi_98_61 : (zM 98).1[61]? = some (.aload 0) := by rfl
theorem zi_98_62 : (zM 98).1[62]? = some (.getfield 10205) := by rfl
theorem zi_98_63 : (zM 98).1[63]? = some (.aload 0) := by rfl
theorem zi_98_64 : (zM 98).1[64]? = some (.getfield 10200) := by rfl
theorem zi_98_65 : (zM 98).1[65]? = some (.iload 5) := by rfl
theorem zi_98_66 : (zM 98).1[66]? = some (.invokevirtual 28) := by rfl
theorem zi_98_67 : (zM 98).1[67]? = some (.ireturn) := by rfl
set_option maxRecDepth 20000 in
theorem zsl_98_45 : ∀ z : Int, ¬ (z < 0 ∨ 2 < z) → ¬ z = 0 → ¬ z = 1 →  z = 2 := by intros; omega
/-- TakeOrPay.takes(IIIIIII)I -/
def w_98 (E : Nat → Nat) (d : Nat) (a0 : Nat) (a1 : Int32) (a2 : Int32) (a3 : Int32) (a4 : Int32) (a5 : Int32) (a6 : Int32) (a7 : Int32) (h : ZH) (Q : Option Value → ZH → Prop) : Prop := ∀ x1 : Int32, x1 = (if a6 < 0 then 0 else if 4 < a6 then 0 else if a7 < 0 then 0 else if 3 < a7 then 0 else 1) → ((x1 = 0 → (Q (some (.int ((-1000000)))) h)) ∧ (¬ (x1 = 0) → (ztag h a0 = 10 ∧ 2 ≤ d ∧ sz_127 E h a0 a1 a2 a3 a4 a5 ∧ ((¬ (fz_127 E h a0 a1 a2 a3 a4 a5 : Int32) = 0 → (∃ r3 : Nat, zR h a0 0 = r3 + 1 ∧ ztag h r3 = 3 ∧ 2 ≤ d ∧ sz_46 E h r3 a1 a6 ∧ ((¬ (fz_46 E h r3 a1 a6 : Int32) = 0 → (∃ r5 : Nat, zR h a0 5 = r5 + 1 ∧ ztag h r5 = 2 ∧ Ct E d 25 [.ref r5, .ref r3, .int a1, .int a2, .int a3, .int a4, .int a6] h (fun v h7 => v = none ∧ (((a7.toInt < 0 ∨ 2 < a7.toInt) → (ztag h7 a0 = 10 ∧ ∃ r9 : Nat, zR h7 a0 5 = r9 + 1 ∧ ∃ r10 : Nat, zR h7 a0 0 = r10 + 1 ∧ ztag h7 r9 = 2 ∧ 3 ≤ d ∧ sz_28 E h7 r9 r10 a5 ∧ Q (some (.int (fz_28 E h7 r9 r10 a5))) h7)) ∧ (a7.toInt = 0 → (ztag h7 a0 = 10 ∧ ∃ r13 : Nat, zR h7 a0 5 = r13 + 1 ∧ ztag h7 r13 = 2 ∧ Q (some (.int (zI h7 r13 3))) h7)) ∧ (a7.toInt = 1 → (ztag h7 a0 = 10 ∧ ∃ r16 : Nat, zR h7 a0 5 = r16 + 1 ∧ ztag h7 r16 = 2 ∧ Q (some (.int (zI h7 r16 4))) h7)) ∧ (a7.toInt = 2 → (ztag h7 a0 = 10 ∧ ∃ r19 : Nat, zR h7 a0 5 = r19 + 1 ∧ ∃ r20 : Nat, zR h7 a0 0 = r20 + 1 ∧ ztag h7 r19 = 2 ∧ 2 ≤ d ∧ sz_27 E h7 r19 r20 a5 ∧ Q (some (.int (fz_27 E h7 r19 r20 a5))) h7)))))) ∧ (¬ (¬ (fz_46 E h r3 a1 a6 : Int32) = 0) → (Q (some (.int ((-1000002)))) h))))) ∧ (¬ (¬ (fz_127 E h a0 a1 a2 a3 a4 a5 : Int32) = 0) → (Q (some (.int ((-1000000)))) h))))))
set_option maxRecDepth 20000 in
theorem ok_98 {E : Nat → Nat} {d : Nat} {a0 : Nat} {a1 : Int32} {a2 : Int32} {a3 : Int32} {a4 : Int32} {a5 : Int32} {a6 : Int32} {a7 : Int32} {h : ZH} {Q : Option Value → ZH → Prop} (hw : w_98 E d a0 a1 a2 a3 a4 a5 a6 a7 h Q) : Ct E (d + 1) 98 [.ref a0, .int a1, .int a2, .int a3, .int a4, .int a5, .int a6, .int a7] h Q := by
  unfold w_98 at hw
  show Gx E (d + 1) 98 0 [.ref a0, .int a1, .int a2, .int a3, .int a4, .int a5, .int a6, .int a7, .retAddr 0] [] h Q
  refine zg_iload zi_98_0 rfl ?_
  have g1 : Gx E (d + 1) 98 13 [.ref a0, .int a1, .int a2, .int a3, .int a4, .int a5, .int a6, .int a7, .retAddr 0] [.int (if a6 < 0 then 0 else if 4 < a6 then 0 else if a7 < 0 then 0 else if 3 < a7 then 0 else 1)] h Q := by
    refine zg_nameI fun x1 ex1 => ?_
    have hw := hw x1 ex1
    refine zg_istore (ls1 := [.ref a0, .int a1, .int a2, .int a3, .int a4, .int a5, .int a6, .int a7, .int x1]) zi_98_13 (Nat.le_of_ble_eq_true rfl) rfl ?_
    refine zg_iload zi_98_14 rfl ?_
    refine zg_if_eq zi_98_15 (fun hc => ?_) (fun hc => ?_)
    · have hw := hw.1 hc
      refine zg_const (v := (-1000000)) zi_98_24 (by rfl) ?_
      exact zg_ireturn zi_98_25 (by decide) hw
    · have hw := hw.2 hc
      refine zg_aload zi_98_16 rfl ?_
      refine zg_iload zi_98_17 rfl ?_
      refine zg_iload zi_98_18 rfl ?_
      refine zg_iload zi_98_19 rfl ?_
      refine zg_iload zi_98_20 rfl ?_
      refine zg_iload zi_98_21 rfl ?_
      obtain ⟨t2, hw⟩ := hw
      obtain ⟨hd, hs, hw⟩ := hw
      refine Gx.call2 (as := [.ref a0, .int a1, .int a2, .int a3, .int a4, .int a5]) (rest := []) zq_127 zi_98_22 rfl rfl rfl (Nat.le_of_ble_eq_true rfl) (Nat.le_of_ble_eq_true rfl) (zrv_v t2 rfl rfl) (Nat.le_of_ble_eq_true rfl) ?_
      refine cz_127 hd hs ?_
      show Gx E (d + 1) 98 23 [.ref a0, .int a1, .int a2, .int a3, .int a4, .int a5, .int a6, .int a7, .int x1] [.int (fz_127 E h a0 a1 a2 a3 a4 a5)] h Q
      refine zg_if_ne zi_98_23 (fun hc => ?_) (fun hc => ?_)
      · have hw := hw.1 hc
        refine zg_aload zi_98_26 rfl ?_
        obtain ⟨r3, er3, hw⟩ := hw
        refine zg_getR (v := .ref r3) zi_98_27 t2 (by rfl) (by show zrv (zR h a0 0) = _; rw [er3]; rfl) ?_
        refine zg_iload zi_98_28 rfl ?_
        refine zg_iload zi_98_29 rfl ?_
        obtain ⟨t4, hw⟩ := hw
        obtain ⟨hd, hs, hw⟩ := hw
        refine Gx.call2 (as := [.ref r3, .int a1, .int a6]) (rest := []) zq_46 zi_98_30 rfl rfl rfl (Nat.le_of_ble_eq_true rfl) (Nat.le_of_ble_eq_true rfl) (zrv_v t4 rfl rfl) (Nat.le_of_ble_eq_true rfl) ?_
        refine cz_46 hd hs ?_
        show Gx E (d + 1) 98 31 [.ref a0, .int a1, .int a2, .int a3, .int a4, .int a5, .int a6, .int a7, .int x1] [.int (fz_46 E h r3 a1 a6)] h Q
        refine zg_if_ne zi_98_31 (fun hc => ?_) (fun hc => ?_)
        · have hw := hw.1 hc
          refine zg_aload zi_98_34 rfl ?_
          obtain ⟨r5, er5, hw⟩ := hw
          refine zg_getR (v := .ref r5) zi_98_35 t2 (by rfl) (by show zrv (zR h a0 5) = _; rw [er5]; rfl) ?_
          refine zg_aload zi_98_36 rfl ?_
          refine zg_getR (v := .ref r3) zi_98_37 t2 (by rfl) (by show zrv (zR h a0 0) = _; rw [er3]; rfl) ?_
          refine zg_iload zi_98_38 rfl ?_
          refine zg_iload zi_98_39 rfl ?_
          refine zg_iload zi_98_40 rfl ?_
          refine zg_iload zi_98_41 rfl ?_
          refine zg_iload zi_98_42 rfl ?_
          obtain ⟨t6, hw⟩ := hw
          refine Gx.call2 (as := [.ref r5, .ref r3, .int a1, .int a2, .int a3, .int a4, .int a6]) (rest := []) zq_25 zi_98_43 rfl rfl rfl (Nat.le_of_ble_eq_true rfl) (Nat.le_of_ble_eq_true rfl) (zrv_v t6 rfl rfl) (Nat.le_of_ble_eq_true rfl) ?_
          refine Ct.mono hw ?_
          rintro v h7 ⟨rfl, hw⟩
          show Gx E (d + 1) 98 44 [.ref a0, .int a1, .int a2, .int a3, .int a4, .int a5, .int a6, .int a7, .int x1] [] h7 Q
          refine zg_iload zi_98_44 rfl ?_
          by_cases ho : a7.toInt < 0 ∨ 2 < a7.toInt
          · have hw := hw.1 ho
            refine zg_switch (t := 61) zi_98_45 (by unfold zsw; rw [if_pos ho]; rfl) ?_
            refine zg_aload zi_98_61 rfl ?_
            obtain ⟨t8, hw⟩ := hw
            obtain ⟨r9, er9, hw⟩ := hw
            refine zg_getR (v := .ref r9) zi_98_62 t8 (by rfl) (by show zrv (zR h7 a0 5) = _; rw [er9]; rfl) ?_
            refine zg_aload zi_98_63 rfl ?_
            obtain ⟨r10, er10, hw⟩ := hw
            refine zg_getR (v := .ref r10) zi_98_64 t8 (by rfl) (by show zrv (zR h7 a0 0) = _; rw [er10]; rfl) ?_
            refine zg_iload zi_98_65 rfl ?_
            obtain ⟨t11, hw⟩ := hw
            obtain ⟨hd, hs, hw⟩ := hw
            refine Gx.call2 (as := [.ref r9, .ref r10, .int a5]) (rest := []) zq_28 zi_98_66 rfl rfl rfl (Nat.le_of_ble_eq_true rfl) (Nat.le_of_ble_eq_true rfl) (zrv_v t11 rfl rfl) (Nat.le_of_ble_eq_true rfl) ?_
            refine cz_28 hd hs ?_
            show Gx E (d + 1) 98 67 [.ref a0, .int a1, .int a2, .int a3, .int a4, .int a5, .int a6, .int a7, .int x1] [.int (fz_28 E h7 r9 r10 a5)] h7 Q
            exact zg_ireturn zi_98_67 (by decide) hw
          have hw := hw.2
          by_cases hv0 : a7.toInt = 0
          · have hw := hw.1 hv0
            refine zg_switch (t := 46) zi_98_45 (by rw [hv0]; rfl) ?_
            refine zg_aload zi_98_46 rfl ?_
            obtain ⟨t12, hw⟩ := hw
            obtain ⟨r13, er13, hw⟩ := hw
            refine zg_getR (v := .ref r13) zi_98_47 t12 (by rfl) (by show zrv (zR h7 a0 5) = _; rw [er13]; rfl) ?_
            obtain ⟨t14, hw⟩ := hw
            refine zg_getI (v := .int (zI h7 r13 3)) zi_98_48 t14 (by rfl) rfl ?_
            exact zg_ireturn zi_98_49 (by decide) hw
          have hw := hw.2
          by_cases hv1 : a7.toInt = 1
          · have hw := hw.1 hv1
            refine zg_switch (t := 50) zi_98_45 (by rw [hv1]; rfl) ?_
            refine zg_aload zi_98_50 rfl ?_
            obtain ⟨t15, hw⟩ := hw
            obtain ⟨r16, er16, hw⟩ := hw
            refine zg_getR (v := .ref r16) zi_98_51 t15 (by rfl) (by show zrv (zR h7 a0 5) = _; rw [er16]; rfl) ?_
            obtain ⟨t17, hw⟩ := hw
            refine zg_getI (v := .int (zI h7 r16 4)) zi_98_52 t17 (by rfl) rfl ?_
            exact zg_ireturn zi_98_53 (by decide) hw
          have hw := hw.2
          have hv2 : a7.toInt = 2 := zsl_98_45 _ ho hv0 hv1
          have hw := hw hv2
          refine zg_switch (t := 54) zi_98_45 (by rw [hv2]; rfl) ?_
          refine zg_aload zi_98_54 rfl ?_
          obtain ⟨t18, hw⟩ := hw
          obtain ⟨r19, er19, hw⟩ := hw
          refine zg_getR (v := .ref r19) zi_98_55 t18 (by rfl) (by show zrv (zR h7 a0 5) = _; rw [er19]; rfl) ?_
          refine zg_aload zi_98_56 rfl ?_
          obtain ⟨r20, er20, hw⟩ := hw
          refine zg_getR (v := .ref r20) zi_98_57 t18 (by rfl) (by show zrv (zR h7 a0 0) = _; rw [er20]; rfl) ?_
          refine zg_iload zi_98_58 rfl ?_
          obtain ⟨t21, hw⟩ := hw
          obtain ⟨hd, hs, hw⟩ := hw
          refine Gx.call2 (as := [.ref r19, .ref r20, .int a5]) (rest := []) zq_27 zi_98_59 rfl rfl rfl (Nat.le_of_ble_eq_true rfl) (Nat.le_of_ble_eq_true rfl) (zrv_v t21 rfl rfl) (Nat.le_of_ble_eq_true rfl) ?_
          refine cz_27 hd hs ?_
          show Gx E (d + 1) 98 60 [.ref a0, .int a1, .int a2, .int a3, .int a4, .int a5, .int a6, .int a7, .int x1] [.int (fz_27 E h7 r19 r20 a5)] h7 Q
          exact zg_ireturn zi_98_60 (by decide) hw
        · have hw := hw.2 hc
          refine zg_const (v := (-1000002)) zi_98_32 (by rfl) ?_
          exact zg_ireturn zi_98_33 (by decide) hw
      · have hw := hw.2 hc
        refine zg_const (v := (-1000000)) zi_98_24 (by rfl) ?_
        exact zg_ireturn zi_98_25 (by decide) hw
  refine zg_if_lt zi_98_1 (fun hc1 => ?_) (fun hc1 => ?_)
  · skip
    refine zg_const (v := 0) zi_98_12 (by rfl) ?_
    have hg := g1
    simp only [if_pos hc1] at hg
    exact hg
  · skip
    refine zg_iload zi_98_2 rfl ?_
    refine zg_const (v := 4) zi_98_3 (by rfl) ?_
    have g4 : Gx E (d + 1) 98 13 [.ref a0, .int a1, .int a2, .int a3, .int a4, .int a5, .int a6, .int a7, .retAddr 0] [.int (if 4 < a6 then 0 else if a7 < 0 then 0 else if 3 < a7 then 0 else 1)] h Q := by
      have hg := g1
      simp only [if_neg hc1] at hg
      exact hg
    refine zg_icmp_gt zi_98_4 (fun hc4 => ?_) (fun hc4 => ?_)
    · skip
      refine zg_const (v := 0) zi_98_12 (by rfl) ?_
      have hg := g4
      simp only [if_pos hc4] at hg
      exact hg
    · skip
      refine zg_iload zi_98_5 rfl ?_
      have g6 : Gx E (d + 1) 98 13 [.ref a0, .int a1, .int a2, .int a3, .int a4, .int a5, .int a6, .int a7, .retAddr 0] [.int (if a7 < 0 then 0 else if 3 < a7 then 0 else 1)] h Q := by
        have hg := g4
        simp only [if_neg hc4] at hg
        exact hg
      refine zg_if_lt zi_98_6 (fun hc6 => ?_) (fun hc6 => ?_)
      · skip
        refine zg_const (v := 0) zi_98_12 (by rfl) ?_
        have hg := g6
        simp only [if_pos hc6] at hg
        exact hg
      · skip
        refine zg_iload zi_98_7 rfl ?_
        refine zg_const (v := 3) zi_98_8 (by rfl) ?_
        have g9 : Gx E (d + 1) 98 13 [.ref a0, .int a1, .int a2, .int a3, .int a4, .int a5, .int a6, .int a7, .retAddr 0] [.int (if 3 < a7 then 0 else 1)] h Q := by
          have hg := g6
          simp only [if_neg hc6] at hg
          exact hg
        refine zg_icmp_gt zi_98_9 (fun hc9 => ?_) (fun hc9 => ?_)
        · skip
          refine zg_const (v := 0) zi_98_12 (by rfl) ?_
          have hg := g9
          simp only [if_pos hc9] at hg
          exact hg
        · skip
          refine zg_const (v := 1) zi_98_10 (by rfl) ?_
          refine zg_goto zi_98_11 ?_
          have hg := g9
          simp only [if_neg hc9] at hg
          exact hg
theorem zq_99 : zQ 99 5 6 10 := by unfold zQ; decide +kernel
theorem zi_99_0 : (zM 99).1[0]? = some (.iload 2) := by rfl
theorem zi_99_1 : (zM 99).1[1]? = some (.invokestatic 121) := by rfl
theorem zi_99_2 : (zM 99).1[2]? = some (.ifCond .eq ((13 : Nat) : Int)) := by rfl
theorem zi_99_3 : (zM 99).1[3]? = some (.iload 3) := by rfl
theorem zi_99_4 : (zM 99).1[4]? = some (.invokestatic 122) := by rfl
theorem zi_99_5 : (zM 99).1[5]? = some (.ifCond .eq ((13 : Nat) : Int)) := by rfl
theorem zi_99_6 : (zM 99).1[6]? = some (.iload 4) := by rfl
theorem zi_99_7 : (zM 99).1[7]? = some (.ifCond .lt ((13 : Nat) : Int)) := by rfl
theorem zi_99_8 : (zM 99).1[8]? = some (.iload 4) := by rfl
theorem zi_99_9 : (zM 99).1[9]? = some (.iconst 3) := by rfl
theorem zi_99_10 : (zM 99).1[10]? = some (.if_icmp .gt ((13 : Nat) : Int)) := by rfl
theorem zi_99_11 : (zM 99).1[11]? = some (.iconst 1) := by rfl
theorem zi_99_12 : (zM 99).1[12]? = some (.goto ((14 : Nat) : Int)) := by rfl
theorem zi_99_13 : (zM 99).1[13]? = some (.iconst 0) := by rfl
theorem zi_99_14 : (zM 99).1[14]? = some (.istore 5) := by rfl
theorem zi_99_15 : (zM 99).1[15]? = some (.iload 5) := by rfl
theorem zi_99_16 : (zM 99).1[16]? = some (.ifCond .eq ((22 : Nat) : Int)) := by rfl
theorem zi_99_17 : (zM 99).1[17]? = some (.aload 0) := by rfl
theorem zi_99_18 : (zM 99).1[18]? = some (.getfield 10200) := by rfl
theorem zi_99_19 : (zM 99).1[19]? = some (.iload 1) := by rfl
theorem zi_99_20 : (zM 99).1[20]? = some (.invokevirtual 36) := by rfl
theorem zi_99_21 : (zM 99).1[21]? = some (.ifCond .ne ((24 : Nat) : Int)) := by rfl
theorem zi_99_22 : (zM 99).1[22]? = some (.iconst (-1)) := by rfl
theorem zi_99_23 : (zM 99).1[23]? = some (.ireturn) := by rfl
theorem zi_99_24 : (zM 99).1[24]? = some (.aload 0) := by rfl
theorem zi_99_25 : (zM 99).1[25]? = some (.getfield 10205) := by rfl
theorem zi_99_26 : (zM 99).1[26]? = some (.iload 2) := by rfl
theorem zi_99_27 : (zM 99).1[27]? = some (.iconst 0) := by rfl
theorem zi_99_28 : (zM 99).1[28]? = some (.iload 3) := by rfl
theorem zi_99_29 : (zM 99).1[29]? = some (.invokevirtual 24) := by rfl
theorem zi_99_30 : (zM 99).1[30]? = some (.aload 0) := by rfl
theorem zi_99_31 : (zM 99).1[31]? = some (.getfield 10205) := by rfl
theorem zi_99_32 : (zM 99).1[32]? = some (.aload 0) := by rfl
theorem zi_99_33 : (zM 99).1[33]? = some (.getfield 10200) := by rfl
theorem zi_99_34 : (zM 99).1[34]? = some (.aload 0) := by rfl
theorem zi_99_35 : (zM 99).1[35]? = some (.getfield 10200) := by rfl
theorem zi_99_36 : (zM 99).1[36]? = some (.iload 1) := by rfl
theorem zi_99_37 : (zM 99).1[37]? = some (.invokevirtual 37) := by rfl
theorem zi_99_38 : (zM 99).1[38]? = some (.invokevirtual 26) := by rfl
theorem zi_99_39 : (zM 99).1[39]? = some (.iload 4) := by rfl
theorem zi_99_40 : (zM 99).1[40]? = some (.tableswitch 53 0 2 #[41, 45, 49]) := by rfl
theorem zi_99_41 : (zM 99).1[41]? = some (.aload 0) := by rfl
theorem zi_99_42 : (zM 99).1[42]? = some (.getfield 10205) := by rfl
theorem zi_99_43 : (zM 99).1[43]? = some (.getfield 2006) := by rfl
theorem zi_99_44 : (zM 99).1[44]? = some (.ireturn) := by rfl
theorem zi_99_45 : (zM 99).1[45]? = some (.aload 0) := by rfl
theorem zi_99_46 : (zM 99).1[46]? = some (.getfield 10205) := by rfl
theorem zi_99_47 : (zM 99).1[47]? = some (.getfield 2008) := by rfl
theorem zi_99_48 : (zM 99).1[48]? = some (.ireturn) := by rfl
theorem zi_99_49 : (zM 99).1[49]? = some (.aload 0) := by rfl
theorem zi_99_50 : (zM 99).1[50]? = some (.getfield 10205) := by rfl
theorem zi_99_51 : (zM 99).1[51]? = some (.getfield 2004) := by rfl
theorem zi_99_52 : (zM 99).1[52]? = some (.ireturn) := by rfl
theorem zi_99_53 : (zM 99).1[53]? = some (.aload 0) := by rfl
theorem zi_99_54 : (zM 99).1[54]? = some (.getfield 10205) := by rfl
theorem zi_99_55 : (zM 99).1[55]? = some (.getfield 2005) := by rfl
theorem zi_99_56 : (zM 99).1[56]? = some (.ireturn) := by rfl
set_option maxRecDepth 20000 in
theorem zsl_99_40 : ∀ z : Int, ¬ (z < 0 ∨ 2 < z) → ¬ z = 0 → ¬ z = 1 →  z = 2 := by intros; omega
/-- TakeOrPay.ends(IIII)I -/
def w_99 (E : Nat → Nat) (d : Nat) (a0 : Nat) (a1 : Int32) (a2 : Int32) (a3 : Int32) (a4 : Int32) (h : ZH) (Q : Option Value → ZH → Prop) : Prop := 1 ≤ d ∧ sz_121 E h a2 ∧ ((((fz_121 E h a2 : Int32) = 0 → (True)) ∧ (¬ ((fz_121 E h a2 : Int32) = 0) → (1 ≤ d ∧ sz_122 E h a3 ∧ True))) ∧ ∀ x1 : Int32, x1 = (if (fz_121 E h a2 : Int32) = 0 then 0 else if (fz_122 E h a3 : Int32) = 0 then 0 else if a4 < 0 then 0 else if 3 < a4 then 0 else 1) → ((x1 = 0 → (Q (some (.int ((-1)))) h)) ∧ (¬ (x1 = 0) → (ztag h a0 = 10 ∧ ∃ r3 : Nat, zR h a0 0 = r3 + 1 ∧ ztag h r3 = 3 ∧ 1 ≤ d ∧ sz_36 E h r3 a1 ∧ ((¬ (fz_36 E h r3 a1 : Int32) = 0 → (∃ r5 : Nat, zR h a0 5 = r5 + 1 ∧ ztag h r5 = 2 ∧ Ct E d 24 [.ref r5, .int a2, .int 0, .int a3] h (fun v h7 => v = none ∧ ztag h7 a0 = 10 ∧ ∃ r9 : Nat, zR h7 a0 5 = r9 + 1 ∧ ∃ r10 : Nat, zR h7 a0 0 = r10 + 1 ∧ ztag h7 r10 = 3 ∧ 1 ≤ d ∧ sz_37 E h7 r10 a1 ∧ ztag h7 r9 = 2 ∧ Ct E d 26 [.ref r9, .ref r10, .int (fz_37 E h7 r10 a1)] h7 (fun v h13 => v = none ∧ (((a4.toInt < 0 ∨ 2 < a4.toInt) → (ztag h13 a0 = 10 ∧ ∃ r15 : Nat, zR h13 a0 5 = r15 + 1 ∧ ztag h13 r15 = 2 ∧ Q (some (.int (zI h13 r15 5))) h13)) ∧ (a4.toInt = 0 → (ztag h13 a0 = 10 ∧ ∃ r18 : Nat, zR h13 a0 5 = r18 + 1 ∧ ztag h13 r18 = 2 ∧ Q (some (.int (zI h13 r18 6))) h13)) ∧ (a4.toInt = 1 → (ztag h13 a0 = 10 ∧ ∃ r21 : Nat, zR h13 a0 5 = r21 + 1 ∧ ztag h13 r21 = 2 ∧ Q (some (.int (zI h13 r21 8))) h13)) ∧ (a4.toInt = 2 → (ztag h13 a0 = 10 ∧ ∃ r24 : Nat, zR h13 a0 5 = r24 + 1 ∧ ztag h13 r24 = 2 ∧ Q (some (.int (zI h13 r24 4))) h13))))))) ∧ (¬ (¬ (fz_36 E h r3 a1 : Int32) = 0) → (Q (some (.int ((-1)))) h)))))))
set_option maxRecDepth 20000 in
theorem ok_99 {E : Nat → Nat} {d : Nat} {a0 : Nat} {a1 : Int32} {a2 : Int32} {a3 : Int32} {a4 : Int32} {h : ZH} {Q : Option Value → ZH → Prop} (hw : w_99 E d a0 a1 a2 a3 a4 h Q) : Ct E (d + 1) 99 [.ref a0, .int a1, .int a2, .int a3, .int a4] h Q := by
  unfold w_99 at hw
  show Gx E (d + 1) 99 0 [.ref a0, .int a1, .int a2, .int a3, .int a4, .retAddr 0] [] h Q
  refine zg_iload zi_99_0 rfl ?_
  obtain ⟨hd, hs, hw⟩ := hw
  refine Gx.call2 (as := [.int a2]) (rest := []) zq_121 zi_99_1 rfl rfl rfl (Nat.le_of_ble_eq_true rfl) (Nat.le_of_ble_eq_true rfl) (rfl) (Nat.le_of_ble_eq_true rfl) ?_
  refine cz_121 hd hs ?_
  show Gx E (d + 1) 99 2 [.ref a0, .int a1, .int a2, .int a3, .int a4, .retAddr 0] [.int (fz_121 E h a2)] h Q
  obtain ⟨hsd2, hw⟩ := hw
  have g2 : Gx E (d + 1) 99 14 [.ref a0, .int a1, .int a2, .int a3, .int a4, .retAddr 0] [.int (if (fz_121 E h a2 : Int32) = 0 then 0 else if (fz_122 E h a3 : Int32) = 0 then 0 else if a4 < 0 then 0 else if 3 < a4 then 0 else 1)] h Q := by
    refine zg_nameI fun x1 ex1 => ?_
    have hw := hw x1 ex1
    refine zg_istore (ls1 := [.ref a0, .int a1, .int a2, .int a3, .int a4, .int x1]) zi_99_14 (Nat.le_of_ble_eq_true rfl) rfl ?_
    refine zg_iload zi_99_15 rfl ?_
    refine zg_if_eq zi_99_16 (fun hc => ?_) (fun hc => ?_)
    · have hw := hw.1 hc
      refine zg_const (v := (-1)) zi_99_22 (by rfl) ?_
      exact zg_ireturn zi_99_23 (by decide) hw
    · have hw := hw.2 hc
      refine zg_aload zi_99_17 rfl ?_
      obtain ⟨t2, hw⟩ := hw
      obtain ⟨r3, er3, hw⟩ := hw
      refine zg_getR (v := .ref r3) zi_99_18 t2 (by rfl) (by show zrv (zR h a0 0) = _; rw [er3]; rfl) ?_
      refine zg_iload zi_99_19 rfl ?_
      obtain ⟨t4, hw⟩ := hw
      obtain ⟨hd, hs, hw⟩ := hw
      refine Gx.call2 (as := [.ref r3, .int a1]) (rest := []) zq_36 zi_99_20 rfl rfl rfl (Nat.le_of_ble_eq_true rfl) (Nat.le_of_ble_eq_true rfl) (zrv_v t4 rfl rfl) (Nat.le_of_ble_eq_true rfl) ?_
      refine cz_36 hd hs ?_
      show Gx E (d + 1) 99 21 [.ref a0, .int a1, .int a2, .int a3, .int a4, .int x1] [.int (fz_36 E h r3 a1)] h Q
      refine zg_if_ne zi_99_21 (fun hc => ?_) (fun hc => ?_)
      · have hw := hw.1 hc
        refine zg_aload zi_99_24 rfl ?_
        obtain ⟨r5, er5, hw⟩ := hw
        refine zg_getR (v := .ref r5) zi_99_25 t2 (by rfl) (by show zrv (zR h a0 5) = _; rw [er5]; rfl) ?_
        refine zg_iload zi_99_26 rfl ?_
        refine zg_const (v := 0) zi_99_27 (by rfl) ?_
        refine zg_iload zi_99_28 rfl ?_
        obtain ⟨t6, hw⟩ := hw
        refine Gx.call2 (as := [.ref r5, .int a2, .int 0, .int a3]) (rest := []) zq_24 zi_99_29 rfl rfl rfl (Nat.le_of_ble_eq_true rfl) (Nat.le_of_ble_eq_true rfl) (zrv_v t6 rfl rfl) (Nat.le_of_ble_eq_true rfl) ?_
        refine Ct.mono hw ?_
        rintro v h7 ⟨rfl, hw⟩
        show Gx E (d + 1) 99 30 [.ref a0, .int a1, .int a2, .int a3, .int a4, .int x1] [] h7 Q
        refine zg_aload zi_99_30 rfl ?_
        obtain ⟨t8, hw⟩ := hw
        obtain ⟨r9, er9, hw⟩ := hw
        refine zg_getR (v := .ref r9) zi_99_31 t8 (by rfl) (by show zrv (zR h7 a0 5) = _; rw [er9]; rfl) ?_
        refine zg_aload zi_99_32 rfl ?_
        obtain ⟨r10, er10, hw⟩ := hw
        refine zg_getR (v := .ref r10) zi_99_33 t8 (by rfl) (by show zrv (zR h7 a0 0) = _; rw [er10]; rfl) ?_
        refine zg_aload zi_99_34 rfl ?_
        refine zg_getR (v := .ref r10) zi_99_35 t8 (by rfl) (by show zrv (zR h7 a0 0) = _; rw [er10]; rfl) ?_
        refine zg_iload zi_99_36 rfl ?_
        obtain ⟨t11, hw⟩ := hw
        obtain ⟨hd, hs, hw⟩ := hw
        refine Gx.call2 (as := [.ref r10, .int a1]) (rest := [.ref r10, .ref r9]) zq_37 zi_99_37 rfl rfl rfl (Nat.le_of_ble_eq_true rfl) (Nat.le_of_ble_eq_true rfl) (zrv_v t11 rfl rfl) (Nat.le_of_ble_eq_true rfl) ?_
        refine cz_37 hd hs ?_
        show Gx E (d + 1) 99 38 [.ref a0, .int a1, .int a2, .int a3, .int a4, .int x1] [.int (fz_37 E h7 r10 a1), .ref r10, .ref r9] h7 Q
        obtain ⟨t12, hw⟩ := hw
        refine Gx.call2 (as := [.ref r9, .ref r10, .int (fz_37 E h7 r10 a1)]) (rest := []) zq_26 zi_99_38 rfl rfl rfl (Nat.le_of_ble_eq_true rfl) (Nat.le_of_ble_eq_true rfl) (zrv_v t12 rfl rfl) (Nat.le_of_ble_eq_true rfl) ?_
        refine Ct.mono hw ?_
        rintro v h13 ⟨rfl, hw⟩
        show Gx E (d + 1) 99 39 [.ref a0, .int a1, .int a2, .int a3, .int a4, .int x1] [] h13 Q
        refine zg_iload zi_99_39 rfl ?_
        by_cases ho : a4.toInt < 0 ∨ 2 < a4.toInt
        · have hw := hw.1 ho
          refine zg_switch (t := 53) zi_99_40 (by unfold zsw; rw [if_pos ho]; rfl) ?_
          refine zg_aload zi_99_53 rfl ?_
          obtain ⟨t14, hw⟩ := hw
          obtain ⟨r15, er15, hw⟩ := hw
          refine zg_getR (v := .ref r15) zi_99_54 t14 (by rfl) (by show zrv (zR h13 a0 5) = _; rw [er15]; rfl) ?_
          obtain ⟨t16, hw⟩ := hw
          refine zg_getI (v := .int (zI h13 r15 5)) zi_99_55 t16 (by rfl) rfl ?_
          exact zg_ireturn zi_99_56 (by decide) hw
        have hw := hw.2
        by_cases hv0 : a4.toInt = 0
        · have hw := hw.1 hv0
          refine zg_switch (t := 41) zi_99_40 (by rw [hv0]; rfl) ?_
          refine zg_aload zi_99_41 rfl ?_
          obtain ⟨t17, hw⟩ := hw
          obtain ⟨r18, er18, hw⟩ := hw
          refine zg_getR (v := .ref r18) zi_99_42 t17 (by rfl) (by show zrv (zR h13 a0 5) = _; rw [er18]; rfl) ?_
          obtain ⟨t19, hw⟩ := hw
          refine zg_getI (v := .int (zI h13 r18 6)) zi_99_43 t19 (by rfl) rfl ?_
          exact zg_ireturn zi_99_44 (by decide) hw
        have hw := hw.2
        by_cases hv1 : a4.toInt = 1
        · have hw := hw.1 hv1
          refine zg_switch (t := 45) zi_99_40 (by rw [hv1]; rfl) ?_
          refine zg_aload zi_99_45 rfl ?_
          obtain ⟨t20, hw⟩ := hw
          obtain ⟨r21, er21, hw⟩ := hw
          refine zg_getR (v := .ref r21) zi_99_46 t20 (by rfl) (by show zrv (zR h13 a0 5) = _; rw [er21]; rfl) ?_
          obtain ⟨t22, hw⟩ := hw
          refine zg_getI (v := .int (zI h13 r21 8)) zi_99_47 t22 (by rfl) rfl ?_
          exact zg_ireturn zi_99_48 (by decide) hw
        have hw := hw.2
        have hv2 : a4.toInt = 2 := zsl_99_40 _ ho hv0 hv1
        have hw := hw hv2
        refine zg_switch (t := 49) zi_99_40 (by rw [hv2]; rfl) ?_
        refine zg_aload zi_99_49 rfl ?_
        obtain ⟨t23, hw⟩ := hw
        obtain ⟨r24, er24, hw⟩ := hw
        refine zg_getR (v := .ref r24) zi_99_50 t23 (by rfl) (by show zrv (zR h13 a0 5) = _; rw [er24]; rfl) ?_
        obtain ⟨t25, hw⟩ := hw
        refine zg_getI (v := .int (zI h13 r24 4)) zi_99_51 t25 (by rfl) rfl ?_
        exact zg_ireturn zi_99_52 (by decide) hw
      · have hw := hw.2 hc
        refine zg_const (v := (-1)) zi_99_22 (by rfl) ?_
        exact zg_ireturn zi_99_23 (by decide) hw
  refine zg_if_eq zi_99_2 (fun hc2 => ?_) (fun hc2 => ?_)
  · have hw := hsd2.1 hc2
    refine zg_const (v := 0) zi_99_13 (by rfl) ?_
    have hg := g2
    simp only [if_pos hc2] at hg
    exact hg
  · have hw := hsd2.2 hc2
    refine zg_iload zi_99_3 rfl ?_
    obtain ⟨hd, hs, hw⟩ := hw
    refine Gx.call2 (as := [.int a3]) (rest := []) zq_122 zi_99_4 rfl rfl rfl (Nat.le_of_ble_eq_true rfl) (Nat.le_of_ble_eq_true rfl) (rfl) (Nat.le_of_ble_eq_true rfl) ?_
    refine cz_122 hd hs ?_
    show Gx E (d + 1) 99 5 [.ref a0, .int a1, .int a2, .int a3, .int a4, .retAddr 0] [.int (fz_122 E h a3)] h Q
    have g5 : Gx E (d + 1) 99 14 [.ref a0, .int a1, .int a2, .int a3, .int a4, .retAddr 0] [.int (if (fz_122 E h a3 : Int32) = 0 then 0 else if a4 < 0 then 0 else if 3 < a4 then 0 else 1)] h Q := by
      have hg := g2
      simp only [if_neg hc2] at hg
      exact hg
    refine zg_if_eq zi_99_5 (fun hc5 => ?_) (fun hc5 => ?_)
    · skip
      refine zg_const (v := 0) zi_99_13 (by rfl) ?_
      have hg := g5
      simp only [if_pos hc5] at hg
      exact hg
    · skip
      refine zg_iload zi_99_6 rfl ?_
      have g7 : Gx E (d + 1) 99 14 [.ref a0, .int a1, .int a2, .int a3, .int a4, .retAddr 0] [.int (if a4 < 0 then 0 else if 3 < a4 then 0 else 1)] h Q := by
        have hg := g5
        simp only [if_neg hc5] at hg
        exact hg
      refine zg_if_lt zi_99_7 (fun hc7 => ?_) (fun hc7 => ?_)
      · skip
        refine zg_const (v := 0) zi_99_13 (by rfl) ?_
        have hg := g7
        simp only [if_pos hc7] at hg
        exact hg
      · skip
        refine zg_iload zi_99_8 rfl ?_
        refine zg_const (v := 3) zi_99_9 (by rfl) ?_
        have g10 : Gx E (d + 1) 99 14 [.ref a0, .int a1, .int a2, .int a3, .int a4, .retAddr 0] [.int (if 3 < a4 then 0 else 1)] h Q := by
          have hg := g7
          simp only [if_neg hc7] at hg
          exact hg
        refine zg_icmp_gt zi_99_10 (fun hc10 => ?_) (fun hc10 => ?_)
        · skip
          refine zg_const (v := 0) zi_99_13 (by rfl) ?_
          have hg := g10
          simp only [if_pos hc10] at hg
          exact hg
        · skip
          refine zg_const (v := 1) zi_99_11 (by rfl) ?_
          refine zg_goto zi_99_12 ?_
          have hg := g10
          simp only [if_neg hc10] at hg
          exact hg
theorem zq_100 : zQ 100 6 6 10 := by unfold zQ; decide +kernel
theorem zi_100_0 : (zM 100).1[0]? = some (.aload 0) := by rfl
theorem zi_100_1 : (zM 100).1[1]? = some (.iload 1) := by rfl
theorem zi_100_2 : (zM 100).1[2]? = some (.iload 2) := by rfl
theorem zi_100_3 : (zM 100).1[3]? = some (.iload 3) := by rfl
theorem zi_100_4 : (zM 100).1[4]? = some (.iload 4) := by rfl
theorem zi_100_5 : (zM 100).1[5]? = some (.iload 5) := by rfl
theorem zi_100_6 : (zM 100).1[6]? = some (.invokevirtual 127) := by rfl
theorem zi_100_7 : (zM 100).1[7]? = some (.ifCond .ne ((10 : Nat) : Int)) := by rfl
theorem zi_100_8 : (zM 100).1[8]? = some (.iconst (-1)) := by rfl
theorem zi_100_9 : (zM 100).1[9]? = some (.ireturn) := by rfl
theorem zi_100_10 : (zM 100).1[10]? = some (.aload 0) := by rfl
theorem zi_100_11 : (zM 100).1[11]? = some (.getfield 10206) := by rfl
theorem zi_100_12 : (zM 100).1[12]? = some (.iload 1) := by rfl
theorem zi_100_13 : (zM 100).1[13]? = some (.iload 2) := by rfl
theorem zi_100_14 : (zM 100).1[14]? = some (.iload 3) := by rfl
theorem zi_100_15 : (zM 100).1[15]? = some (.iload 4) := by rfl
theorem zi_100_16 : (zM 100).1[16]? = some (.invokevirtual 16) := by rfl
theorem zi_100_17 : (zM 100).1[17]? = some (.iload 1) := by rfl
theorem zi_100_18 : (zM 100).1[18]? = some (.iload 2) := by rfl
theorem zi_100_19 : (zM 100).1[19]? = some (.iload 3) := by rfl
theorem zi_100_20 : (zM 100).1[20]? = some (.iload 4) := by rfl
theorem zi_100_21 : (zM 100).1[21]? = some (.iload 5) := by rfl
theorem zi_100_22 : (zM 100).1[22]? = some (.invokevirtual 12) := by rfl
theorem zi_100_23 : (zM 100).1[23]? = some (.ireturn) := by rfl
/-- TakeOrPay.best(IIIII)I -/
def w_100 (E : Nat → Nat) (d : Nat) (a0 : Nat) (a1 : Int32) (a2 : Int32) (a3 : Int32) (a4 : Int32) (a5 : Int32) (h : ZH) (Q : Option Value → ZH → Prop) : Prop := ztag h a0 = 10 ∧ 2 ≤ d ∧ sz_127 E h a0 a1 a2 a3 a4 a5 ∧ ((¬ (fz_127 E h a0 a1 a2 a3 a4 a5 : Int32) = 0 → (∃ r2 : Nat, zR h a0 6 = r2 + 1 ∧ ztag h r2 = 1 ∧ Ct E d 16 [.ref r2, .int a1, .int a2, .int a3, .int a4] h (fun v h4 => ∃ r5 : Nat, v = some (.ref r5) ∧ ztag h4 r5 = 0 ∧ Ct E d 12 [.ref r5, .int a1, .int a2, .int a3, .int a4, .int a5] h4 (fun v h7 => ∃ x8 : Int32, v = some (.int x8) ∧ Q (some (.int x8)) h7)))) ∧ (¬ (¬ (fz_127 E h a0 a1 a2 a3 a4 a5 : Int32) = 0) → (Q (some (.int ((-1)))) h)))
set_option maxRecDepth 20000 in
theorem ok_100 {E : Nat → Nat} {d : Nat} {a0 : Nat} {a1 : Int32} {a2 : Int32} {a3 : Int32} {a4 : Int32} {a5 : Int32} {h : ZH} {Q : Option Value → ZH → Prop} (hw : w_100 E d a0 a1 a2 a3 a4 a5 h Q) : Ct E (d + 1) 100 [.ref a0, .int a1, .int a2, .int a3, .int a4, .int a5] h Q := by
  unfold w_100 at hw
  show Gx E (d + 1) 100 0 [.ref a0, .int a1, .int a2, .int a3, .int a4, .int a5] [] h Q
  refine zg_aload zi_100_0 rfl ?_
  refine zg_iload zi_100_1 rfl ?_
  refine zg_iload zi_100_2 rfl ?_
  refine zg_iload zi_100_3 rfl ?_
  refine zg_iload zi_100_4 rfl ?_
  refine zg_iload zi_100_5 rfl ?_
  obtain ⟨t1, hw⟩ := hw
  obtain ⟨hd, hs, hw⟩ := hw
  refine Gx.call2 (as := [.ref a0, .int a1, .int a2, .int a3, .int a4, .int a5]) (rest := []) zq_127 zi_100_6 rfl rfl rfl (Nat.le_of_ble_eq_true rfl) (Nat.le_of_ble_eq_true rfl) (zrv_v t1 rfl rfl) (Nat.le_of_ble_eq_true rfl) ?_
  refine cz_127 hd hs ?_
  show Gx E (d + 1) 100 7 [.ref a0, .int a1, .int a2, .int a3, .int a4, .int a5] [.int (fz_127 E h a0 a1 a2 a3 a4 a5)] h Q
  refine zg_if_ne zi_100_7 (fun hc => ?_) (fun hc => ?_)
  · have hw := hw.1 hc
    refine zg_aload zi_100_10 rfl ?_
    obtain ⟨r2, er2, hw⟩ := hw
    refine zg_getR (v := .ref r2) zi_100_11 t1 (by rfl) (by show zrv (zR h a0 6) = _; rw [er2]; rfl) ?_
    refine zg_iload zi_100_12 rfl ?_
    refine zg_iload zi_100_13 rfl ?_
    refine zg_iload zi_100_14 rfl ?_
    refine zg_iload zi_100_15 rfl ?_
    obtain ⟨t3, hw⟩ := hw
    refine Gx.call2 (as := [.ref r2, .int a1, .int a2, .int a3, .int a4]) (rest := []) zq_16 zi_100_16 rfl rfl rfl (Nat.le_of_ble_eq_true rfl) (Nat.le_of_ble_eq_true rfl) (zrv_v t3 rfl rfl) (Nat.le_of_ble_eq_true rfl) ?_
    refine Ct.mono hw ?_
    rintro v h4 ⟨r5, rfl, hw⟩
    show Gx E (d + 1) 100 17 [.ref a0, .int a1, .int a2, .int a3, .int a4, .int a5] [.ref r5] h4 Q
    refine zg_iload zi_100_17 rfl ?_
    refine zg_iload zi_100_18 rfl ?_
    refine zg_iload zi_100_19 rfl ?_
    refine zg_iload zi_100_20 rfl ?_
    refine zg_iload zi_100_21 rfl ?_
    obtain ⟨t6, hw⟩ := hw
    refine Gx.call2 (as := [.ref r5, .int a1, .int a2, .int a3, .int a4, .int a5]) (rest := []) zq_12 zi_100_22 rfl rfl rfl (Nat.le_of_ble_eq_true rfl) (Nat.le_of_ble_eq_true rfl) (zrv_v t6 rfl rfl) (Nat.le_of_ble_eq_true rfl) ?_
    refine Ct.mono hw ?_
    rintro v h7 ⟨x8, rfl, hw⟩
    show Gx E (d + 1) 100 23 [.ref a0, .int a1, .int a2, .int a3, .int a4, .int a5] [.int x8] h7 Q
    exact zg_ireturn zi_100_23 (by decide) hw
  · have hw := hw.2 hc
    refine zg_const (v := (-1)) zi_100_8 (by rfl) ?_
    exact zg_ireturn zi_100_9 (by decide) hw
theorem zq_123 : zQ 123 1 1 10 := by unfold zQ; decide +kernel
theorem zi_123_0 : (zM 123).1[0]? = some (.iload 0) := by rfl
theorem zi_123_1 : (zM 123).1[1]? = some (.ifCond .eq ((5 : Nat) : Int)) := by rfl
theorem zi_123_2 : (zM 123).1[2]? = some (.iload 0) := by rfl
theorem zi_123_3 : (zM 123).1[3]? = some (.iconst 1) := by rfl
theorem zi_123_4 : (zM 123).1[4]? = some (.if_icmp .ne ((7 : Nat) : Int)) := by rfl
theorem zi_123_5 : (zM 123).1[5]? = some (.iconst 1) := by rfl
theorem zi_123_6 : (zM 123).1[6]? = some (.goto ((8 : Nat) : Int)) := by rfl
theorem zi_123_7 : (zM 123).1[7]? = some (.iconst 0) := by rfl
theorem zi_123_8 : (zM 123).1[8]? = some (.ireturn) := by rfl
/-- TakeOrPay.isPart(I)Z -/
def w_123 (E : Nat → Nat) (d : Nat) (a0 : Int32) (h : ZH) (Q : Option Value → ZH → Prop) : Prop := Q (some (.int (if a0 = 0 then 1 else if ¬ a0 = 1 then 0 else 1))) h
set_option maxRecDepth 20000 in
theorem ok_123 {E : Nat → Nat} {d : Nat} {a0 : Int32} {h : ZH} {Q : Option Value → ZH → Prop} (hw : w_123 E d a0 h Q) : Ct E (d + 1) 123 [.int a0] h Q := by
  unfold w_123 at hw
  show Gx E (d + 1) 123 0 [.int a0] [] h Q
  refine zg_iload zi_123_0 rfl ?_
  have g1 : Gx E (d + 1) 123 8 [.int a0] [.int (if a0 = 0 then 1 else if ¬ a0 = 1 then 0 else 1)] h Q := by
    exact zg_zreturn zi_123_8 (by (repeat' split) <;> first | (left; rfl) | (right; rfl)) hw
  refine zg_if_eq zi_123_1 (fun hc1 => ?_) (fun hc1 => ?_)
  · skip
    refine zg_const (v := 1) zi_123_5 (by rfl) ?_
    refine zg_goto zi_123_6 ?_
    have hg := g1
    simp only [if_pos hc1] at hg
    exact hg
  · skip
    refine zg_iload zi_123_2 rfl ?_
    refine zg_const (v := 1) zi_123_3 (by rfl) ?_
    have g4 : Gx E (d + 1) 123 8 [.int a0] [.int (if ¬ a0 = 1 then 0 else 1)] h Q := by
      have hg := g1
      simp only [if_neg hc1] at hg
      exact hg
    refine zg_icmp_ne zi_123_4 (fun hc4 => ?_) (fun hc4 => ?_)
    · skip
      refine zg_const (v := 0) zi_123_7 (by rfl) ?_
      have hg := g4
      simp only [if_pos hc4] at hg
      exact hg
    · skip
      refine zg_const (v := 1) zi_123_5 (by rfl) ?_
      refine zg_goto zi_123_6 ?_
      have hg := g4
      simp only [if_neg hc4] at hg
      exact hg
def fz_123 (E : Nat → Nat) (h : ZH) (a0 : Int32) : Int32 := if a0 = 0 then 1 else if ¬ a0 = 1 then 0 else 1
def sz_123 (E : Nat → Nat) (h : ZH) (a0 : Int32) : Prop := True
set_option maxRecDepth 20000 in
theorem fb_123 {E : Nat → Nat} {h : ZH} {a0 : Int32} : fz_123 E h a0 = 0 ∨ fz_123 E h a0 = 1 := by
  unfold fz_123
  (try dsimp only)
  (repeat' split) <;> first | (left; rfl) | (right; rfl)
set_option maxRecDepth 20000 in
theorem cz_123 {E : Nat → Nat} {d : Nat} {a0 : Int32} {h : ZH} {Q : Option Value → ZH → Prop} (hd : 1 ≤ d) (hs : sz_123 E h a0) (hq : Q (some (.int (fz_123 E h a0))) h) : Ct E d 123 [.int a0] h Q := by
  obtain ⟨d, rfl⟩ : ∃ n, d = n + 1 := ⟨d - 1, by omega⟩
  refine ok_123 ?_
  unfold w_123
  unfold sz_123 at hs
  unfold fz_123 at hq
  exact hq
theorem zq_128 : zQ 128 3 7 10 := by unfold zQ; decide +kernel
theorem zi_128_0 : (zM 128).1[0]? = some (.lload 0) := by rfl
theorem zi_128_1 : (zM 128).1[1]? = some (.lstore 4) := by rfl
theorem zi_128_2 : (zM 128).1[2]? = some (.iconst 2) := by rfl
theorem zi_128_3 : (zM 128).1[3]? = some (.iload 2) := by rfl
theorem zi_128_4 : (zM 128).1[4]? = some (.imul) := by rfl
theorem zi_128_5 : (zM 128).1[5]? = some (.istore 6) := by rfl
theorem zi_128_6 : (zM 128).1[6]? = some (.iload 6) := by rfl
theorem zi_128_7 : (zM 128).1[7]? = some (.ifCond .le ((20 : Nat) : Int)) := by rfl
theorem zi_128_8 : (zM 128).1[8]? = some (.lload 4) := by rfl
theorem zi_128_9 : (zM 128).1[9]? = some (.jsr_w 1) := by rfl
theorem zi_128_10 : (zM 128).1[10]? = some (.land) := by rfl
theorem zi_128_11 : (zM 128).1[11]? = some (.jsr_w 0) := by rfl
theorem zi_128_12 : (zM 128).1[12]? = some (.lcmp) := by rfl
theorem zi_128_13 : (zM 128).1[13]? = some (.ifCond .ne ((20 : Nat) : Int)) := by rfl
theorem zi_128_14 : (zM 128).1[14]? = some (.lload 4) := by rfl
theorem zi_128_15 : (zM 128).1[15]? = some (.iconst 1) := by rfl
theorem zi_128_16 : (zM 128).1[16]? = some (.lshr) := by rfl
theorem zi_128_17 : (zM 128).1[17]? = some (.lstore 4) := by rfl
theorem zi_128_18 : (zM 128).1[18]? = some (.iinc 6 (-1)) := by rfl
theorem zi_128_19 : (zM 128).1[19]? = some (.goto ((6 : Nat) : Int)) := by rfl
theorem zi_128_20 : (zM 128).1[20]? = some (.iload 3) := by rfl
theorem zi_128_21 : (zM 128).1[21]? = some (.ifCond .ne ((24 : Nat) : Int)) := by rfl
theorem zi_128_22 : (zM 128).1[22]? = some (.lload 4) := by rfl
theorem zi_128_23 : (zM 128).1[23]? = some (.goto ((27 : Nat) : Int)) := by rfl
theorem zi_128_24 : (zM 128).1[24]? = some (.jsr_w 1) := by rfl
theorem zi_128_25 : (zM 128).1[25]? = some (.iload 6) := by rfl
theorem zi_128_26 : (zM 128).1[26]? = some (.lshl) := by rfl
theorem zi_128_27 : (zM 128).1[27]? = some (.lreturn) := by rfl
def wb_128_20 (E : Nat → Nat) (d : Nat) (Q : Option Value → ZH → Prop) (a3 : Int32) (a4 : Int64) (a6 : Int32) (h : ZH) : Prop := Q (some (.long (if ¬ a3 = 0 then (1 : Int64) <<< (a6.toInt64 &&& 63) else a4))) h
set_option maxRecDepth 20000 in
theorem okb_128_20 {E : Nat → Nat} {d : Nat} {Q : Option Value → ZH → Prop} {a3 : Int32} {a4 : Int64} {a6 : Int32} {h : ZH} (hw : wb_128_20 E d Q a3 a4 a6 h) : Gx E (d + 1) 128 20 [.retAddr 0, .retAddr 0, .retAddr 0, .int a3, .long a4, .retAddr 0, .int a6] [] h Q := by
  unfold wb_128_20 at hw
  refine zg_iload zi_128_20 rfl ?_
  have g21 : Gx E (d + 1) 128 27 [.retAddr 0, .retAddr 0, .retAddr 0, .int a3, .long a4, .retAddr 0, .int a6] [.long (if ¬ a3 = 0 then (1 : Int64) <<< (a6.toInt64 &&& 63) else a4)] h Q := by
    exact zg_lreturn zi_128_27 hw
  refine zg_if_ne zi_128_21 (fun hc21 => ?_) (fun hc21 => ?_)
  · skip
    refine zg_lconst (v := 1) zi_128_24 (by rfl) ?_
    refine zg_iload zi_128_25 rfl ?_
    refine zg_lshl zi_128_26 ?_
    have hg := g21
    simp only [if_pos hc21] at hg
    exact hg
  · skip
    refine zg_lload zi_128_22 rfl ?_
    refine zg_goto zi_128_23 ?_
    have hg := g21
    simp only [if_neg hc21] at hg
    exact hg
def wl_128_6 (E : Nat → Nat) (d : Nat) (Q : Option Value → ZH → Prop) : Nat → Int32 → Int64 → Int32 → ZH → Prop
  | 0, _, _, _, _ => False
  | n + 1, a3, a4, a6, h => (a6 ≤ 0 → (wb_128_20 E d Q a3 a4 a6 h)) ∧ (¬ (a6 ≤ 0) → ((¬ (a4 &&& 1 : Int64) = 0 → (wb_128_20 E d Q a3 a4 a6 h)) ∧ (¬ (¬ (a4 &&& 1 : Int64) = 0) → (∀ x2 : Int64, x2 = (a4 >>> ((1 : Int32).toInt64 &&& 63)) → ∀ x3 : Int32, x3 = (a6 + (-1)) → wl_128_6 E d Q n a3 x2 x3 h))))
set_option maxRecDepth 20000 in
theorem okl_128_6 {E : Nat → Nat} {d : Nat} {Q : Option Value → ZH → Prop} : ∀ (n : Nat) (a3 : Int32) (a4 : Int64) (a6 : Int32) (h : ZH), wl_128_6 E d Q n a3 a4 a6 h → Gx E (d + 1) 128 6 [.retAddr 0, .retAddr 0, .retAddr 0, .int a3, .long a4, .retAddr 0, .int a6] [] h Q := by
  intro n
  induction n with
  | zero => intro a3 a4 a6 h hw; exact hw.elim
  | succ n ih =>
    intro a3 a4 a6 h hw
    rw [wl_128_6] at hw
    refine zg_iload zi_128_6 rfl ?_
    refine zg_if_le zi_128_7 (fun hc => ?_) (fun hc => ?_)
    · have hw := hw.1 hc
      exact okb_128_20 hw
    · have hw := hw.2 hc
      refine zg_lload zi_128_8 rfl ?_
      refine zg_lconst (v := 1) zi_128_9 (by rfl) ?_
      refine zg_land zi_128_10 ?_
      refine zg_lconst (v := 0) zi_128_11 (by rfl) ?_
      refine zg_lcmp_ne zi_128_12 zi_128_13 (fun hc => ?_) (fun hc => ?_)
      · have hw := hw.1 hc
        exact okb_128_20 hw
      · have hw := hw.2 hc
        refine zg_lload zi_128_14 rfl ?_
        refine zg_const (v := 1) zi_128_15 (by rfl) ?_
        refine zg_lshr zi_128_16 ?_
        refine zg_nameL fun x2 ex2 => ?_
        have hw := hw x2 ex2
        refine zg_lstore (ls1 := [.retAddr 0, .retAddr 0, .retAddr 0, .int a3, .long x2, .retAddr 0, .int a6]) zi_128_17 (Nat.le_of_ble_eq_true rfl) rfl ?_
        obtain ⟨x3, ex3⟩ : ∃ x : Int32, x = a6 + (-1) := ⟨_, rfl⟩
        have hw := hw x3 ex3
        refine zg_iinc (v := x3) (ls1 := [.retAddr 0, .retAddr 0, .retAddr 0, .int a3, .long x2, .retAddr 0, .int x3]) zi_128_18 rfl (by rw [ex3]; rfl) rfl ?_
        refine zg_goto zi_128_19 ?_
        exact ih a3 x2 x3 h hw
/-- TakeOrPay.fraction(JII)J -/
def w_128 (E : Nat → Nat) (d : Nat) (a0 : Int64) (a2 : Int32) (a3 : Int32) (h : ZH) (Q : Option Value → ZH → Prop) : Prop := ∀ x1 : Int32, x1 = (2 * a2) → (∃ mm : Nat, wl_128_6 E d Q mm a3 a0 x1 h)
set_option maxRecDepth 20000 in
theorem ok_128 {E : Nat → Nat} {d : Nat} {a0 : Int64} {a2 : Int32} {a3 : Int32} {h : ZH} {Q : Option Value → ZH → Prop} (hw : w_128 E d a0 a2 a3 h Q) : Ct E (d + 1) 128 [.long a0, .int a2, .int a3] h Q := by
  unfold w_128 at hw
  show Gx E (d + 1) 128 0 [.long a0, .retAddr 0, .int a2, .int a3, .retAddr 0, .retAddr 0, .retAddr 0] [] h Q
  refine zg_lload zi_128_0 rfl ?_
  refine zg_lstore (ls1 := [.long a0, .retAddr 0, .int a2, .int a3, .long a0, .retAddr 0, .retAddr 0]) zi_128_1 (Nat.le_of_ble_eq_true rfl) rfl ?_
  refine zg_const (v := 2) zi_128_2 (by rfl) ?_
  refine zg_iload zi_128_3 rfl ?_
  refine zg_imul zi_128_4 ?_
  refine zg_nameI fun x1 ex1 => ?_
  have hw := hw x1 ex1
  refine zg_istore (ls1 := [.long a0, .retAddr 0, .int a2, .int a3, .long a0, .retAddr 0, .int x1]) zi_128_5 (Nat.le_of_ble_eq_true rfl) rfl ?_
  obtain ⟨mm, hw⟩ := hw
  exact Gx.forget (zrd (zrk (zrd (zrk (zrk (zrk (zrk zr0))))))) (okl_128_6 mm a3 a0 x1 h hw)
theorem zq_101 : zQ 101 7 8 10 := by unfold zQ; decide +kernel
theorem zi_101_0 : (zM 101).1[0]? = some (.aload 0) := by rfl
theorem zi_101_1 : (zM 101).1[1]? = some (.iload 1) := by rfl
theorem zi_101_2 : (zM 101).1[2]? = some (.iload 2) := by rfl
theorem zi_101_3 : (zM 101).1[3]? = some (.iload 3) := by rfl
theorem zi_101_4 : (zM 101).1[4]? = some (.iload 4) := by rfl
theorem zi_101_5 : (zM 101).1[5]? = some (.iload 5) := by rfl
theorem zi_101_6 : (zM 101).1[6]? = some (.invokevirtual 127) := by rfl
theorem zi_101_7 : (zM 101).1[7]? = some (.ifCond .eq ((11 : Nat) : Int)) := by rfl
theorem zi_101_8 : (zM 101).1[8]? = some (.iload 6) := by rfl
theorem zi_101_9 : (zM 101).1[9]? = some (.invokestatic 123) := by rfl
theorem zi_101_10 : (zM 101).1[10]? = some (.ifCond .ne ((13 : Nat) : Int)) := by rfl
theorem zi_101_11 : (zM 101).1[11]? = some (.jsr_w (-9000000000000000001)) := by rfl
theorem zi_101_12 : (zM 101).1[12]? = some (.lreturn) := by rfl
theorem zi_101_13 : (zM 101).1[13]? = some (.aload 0) := by rfl
theorem zi_101_14 : (zM 101).1[14]? = some (.getfield 10206) := by rfl
theorem zi_101_15 : (zM 101).1[15]? = some (.iload 1) := by rfl
theorem zi_101_16 : (zM 101).1[16]? = some (.iload 2) := by rfl
theorem zi_101_17 : (zM 101).1[17]? = some (.iload 3) := by rfl
theorem zi_101_18 : (zM 101).1[18]? = some (.iload 4) := by rfl
theorem zi_101_19 : (zM 101).1[19]? = some (.invokevirtual 16) := by rfl
theorem zi_101_20 : (zM 101).1[20]? = some (.astore 7) := by rfl
theorem zi_101_21 : (zM 101).1[21]? = some (.aload 7) := by rfl
theorem zi_101_22 : (zM 101).1[22]? = some (.iload 1) := by rfl
theorem zi_101_23 : (zM 101).1[23]? = some (.iload 2) := by rfl
theorem zi_101_24 : (zM 101).1[24]? = some (.iload 3) := by rfl
theorem zi_101_25 : (zM 101).1[25]? = some (.iload 4) := by rfl
theorem zi_101_26 : (zM 101).1[26]? = some (.iload 5) := by rfl
theorem zi_101_27 : (zM 101).1[27]? = some (.invokevirtual 12) := by rfl
theorem zi_101_28 : (zM 101).1[28]? = some (.pop) := by rfl
theorem zi_101_29 : (zM 101).1[29]? = some (.aload 7) := by rfl
theorem zi_101_30 : (zM 101).1[30]? = some (.getfield 111) := by rfl
theorem zi_101_31 : (zM 101).1[31]? = some (.aload 0) := by rfl
theorem zi_101_32 : (zM 101).1[32]? = some (.getfield 10200) := by rfl
theorem zi_101_33 : (zM 101).1[33]? = some (.getfield 3006) := by rfl
theorem zi_101_34 : (zM 101).1[34]? = some (.iload 1) := by rfl
theorem zi_101_35 : (zM 101).1[35]? = some (.isub) := by rfl
theorem zi_101_36 : (zM 101).1[36]? = some (.iload 6) := by rfl
theorem zi_101_37 : (zM 101).1[37]? = some (.invokestatic 128) := by rfl
theorem zi_101_38 : (zM 101).1[38]? = some (.lreturn) := by rfl
/-- TakeOrPay.worth(IIIIII)J -/
def w_101 (E : Nat → Nat) (d : Nat) (a0 : Nat) (a1 : Int32) (a2 : Int32) (a3 : Int32) (a4 : Int32) (a5 : Int32) (a6 : Int32) (h : ZH) (Q : Option Value → ZH → Prop) : Prop := ztag h a0 = 10 ∧ 2 ≤ d ∧ sz_127 E h a0 a1 a2 a3 a4 a5 ∧ (((fz_127 E h a0 a1 a2 a3 a4 a5 : Int32) = 0 → (Q (some (.long ((-9000000000000000001)))) h)) ∧ (¬ ((fz_127 E h a0 a1 a2 a3 a4 a5 : Int32) = 0) → (1 ≤ d ∧ sz_123 E h a6 ∧ ((¬ (fz_123 E h a6 : Int32) = 0 → (∃ r2 : Nat, zR h a0 6 = r2 + 1 ∧ ztag h r2 = 1 ∧ Ct E d 16 [.ref r2, .int a1, .int a2, .int a3, .int a4] h (fun v h4 => ∃ r5 : Nat, v = some (.ref r5) ∧ ztag h4 r5 = 0 ∧ Ct E d 12 [.ref r5, .int a1, .int a2, .int a3, .int a4, .int a5] h4 (fun v h7 => ∃ x8 : Int32, v = some (.int x8) ∧ ztag h7 r5 = 0 ∧ ztag h7 a0 = 10 ∧ ∃ r11 : Nat, zR h7 a0 0 = r11 + 1 ∧ ztag h7 r11 = 3 ∧ Ct E d 128 [.long (zL h7 r5 11), .int ((zI h7 r11 6) - a1), .int a6] h7 (fun v h13 => ∃ x14 : Int64, v = some (.long x14) ∧ Q (some (.long x14)) h13))))) ∧ (¬ (¬ (fz_123 E h a6 : Int32) = 0) → (Q (some (.long ((-9000000000000000001)))) h))))))
set_option maxRecDepth 20000 in
theorem ok_101 {E : Nat → Nat} {d : Nat} {a0 : Nat} {a1 : Int32} {a2 : Int32} {a3 : Int32} {a4 : Int32} {a5 : Int32} {a6 : Int32} {h : ZH} {Q : Option Value → ZH → Prop} (hw : w_101 E d a0 a1 a2 a3 a4 a5 a6 h Q) : Ct E (d + 1) 101 [.ref a0, .int a1, .int a2, .int a3, .int a4, .int a5, .int a6] h Q := by
  unfold w_101 at hw
  show Gx E (d + 1) 101 0 [.ref a0, .int a1, .int a2, .int a3, .int a4, .int a5, .int a6, .retAddr 0] [] h Q
  refine zg_aload zi_101_0 rfl ?_
  refine zg_iload zi_101_1 rfl ?_
  refine zg_iload zi_101_2 rfl ?_
  refine zg_iload zi_101_3 rfl ?_
  refine zg_iload zi_101_4 rfl ?_
  refine zg_iload zi_101_5 rfl ?_
  obtain ⟨t1, hw⟩ := hw
  obtain ⟨hd, hs, hw⟩ := hw
  refine Gx.call2 (as := [.ref a0, .int a1, .int a2, .int a3, .int a4, .int a5]) (rest := []) zq_127 zi_101_6 rfl rfl rfl (Nat.le_of_ble_eq_true rfl) (Nat.le_of_ble_eq_true rfl) (zrv_v t1 rfl rfl) (Nat.le_of_ble_eq_true rfl) ?_
  refine cz_127 hd hs ?_
  show Gx E (d + 1) 101 7 [.ref a0, .int a1, .int a2, .int a3, .int a4, .int a5, .int a6, .retAddr 0] [.int (fz_127 E h a0 a1 a2 a3 a4 a5)] h Q
  refine zg_if_eq zi_101_7 (fun hc => ?_) (fun hc => ?_)
  · have hw := hw.1 hc
    refine zg_lconst (v := (-9000000000000000001)) zi_101_11 (by rfl) ?_
    exact zg_lreturn zi_101_12 hw
  · have hw := hw.2 hc
    refine zg_iload zi_101_8 rfl ?_
    obtain ⟨hd, hs, hw⟩ := hw
    refine Gx.call2 (as := [.int a6]) (rest := []) zq_123 zi_101_9 rfl rfl rfl (Nat.le_of_ble_eq_true rfl) (Nat.le_of_ble_eq_true rfl) (rfl) (Nat.le_of_ble_eq_true rfl) ?_
    refine cz_123 hd hs ?_
    show Gx E (d + 1) 101 10 [.ref a0, .int a1, .int a2, .int a3, .int a4, .int a5, .int a6, .retAddr 0] [.int (fz_123 E h a6)] h Q
    refine zg_if_ne zi_101_10 (fun hc => ?_) (fun hc => ?_)
    · have hw := hw.1 hc
      refine zg_aload zi_101_13 rfl ?_
      obtain ⟨r2, er2, hw⟩ := hw
      refine zg_getR (v := .ref r2) zi_101_14 t1 (by rfl) (by show zrv (zR h a0 6) = _; rw [er2]; rfl) ?_
      refine zg_iload zi_101_15 rfl ?_
      refine zg_iload zi_101_16 rfl ?_
      refine zg_iload zi_101_17 rfl ?_
      refine zg_iload zi_101_18 rfl ?_
      obtain ⟨t3, hw⟩ := hw
      refine Gx.call2 (as := [.ref r2, .int a1, .int a2, .int a3, .int a4]) (rest := []) zq_16 zi_101_19 rfl rfl rfl (Nat.le_of_ble_eq_true rfl) (Nat.le_of_ble_eq_true rfl) (zrv_v t3 rfl rfl) (Nat.le_of_ble_eq_true rfl) ?_
      refine Ct.mono hw ?_
      rintro v h4 ⟨r5, rfl, hw⟩
      show Gx E (d + 1) 101 20 [.ref a0, .int a1, .int a2, .int a3, .int a4, .int a5, .int a6, .retAddr 0] [.ref r5] h4 Q
      refine zg_astore (ls1 := [.ref a0, .int a1, .int a2, .int a3, .int a4, .int a5, .int a6, .ref r5]) zi_101_20 (Nat.le_of_ble_eq_true rfl) rfl ?_
      refine zg_aload zi_101_21 rfl ?_
      refine zg_iload zi_101_22 rfl ?_
      refine zg_iload zi_101_23 rfl ?_
      refine zg_iload zi_101_24 rfl ?_
      refine zg_iload zi_101_25 rfl ?_
      refine zg_iload zi_101_26 rfl ?_
      obtain ⟨t6, hw⟩ := hw
      refine Gx.call2 (as := [.ref r5, .int a1, .int a2, .int a3, .int a4, .int a5]) (rest := []) zq_12 zi_101_27 rfl rfl rfl (Nat.le_of_ble_eq_true rfl) (Nat.le_of_ble_eq_true rfl) (zrv_v t6 rfl rfl) (Nat.le_of_ble_eq_true rfl) ?_
      refine Ct.mono hw ?_
      rintro v h7 ⟨x8, rfl, hw⟩
      show Gx E (d + 1) 101 28 [.ref a0, .int a1, .int a2, .int a3, .int a4, .int a5, .int a6, .ref r5] [.int x8] h7 Q
      refine zg_pop zi_101_28 rfl ?_
      refine zg_aload zi_101_29 rfl ?_
      obtain ⟨t9, hw⟩ := hw
      refine zg_getL (v := .long (zL h7 r5 11)) zi_101_30 t9 (by rfl) rfl ?_
      refine zg_aload zi_101_31 rfl ?_
      obtain ⟨t10, hw⟩ := hw
      obtain ⟨r11, er11, hw⟩ := hw
      refine zg_getR (v := .ref r11) zi_101_32 t10 (by rfl) (by show zrv (zR h7 a0 0) = _; rw [er11]; rfl) ?_
      obtain ⟨t12, hw⟩ := hw
      refine zg_getI (v := .int (zI h7 r11 6)) zi_101_33 t12 (by rfl) rfl ?_
      refine zg_iload zi_101_34 rfl ?_
      refine zg_isub zi_101_35 ?_
      refine zg_iload zi_101_36 rfl ?_
      refine Gx.call2 (as := [.long (zL h7 r5 11), .int ((zI h7 r11 6) - a1), .int a6]) (rest := []) zq_128 zi_101_37 rfl rfl rfl (Nat.le_of_ble_eq_true rfl) (Nat.le_of_ble_eq_true rfl) (rfl) (Nat.le_of_ble_eq_true rfl) ?_
      refine Ct.mono hw ?_
      rintro v h13 ⟨x14, rfl, hw⟩
      show Gx E (d + 1) 101 38 [.ref a0, .int a1, .int a2, .int a3, .int a4, .int a5, .int a6, .ref r5] [.long x14] h13 Q
      exact zg_lreturn zi_101_38 hw
    · have hw := hw.2 hc
      refine zg_lconst (v := (-9000000000000000001)) zi_101_11 (by rfl) ?_
      exact zg_lreturn zi_101_12 hw
theorem zq_102 : zQ 102 8 10 10 := by unfold zQ; decide +kernel
theorem zi_102_0 : (zM 102).1[0]? = some (.iload 6) := by rfl
theorem zi_102_1 : (zM 102).1[1]? = some (.ifCond .lt ((10 : Nat) : Int)) := by rfl
theorem zi_102_2 : (zM 102).1[2]? = some (.iload 6) := by rfl
theorem zi_102_3 : (zM 102).1[3]? = some (.iconst 4) := by rfl
theorem zi_102_4 : (zM 102).1[4]? = some (.if_icmp .gt ((10 : Nat) : Int)) := by rfl
theorem zi_102_5 : (zM 102).1[5]? = some (.iload 7) := by rfl
theorem zi_102_6 : (zM 102).1[6]? = some (.invokestatic 123) := by rfl
theorem zi_102_7 : (zM 102).1[7]? = some (.ifCond .eq ((10 : Nat) : Int)) := by rfl
theorem zi_102_8 : (zM 102).1[8]? = some (.iconst 1) := by rfl
theorem zi_102_9 : (zM 102).1[9]? = some (.goto ((11 : Nat) : Int)) := by rfl
theorem zi_102_10 : (zM 102).1[10]? = some (.iconst 0) := by rfl
theorem zi_102_11 : (zM 102).1[11]? = some (.istore 8) := by rfl
theorem zi_102_12 : (zM 102).1[12]? = some (.iload 8) := by rfl
theorem zi_102_13 : (zM 102).1[13]? = some (.ifCond .eq ((22 : Nat) : Int)) := by rfl
theorem zi_102_14 : (zM 102).1[14]? = some (.aload 0) := by rfl
theorem zi_102_15 : (zM 102).1[15]? = some (.iload 1) := by rfl
theorem zi_102_16 : (zM 102).1[16]? = some (.iload 2) := by rfl
theorem zi_102_17 : (zM 102).1[17]? = some (.iload 3) := by rfl
theorem zi_102_18 : (zM 102).1[18]? = some (.iload 4) := by rfl
theorem zi_102_19 : (zM 102).1[19]? = some (.iload 5) := by rfl
theorem zi_102_20 : (zM 102).1[20]? = some (.invokevirtual 127) := by rfl
theorem zi_102_21 : (zM 102).1[21]? = some (.ifCond .ne ((24 : Nat) : Int)) := by rfl
theorem zi_102_22 : (zM 102).1[22]? = some (.jsr_w (-9000000000000000001)) := by rfl
theorem zi_102_23 : (zM 102).1[23]? = some (.lreturn) := by rfl
theorem zi_102_24 : (zM 102).1[24]? = some (.aload 0) := by rfl
theorem zi_102_25 : (zM 102).1[25]? = some (.getfield 10200) := by rfl
theorem zi_102_26 : (zM 102).1[26]? = some (.iload 1) := by rfl
theorem zi_102_27 : (zM 102).1[27]? = some (.iload 6) := by rfl
theorem zi_102_28 : (zM 102).1[28]? = some (.invokevirtual 46) := by rfl
theorem zi_102_29 : (zM 102).1[29]? = some (.ifCond .ne ((32 : Nat) : Int)) := by rfl
theorem zi_102_30 : (zM 102).1[30]? = some (.jsr_w (-9000000000000000002)) := by rfl
theorem zi_102_31 : (zM 102).1[31]? = some (.lreturn) := by rfl
theorem zi_102_32 : (zM 102).1[32]? = some (.aload 0) := by rfl
theorem zi_102_33 : (zM 102).1[33]? = some (.getfield 10206) := by rfl
theorem zi_102_34 : (zM 102).1[34]? = some (.iload 1) := by rfl
theorem zi_102_35 : (zM 102).1[35]? = some (.iload 2) := by rfl
theorem zi_102_36 : (zM 102).1[36]? = some (.iload 3) := by rfl
theorem zi_102_37 : (zM 102).1[37]? = some (.iload 4) := by rfl
theorem zi_102_38 : (zM 102).1[38]? = some (.invokevirtual 16) := by rfl
theorem zi_102_39 : (zM 102).1[39]? = some (.astore 9) := by rfl
theorem zi_102_40 : (zM 102).1[40]? = some (.aload 0) := by rfl
theorem zi_102_41 : (zM 102).1[41]? = some (.getfield 10205) := by rfl
theorem zi_102_42 : (zM 102).1[42]? = some (.aload 0) := by rfl
theorem zi_102_43 : (zM 102).1[43]? = some (.getfield 10200) := by rfl
theorem zi_102_44 : (zM 102).1[44]? = some (.iload 1) := by rfl
theorem zi_102_45 : (zM 102).1[45]? = some (.iload 2) := by rfl
theorem zi_102_46 : (zM 102).1[46]? = some (.iload 3) := by rfl
theorem zi_102_47 : (zM 102).1[47]? = some (.iload 4) := by rfl
theorem zi_102_48 : (zM 102).1[48]? = some (.iload 6) := by rfl
theorem zi_102_49 : (zM 102).1[49]? = some (.invokevirtual 25) := by rfl
theorem zi_102_50 : (zM 102).1[50]? = some (.aload 0) := by rfl
theorem zi_102_51 : (zM 102).1[51]? = some (.getfield 10205) := by rfl
theorem zi_102_52 : (zM 102).1[52]? = some (.aload 0) := by rfl
theorem zi_102_53 : (zM 102).1[53]? = some (.getfield 10200) := by rfl
theorem zi_102_54 : (zM 102).1[54]? = some (.iload 1) := by rfl
theorem zi_102_55 : (zM 102).1[55]? = some (.invokevirtual 26) := by rfl
theorem zi_102_56 : (zM 102).1[56]? = some (.aload 9) := by rfl
theorem zi_102_57 : (zM 102).1[57]? = some (.aload 0) := by rfl
theorem zi_102_58 : (zM 102).1[58]? = some (.getfield 10205) := by rfl
theorem zi_102_59 : (zM 102).1[59]? = some (.iload 1) := by rfl
theorem zi_102_60 : (zM 102).1[60]? = some (.iload 5) := by rfl
theorem zi_102_61 : (zM 102).1[61]? = some (.invokevirtual 11) := by rfl
theorem zi_102_62 : (zM 102).1[62]? = some (.aload 0) := by rfl
theorem zi_102_63 : (zM 102).1[63]? = some (.getfield 10200) := by rfl
theorem zi_102_64 : (zM 102).1[64]? = some (.getfield 3006) := by rfl
theorem zi_102_65 : (zM 102).1[65]? = some (.iload 1) := by rfl
theorem zi_102_66 : (zM 102).1[66]? = some (.isub) := by rfl
theorem zi_102_67 : (zM 102).1[67]? = some (.iload 7) := by rfl
theorem zi_102_68 : (zM 102).1[68]? = some (.invokestatic 128) := by rfl
theorem zi_102_69 : (zM 102).1[69]? = some (.lreturn) := by rfl
/-- TakeOrPay.worthOf(IIIIIII)J -/
def w_102 (E : Nat → Nat) (d : Nat) (a0 : Nat) (a1 : Int32) (a2 : Int32) (a3 : Int32) (a4 : Int32) (a5 : Int32) (a6 : Int32) (a7 : Int32) (h : ZH) (Q : Option Value → ZH → Prop) : Prop := ((a6 < 0 → (True)) ∧ (¬ (a6 < 0) → (((4 < a6 → (True)) ∧ (¬ (4 < a6) → (1 ≤ d ∧ sz_123 E h a7 ∧ True))) ∧ True))) ∧ ∀ x1 : Int32, x1 = (if a6 < 0 then 0 else if 4 < a6 then 0 else if (fz_123 E h a7 : Int32) = 0 then 0 else 1) → ((x1 = 0 → (Q (some (.long ((-9000000000000000001)))) h)) ∧ (¬ (x1 = 0) → (ztag h a0 = 10 ∧ 2 ≤ d ∧ sz_127 E h a0 a1 a2 a3 a4 a5 ∧ ((¬ (fz_127 E h a0 a1 a2 a3 a4 a5 : Int32) = 0 → (∃ r3 : Nat, zR h a0 0 = r3 + 1 ∧ ztag h r3 = 3 ∧ 2 ≤ d ∧ sz_46 E h r3 a1 a6 ∧ ((¬ (fz_46 E h r3 a1 a6 : Int32) = 0 → (∃ r5 : Nat, zR h a0 6 = r5 + 1 ∧ ztag h r5 = 1 ∧ Ct E d 16 [.ref r5, .int a1, .int a2, .int a3, .int a4] h (fun v h7 => ∃ r8 : Nat, v = some (.ref r8) ∧ ztag h7 a0 = 10 ∧ ∃ r10 : Nat, zR h7 a0 5 = r10 + 1 ∧ ∃ r11 : Nat, zR h7 a0 0 = r11 + 1 ∧ ztag h7 r10 = 2 ∧ Ct E d 25 [.ref r10, .ref r11, .int a1, .int a2, .int a3, .int a4, .int a6] h7 (fun v h13 => v = none ∧ ztag h13 a0 = 10 ∧ ∃ r15 : Nat, zR h13 a0 5 = r15 + 1 ∧ ∃ r16 : Nat, zR h13 a0 0 = r16 + 1 ∧ ztag h13 r15 = 2 ∧ Ct E d 26 [.ref r15, .ref r16, .int a1] h13 (fun v h18 => v = none ∧ ztag h18 a0 = 10 ∧ ∃ r20 : Nat, zR h18 a0 5 = r20 + 1 ∧ ztag h18 r8 = 0 ∧ 2 ≤ d ∧ sz_11 E h18 r8 r20 a1 a5 ∧ ∃ r22 : Nat, zR h18 a0 0 = r22 + 1 ∧ ztag h18 r22 = 3 ∧ Ct E d 128 [.long (fz_11 E h18 r8 r20 a1 a5), .int ((zI h18 r22 6) - a1), .int a7] h18 (fun v h24 => ∃ x25 : Int64, v = some (.long x25) ∧ Q (some (.long x25)) h24)))))) ∧ (¬ (¬ (fz_46 E h r3 a1 a6 : Int32) = 0) → (Q (some (.long ((-9000000000000000002)))) h))))) ∧ (¬ (¬ (fz_127 E h a0 a1 a2 a3 a4 a5 : Int32) = 0) → (Q (some (.long ((-9000000000000000001)))) h))))))
set_option maxRecDepth 20000 in
theorem ok_102 {E : Nat → Nat} {d : Nat} {a0 : Nat} {a1 : Int32} {a2 : Int32} {a3 : Int32} {a4 : Int32} {a5 : Int32} {a6 : Int32} {a7 : Int32} {h : ZH} {Q : Option Value → ZH → Prop} (hw : w_102 E d a0 a1 a2 a3 a4 a5 a6 a7 h Q) : Ct E (d + 1) 102 [.ref a0, .int a1, .int a2, .int a3, .int a4, .int a5, .int a6, .int a7] h Q := by
  unfold w_102 at hw
  show Gx E (d + 1) 102 0 [.ref a0, .int a1, .int a2, .int a3, .int a4, .int a5, .int a6, .int a7, .retAddr 0, .retAddr 0] [] h Q
  refine zg_iload zi_102_0 rfl ?_
  obtain ⟨hsd1, hw⟩ := hw
  have g1 : Gx E (d + 1) 102 11 [.ref a0, .int a1, .int a2, .int a3, .int a4, .int a5, .int a6, .int a7, .retAddr 0, .retAddr 0] [.int (if a6 < 0 then 0 else if 4 < a6 then 0 else if (fz_123 E h a7 : Int32) = 0 then 0 else 1)] h Q := by
    refine zg_nameI fun x1 ex1 => ?_
    have hw := hw x1 ex1
    refine zg_istore (ls1 := [.ref a0, .int a1, .int a2, .int a3, .int a4, .int a5, .int a6, .int a7, .int x1, .retAddr 0]) zi_102_11 (Nat.le_of_ble_eq_true rfl) rfl ?_
    refine zg_iload zi_102_12 rfl ?_
    refine zg_if_eq zi_102_13 (fun hc => ?_) (fun hc => ?_)
    · have hw := hw.1 hc
      refine zg_lconst (v := (-9000000000000000001)) zi_102_22 (by rfl) ?_
      exact zg_lreturn zi_102_23 hw
    · have hw := hw.2 hc
      refine zg_aload zi_102_14 rfl ?_
      refine zg_iload zi_102_15 rfl ?_
      refine zg_iload zi_102_16 rfl ?_
      refine zg_iload zi_102_17 rfl ?_
      refine zg_iload zi_102_18 rfl ?_
      refine zg_iload zi_102_19 rfl ?_
      obtain ⟨t2, hw⟩ := hw
      obtain ⟨hd, hs, hw⟩ := hw
      refine Gx.call2 (as := [.ref a0, .int a1, .int a2, .int a3, .int a4, .int a5]) (rest := []) zq_127 zi_102_20 rfl rfl rfl (Nat.le_of_ble_eq_true rfl) (Nat.le_of_ble_eq_true rfl) (zrv_v t2 rfl rfl) (Nat.le_of_ble_eq_true rfl) ?_
      refine cz_127 hd hs ?_
      show Gx E (d + 1) 102 21 [.ref a0, .int a1, .int a2, .int a3, .int a4, .int a5, .int a6, .int a7, .int x1, .retAddr 0] [.int (fz_127 E h a0 a1 a2 a3 a4 a5)] h Q
      refine zg_if_ne zi_102_21 (fun hc => ?_) (fun hc => ?_)
      · have hw := hw.1 hc
        refine zg_aload zi_102_24 rfl ?_
        obtain ⟨r3, er3, hw⟩ := hw
        refine zg_getR (v := .ref r3) zi_102_25 t2 (by rfl) (by show zrv (zR h a0 0) = _; rw [er3]; rfl) ?_
        refine zg_iload zi_102_26 rfl ?_
        refine zg_iload zi_102_27 rfl ?_
        obtain ⟨t4, hw⟩ := hw
        obtain ⟨hd, hs, hw⟩ := hw
        refine Gx.call2 (as := [.ref r3, .int a1, .int a6]) (rest := []) zq_46 zi_102_28 rfl rfl rfl (Nat.le_of_ble_eq_true rfl) (Nat.le_of_ble_eq_true rfl) (zrv_v t4 rfl rfl) (Nat.le_of_ble_eq_true rfl) ?_
        refine cz_46 hd hs ?_
        show Gx E (d + 1) 102 29 [.ref a0, .int a1, .int a2, .int a3, .int a4, .int a5, .int a6, .int a7, .int x1, .retAddr 0] [.int (fz_46 E h r3 a1 a6)] h Q
        refine zg_if_ne zi_102_29 (fun hc => ?_) (fun hc => ?_)
        · have hw := hw.1 hc
          refine zg_aload zi_102_32 rfl ?_
          obtain ⟨r5, er5, hw⟩ := hw
          refine zg_getR (v := .ref r5) zi_102_33 t2 (by rfl) (by show zrv (zR h a0 6) = _; rw [er5]; rfl) ?_
          refine zg_iload zi_102_34 rfl ?_
          refine zg_iload zi_102_35 rfl ?_
          refine zg_iload zi_102_36 rfl ?_
          refine zg_iload zi_102_37 rfl ?_
          obtain ⟨t6, hw⟩ := hw
          refine Gx.call2 (as := [.ref r5, .int a1, .int a2, .int a3, .int a4]) (rest := []) zq_16 zi_102_38 rfl rfl rfl (Nat.le_of_ble_eq_true rfl) (Nat.le_of_ble_eq_true rfl) (zrv_v t6 rfl rfl) (Nat.le_of_ble_eq_true rfl) ?_
          refine Ct.mono hw ?_
          rintro v h7 ⟨r8, rfl, hw⟩
          show Gx E (d + 1) 102 39 [.ref a0, .int a1, .int a2, .int a3, .int a4, .int a5, .int a6, .int a7, .int x1, .retAddr 0] [.ref r8] h7 Q
          refine zg_astore (ls1 := [.ref a0, .int a1, .int a2, .int a3, .int a4, .int a5, .int a6, .int a7, .int x1, .ref r8]) zi_102_39 (Nat.le_of_ble_eq_true rfl) rfl ?_
          refine zg_aload zi_102_40 rfl ?_
          obtain ⟨t9, hw⟩ := hw
          obtain ⟨r10, er10, hw⟩ := hw
          refine zg_getR (v := .ref r10) zi_102_41 t9 (by rfl) (by show zrv (zR h7 a0 5) = _; rw [er10]; rfl) ?_
          refine zg_aload zi_102_42 rfl ?_
          obtain ⟨r11, er11, hw⟩ := hw
          refine zg_getR (v := .ref r11) zi_102_43 t9 (by rfl) (by show zrv (zR h7 a0 0) = _; rw [er11]; rfl) ?_
          refine zg_iload zi_102_44 rfl ?_
          refine zg_iload zi_102_45 rfl ?_
          refine zg_iload zi_102_46 rfl ?_
          refine zg_iload zi_102_47 rfl ?_
          refine zg_iload zi_102_48 rfl ?_
          obtain ⟨t12, hw⟩ := hw
          refine Gx.call2 (as := [.ref r10, .ref r11, .int a1, .int a2, .int a3, .int a4, .int a6]) (rest := []) zq_25 zi_102_49 rfl rfl rfl (Nat.le_of_ble_eq_true rfl) (Nat.le_of_ble_eq_true rfl) (zrv_v t12 rfl rfl) (Nat.le_of_ble_eq_true rfl) ?_
          refine Ct.mono hw ?_
          rintro v h13 ⟨rfl, hw⟩
          show Gx E (d + 1) 102 50 [.ref a0, .int a1, .int a2, .int a3, .int a4, .int a5, .int a6, .int a7, .int x1, .ref r8] [] h13 Q
          refine zg_aload zi_102_50 rfl ?_
          obtain ⟨t14, hw⟩ := hw
          obtain ⟨r15, er15, hw⟩ := hw
          refine zg_getR (v := .ref r15) zi_102_51 t14 (by rfl) (by show zrv (zR h13 a0 5) = _; rw [er15]; rfl) ?_
          refine zg_aload zi_102_52 rfl ?_
          obtain ⟨r16, er16, hw⟩ := hw
          refine zg_getR (v := .ref r16) zi_102_53 t14 (by rfl) (by show zrv (zR h13 a0 0) = _; rw [er16]; rfl) ?_
          refine zg_iload zi_102_54 rfl ?_
          obtain ⟨t17, hw⟩ := hw
          refine Gx.call2 (as := [.ref r15, .ref r16, .int a1]) (rest := []) zq_26 zi_102_55 rfl rfl rfl (Nat.le_of_ble_eq_true rfl) (Nat.le_of_ble_eq_true rfl) (zrv_v t17 rfl rfl) (Nat.le_of_ble_eq_true rfl) ?_
          refine Ct.mono hw ?_
          rintro v h18 ⟨rfl, hw⟩
          show Gx E (d + 1) 102 56 [.ref a0, .int a1, .int a2, .int a3, .int a4, .int a5, .int a6, .int a7, .int x1, .ref r8] [] h18 Q
          refine zg_aload zi_102_56 rfl ?_
          refine zg_aload zi_102_57 rfl ?_
          obtain ⟨t19, hw⟩ := hw
          obtain ⟨r20, er20, hw⟩ := hw
          refine zg_getR (v := .ref r20) zi_102_58 t19 (by rfl) (by show zrv (zR h18 a0 5) = _; rw [er20]; rfl) ?_
          refine zg_iload zi_102_59 rfl ?_
          refine zg_iload zi_102_60 rfl ?_
          obtain ⟨t21, hw⟩ := hw
          obtain ⟨hd, hs, hw⟩ := hw
          refine Gx.call2 (as := [.ref r8, .ref r20, .int a1, .int a5]) (rest := []) zq_11 zi_102_61 rfl rfl rfl (Nat.le_of_ble_eq_true rfl) (Nat.le_of_ble_eq_true rfl) (zrv_v t21 rfl rfl) (Nat.le_of_ble_eq_true rfl) ?_
          refine cz_11 hd hs ?_
          show Gx E (d + 1) 102 62 [.ref a0, .int a1, .int a2, .int a3, .int a4, .int a5, .int a6, .int a7, .int x1, .ref r8] [.long (fz_11 E h18 r8 r20 a1 a5)] h18 Q
          refine zg_aload zi_102_62 rfl ?_
          obtain ⟨r22, er22, hw⟩ := hw
          refine zg_getR (v := .ref r22) zi_102_63 t19 (by rfl) (by show zrv (zR h18 a0 0) = _; rw [er22]; rfl) ?_
          obtain ⟨t23, hw⟩ := hw
          refine zg_getI (v := .int (zI h18 r22 6)) zi_102_64 t23 (by rfl) rfl ?_
          refine zg_iload zi_102_65 rfl ?_
          refine zg_isub zi_102_66 ?_
          refine zg_iload zi_102_67 rfl ?_
          refine Gx.call2 (as := [.long (fz_11 E h18 r8 r20 a1 a5), .int ((zI h18 r22 6) - a1), .int a7]) (rest := []) zq_128 zi_102_68 rfl rfl rfl (Nat.le_of_ble_eq_true rfl) (Nat.le_of_ble_eq_true rfl) (rfl) (Nat.le_of_ble_eq_true rfl) ?_
          refine Ct.mono hw ?_
          rintro v h24 ⟨x25, rfl, hw⟩
          show Gx E (d + 1) 102 69 [.ref a0, .int a1, .int a2, .int a3, .int a4, .int a5, .int a6, .int a7, .int x1, .ref r8] [.long x25] h24 Q
          exact zg_lreturn zi_102_69 hw
        · have hw := hw.2 hc
          refine zg_lconst (v := (-9000000000000000002)) zi_102_30 (by rfl) ?_
          exact zg_lreturn zi_102_31 hw
      · have hw := hw.2 hc
        refine zg_lconst (v := (-9000000000000000001)) zi_102_22 (by rfl) ?_
        exact zg_lreturn zi_102_23 hw
  refine zg_if_lt zi_102_1 (fun hc1 => ?_) (fun hc1 => ?_)
  · have hw := hsd1.1 hc1
    refine zg_const (v := 0) zi_102_10 (by rfl) ?_
    have hg := g1
    simp only [if_pos hc1] at hg
    exact hg
  · have hw := hsd1.2 hc1
    refine zg_iload zi_102_2 rfl ?_
    refine zg_const (v := 4) zi_102_3 (by rfl) ?_
    obtain ⟨hsd4, hw⟩ := hw
    have g4 : Gx E (d + 1) 102 11 [.ref a0, .int a1, .int a2, .int a3, .int a4, .int a5, .int a6, .int a7, .retAddr 0, .retAddr 0] [.int (if 4 < a6 then 0 else if (fz_123 E h a7 : Int32) = 0 then 0 else 1)] h Q := by
      have hg := g1
      simp only [if_neg hc1] at hg
      exact hg
    refine zg_icmp_gt zi_102_4 (fun hc4 => ?_) (fun hc4 => ?_)
    · have hw := hsd4.1 hc4
      refine zg_const (v := 0) zi_102_10 (by rfl) ?_
      have hg := g4
      simp only [if_pos hc4] at hg
      exact hg
    · have hw := hsd4.2 hc4
      refine zg_iload zi_102_5 rfl ?_
      obtain ⟨hd, hs, hw⟩ := hw
      refine Gx.call2 (as := [.int a7]) (rest := []) zq_123 zi_102_6 rfl rfl rfl (Nat.le_of_ble_eq_true rfl) (Nat.le_of_ble_eq_true rfl) (rfl) (Nat.le_of_ble_eq_true rfl) ?_
      refine cz_123 hd hs ?_
      show Gx E (d + 1) 102 7 [.ref a0, .int a1, .int a2, .int a3, .int a4, .int a5, .int a6, .int a7, .retAddr 0, .retAddr 0] [.int (fz_123 E h a7)] h Q
      have g7 : Gx E (d + 1) 102 11 [.ref a0, .int a1, .int a2, .int a3, .int a4, .int a5, .int a6, .int a7, .retAddr 0, .retAddr 0] [.int (if (fz_123 E h a7 : Int32) = 0 then 0 else 1)] h Q := by
        have hg := g4
        simp only [if_neg hc4] at hg
        exact hg
      refine zg_if_eq zi_102_7 (fun hc7 => ?_) (fun hc7 => ?_)
      · skip
        refine zg_const (v := 0) zi_102_10 (by rfl) ?_
        have hg := g7
        simp only [if_pos hc7] at hg
        exact hg
      · skip
        refine zg_const (v := 1) zi_102_8 (by rfl) ?_
        refine zg_goto zi_102_9 ?_
        have hg := g7
        simp only [if_neg hc7] at hg
        exact hg
theorem zq_103 : zQ 103 3 3 10 := by unfold zQ; decide +kernel
theorem zi_103_0 : (zM 103).1[0]? = some (.iload 1) := by rfl
theorem zi_103_1 : (zM 103).1[1]? = some (.ifCond .lt ((8 : Nat) : Int)) := by rfl
theorem zi_103_2 : (zM 103).1[2]? = some (.iload 1) := by rfl
theorem zi_103_3 : (zM 103).1[3]? = some (.iconst 1) := by rfl
theorem zi_103_4 : (zM 103).1[4]? = some (.if_icmp .gt ((8 : Nat) : Int)) := by rfl
theorem zi_103_5 : (zM 103).1[5]? = some (.iload 2) := by rfl
theorem zi_103_6 : (zM 103).1[6]? = some (.invokestatic 123) := by rfl
theorem zi_103_7 : (zM 103).1[7]? = some (.ifCond .ne ((10 : Nat) : Int)) := by rfl
theorem zi_103_8 : (zM 103).1[8]? = some (.jsr_w (-9000000000000000001)) := by rfl
theorem zi_103_9 : (zM 103).1[9]? = some (.lreturn) := by rfl
theorem zi_103_10 : (zM 103).1[10]? = some (.aload 0) := by rfl
theorem zi_103_11 : (zM 103).1[11]? = some (.getfield 10206) := by rfl
theorem zi_103_12 : (zM 103).1[12]? = some (.invokevirtual 18) := by rfl
theorem zi_103_13 : (zM 103).1[13]? = some (.aload 0) := by rfl
theorem zi_103_14 : (zM 103).1[14]? = some (.getfield 10206) := by rfl
theorem zi_103_15 : (zM 103).1[15]? = some (.getfield 1212) := by rfl
theorem zi_103_16 : (zM 103).1[16]? = some (.iload 1) := by rfl
theorem zi_103_17 : (zM 103).1[17]? = some (.laload) := by rfl
theorem zi_103_18 : (zM 103).1[18]? = some (.aload 0) := by rfl
theorem zi_103_19 : (zM 103).1[19]? = some (.getfield 10200) := by rfl
theorem zi_103_20 : (zM 103).1[20]? = some (.getfield 3006) := by rfl
theorem zi_103_21 : (zM 103).1[21]? = some (.iload 2) := by rfl
theorem zi_103_22 : (zM 103).1[22]? = some (.invokestatic 128) := by rfl
theorem zi_103_23 : (zM 103).1[23]? = some (.lreturn) := by rfl
/-- TakeOrPay.whole(II)J -/
def w_103 (E : Nat → Nat) (d : Nat) (a0 : Nat) (a1 : Int32) (a2 : Int32) (h : ZH) (Q : Option Value → ZH → Prop) : Prop := (a1 < 0 → (Q (some (.long ((-9000000000000000001)))) h)) ∧ (¬ (a1 < 0) → ((1 < a1 → (Q (some (.long ((-9000000000000000001)))) h)) ∧ (¬ (1 < a1) → (1 ≤ d ∧ sz_123 E h a2 ∧ ((¬ (fz_123 E h a2 : Int32) = 0 → (ztag h a0 = 10 ∧ ∃ r2 : Nat, zR h a0 6 = r2 + 1 ∧ ztag h r2 = 1 ∧ Ct E d 18 [.ref r2] h (fun v h4 => v = none ∧ ztag h4 a0 = 10 ∧ ∃ r6 : Nat, zR h4 a0 6 = r6 + 1 ∧ ztag h4 r6 = 1 ∧ ∃ r8 : Nat, zR h4 r6 12 = r8 + 1 ∧ ztag h4 r8 = 14 ∧ zin a1 (zlen h4 r8) = true ∧ ∃ r10 : Nat, zR h4 a0 0 = r10 + 1 ∧ ztag h4 r10 = 3 ∧ Ct E d 128 [.long (zL h4 r8 a1.toNatClampNeg), .int (zI h4 r10 6), .int a2] h4 (fun v h12 => ∃ x13 : Int64, v = some (.long x13) ∧ Q (some (.long x13)) h12)))) ∧ (¬ (¬ (fz_123 E h a2 : Int32) = 0) → (Q (some (.long ((-9000000000000000001)))) h)))))))
set_option maxRecDepth 20000 in
theorem ok_103 {E : Nat → Nat} {d : Nat} {a0 : Nat} {a1 : Int32} {a2 : Int32} {h : ZH} {Q : Option Value → ZH → Prop} (hw : w_103 E d a0 a1 a2 h Q) : Ct E (d + 1) 103 [.ref a0, .int a1, .int a2] h Q := by
  unfold w_103 at hw
  show Gx E (d + 1) 103 0 [.ref a0, .int a1, .int a2] [] h Q
  refine zg_iload zi_103_0 rfl ?_
  refine zg_if_lt zi_103_1 (fun hc => ?_) (fun hc => ?_)
  · have hw := hw.1 hc
    refine zg_lconst (v := (-9000000000000000001)) zi_103_8 (by rfl) ?_
    exact zg_lreturn zi_103_9 hw
  · have hw := hw.2 hc
    refine zg_iload zi_103_2 rfl ?_
    refine zg_const (v := 1) zi_103_3 (by rfl) ?_
    refine zg_icmp_gt zi_103_4 (fun hc => ?_) (fun hc => ?_)
    · have hw := hw.1 hc
      refine zg_lconst (v := (-9000000000000000001)) zi_103_8 (by rfl) ?_
      exact zg_lreturn zi_103_9 hw
    · have hw := hw.2 hc
      refine zg_iload zi_103_5 rfl ?_
      obtain ⟨hd, hs, hw⟩ := hw
      refine Gx.call2 (as := [.int a2]) (rest := []) zq_123 zi_103_6 rfl rfl rfl (Nat.le_of_ble_eq_true rfl) (Nat.le_of_ble_eq_true rfl) (rfl) (Nat.le_of_ble_eq_true rfl) ?_
      refine cz_123 hd hs ?_
      show Gx E (d + 1) 103 7 [.ref a0, .int a1, .int a2] [.int (fz_123 E h a2)] h Q
      refine zg_if_ne zi_103_7 (fun hc => ?_) (fun hc => ?_)
      · have hw := hw.1 hc
        refine zg_aload zi_103_10 rfl ?_
        obtain ⟨t1, hw⟩ := hw
        obtain ⟨r2, er2, hw⟩ := hw
        refine zg_getR (v := .ref r2) zi_103_11 t1 (by rfl) (by show zrv (zR h a0 6) = _; rw [er2]; rfl) ?_
        obtain ⟨t3, hw⟩ := hw
        refine Gx.call2 (as := [.ref r2]) (rest := []) zq_18 zi_103_12 rfl rfl rfl (Nat.le_of_ble_eq_true rfl) (Nat.le_of_ble_eq_true rfl) (zrv_v t3 rfl rfl) (Nat.le_of_ble_eq_true rfl) ?_
        refine Ct.mono hw ?_
        rintro v h4 ⟨rfl, hw⟩
        show Gx E (d + 1) 103 13 [.ref a0, .int a1, .int a2] [] h4 Q
        refine zg_aload zi_103_13 rfl ?_
        obtain ⟨t5, hw⟩ := hw
        obtain ⟨r6, er6, hw⟩ := hw
        refine zg_getR (v := .ref r6) zi_103_14 t5 (by rfl) (by show zrv (zR h4 a0 6) = _; rw [er6]; rfl) ?_
        obtain ⟨t7, hw⟩ := hw
        obtain ⟨r8, er8, hw⟩ := hw
        refine zg_getR (v := .ref r8) zi_103_15 t7 (by rfl) (by show zrv (zR h4 r6 12) = _; rw [er8]; rfl) ?_
        refine zg_iload zi_103_16 rfl ?_
        obtain ⟨t9, hw⟩ := hw
        obtain ⟨hb, hw⟩ := hw
        refine zg_laload (v := .long (zL h4 r8 a1.toNatClampNeg)) zi_103_17 t9 hb rfl ?_
        refine zg_aload zi_103_18 rfl ?_
        obtain ⟨r10, er10, hw⟩ := hw
        refine zg_getR (v := .ref r10) zi_103_19 t5 (by rfl) (by show zrv (zR h4 a0 0) = _; rw [er10]; rfl) ?_
        obtain ⟨t11, hw⟩ := hw
        refine zg_getI (v := .int (zI h4 r10 6)) zi_103_20 t11 (by rfl) rfl ?_
        refine zg_iload zi_103_21 rfl ?_
        refine Gx.call2 (as := [.long (zL h4 r8 a1.toNatClampNeg), .int (zI h4 r10 6), .int a2]) (rest := []) zq_128 zi_103_22 rfl rfl rfl (Nat.le_of_ble_eq_true rfl) (Nat.le_of_ble_eq_true rfl) (rfl) (Nat.le_of_ble_eq_true rfl) ?_
        refine Ct.mono hw ?_
        rintro v h12 ⟨x13, rfl, hw⟩
        show Gx E (d + 1) 103 23 [.ref a0, .int a1, .int a2] [.long x13] h12 Q
        exact zg_lreturn zi_103_23 hw
      · have hw := hw.2 hc
        refine zg_lconst (v := (-9000000000000000001)) zi_103_8 (by rfl) ?_
        exact zg_lreturn zi_103_9 hw
theorem zq_104 : zQ 104 2 2 10 := by unfold zQ; decide +kernel
theorem zi_104_0 : (zM 104).1[0]? = some (.iload 1) := by rfl
theorem zi_104_1 : (zM 104).1[1]? = some (.ifCond .lt ((5 : Nat) : Int)) := by rfl
theorem zi_104_2 : (zM 104).1[2]? = some (.iload 1) := by rfl
theorem zi_104_3 : (zM 104).1[3]? = some (.iconst 5) := by rfl
theorem zi_104_4 : (zM 104).1[4]? = some (.if_icmp .le ((7 : Nat) : Int)) := by rfl
theorem zi_104_5 : (zM 104).1[5]? = some (.jsr_w (-1)) := by rfl
theorem zi_104_6 : (zM 104).1[6]? = some (.lreturn) := by rfl
theorem zi_104_7 : (zM 104).1[7]? = some (.aload 0) := by rfl
theorem zi_104_8 : (zM 104).1[8]? = some (.getfield 10206) := by rfl
theorem zi_104_9 : (zM 104).1[9]? = some (.invokevirtual 18) := by rfl
theorem zi_104_10 : (zM 104).1[10]? = some (.aload 0) := by rfl
theorem zi_104_11 : (zM 104).1[11]? = some (.getfield 10206) := by rfl
theorem zi_104_12 : (zM 104).1[12]? = some (.getfield 1212) := by rfl
theorem zi_104_13 : (zM 104).1[13]? = some (.iconst 2) := by rfl
theorem zi_104_14 : (zM 104).1[14]? = some (.iload 1) := by rfl
theorem zi_104_15 : (zM 104).1[15]? = some (.iconst 2) := by rfl
theorem zi_104_16 : (zM 104).1[16]? = some (.idiv) := by rfl
theorem zi_104_17 : (zM 104).1[17]? = some (.iadd) := by rfl
theorem zi_104_18 : (zM 104).1[18]? = some (.laload) := by rfl
theorem zi_104_19 : (zM 104).1[19]? = some (.aload 0) := by rfl
theorem zi_104_20 : (zM 104).1[20]? = some (.getfield 10200) := by rfl
theorem zi_104_21 : (zM 104).1[21]? = some (.getfield 3006) := by rfl
theorem zi_104_22 : (zM 104).1[22]? = some (.iload 1) := by rfl
theorem zi_104_23 : (zM 104).1[23]? = some (.iconst 2) := by rfl
theorem zi_104_24 : (zM 104).1[24]? = some (.irem) := by rfl
theorem zi_104_25 : (zM 104).1[25]? = some (.invokestatic 128) := by rfl
theorem zi_104_26 : (zM 104).1[26]? = some (.lreturn) := by rfl
/-- TakeOrPay.units(I)J -/
def w_104 (E : Nat → Nat) (d : Nat) (a0 : Nat) (a1 : Int32) (h : ZH) (Q : Option Value → ZH → Prop) : Prop := (a1 < 0 → (Q (some (.long ((-1)))) h)) ∧ (¬ (a1 < 0) → ((a1 ≤ 5 → (ztag h a0 = 10 ∧ ∃ r2 : Nat, zR h a0 6 = r2 + 1 ∧ ztag h r2 = 1 ∧ Ct E d 18 [.ref r2] h (fun v h4 => v = none ∧ ztag h4 a0 = 10 ∧ ∃ r6 : Nat, zR h4 a0 6 = r6 + 1 ∧ ztag h4 r6 = 1 ∧ ∃ r8 : Nat, zR h4 r6 12 = r8 + 1 ∧ ztag h4 r8 = 14 ∧ zin (2 + (a1 / 2)) (zlen h4 r8) = true ∧ ∃ r10 : Nat, zR h4 a0 0 = r10 + 1 ∧ ztag h4 r10 = 3 ∧ Ct E d 128 [.long (zL h4 r8 (2 + (a1 / 2) : Int32).toNatClampNeg), .int (zI h4 r10 6), .int (a1 - a1 / 2 * 2)] h4 (fun v h12 => ∃ x13 : Int64, v = some (.long x13) ∧ Q (some (.long x13)) h12)))) ∧ (¬ (a1 ≤ 5) → (Q (some (.long ((-1)))) h))))
set_option maxRecDepth 20000 in
theorem ok_104 {E : Nat → Nat} {d : Nat} {a0 : Nat} {a1 : Int32} {h : ZH} {Q : Option Value → ZH → Prop} (hw : w_104 E d a0 a1 h Q) : Ct E (d + 1) 104 [.ref a0, .int a1] h Q := by
  unfold w_104 at hw
  show Gx E (d + 1) 104 0 [.ref a0, .int a1] [] h Q
  refine zg_iload zi_104_0 rfl ?_
  refine zg_if_lt zi_104_1 (fun hc => ?_) (fun hc => ?_)
  · have hw := hw.1 hc
    refine zg_lconst (v := (-1)) zi_104_5 (by rfl) ?_
    exact zg_lreturn zi_104_6 hw
  · have hw := hw.2 hc
    refine zg_iload zi_104_2 rfl ?_
    refine zg_const (v := 5) zi_104_3 (by rfl) ?_
    refine zg_icmp_le zi_104_4 (fun hc => ?_) (fun hc => ?_)
    · have hw := hw.1 hc
      refine zg_aload zi_104_7 rfl ?_
      obtain ⟨t1, hw⟩ := hw
      obtain ⟨r2, er2, hw⟩ := hw
      refine zg_getR (v := .ref r2) zi_104_8 t1 (by rfl) (by show zrv (zR h a0 6) = _; rw [er2]; rfl) ?_
      obtain ⟨t3, hw⟩ := hw
      refine Gx.call2 (as := [.ref r2]) (rest := []) zq_18 zi_104_9 rfl rfl rfl (Nat.le_of_ble_eq_true rfl) (Nat.le_of_ble_eq_true rfl) (zrv_v t3 rfl rfl) (Nat.le_of_ble_eq_true rfl) ?_
      refine Ct.mono hw ?_
      rintro v h4 ⟨rfl, hw⟩
      show Gx E (d + 1) 104 10 [.ref a0, .int a1] [] h4 Q
      refine zg_aload zi_104_10 rfl ?_
      obtain ⟨t5, hw⟩ := hw
      obtain ⟨r6, er6, hw⟩ := hw
      refine zg_getR (v := .ref r6) zi_104_11 t5 (by rfl) (by show zrv (zR h4 a0 6) = _; rw [er6]; rfl) ?_
      obtain ⟨t7, hw⟩ := hw
      obtain ⟨r8, er8, hw⟩ := hw
      refine zg_getR (v := .ref r8) zi_104_12 t7 (by rfl) (by show zrv (zR h4 r6 12) = _; rw [er8]; rfl) ?_
      refine zg_const (v := 2) zi_104_13 (by rfl) ?_
      refine zg_iload zi_104_14 rfl ?_
      refine zg_const (v := 2) zi_104_15 (by rfl) ?_
      refine zg_idiv zi_104_16 (by decide) ?_
      refine zg_iadd zi_104_17 ?_
      obtain ⟨t9, hw⟩ := hw
      obtain ⟨hb, hw⟩ := hw
      refine zg_laload (v := .long (zL h4 r8 (2 + (a1 / 2) : Int32).toNatClampNeg)) zi_104_18 t9 hb rfl ?_
      refine zg_aload zi_104_19 rfl ?_
      obtain ⟨r10, er10, hw⟩ := hw
      refine zg_getR (v := .ref r10) zi_104_20 t5 (by rfl) (by show zrv (zR h4 a0 0) = _; rw [er10]; rfl) ?_
      obtain ⟨t11, hw⟩ := hw
      refine zg_getI (v := .int (zI h4 r10 6)) zi_104_21 t11 (by rfl) rfl ?_
      refine zg_iload zi_104_22 rfl ?_
      refine zg_const (v := 2) zi_104_23 (by rfl) ?_
      refine zg_irem zi_104_24 (by decide) ?_
      refine Gx.call2 (as := [.long (zL h4 r8 (2 + (a1 / 2) : Int32).toNatClampNeg), .int (zI h4 r10 6), .int (a1 - a1 / 2 * 2)]) (rest := []) zq_128 zi_104_25 rfl rfl rfl (Nat.le_of_ble_eq_true rfl) (Nat.le_of_ble_eq_true rfl) (rfl) (Nat.le_of_ble_eq_true rfl) ?_
      refine Ct.mono hw ?_
      rintro v h12 ⟨x13, rfl, hw⟩
      show Gx E (d + 1) 104 26 [.ref a0, .int a1] [.long x13] h12 Q
      exact zg_lreturn zi_104_26 hw
    · have hw := hw.2 hc
      refine zg_lconst (v := (-1)) zi_104_5 (by rfl) ?_
      exact zg_lreturn zi_104_6 hw
