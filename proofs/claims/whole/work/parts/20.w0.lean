/-! what each method needs and does, printed by wip/whole/dec.py: part 0 -/
theorem zq_23 : zQ 23 1 1 2 := by unfold zQ; decide +kernel
theorem zi_23_0 : (zM 23).1[0]? = some (.aload 0) := by rfl
theorem zi_23_1 : (zM 23).1[1]? = some (.invokedynamic 3) := by rfl
theorem zi_23_2 : (zM 23).1[2]? = some (.return_) := by rfl
/-- TakeOrPay$Move.<init>()V -/
def w_23 (E : Nat → Nat) (d : Nat) (a0 : Nat) (h : ZH) (Q : Option Value → ZH → Prop) : Prop := 4 ≤ d ∧ Q none h
set_option maxRecDepth 20000 in
theorem ok_23 {E : Nat → Nat} {d : Nat} {a0 : Nat} {h : ZH} {Q : Option Value → ZH → Prop} (hw : w_23 E d a0 h Q) : Ct E (d + 1) 23 [.ref a0] h Q := by
  unfold w_23 at hw
  show Gx E (d + 1) 23 0 [.ref a0] [] h Q
  refine zg_aload zi_23_0 rfl ?_
  obtain ⟨hd, hw⟩ := hw
  refine zg_object zi_23_1 ⟨by omega, Nat.le_of_ble_eq_true rfl⟩ ?_
  exact zg_return zi_23_2 hw
theorem zq_0 : zQ 0 1 2 0 := by unfold zQ; decide +kernel
theorem zi_0_0 : (zM 0).1[0]? = some (.aload 0) := by rfl
theorem zi_0_1 : (zM 0).1[1]? = some (.invokedynamic 3) := by rfl
theorem zi_0_2 : (zM 0).1[2]? = some (.aload 0) := by rfl
theorem zi_0_3 : (zM 0).1[3]? = some (.iconst 41580) := by rfl
theorem zi_0_4 : (zM 0).1[4]? = some (.newarray .long) := by rfl
theorem zi_0_5 : (zM 0).1[5]? = some (.putfield 200) := by rfl
theorem zi_0_6 : (zM 0).1[6]? = some (.aload 0) := by rfl
theorem zi_0_7 : (zM 0).1[7]? = some (.iconst 13860) := by rfl
theorem zi_0_8 : (zM 0).1[8]? = some (.newarray .int) := by rfl
theorem zi_0_9 : (zM 0).1[9]? = some (.putfield 201) := by rfl
theorem zi_0_10 : (zM 0).1[10]? = some (.aload 0) := by rfl
theorem zi_0_11 : (zM 0).1[11]? = some (.iconst 20) := by rfl
theorem zi_0_12 : (zM 0).1[12]? = some (.anewarray 16) := by rfl
theorem zi_0_13 : (zM 0).1[13]? = some (.putfield 202) := by rfl
theorem zi_0_14 : (zM 0).1[14]? = some (.aload 0) := by rfl
theorem zi_0_15 : (zM 0).1[15]? = some (.iconst 60) := by rfl
theorem zi_0_16 : (zM 0).1[16]? = some (.newarray .int) := by rfl
theorem zi_0_17 : (zM 0).1[17]? = some (.putfield 203) := by rfl
theorem zi_0_18 : (zM 0).1[18]? = some (.aload 0) := by rfl
theorem zi_0_19 : (zM 0).1[19]? = some (.iconst 60) := by rfl
theorem zi_0_20 : (zM 0).1[20]? = some (.newarray .int) := by rfl
theorem zi_0_21 : (zM 0).1[21]? = some (.putfield 204) := by rfl
theorem zi_0_22 : (zM 0).1[22]? = some (.aload 0) := by rfl
theorem zi_0_23 : (zM 0).1[23]? = some (.iconst 21) := by rfl
theorem zi_0_24 : (zM 0).1[24]? = some (.newarray .long) := by rfl
theorem zi_0_25 : (zM 0).1[25]? = some (.putfield 205) := by rfl
theorem zi_0_26 : (zM 0).1[26]? = some (.iconst 0) := by rfl
theorem zi_0_27 : (zM 0).1[27]? = some (.istore 1) := by rfl
theorem zi_0_28 : (zM 0).1[28]? = some (.iload 1) := by rfl
theorem zi_0_29 : (zM 0).1[29]? = some (.iconst 20) := by rfl
theorem zi_0_30 : (zM 0).1[30]? = some (.if_icmp .ge ((40 : Nat) : Int)) := by rfl
theorem zi_0_31 : (zM 0).1[31]? = some (.aload 0) := by rfl
theorem zi_0_32 : (zM 0).1[32]? = some (.getfield 202) := by rfl
theorem zi_0_33 : (zM 0).1[33]? = some (.iload 1) := by rfl
theorem zi_0_34 : (zM 0).1[34]? = some (.new 2) := by rfl
theorem zi_0_35 : (zM 0).1[35]? = some (.dup) := by rfl
theorem zi_0_36 : (zM 0).1[36]? = some (.invokespecial 23) := by rfl
theorem zi_0_37 : (zM 0).1[37]? = some (.aastore) := by rfl
theorem zi_0_38 : (zM 0).1[38]? = some (.iinc 1 1) := by rfl
theorem zi_0_39 : (zM 0).1[39]? = some (.goto ((28 : Nat) : Int)) := by rfl
theorem zi_0_40 : (zM 0).1[40]? = some (.return_) := by rfl
def wl_0_28 (E : Nat → Nat) (d : Nat) (Q : Option Value → ZH → Prop) : Nat → Nat → Int32 → ZH → Prop
  | 0, _, _, _ => False
  | n + 1, a0, a1, h => (20 ≤ a1 → (Q none h)) ∧ (¬ (20 ≤ a1) → (ztag h a0 = 0 ∧ ∃ r26 : Nat, zR h a0 2 = r26 + 1 ∧ ∀ h27 : ZH, h27 = (znew h 2 (zN 2)) → ∀ r28 : Nat, r28 = (zsz h) → ztag h27 r28 = 2 ∧ Ct E d 23 [.ref r28] h27 (fun v h30 => v = none ∧ ((ztag h30 r26 = 16 ∧ ztag h30 r28 = 2) ∨ (ztag h30 r26 = 17 ∧ ztag h30 r28 = 6)) ∧ zin a1 (zlen h30 r26) = true ∧ ∀ h32 : ZH, h32 = (zuR h30 r26 a1.toNatClampNeg (r28 + 1)) → ∀ x33 : Int32, x33 = (a1 + 1) → wl_0_28 E d Q n a0 x33 h32)))
set_option maxRecDepth 20000 in
theorem okl_0_28 {E : Nat → Nat} {d : Nat} {Q : Option Value → ZH → Prop} : ∀ (n : Nat) (a0 : Nat) (a1 : Int32) (h : ZH), wl_0_28 E d Q n a0 a1 h → Gx E (d + 1) 0 28 [.ref a0, .int a1] [] h Q := by
  intro n
  induction n with
  | zero => intro a0 a1 h hw; exact hw.elim
  | succ n ih =>
    intro a0 a1 h hw
    rw [wl_0_28] at hw
    refine zg_iload zi_0_28 rfl ?_
    refine zg_const (v := 20) zi_0_29 (by rfl) ?_
    refine zg_icmp_ge zi_0_30 (fun hc => ?_) (fun hc => ?_)
    · have hw := hw.1 hc
      exact zg_return zi_0_40 hw
    · have hw := hw.2 hc
      refine zg_aload zi_0_31 rfl ?_
      obtain ⟨t25, hw⟩ := hw
      obtain ⟨r26, er26, hw⟩ := hw
      refine zg_getR (v := .ref r26) zi_0_32 t25 (by rfl) (by show zrv (zR h a0 2) = _; rw [er26]; rfl) ?_
      refine zg_iload zi_0_33 rfl ?_
      refine zg_new zi_0_34 (by decide) ?_
      refine zg_nameH fun h27 eh27 => ?_
      have hw := hw h27 eh27
      refine zg_nameA fun r28 er28 => ?_
      have hw := hw r28 er28
      refine zg_dup zi_0_35 rfl ?_
      obtain ⟨t29, hw⟩ := hw
      refine Gx.call2 (as := [.ref r28]) (rest := [.ref r28, .int a1, .ref r26]) zq_23 zi_0_36 rfl rfl rfl (Nat.le_of_ble_eq_true rfl) (Nat.le_of_ble_eq_true rfl) (zrv_i t29 rfl rfl) (Nat.le_of_ble_eq_true rfl) ?_
      refine Ct.mono hw ?_
      rintro v h30 ⟨rfl, hw⟩
      show Gx E (d + 1) 0 37 [.ref a0, .int a1] [.ref r28, .int a1, .ref r26] h30 Q
      obtain ⟨t31, hw⟩ := hw
      obtain ⟨hb, hw⟩ := hw
      refine zg_aastore (h1 := zuR h30 r26 a1.toNatClampNeg (r28 + 1)) zi_0_37 t31 hb rfl ?_
      refine zg_nameH fun h32 eh32 => ?_
      have hw := hw h32 eh32
      obtain ⟨x33, ex33⟩ : ∃ x : Int32, x = a1 + 1 := ⟨_, rfl⟩
      have hw := hw x33 ex33
      refine zg_iinc (v := x33) (ls1 := [.ref a0, .int x33]) zi_0_38 rfl (by rw [ex33]; rfl) rfl ?_
      refine zg_goto zi_0_39 ?_
      exact ih a0 x33 h32 hw
/-- TakeOrPay$Best.<init>()V -/
def w_0 (E : Nat → Nat) (d : Nat) (a0 : Nat) (h : ZH) (Q : Option Value → ZH → Prop) : Prop := 4 ≤ d ∧ ∀ h1 : ZH, h1 = (znew h 14 41580) → ∀ r2 : Nat, r2 = (zsz h) → ztag h1 a0 = 0 ∧ ∀ h4 : ZH, h4 = (zuR h1 a0 0 (r2 + 1)) → ∀ h5 : ZH, h5 = (znew h4 13 13860) → ∀ r6 : Nat, r6 = (zsz h4) → ztag h5 a0 = 0 ∧ ∀ h8 : ZH, h8 = (zuR h5 a0 1 (r6 + 1)) → ∀ h9 : ZH, h9 = (znew h8 16 20) → ∀ r10 : Nat, r10 = (zsz h8) → ztag h9 a0 = 0 ∧ ∀ h12 : ZH, h12 = (zuR h9 a0 2 (r10 + 1)) → ∀ h13 : ZH, h13 = (znew h12 13 60) → ∀ r14 : Nat, r14 = (zsz h12) → ztag h13 a0 = 0 ∧ ∀ h16 : ZH, h16 = (zuR h13 a0 3 (r14 + 1)) → ∀ h17 : ZH, h17 = (znew h16 13 60) → ∀ r18 : Nat, r18 = (zsz h16) → ztag h17 a0 = 0 ∧ ∀ h20 : ZH, h20 = (zuR h17 a0 4 (r18 + 1)) → ∀ h21 : ZH, h21 = (znew h20 14 21) → ∀ r22 : Nat, r22 = (zsz h20) → ztag h21 a0 = 0 ∧ ∀ h24 : ZH, h24 = (zuR h21 a0 5 (r22 + 1)) → (∃ mm : Nat, wl_0_28 E d Q mm a0 0 h24)
set_option maxRecDepth 20000 in
theorem ok_0 {E : Nat → Nat} {d : Nat} {a0 : Nat} {h : ZH} {Q : Option Value → ZH → Prop} (hw : w_0 E d a0 h Q) : Ct E (d + 1) 0 [.ref a0] h Q := by
  unfold w_0 at hw
  show Gx E (d + 1) 0 0 [.ref a0, .retAddr 0] [] h Q
  refine zg_aload zi_0_0 rfl ?_
  obtain ⟨hd, hw⟩ := hw
  refine zg_object zi_0_1 ⟨by omega, Nat.le_of_ble_eq_true rfl⟩ ?_
  refine zg_aload zi_0_2 rfl ?_
  refine zg_const (v := 41580) zi_0_3 (by rfl) ?_
  refine zg_newarray_long (N := 41580) zi_0_4 (by decide) (by decide) ?_
  refine zg_nameH fun h1 eh1 => ?_
  have hw := hw h1 eh1
  refine zg_nameA fun r2 er2 => ?_
  have hw := hw r2 er2
  obtain ⟨t3, hw⟩ := hw
  refine zg_putR (h1 := zuR h1 a0 0 (r2 + 1)) zi_0_5 t3 (by rfl) rfl ?_
  refine zg_nameH fun h4 eh4 => ?_
  have hw := hw h4 eh4
  refine zg_aload zi_0_6 rfl ?_
  refine zg_const (v := 13860) zi_0_7 (by rfl) ?_
  refine zg_newarray_int (N := 13860) zi_0_8 (by decide) (by decide) ?_
  refine zg_nameH fun h5 eh5 => ?_
  have hw := hw h5 eh5
  refine zg_nameA fun r6 er6 => ?_
  have hw := hw r6 er6
  obtain ⟨t7, hw⟩ := hw
  refine zg_putR (h1 := zuR h5 a0 1 (r6 + 1)) zi_0_9 t7 (by rfl) rfl ?_
  refine zg_nameH fun h8 eh8 => ?_
  have hw := hw h8 eh8
  refine zg_aload zi_0_10 rfl ?_
  refine zg_const (v := 20) zi_0_11 (by rfl) ?_
  refine zg_anewarray (N := 20) zi_0_12 (by decide) (by decide) ?_
  refine zg_nameH fun h9 eh9 => ?_
  have hw := hw h9 eh9
  refine zg_nameA fun r10 er10 => ?_
  have hw := hw r10 er10
  obtain ⟨t11, hw⟩ := hw
  refine zg_putR (h1 := zuR h9 a0 2 (r10 + 1)) zi_0_13 t11 (by rfl) rfl ?_
  refine zg_nameH fun h12 eh12 => ?_
  have hw := hw h12 eh12
  refine zg_aload zi_0_14 rfl ?_
  refine zg_const (v := 60) zi_0_15 (by rfl) ?_
  refine zg_newarray_int (N := 60) zi_0_16 (by decide) (by decide) ?_
  refine zg_nameH fun h13 eh13 => ?_
  have hw := hw h13 eh13
  refine zg_nameA fun r14 er14 => ?_
  have hw := hw r14 er14
  obtain ⟨t15, hw⟩ := hw
  refine zg_putR (h1 := zuR h13 a0 3 (r14 + 1)) zi_0_17 t15 (by rfl) rfl ?_
  refine zg_nameH fun h16 eh16 => ?_
  have hw := hw h16 eh16
  refine zg_aload zi_0_18 rfl ?_
  refine zg_const (v := 60) zi_0_19 (by rfl) ?_
  refine zg_newarray_int (N := 60) zi_0_20 (by decide) (by decide) ?_
  refine zg_nameH fun h17 eh17 => ?_
  have hw := hw h17 eh17
  refine zg_nameA fun r18 er18 => ?_
  have hw := hw r18 er18
  obtain ⟨t19, hw⟩ := hw
  refine zg_putR (h1 := zuR h17 a0 4 (r18 + 1)) zi_0_21 t19 (by rfl) rfl ?_
  refine zg_nameH fun h20 eh20 => ?_
  have hw := hw h20 eh20
  refine zg_aload zi_0_22 rfl ?_
  refine zg_const (v := 21) zi_0_23 (by rfl) ?_
  refine zg_newarray_long (N := 21) zi_0_24 (by decide) (by decide) ?_
  refine zg_nameH fun h21 eh21 => ?_
  have hw := hw h21 eh21
  refine zg_nameA fun r22 er22 => ?_
  have hw := hw r22 er22
  obtain ⟨t23, hw⟩ := hw
  refine zg_putR (h1 := zuR h21 a0 5 (r22 + 1)) zi_0_25 t23 (by rfl) rfl ?_
  refine zg_nameH fun h24 eh24 => ?_
  have hw := hw h24 eh24
  refine zg_const (v := 0) zi_0_26 (by rfl) ?_
  refine zg_istore (ls1 := [.ref a0, .int 0]) zi_0_27 (Nat.le_of_ble_eq_true rfl) rfl ?_
  obtain ⟨mm, hw⟩ := hw
  exact okl_0_28 mm a0 0 h24 hw
theorem zq_3 : zQ 3 2 3 0 := by unfold zQ; decide +kernel
theorem zi_3_0 : (zM 3).1[0]? = some (.aload 0) := by rfl
theorem zi_3_1 : (zM 3).1[1]? = some (.aload 1) := by rfl
theorem zi_3_2 : (zM 3).1[2]? = some (.putfield 206) := by rfl
theorem zi_3_3 : (zM 3).1[3]? = some (.aload 0) := by rfl
theorem zi_3_4 : (zM 3).1[4]? = some (.dup) := by rfl
theorem zi_3_5 : (zM 3).1[5]? = some (.getfield 10) := by rfl
theorem zi_3_6 : (zM 3).1[6]? = some (.iconst 1) := by rfl
theorem zi_3_7 : (zM 3).1[7]? = some (.iadd) := by rfl
theorem zi_3_8 : (zM 3).1[8]? = some (.putfield 10) := by rfl
theorem zi_3_9 : (zM 3).1[9]? = some (.aload 0) := by rfl
theorem zi_3_10 : (zM 3).1[10]? = some (.aload 0) := by rfl
theorem zi_3_11 : (zM 3).1[11]? = some (.getfield 10) := by rfl
theorem zi_3_12 : (zM 3).1[12]? = some (.putfield 7) := by rfl
theorem zi_3_13 : (zM 3).1[13]? = some (.aload 0) := by rfl
theorem zi_3_14 : (zM 3).1[14]? = some (.iconst 0) := by rfl
theorem zi_3_15 : (zM 3).1[15]? = some (.putfield 9) := by rfl
theorem zi_3_16 : (zM 3).1[16]? = some (.iconst 0) := by rfl
theorem zi_3_17 : (zM 3).1[17]? = some (.istore 2) := by rfl
theorem zi_3_18 : (zM 3).1[18]? = some (.iload 2) := by rfl
theorem zi_3_19 : (zM 3).1[19]? = some (.aload 1) := by rfl
theorem zi_3_20 : (zM 3).1[20]? = some (.getfield 3006) := by rfl
theorem zi_3_21 : (zM 3).1[21]? = some (.if_icmp .gt ((36 : Nat) : Int)) := by rfl
theorem zi_3_22 : (zM 3).1[22]? = some (.aload 0) := by rfl
theorem zi_3_23 : (zM 3).1[23]? = some (.getfield 205) := by rfl
theorem zi_3_24 : (zM 3).1[24]? = some (.iload 2) := by rfl
theorem zi_3_25 : (zM 3).1[25]? = some (.jsr_w 1) := by rfl
theorem zi_3_26 : (zM 3).1[26]? = some (.iconst 2) := by rfl
theorem zi_3_27 : (zM 3).1[27]? = some (.aload 1) := by rfl
theorem zi_3_28 : (zM 3).1[28]? = some (.getfield 3006) := by rfl
theorem zi_3_29 : (zM 3).1[29]? = some (.iload 2) := by rfl
theorem zi_3_30 : (zM 3).1[30]? = some (.isub) := by rfl
theorem zi_3_31 : (zM 3).1[31]? = some (.imul) := by rfl
theorem zi_3_32 : (zM 3).1[32]? = some (.lshl) := by rfl
theorem zi_3_33 : (zM 3).1[33]? = some (.lastore) := by rfl
theorem zi_3_34 : (zM 3).1[34]? = some (.iinc 2 1) := by rfl
theorem zi_3_35 : (zM 3).1[35]? = some (.goto ((18 : Nat) : Int)) := by rfl
theorem zi_3_36 : (zM 3).1[36]? = some (.return_) := by rfl
def wl_3_18 (E : Nat → Nat) (d : Nat) (Q : Option Value → ZH → Prop) : Nat → Nat → Nat → Int32 → ZH → Prop
  | 0, _, _, _, _ => False
  | n + 1, a0, a1, a2, h => ztag h a1 = 3 ∧ (((zI h a1 6 : Int32) < a2 → (Q none h)) ∧ (¬ ((zI h a1 6 : Int32) < a2) → (ztag h a0 = 0 ∧ ∃ r9 : Nat, zR h a0 5 = r9 + 1 ∧ ztag h r9 = 14 ∧ zin a2 (zlen h r9) = true ∧ ∀ h11 : ZH, h11 = (zuL h r9 a2.toNatClampNeg ((1 : Int64) <<< ((2 * ((zI h a1 6) - a2) : Int32).toInt64 &&& 63))) → ∀ x12 : Int32, x12 = (a2 + 1) → wl_3_18 E d Q n a0 a1 x12 h11)))
set_option maxRecDepth 20000 in
theorem okl_3_18 {E : Nat → Nat} {d : Nat} {Q : Option Value → ZH → Prop} : ∀ (n : Nat) (a0 : Nat) (a1 : Nat) (a2 : Int32) (h : ZH), wl_3_18 E d Q n a0 a1 a2 h → Gx E (d + 1) 3 18 [.ref a0, .ref a1, .int a2] [] h Q := by
  intro n
  induction n with
  | zero => intro a0 a1 a2 h hw; exact hw.elim
  | succ n ih =>
    intro a0 a1 a2 h hw
    rw [wl_3_18] at hw
    refine zg_iload zi_3_18 rfl ?_
    refine zg_aload zi_3_19 rfl ?_
    obtain ⟨t7, hw⟩ := hw
    refine zg_getI (v := .int (zI h a1 6)) zi_3_20 t7 (by rfl) rfl ?_
    refine zg_icmp_gt zi_3_21 (fun hc => ?_) (fun hc => ?_)
    · have hw := hw.1 hc
      exact zg_return zi_3_36 hw
    · have hw := hw.2 hc
      refine zg_aload zi_3_22 rfl ?_
      obtain ⟨t8, hw⟩ := hw
      obtain ⟨r9, er9, hw⟩ := hw
      refine zg_getR (v := .ref r9) zi_3_23 t8 (by rfl) (by show zrv (zR h a0 5) = _; rw [er9]; rfl) ?_
      refine zg_iload zi_3_24 rfl ?_
      refine zg_lconst (v := 1) zi_3_25 (by rfl) ?_
      refine zg_const (v := 2) zi_3_26 (by rfl) ?_
      refine zg_aload zi_3_27 rfl ?_
      refine zg_getI (v := .int (zI h a1 6)) zi_3_28 t7 (by rfl) rfl ?_
      refine zg_iload zi_3_29 rfl ?_
      refine zg_isub zi_3_30 ?_
      refine zg_imul zi_3_31 ?_
      refine zg_lshl zi_3_32 ?_
      obtain ⟨t10, hw⟩ := hw
      obtain ⟨hb, hw⟩ := hw
      refine zg_lastore (h1 := zuL h r9 a2.toNatClampNeg ((1 : Int64) <<< ((2 * ((zI h a1 6) - a2) : Int32).toInt64 &&& 63))) zi_3_33 t10 hb rfl ?_
      refine zg_nameH fun h11 eh11 => ?_
      have hw := hw h11 eh11
      obtain ⟨x12, ex12⟩ : ∃ x : Int32, x = a2 + 1 := ⟨_, rfl⟩
      have hw := hw x12 ex12
      refine zg_iinc (v := x12) (ls1 := [.ref a0, .ref a1, .int x12]) zi_3_34 rfl (by rw [ex12]; rfl) rfl ?_
      refine zg_goto zi_3_35 ?_
      exact ih a0 a1 x12 h11 hw
/-- TakeOrPay$Best.begin(LTakeOrPay$Page;)V -/
def w_3 (E : Nat → Nat) (d : Nat) (a0 : Nat) (a1 : Nat) (h : ZH) (Q : Option Value → ZH → Prop) : Prop := ztag h a0 = 0 ∧ ∀ h2 : ZH, h2 = (zuR h a0 6 (a1 + 1)) → ztag h2 a0 = 0 ∧ ∀ h4 : ZH, h4 = (zuI h2 a0 10 ((zI h2 a0 10) + 1)) → ∀ h5 : ZH, h5 = (zuI h4 a0 7 (zI h4 a0 10)) → ∀ h6 : ZH, h6 = (zuI h5 a0 9 0) → (∃ mm : Nat, wl_3_18 E d Q mm a0 a1 0 h6)
set_option maxRecDepth 20000 in
theorem ok_3 {E : Nat → Nat} {d : Nat} {a0 : Nat} {a1 : Nat} {h : ZH} {Q : Option Value → ZH → Prop} (hw : w_3 E d a0 a1 h Q) : Ct E (d + 1) 3 [.ref a0, .ref a1] h Q := by
  unfold w_3 at hw
  show Gx E (d + 1) 3 0 [.ref a0, .ref a1, .retAddr 0] [] h Q
  refine zg_aload zi_3_0 rfl ?_
  refine zg_aload zi_3_1 rfl ?_
  obtain ⟨t1, hw⟩ := hw
  refine zg_putR (h1 := zuR h a0 6 (a1 + 1)) zi_3_2 t1 (by rfl) rfl ?_
  refine zg_nameH fun h2 eh2 => ?_
  have hw := hw h2 eh2
  refine zg_aload zi_3_3 rfl ?_
  refine zg_dup zi_3_4 rfl ?_
  obtain ⟨t3, hw⟩ := hw
  refine zg_getI (v := .int (zI h2 a0 10)) zi_3_5 t3 (by rfl) rfl ?_
  refine zg_const (v := 1) zi_3_6 (by rfl) ?_
  refine zg_iadd zi_3_7 ?_
  refine zg_putI (h1 := zuI h2 a0 10 ((zI h2 a0 10) + 1)) zi_3_8 t3 (by rfl) rfl ?_
  refine zg_nameH fun h4 eh4 => ?_
  have hw := hw h4 eh4
  refine zg_aload zi_3_9 rfl ?_
  refine zg_aload zi_3_10 rfl ?_
  refine zg_getI (v := .int (zI h4 a0 10)) zi_3_11 (by rw [eh4]; exact t3) (by rfl) rfl ?_
  refine zg_putI (h1 := zuI h4 a0 7 (zI h4 a0 10)) zi_3_12 (by rw [eh4]; exact t3) (by rfl) rfl ?_
  refine zg_nameH fun h5 eh5 => ?_
  have hw := hw h5 eh5
  refine zg_aload zi_3_13 rfl ?_
  refine zg_const (v := 0) zi_3_14 (by rfl) ?_
  refine zg_putI (h1 := zuI h5 a0 9 0) zi_3_15 (by rw [eh5, eh4]; exact t3) (by rfl) rfl ?_
  refine zg_nameH fun h6 eh6 => ?_
  have hw := hw h6 eh6
  refine zg_const (v := 0) zi_3_16 (by rfl) ?_
  refine zg_istore (ls1 := [.ref a0, .ref a1, .int 0]) zi_3_17 (Nat.le_of_ble_eq_true rfl) rfl ?_
  obtain ⟨mm, hw⟩ := hw
  exact okl_3_18 mm a0 a1 0 h6 hw
theorem zq_48 : zQ 48 3 3 3 := by unfold zQ; decide +kernel
theorem zi_48_0 : (zM 48).1[0]? = some (.aload 0) := by rfl
theorem zi_48_1 : (zM 48).1[1]? = some (.getfield 3200) := by rfl
theorem zi_48_2 : (zM 48).1[2]? = some (.iconst 30) := by rfl
theorem zi_48_3 : (zM 48).1[3]? = some (.iconst 3) := by rfl
theorem zi_48_4 : (zM 48).1[4]? = some (.iload 1) := by rfl
theorem zi_48_5 : (zM 48).1[5]? = some (.imul) := by rfl
theorem zi_48_6 : (zM 48).1[6]? = some (.iadd) := by rfl
theorem zi_48_7 : (zM 48).1[7]? = some (.iload 2) := by rfl
theorem zi_48_8 : (zM 48).1[8]? = some (.iadd) := by rfl
theorem zi_48_9 : (zM 48).1[9]? = some (.iaload) := by rfl
theorem zi_48_10 : (zM 48).1[10]? = some (.ireturn) := by rfl
/-- TakeOrPay$Page.chance(II)I -/
def w_48 (E : Nat → Nat) (d : Nat) (a0 : Nat) (a1 : Int32) (a2 : Int32) (h : ZH) (Q : Option Value → ZH → Prop) : Prop := ztag h a0 = 3 ∧ ∃ r2 : Nat, zR h a0 0 = r2 + 1 ∧ (ztag h r2 = 13 ∨ ztag h r2 = 19) ∧ zin ((30 + (3 * a1)) + a2) (zlen h r2) = true ∧ Q (some (.int (zI h r2 ((30 + (3 * a1)) + a2 : Int32).toNatClampNeg))) h
set_option maxRecDepth 20000 in
theorem ok_48 {E : Nat → Nat} {d : Nat} {a0 : Nat} {a1 : Int32} {a2 : Int32} {h : ZH} {Q : Option Value → ZH → Prop} (hw : w_48 E d a0 a1 a2 h Q) : Ct E (d + 1) 48 [.ref a0, .int a1, .int a2] h Q := by
  unfold w_48 at hw
  show Gx E (d + 1) 48 0 [.ref a0, .int a1, .int a2] [] h Q
  refine zg_aload zi_48_0 rfl ?_
  obtain ⟨t1, hw⟩ := hw
  obtain ⟨r2, er2, hw⟩ := hw
  refine zg_getR (v := .ref r2) zi_48_1 t1 (by rfl) (by show zrv (zR h a0 0) = _; rw [er2]; rfl) ?_
  refine zg_const (v := 30) zi_48_2 (by rfl) ?_
  refine zg_const (v := 3) zi_48_3 (by rfl) ?_
  refine zg_iload zi_48_4 rfl ?_
  refine zg_imul zi_48_5 ?_
  refine zg_iadd zi_48_6 ?_
  refine zg_iload zi_48_7 rfl ?_
  refine zg_iadd zi_48_8 ?_
  obtain ⟨t3, hw⟩ := hw
  obtain ⟨hb, hw⟩ := hw
  refine zg_iaload (v := .int (zI h r2 ((30 + (3 * a1)) + a2 : Int32).toNatClampNeg)) zi_48_9 t3 hb rfl ?_
  exact zg_ireturn zi_48_10 (by decide) hw
def fz_48 (E : Nat → Nat) (h : ZH) (a0 : Nat) (a1 : Int32) (a2 : Int32) : Int32 := (fun r2 : Nat => zI h r2 ((30 + (3 * a1)) + a2 : Int32).toNatClampNeg) (zR h a0 0 - 1)
def sz_48 (E : Nat → Nat) (h : ZH) (a0 : Nat) (a1 : Int32) (a2 : Int32) : Prop := ztag h a0 = 3 ∧ ∃ r2 : Nat, zR h a0 0 = r2 + 1 ∧ (ztag h r2 = 13 ∨ ztag h r2 = 19) ∧ zin ((30 + (3 * a1)) + a2) (zlen h r2) = true ∧ True
set_option maxRecDepth 20000 in
theorem cz_48 {E : Nat → Nat} {d : Nat} {a0 : Nat} {a1 : Int32} {a2 : Int32} {h : ZH} {Q : Option Value → ZH → Prop} (hd : 1 ≤ d) (hs : sz_48 E h a0 a1 a2) (hq : Q (some (.int (fz_48 E h a0 a1 a2))) h) : Ct E d 48 [.ref a0, .int a1, .int a2] h Q := by
  obtain ⟨d, rfl⟩ : ∃ n, d = n + 1 := ⟨d - 1, by omega⟩
  refine ok_48 ?_
  unfold w_48
  unfold sz_48 at hs
  unfold fz_48 at hq
  refine ⟨hs.1, ?_⟩
  have hs := hs.2
  obtain ⟨r2, hr, hs⟩ := hs
  refine ⟨r2, hr, ?_⟩
  rw [hr] at hq
  simp only [Nat.add_sub_cancel] at hq
  refine ⟨hs.1, ?_⟩
  have hs := hs.2
  refine ⟨hs.1, ?_⟩
  have hs := hs.2
  exact hq
theorem zq_49 : zQ 49 2 4 3 := by unfold zQ; decide +kernel
theorem zi_49_0 : (zM 49).1[0]? = some (.iconst 0) := by rfl
theorem zi_49_1 : (zM 49).1[1]? = some (.istore 2) := by rfl
theorem zi_49_2 : (zM 49).1[2]? = some (.iconst 0) := by rfl
theorem zi_49_3 : (zM 49).1[3]? = some (.istore 3) := by rfl
theorem zi_49_4 : (zM 49).1[4]? = some (.iload 3) := by rfl
theorem zi_49_5 : (zM 49).1[5]? = some (.iconst 3) := by rfl
theorem zi_49_6 : (zM 49).1[6]? = some (.if_icmp .ge ((23 : Nat) : Int)) := by rfl
theorem zi_49_7 : (zM 49).1[7]? = some (.iload 2) := by rfl
theorem zi_49_8 : (zM 49).1[8]? = some (.aload 0) := by rfl
theorem zi_49_9 : (zM 49).1[9]? = some (.iload 1) := by rfl
theorem zi_49_10 : (zM 49).1[10]? = some (.iload 3) := by rfl
theorem zi_49_11 : (zM 49).1[11]? = some (.invokevirtual 48) := by rfl
theorem zi_49_12 : (zM 49).1[12]? = some (.aload 0) := by rfl
theorem zi_49_13 : (zM 49).1[13]? = some (.getfield 3200) := by rfl
theorem zi_49_14 : (zM 49).1[14]? = some (.iconst 20) := by rfl
theorem zi_49_15 : (zM 49).1[15]? = some (.iload 3) := by rfl
theorem zi_49_16 : (zM 49).1[16]? = some (.iadd) := by rfl
theorem zi_49_17 : (zM 49).1[17]? = some (.iaload) := by rfl
theorem zi_49_18 : (zM 49).1[18]? = some (.imul) := by rfl
theorem zi_49_19 : (zM 49).1[19]? = some (.iadd) := by rfl
theorem zi_49_20 : (zM 49).1[20]? = some (.istore 2) := by rfl
theorem zi_49_21 : (zM 49).1[21]? = some (.iinc 3 1) := by rfl
theorem zi_49_22 : (zM 49).1[22]? = some (.goto ((4 : Nat) : Int)) := by rfl
theorem zi_49_23 : (zM 49).1[23]? = some (.iload 2) := by rfl
theorem zi_49_24 : (zM 49).1[24]? = some (.ireturn) := by rfl
def wb_49_23 (E : Nat → Nat) (d : Nat) (Q : Option Value → ZH → Prop) (a2 : Int32) (h : ZH) : Prop := Q (some (.int a2)) h
set_option maxRecDepth 20000 in
theorem okb_49_23 {E : Nat → Nat} {d : Nat} {Q : Option Value → ZH → Prop} {a2 : Int32} {h : ZH} (hw : wb_49_23 E d Q a2 h) : Gx E (d + 1) 49 23 [.retAddr 0, .retAddr 0, .int a2, .retAddr 0] [] h Q := by
  unfold wb_49_23 at hw
  refine zg_iload zi_49_23 rfl ?_
  exact zg_ireturn zi_49_24 (by decide) hw
def wl_49_4 (E : Nat → Nat) (d : Nat) (Q : Option Value → ZH → Prop) : Nat → Nat → Int32 → Int32 → Int32 → ZH → Prop
  | 0, _, _, _, _, _ => False
  | n + 1, a0, a1, a2, a3, h => (3 ≤ a3 → (wb_49_23 E d Q a2 h)) ∧ (¬ (3 ≤ a3) → (ztag h a0 = 3 ∧ 1 ≤ d ∧ sz_48 E h a0 a1 a3 ∧ ∃ r2 : Nat, zR h a0 0 = r2 + 1 ∧ (ztag h r2 = 13 ∨ ztag h r2 = 19) ∧ zin (20 + a3) (zlen h r2) = true ∧ ∀ x4 : Int32, x4 = (a2 + ((fz_48 E h a0 a1 a3) * (zI h r2 (20 + a3 : Int32).toNatClampNeg))) → ∀ x5 : Int32, x5 = (a3 + 1) → wl_49_4 E d Q n a0 a1 x4 x5 h))
set_option maxRecDepth 20000 in
theorem okl_49_4 {E : Nat → Nat} {d : Nat} {Q : Option Value → ZH → Prop} : ∀ (n : Nat) (a0 : Nat) (a1 : Int32) (a2 : Int32) (a3 : Int32) (h : ZH), wl_49_4 E d Q n a0 a1 a2 a3 h → Gx E (d + 1) 49 4 [.ref a0, .int a1, .int a2, .int a3] [] h Q := by
  intro n
  induction n with
  | zero => intro a0 a1 a2 a3 h hw; exact hw.elim
  | succ n ih =>
    intro a0 a1 a2 a3 h hw
    rw [wl_49_4] at hw
    refine zg_iload zi_49_4 rfl ?_
    refine zg_const (v := 3) zi_49_5 (by rfl) ?_
    refine zg_icmp_ge zi_49_6 (fun hc => ?_) (fun hc => ?_)
    · have hw := hw.1 hc
      exact Gx.forget (zrd (zrd (zrk (zrd zr0)))) (okb_49_23 hw)
    · have hw := hw.2 hc
      refine zg_iload zi_49_7 rfl ?_
      refine zg_aload zi_49_8 rfl ?_
      refine zg_iload zi_49_9 rfl ?_
      refine zg_iload zi_49_10 rfl ?_
      obtain ⟨t1, hw⟩ := hw
      obtain ⟨hd, hs, hw⟩ := hw
      refine Gx.call2 (as := [.ref a0, .int a1, .int a3]) (rest := [.int a2]) zq_48 zi_49_11 rfl rfl rfl (Nat.le_of_ble_eq_true rfl) (Nat.le_of_ble_eq_true rfl) (zrv_v t1 rfl rfl) (Nat.le_of_ble_eq_true rfl) ?_
      refine cz_48 hd hs ?_
      show Gx E (d + 1) 49 12 [.ref a0, .int a1, .int a2, .int a3] [.int (fz_48 E h a0 a1 a3), .int a2] h Q
      refine zg_aload zi_49_12 rfl ?_
      obtain ⟨r2, er2, hw⟩ := hw
      refine zg_getR (v := .ref r2) zi_49_13 t1 (by rfl) (by show zrv (zR h a0 0) = _; rw [er2]; rfl) ?_
      refine zg_const (v := 20) zi_49_14 (by rfl) ?_
      refine zg_iload zi_49_15 rfl ?_
      refine zg_iadd zi_49_16 ?_
      obtain ⟨t3, hw⟩ := hw
      obtain ⟨hb, hw⟩ := hw
      refine zg_iaload (v := .int (zI h r2 (20 + a3 : Int32).toNatClampNeg)) zi_49_17 t3 hb rfl ?_
      refine zg_imul zi_49_18 ?_
      refine zg_iadd zi_49_19 ?_
      refine zg_nameI fun x4 ex4 => ?_
      have hw := hw x4 ex4
      refine zg_istore (ls1 := [.ref a0, .int a1, .int x4, .int a3]) zi_49_20 (Nat.le_of_ble_eq_true rfl) rfl ?_
      obtain ⟨x5, ex5⟩ : ∃ x : Int32, x = a3 + 1 := ⟨_, rfl⟩
      have hw := hw x5 ex5
      refine zg_iinc (v := x5) (ls1 := [.ref a0, .int a1, .int x4, .int x5]) zi_49_21 rfl (by rw [ex5]; rfl) rfl ?_
      refine zg_goto zi_49_22 ?_
      exact ih a0 a1 x4 x5 h hw
/-- TakeOrPay$Page.fourthsBehind(I)I -/
def w_49 (E : Nat → Nat) (d : Nat) (a0 : Nat) (a1 : Int32) (h : ZH) (Q : Option Value → ZH → Prop) : Prop := ∃ mm : Nat, wl_49_4 E d Q mm a0 a1 0 0 h
set_option maxRecDepth 20000 in
theorem ok_49 {E : Nat → Nat} {d : Nat} {a0 : Nat} {a1 : Int32} {h : ZH} {Q : Option Value → ZH → Prop} (hw : w_49 E d a0 a1 h Q) : Ct E (d + 1) 49 [.ref a0, .int a1] h Q := by
  unfold w_49 at hw
  show Gx E (d + 1) 49 0 [.ref a0, .int a1, .retAddr 0, .retAddr 0] [] h Q
  refine zg_const (v := 0) zi_49_0 (by rfl) ?_
  refine zg_istore (ls1 := [.ref a0, .int a1, .int 0, .retAddr 0]) zi_49_1 (Nat.le_of_ble_eq_true rfl) rfl ?_
  refine zg_const (v := 0) zi_49_2 (by rfl) ?_
  refine zg_istore (ls1 := [.ref a0, .int a1, .int 0, .int 0]) zi_49_3 (Nat.le_of_ble_eq_true rfl) rfl ?_
  obtain ⟨mm, hw⟩ := hw
  exact okl_49_4 mm a0 a1 0 0 h hw
theorem zq_47 : zQ 47 3 3 3 := by unfold zQ; decide +kernel
theorem zi_47_0 : (zM 47).1[0]? = some (.iload 2) := by rfl
theorem zi_47_1 : (zM 47).1[1]? = some (.aload 0) := by rfl
theorem zi_47_2 : (zM 47).1[2]? = some (.getfield 3200) := by rfl
theorem zi_47_3 : (zM 47).1[3]? = some (.iconst 6) := by rfl
theorem zi_47_4 : (zM 47).1[4]? = some (.iaload) := by rfl
theorem zi_47_5 : (zM 47).1[5]? = some (.imul) := by rfl
theorem zi_47_6 : (zM 47).1[6]? = some (.iconst 100) := by rfl
theorem zi_47_7 : (zM 47).1[7]? = some (.aload 0) := by rfl
theorem zi_47_8 : (zM 47).1[8]? = some (.getfield 3200) := by rfl
theorem zi_47_9 : (zM 47).1[9]? = some (.iconst 7) := by rfl
theorem zi_47_10 : (zM 47).1[10]? = some (.iaload) := by rfl
theorem zi_47_11 : (zM 47).1[11]? = some (.isub) := by rfl
theorem zi_47_12 : (zM 47).1[12]? = some (.imul) := by rfl
theorem zi_47_13 : (zM 47).1[13]? = some (.iload 1) := by rfl
theorem zi_47_14 : (zM 47).1[14]? = some (.aload 0) := by rfl
theorem zi_47_15 : (zM 47).1[15]? = some (.getfield 3200) := by rfl
theorem zi_47_16 : (zM 47).1[16]? = some (.iconst 7) := by rfl
theorem zi_47_17 : (zM 47).1[17]? = some (.iaload) := by rfl
theorem zi_47_18 : (zM 47).1[18]? = some (.imul) := by rfl
theorem zi_47_19 : (zM 47).1[19]? = some (.iadd) := by rfl
theorem zi_47_20 : (zM 47).1[20]? = some (.ireturn) := by rfl
/-- TakeOrPay$Page.unitPrice(II)I -/
def w_47 (E : Nat → Nat) (d : Nat) (a0 : Nat) (a1 : Int32) (a2 : Int32) (h : ZH) (Q : Option Value → ZH → Prop) : Prop := ztag h a0 = 3 ∧ ∃ r2 : Nat, zR h a0 0 = r2 + 1 ∧ (ztag h r2 = 13 ∨ ztag h r2 = 19) ∧ zin 6 (zlen h r2) = true ∧ zin 7 (zlen h r2) = true ∧ zin 7 (zlen h r2) = true ∧ Q (some (.int (((a2 * (zI h r2 6)) * (100 - (zI h r2 7))) + (a1 * (zI h r2 7))))) h
set_option maxRecDepth 20000 in
theorem ok_47 {E : Nat → Nat} {d : Nat} {a0 : Nat} {a1 : Int32} {a2 : Int32} {h : ZH} {Q : Option Value → ZH → Prop} (hw : w_47 E d a0 a1 a2 h Q) : Ct E (d + 1) 47 [.ref a0, .int a1, .int a2] h Q := by
  unfold w_47 at hw
  show Gx E (d + 1) 47 0 [.ref a0, .int a1, .int a2] [] h Q
  refine zg_iload zi_47_0 rfl ?_
  refine zg_aload zi_47_1 rfl ?_
  obtain ⟨t1, hw⟩ := hw
  obtain ⟨r2, er2, hw⟩ := hw
  refine zg_getR (v := .ref r2) zi_47_2 t1 (by rfl) (by show zrv (zR h a0 0) = _; rw [er2]; rfl) ?_
  refine zg_const (v := 6) zi_47_3 (by rfl) ?_
  obtain ⟨t3, hw⟩ := hw
  obtain ⟨hb, hw⟩ := hw
  refine zg_iaload (v := .int (zI h r2 6)) zi_47_4 t3 hb rfl ?_
  refine zg_imul zi_47_5 ?_
  refine zg_const (v := 100) zi_47_6 (by rfl) ?_
  refine zg_aload zi_47_7 rfl ?_
  refine zg_getR (v := .ref r2) zi_47_8 t1 (by rfl) (by show zrv (zR h a0 0) = _; rw [er2]; rfl) ?_
  refine zg_const (v := 7) zi_47_9 (by rfl) ?_
  obtain ⟨hb, hw⟩ := hw
  refine zg_iaload (v := .int (zI h r2 7)) zi_47_10 t3 hb rfl ?_
  refine zg_isub zi_47_11 ?_
  refine zg_imul zi_47_12 ?_
  refine zg_iload zi_47_13 rfl ?_
  refine zg_aload zi_47_14 rfl ?_
  refine zg_getR (v := .ref r2) zi_47_15 t1 (by rfl) (by show zrv (zR h a0 0) = _; rw [er2]; rfl) ?_
  refine zg_const (v := 7) zi_47_16 (by rfl) ?_
  obtain ⟨hb, hw⟩ := hw
  refine zg_iaload (v := .int (zI h r2 7)) zi_47_17 t3 hb rfl ?_
  refine zg_imul zi_47_18 ?_
  refine zg_iadd zi_47_19 ?_
  exact zg_ireturn zi_47_20 (by decide) hw
def fz_47 (E : Nat → Nat) (h : ZH) (a0 : Nat) (a1 : Int32) (a2 : Int32) : Int32 := (fun r2 : Nat => ((a2 * (zI h r2 6)) * (100 - (zI h r2 7))) + (a1 * (zI h r2 7))) (zR h a0 0 - 1)
def sz_47 (E : Nat → Nat) (h : ZH) (a0 : Nat) (a1 : Int32) (a2 : Int32) : Prop := ztag h a0 = 3 ∧ ∃ r2 : Nat, zR h a0 0 = r2 + 1 ∧ (ztag h r2 = 13 ∨ ztag h r2 = 19) ∧ zin 6 (zlen h r2) = true ∧ zin 7 (zlen h r2) = true ∧ zin 7 (zlen h r2) = true ∧ True
set_option maxRecDepth 20000 in
theorem cz_47 {E : Nat → Nat} {d : Nat} {a0 : Nat} {a1 : Int32} {a2 : Int32} {h : ZH} {Q : Option Value → ZH → Prop} (hd : 1 ≤ d) (hs : sz_47 E h a0 a1 a2) (hq : Q (some (.int (fz_47 E h a0 a1 a2))) h) : Ct E d 47 [.ref a0, .int a1, .int a2] h Q := by
  obtain ⟨d, rfl⟩ : ∃ n, d = n + 1 := ⟨d - 1, by omega⟩
  refine ok_47 ?_
  unfold w_47
  unfold sz_47 at hs
  unfold fz_47 at hq
  refine ⟨hs.1, ?_⟩
  have hs := hs.2
  obtain ⟨r2, hr, hs⟩ := hs
  refine ⟨r2, hr, ?_⟩
  rw [hr] at hq
  simp only [Nat.add_sub_cancel] at hq
  refine ⟨hs.1, ?_⟩
  have hs := hs.2
  refine ⟨hs.1, ?_⟩
  have hs := hs.2
  refine ⟨hs.1, ?_⟩
  have hs := hs.2
  refine ⟨hs.1, ?_⟩
  have hs := hs.2
  exact hq
theorem zq_4 : zQ 4 4 4 0 := by unfold zQ; decide +kernel
theorem zi_4_0 : (zM 4).1[0]? = some (.aload 0) := by rfl
theorem zi_4_1 : (zM 4).1[1]? = some (.getfield 203) := by rfl
theorem zi_4_2 : (zM 4).1[2]? = some (.iconst 3) := by rfl
theorem zi_4_3 : (zM 4).1[3]? = some (.iload 1) := by rfl
theorem zi_4_4 : (zM 4).1[4]? = some (.imul) := by rfl
theorem zi_4_5 : (zM 4).1[5]? = some (.iload 2) := by rfl
theorem zi_4_6 : (zM 4).1[6]? = some (.iadd) := by rfl
theorem zi_4_7 : (zM 4).1[7]? = some (.iload 3) := by rfl
theorem zi_4_8 : (zM 4).1[8]? = some (.iastore) := by rfl
theorem zi_4_9 : (zM 4).1[9]? = some (.aload 0) := by rfl
theorem zi_4_10 : (zM 4).1[10]? = some (.getfield 204) := by rfl
theorem zi_4_11 : (zM 4).1[11]? = some (.iconst 3) := by rfl
theorem zi_4_12 : (zM 4).1[12]? = some (.iload 1) := by rfl
theorem zi_4_13 : (zM 4).1[13]? = some (.imul) := by rfl
theorem zi_4_14 : (zM 4).1[14]? = some (.iload 2) := by rfl
theorem zi_4_15 : (zM 4).1[15]? = some (.iadd) := by rfl
theorem zi_4_16 : (zM 4).1[16]? = some (.aload 0) := by rfl
theorem zi_4_17 : (zM 4).1[17]? = some (.getfield 206) := by rfl
theorem zi_4_18 : (zM 4).1[18]? = some (.iload 3) := by rfl
theorem zi_4_19 : (zM 4).1[19]? = some (.iconst 4) := by rfl
theorem zi_4_20 : (zM 4).1[20]? = some (.invokevirtual 47) := by rfl
theorem zi_4_21 : (zM 4).1[21]? = some (.iastore) := by rfl
theorem zi_4_22 : (zM 4).1[22]? = some (.return_) := by rfl
/-- TakeOrPay$Best.setPrice(III)V -/
def w_4 (E : Nat → Nat) (d : Nat) (a0 : Nat) (a1 : Int32) (a2 : Int32) (a3 : Int32) (h : ZH) (Q : Option Value → ZH → Prop) : Prop := ztag h a0 = 0 ∧ ∃ r2 : Nat, zR h a0 3 = r2 + 1 ∧ ztag h r2 = 13 ∧ zin ((3 * a1) + a2) (zlen h r2) = true ∧ ∀ h4 : ZH, h4 = (zuI h r2 ((3 * a1) + a2 : Int32).toNatClampNeg a3) → ∃ r5 : Nat, zR h4 a0 4 = r5 + 1 ∧ ∃ r6 : Nat, zR h4 a0 6 = r6 + 1 ∧ ztag h4 r6 = 3 ∧ 1 ≤ d ∧ sz_47 E h4 r6 a3 4 ∧ ztag h4 r5 = 13 ∧ zin ((3 * a1) + a2) (zlen h4 r5) = true ∧ ∀ h9 : ZH, h9 = (zuI h4 r5 ((3 * a1) + a2 : Int32).toNatClampNeg (fz_47 E h4 r6 a3 4)) → Q none h9
set_option maxRecDepth 20000 in
theorem ok_4 {E : Nat → Nat} {d : Nat} {a0 : Nat} {a1 : Int32} {a2 : Int32} {a3 : Int32} {h : ZH} {Q : Option Value → ZH → Prop} (hw : w_4 E d a0 a1 a2 a3 h Q) : Ct E (d + 1) 4 [.ref a0, .int a1, .int a2, .int a3] h Q := by
  unfold w_4 at hw
  show Gx E (d + 1) 4 0 [.ref a0, .int a1, .int a2, .int a3] [] h Q
  refine zg_aload zi_4_0 rfl ?_
  obtain ⟨t1, hw⟩ := hw
  obtain ⟨r2, er2, hw⟩ := hw
  refine zg_getR (v := .ref r2) zi_4_1 t1 (by rfl) (by show zrv (zR h a0 3) = _; rw [er2]; rfl) ?_
  refine zg_const (v := 3) zi_4_2 (by rfl) ?_
  refine zg_iload zi_4_3 rfl ?_
  refine zg_imul zi_4_4 ?_
  refine zg_iload zi_4_5 rfl ?_
  refine zg_iadd zi_4_6 ?_
  refine zg_iload zi_4_7 rfl ?_
  obtain ⟨t3, hw⟩ := hw
  obtain ⟨hb, hw⟩ := hw
  refine zg_iastore (h1 := zuI h r2 ((3 * a1) + a2 : Int32).toNatClampNeg a3) zi_4_8 t3 hb rfl ?_
  refine zg_nameH fun h4 eh4 => ?_
  have hw := hw h4 eh4
  refine zg_aload zi_4_9 rfl ?_
  obtain ⟨r5, er5, hw⟩ := hw
  refine zg_getR (v := .ref r5) zi_4_10 (by rw [eh4]; exact t1) (by rfl) (by show zrv (zR h4 a0 4) = _; rw [er5]; rfl) ?_
  refine zg_const (v := 3) zi_4_11 (by rfl) ?_
  refine zg_iload zi_4_12 rfl ?_
  refine zg_imul zi_4_13 ?_
  refine zg_iload zi_4_14 rfl ?_
  refine zg_iadd zi_4_15 ?_
  refine zg_aload zi_4_16 rfl ?_
  obtain ⟨r6, er6, hw⟩ := hw
  refine zg_getR (v := .ref r6) zi_4_17 (by rw [eh4]; exact t1) (by rfl) (by show zrv (zR h4 a0 6) = _; rw [er6]; rfl) ?_
  refine zg_iload zi_4_18 rfl ?_
  refine zg_const (v := 4) zi_4_19 (by rfl) ?_
  obtain ⟨t7, hw⟩ := hw
  obtain ⟨hd, hs, hw⟩ := hw
  refine Gx.call2 (as := [.ref r6, .int a3, .int 4]) (rest := [.int ((3 * a1) + a2), .ref r5]) zq_47 zi_4_20 rfl rfl rfl (Nat.le_of_ble_eq_true rfl) (Nat.le_of_ble_eq_true rfl) (zrv_v t7 rfl rfl) (Nat.le_of_ble_eq_true rfl) ?_
  refine cz_47 hd hs ?_
  show Gx E (d + 1) 4 21 [.ref a0, .int a1, .int a2, .int a3] [.int (fz_47 E h4 r6 a3 4), .int ((3 * a1) + a2), .ref r5] h4 Q
  obtain ⟨t8, hw⟩ := hw
  obtain ⟨hb, hw⟩ := hw
  refine zg_iastore (h1 := zuI h4 r5 ((3 * a1) + a2 : Int32).toNatClampNeg (fz_47 E h4 r6 a3 4)) zi_4_21 t8 hb rfl ?_
  refine zg_nameH fun h9 eh9 => ?_
  have hw := hw h9 eh9
  exact zg_return zi_4_22 hw
theorem zq_1 : zQ 1 2 5 0 := by unfold zQ; decide +kernel
theorem zi_1_0 : (zM 1).1[0]? = some (.aload 0) := by rfl
theorem zi_1_1 : (zM 1).1[1]? = some (.aload 1) := by rfl
theorem zi_1_2 : (zM 1).1[2]? = some (.invokevirtual 3) := by rfl
theorem zi_1_3 : (zM 1).1[3]? = some (.iconst 0) := by rfl
theorem zi_1_4 : (zM 1).1[4]? = some (.istore 2) := by rfl
theorem zi_1_5 : (zM 1).1[5]? = some (.iload 2) := by rfl
theorem zi_1_6 : (zM 1).1[6]? = some (.iconst 3) := by rfl
theorem zi_1_7 : (zM 1).1[7]? = some (.if_icmp .ge ((42 : Nat) : Int)) := by rfl
theorem zi_1_8 : (zM 1).1[8]? = some (.aload 1) := by rfl
theorem zi_1_9 : (zM 1).1[9]? = some (.getfield 3200) := by rfl
theorem zi_1_10 : (zM 1).1[10]? = some (.iconst 12) := by rfl
theorem zi_1_11 : (zM 1).1[11]? = some (.iaload) := by rfl
theorem zi_1_12 : (zM 1).1[12]? = some (.iconst 1) := by rfl
theorem zi_1_13 : (zM 1).1[13]? = some (.if_icmp .ne ((18 : Nat) : Int)) := by rfl
theorem zi_1_14 : (zM 1).1[14]? = some (.aload 1) := by rfl
theorem zi_1_15 : (zM 1).1[15]? = some (.iload 2) := by rfl
theorem zi_1_16 : (zM 1).1[16]? = some (.invokevirtual 49) := by rfl
theorem zi_1_17 : (zM 1).1[17]? = some (.goto ((26 : Nat) : Int)) := by rfl
theorem zi_1_18 : (zM 1).1[18]? = some (.iconst 4) := by rfl
theorem zi_1_19 : (zM 1).1[19]? = some (.aload 1) := by rfl
theorem zi_1_20 : (zM 1).1[20]? = some (.getfield 3200) := by rfl
theorem zi_1_21 : (zM 1).1[21]? = some (.iconst 20) := by rfl
theorem zi_1_22 : (zM 1).1[22]? = some (.iload 2) := by rfl
theorem zi_1_23 : (zM 1).1[23]? = some (.iadd) := by rfl
theorem zi_1_24 : (zM 1).1[24]? = some (.iaload) := by rfl
theorem zi_1_25 : (zM 1).1[25]? = some (.imul) := by rfl
theorem zi_1_26 : (zM 1).1[26]? = some (.istore 3) := by rfl
theorem zi_1_27 : (zM 1).1[27]? = some (.iconst 0) := by rfl
theorem zi_1_28 : (zM 1).1[28]? = some (.istore 4) := by rfl
theorem zi_1_29 : (zM 1).1[29]? = some (.iload 4) := by rfl
theorem zi_1_30 : (zM 1).1[30]? = some (.aload 1) := by rfl
theorem zi_1_31 : (zM 1).1[31]? = some (.getfield 3006) := by rfl
theorem zi_1_32 : (zM 1).1[32]? = some (.if_icmp .ge ((40 : Nat) : Int)) := by rfl
theorem zi_1_33 : (zM 1).1[33]? = some (.aload 0) := by rfl
theorem zi_1_34 : (zM 1).1[34]? = some (.iload 4) := by rfl
theorem zi_1_35 : (zM 1).1[35]? = some (.iload 2) := by rfl
theorem zi_1_36 : (zM 1).1[36]? = some (.iload 3) := by rfl
theorem zi_1_37 : (zM 1).1[37]? = some (.invokevirtual 4) := by rfl
theorem zi_1_38 : (zM 1).1[38]? = some (.iinc 4 1) := by rfl
theorem zi_1_39 : (zM 1).1[39]? = some (.goto ((29 : Nat) : Int)) := by rfl
theorem zi_1_40 : (zM 1).1[40]? = some (.iinc 2 1) := by rfl
theorem zi_1_41 : (zM 1).1[41]? = some (.goto ((5 : Nat) : Int)) := by rfl
theorem zi_1_42 : (zM 1).1[42]? = some (.return_) := by rfl
def wb_1_40 (E : Nat → Nat) (d : Nat) (Q : Option Value → ZH → Prop) (L_5 : Nat → Nat → Int32 → ZH → Prop) (a0 : Nat) (a1 : Nat) (a2 : Int32) (h : ZH) : Prop := ∀ x7 : Int32, x7 = (a2 + 1) → L_5 a0 a1 x7 h
set_option maxRecDepth 20000 in
theorem okb_1_40 {E : Nat → Nat} {d : Nat} {Q : Option Value → ZH → Prop} {L_5 : Nat → Nat → Int32 → ZH → Prop} (hL_5 : ∀ (b0 : Nat) (b1 : Nat) (b2 : Int32) (h : ZH), L_5 b0 b1 b2 h → Gx E (d + 1) 1 5 [.ref b0, .ref b1, .int b2, .retAddr 0, .retAddr 0] [] h Q) {a0 : Nat} {a1 : Nat} {a2 : Int32} {h : ZH} (hw : wb_1_40 E d Q L_5 a0 a1 a2 h) : Gx E (d + 1) 1 40 [.ref a0, .ref a1, .int a2, .retAddr 0, .retAddr 0] [] h Q := by
  unfold wb_1_40 at hw
  obtain ⟨x7, ex7⟩ : ∃ x : Int32, x = a2 + 1 := ⟨_, rfl⟩
  have hw := hw x7 ex7
  refine zg_iinc (v := x7) (ls1 := [.ref a0, .ref a1, .int x7, .retAddr 0, .retAddr 0]) zi_1_40 rfl (by rw [ex7]; rfl) rfl ?_
  refine zg_goto zi_1_41 ?_
  exact hL_5 a0 a1 x7 h hw
def wl_1_29 (E : Nat → Nat) (d : Nat) (Q : Option Value → ZH → Prop) (L_5 : Nat → Nat → Int32 → ZH → Prop) : Nat → Nat → Nat → Int32 → Int32 → Int32 → ZH → Prop
  | 0, _, _, _, _, _, _ => False
  | n + 1, a0, a1, a2, a3, a4, h => ztag h a1 = 3 ∧ (((zI h a1 6 : Int32) ≤ a4 → (wb_1_40 E d Q L_5 a0 a1 a2 h)) ∧ (¬ ((zI h a1 6 : Int32) ≤ a4) → (ztag h a0 = 0 ∧ Ct E d 4 [.ref a0, .int a4, .int a2, .int a3] h (fun v h9 => v = none ∧ ∀ x10 : Int32, x10 = (a4 + 1) → wl_1_29 E d Q L_5 n a0 a1 a2 a3 x10 h9))))
set_option maxRecDepth 20000 in
theorem okl_1_29 {E : Nat → Nat} {d : Nat} {Q : Option Value → ZH → Prop} {L_5 : Nat → Nat → Int32 → ZH → Prop} (hL_5 : ∀ (b0 : Nat) (b1 : Nat) (b2 : Int32) (h : ZH), L_5 b0 b1 b2 h → Gx E (d + 1) 1 5 [.ref b0, .ref b1, .int b2, .retAddr 0, .retAddr 0] [] h Q) : ∀ (n : Nat) (a0 : Nat) (a1 : Nat) (a2 : Int32) (a3 : Int32) (a4 : Int32) (h : ZH), wl_1_29 E d Q L_5 n a0 a1 a2 a3 a4 h → Gx E (d + 1) 1 29 [.ref a0, .ref a1, .int a2, .int a3, .int a4] [] h Q := by
  intro n
  induction n with
  | zero => intro a0 a1 a2 a3 a4 h hw; exact hw.elim
  | succ n ih =>
    intro a0 a1 a2 a3 a4 h hw
    rw [wl_1_29] at hw
    refine zg_iload zi_1_29 rfl ?_
    refine zg_aload zi_1_30 rfl ?_
    obtain ⟨t6, hw⟩ := hw
    refine zg_getI (v := .int (zI h a1 6)) zi_1_31 t6 (by rfl) rfl ?_
    refine zg_icmp_ge zi_1_32 (fun hc => ?_) (fun hc => ?_)
    · have hw := hw.1 hc
      exact Gx.forget (zrk (zrk (zrk (zrd (zrd zr0))))) (okb_1_40 hL_5 hw)
    · have hw := hw.2 hc
      refine zg_aload zi_1_33 rfl ?_
      refine zg_iload zi_1_34 rfl ?_
      refine zg_iload zi_1_35 rfl ?_
      refine zg_iload zi_1_36 rfl ?_
      obtain ⟨t8, hw⟩ := hw
      refine Gx.call2 (as := [.ref a0, .int a4, .int a2, .int a3]) (rest := []) zq_4 zi_1_37 rfl rfl rfl (Nat.le_of_ble_eq_true rfl) (Nat.le_of_ble_eq_true rfl) (zrv_v t8 rfl rfl) (Nat.le_of_ble_eq_true rfl) ?_
      refine Ct.mono hw ?_
      rintro v h9 ⟨rfl, hw⟩
      show Gx E (d + 1) 1 38 [.ref a0, .ref a1, .int a2, .int a3, .int a4] [] h9 Q
      obtain ⟨x10, ex10⟩ : ∃ x : Int32, x = a4 + 1 := ⟨_, rfl⟩
      have hw := hw x10 ex10
      refine zg_iinc (v := x10) (ls1 := [.ref a0, .ref a1, .int a2, .int a3, .int x10]) zi_1_38 rfl (by rw [ex10]; rfl) rfl ?_
      refine zg_goto zi_1_39 ?_
      exact ih a0 a1 a2 a3 x10 h9 hw
def wb_1_26 (E : Nat → Nat) (d : Nat) (Q : Option Value → ZH → Prop) (L_5 : Nat → Nat → Int32 → ZH → Prop) (a0 : Nat) (a1 : Nat) (a2 : Int32) (s0 : Int32) (h : ZH) : Prop := ∃ mm : Nat, wl_1_29 E d Q L_5 mm a0 a1 a2 s0 0 h
set_option maxRecDepth 20000 in
theorem okb_1_26 {E : Nat → Nat} {d : Nat} {Q : Option Value → ZH → Prop} {L_5 : Nat → Nat → Int32 → ZH → Prop} (hL_5 : ∀ (b0 : Nat) (b1 : Nat) (b2 : Int32) (h : ZH), L_5 b0 b1 b2 h → Gx E (d + 1) 1 5 [.ref b0, .ref b1, .int b2, .retAddr 0, .retAddr 0] [] h Q) {a0 : Nat} {a1 : Nat} {a2 : Int32} {s0 : Int32} {h : ZH} (hw : wb_1_26 E d Q L_5 a0 a1 a2 s0 h) : Gx E (d + 1) 1 26 [.ref a0, .ref a1, .int a2, .retAddr 0, .retAddr 0] [.int s0] h Q := by
  unfold wb_1_26 at hw
  refine zg_istore (ls1 := [.ref a0, .ref a1, .int a2, .int s0, .retAddr 0]) zi_1_26 (Nat.le_of_ble_eq_true rfl) rfl ?_
  refine zg_const (v := 0) zi_1_27 (by rfl) ?_
  refine zg_istore (ls1 := [.ref a0, .ref a1, .int a2, .int s0, .int 0]) zi_1_28 (Nat.le_of_ble_eq_true rfl) rfl ?_
  obtain ⟨mm, hw⟩ := hw
  exact okl_1_29 hL_5 mm a0 a1 a2 s0 0 h hw
def wl_1_5 (E : Nat → Nat) (d : Nat) (Q : Option Value → ZH → Prop) : Nat → Nat → Nat → Int32 → ZH → Prop
  | 0, _, _, _, _ => False
  | n + 1, a0, a1, a2, h => (3 ≤ a2 → (Q none h)) ∧ (¬ (3 ≤ a2) → (ztag h a1 = 3 ∧ ∃ r4 : Nat, zR h a1 0 = r4 + 1 ∧ (ztag h r4 = 13 ∨ ztag h r4 = 19) ∧ zin 12 (zlen h r4) = true ∧ ((¬ (zI h r4 12 : Int32) = 1 → (zin (20 + a2) (zlen h r4) = true ∧ wb_1_26 E d Q (wl_1_5 E d Q n) a0 a1 a2 (4 * (zI h r4 (20 + a2 : Int32).toNatClampNeg)) h)) ∧ (¬ (¬ (zI h r4 12 : Int32) = 1) → (Ct E d 49 [.ref a1, .int a2] h (fun v h11 => ∃ x12 : Int32, v = some (.int x12) ∧ wb_1_26 E d Q (wl_1_5 E d Q n) a0 a1 a2 x12 h11))))))
set_option maxRecDepth 20000 in
theorem okl_1_5 {E : Nat → Nat} {d : Nat} {Q : Option Value → ZH → Prop} : ∀ (n : Nat) (a0 : Nat) (a1 : Nat) (a2 : Int32) (h : ZH), wl_1_5 E d Q n a0 a1 a2 h → Gx E (d + 1) 1 5 [.ref a0, .ref a1, .int a2, .retAddr 0, .retAddr 0] [] h Q := by
  intro n
  induction n with
  | zero => intro a0 a1 a2 h hw; exact hw.elim
  | succ n ih =>
    intro a0 a1 a2 h hw
    rw [wl_1_5] at hw
    refine zg_iload zi_1_5 rfl ?_
    refine zg_const (v := 3) zi_1_6 (by rfl) ?_
    refine zg_icmp_ge zi_1_7 (fun hc => ?_) (fun hc => ?_)
    · have hw := hw.1 hc
      exact zg_return zi_1_42 hw
    · have hw := hw.2 hc
      refine zg_aload zi_1_8 rfl ?_
      obtain ⟨t3, hw⟩ := hw
      obtain ⟨r4, er4, hw⟩ := hw
      refine zg_getR (v := .ref r4) zi_1_9 t3 (by rfl) (by show zrv (zR h a1 0) = _; rw [er4]; rfl) ?_
      refine zg_const (v := 12) zi_1_10 (by rfl) ?_
      obtain ⟨t5, hw⟩ := hw
      obtain ⟨hb, hw⟩ := hw
      refine zg_iaload (v := .int (zI h r4 12)) zi_1_11 t5 hb rfl ?_
      refine zg_const (v := 1) zi_1_12 (by rfl) ?_
      refine zg_icmp_ne zi_1_13 (fun hc => ?_) (fun hc => ?_)
      · have hw := hw.1 hc
        refine zg_const (v := 4) zi_1_18 (by rfl) ?_
        refine zg_aload zi_1_19 rfl ?_
        refine zg_getR (v := .ref r4) zi_1_20 t3 (by rfl) (by show zrv (zR h a1 0) = _; rw [er4]; rfl) ?_
        refine zg_const (v := 20) zi_1_21 (by rfl) ?_
        refine zg_iload zi_1_22 rfl ?_
        refine zg_iadd zi_1_23 ?_
        obtain ⟨hb, hw⟩ := hw
        refine zg_iaload (v := .int (zI h r4 (20 + a2 : Int32).toNatClampNeg)) zi_1_24 t5 hb rfl ?_
        refine zg_imul zi_1_25 ?_
        exact okb_1_26 ih hw
      · have hw := hw.2 hc
        refine zg_aload zi_1_14 rfl ?_
        refine zg_iload zi_1_15 rfl ?_
        refine Gx.call2 (as := [.ref a1, .int a2]) (rest := []) zq_49 zi_1_16 rfl rfl rfl (Nat.le_of_ble_eq_true rfl) (Nat.le_of_ble_eq_true rfl) (zrv_v t3 rfl rfl) (Nat.le_of_ble_eq_true rfl) ?_
        refine Ct.mono hw ?_
        rintro v h11 ⟨x12, rfl, hw⟩
        show Gx E (d + 1) 1 17 [.ref a0, .ref a1, .int a2, .retAddr 0, .retAddr 0] [.int x12] h11 Q
        refine zg_goto zi_1_17 ?_
        exact okb_1_26 ih hw
/-- TakeOrPay$Best.open(LTakeOrPay$Page;)V -/
def w_1 (E : Nat → Nat) (d : Nat) (a0 : Nat) (a1 : Nat) (h : ZH) (Q : Option Value → ZH → Prop) : Prop := ztag h a0 = 0 ∧ Ct E d 3 [.ref a0, .ref a1] h (fun v h2 => v = none ∧ (∃ mm : Nat, wl_1_5 E d Q mm a0 a1 0 h2))
set_option maxRecDepth 20000 in
theorem ok_1 {E : Nat → Nat} {d : Nat} {a0 : Nat} {a1 : Nat} {h : ZH} {Q : Option Value → ZH → Prop} (hw : w_1 E d a0 a1 h Q) : Ct E (d + 1) 1 [.ref a0, .ref a1] h Q := by
  unfold w_1 at hw
  show Gx E (d + 1) 1 0 [.ref a0, .ref a1, .retAddr 0, .retAddr 0, .retAddr 0] [] h Q
  refine zg_aload zi_1_0 rfl ?_
  refine zg_aload zi_1_1 rfl ?_
  obtain ⟨t1, hw⟩ := hw
  refine Gx.call2 (as := [.ref a0, .ref a1]) (rest := []) zq_3 zi_1_2 rfl rfl rfl (Nat.le_of_ble_eq_true rfl) (Nat.le_of_ble_eq_true rfl) (zrv_v t1 rfl rfl) (Nat.le_of_ble_eq_true rfl) ?_
  refine Ct.mono hw ?_
  rintro v h2 ⟨rfl, hw⟩
  show Gx E (d + 1) 1 3 [.ref a0, .ref a1, .retAddr 0, .retAddr 0, .retAddr 0] [] h2 Q
  refine zg_const (v := 0) zi_1_3 (by rfl) ?_
  refine zg_istore (ls1 := [.ref a0, .ref a1, .int 0, .retAddr 0, .retAddr 0]) zi_1_4 (Nat.le_of_ble_eq_true rfl) rfl ?_
  obtain ⟨mm, hw⟩ := hw
  exact okl_1_5 mm a0 a1 0 h2 hw
theorem zq_2 : zQ 2 3 5 0 := by unfold zQ; decide +kernel
theorem zi_2_0 : (zM 2).1[0]? = some (.aload 0) := by rfl
theorem zi_2_1 : (zM 2).1[1]? = some (.aload 1) := by rfl
theorem zi_2_2 : (zM 2).1[2]? = some (.invokevirtual 3) := by rfl
theorem zi_2_3 : (zM 2).1[3]? = some (.iconst 0) := by rfl
theorem zi_2_4 : (zM 2).1[4]? = some (.istore 3) := by rfl
theorem zi_2_5 : (zM 2).1[5]? = some (.iload 3) := by rfl
theorem zi_2_6 : (zM 2).1[6]? = some (.aload 1) := by rfl
theorem zi_2_7 : (zM 2).1[7]? = some (.getfield 3006) := by rfl
theorem zi_2_8 : (zM 2).1[8]? = some (.if_icmp .ge ((33 : Nat) : Int)) := by rfl
theorem zi_2_9 : (zM 2).1[9]? = some (.iconst 0) := by rfl
theorem zi_2_10 : (zM 2).1[10]? = some (.istore 4) := by rfl
theorem zi_2_11 : (zM 2).1[11]? = some (.iload 4) := by rfl
theorem zi_2_12 : (zM 2).1[12]? = some (.iconst 3) := by rfl
theorem zi_2_13 : (zM 2).1[13]? = some (.if_icmp .ge ((31 : Nat) : Int)) := by rfl
theorem zi_2_14 : (zM 2).1[14]? = some (.aload 0) := by rfl
theorem zi_2_15 : (zM 2).1[15]? = some (.iload 3) := by rfl
theorem zi_2_16 : (zM 2).1[16]? = some (.iload 4) := by rfl
theorem zi_2_17 : (zM 2).1[17]? = some (.iconst 4) := by rfl
theorem zi_2_18 : (zM 2).1[18]? = some (.aload 1) := by rfl
theorem zi_2_19 : (zM 2).1[19]? = some (.getfield 3200) := by rfl
theorem zi_2_20 : (zM 2).1[20]? = some (.iconst 20) := by rfl
theorem zi_2_21 : (zM 2).1[21]? = some (.aload 2) := by rfl
theorem zi_2_22 : (zM 2).1[22]? = some (.getfield 5200) := by rfl
theorem zi_2_23 : (zM 2).1[23]? = some (.iload 3) := by rfl
theorem zi_2_24 : (zM 2).1[24]? = some (.iaload) := by rfl
theorem zi_2_25 : (zM 2).1[25]? = some (.iadd) := by rfl
theorem zi_2_26 : (zM 2).1[26]? = some (.iaload) := by rfl
theorem zi_2_27 : (zM 2).1[27]? = some (.imul) := by rfl
theorem zi_2_28 : (zM 2).1[28]? = some (.invokevirtual 4) := by rfl
theorem zi_2_29 : (zM 2).1[29]? = some (.iinc 4 1) := by rfl
theorem zi_2_30 : (zM 2).1[30]? = some (.goto ((11 : Nat) : Int)) := by rfl
theorem zi_2_31 : (zM 2).1[31]? = some (.iinc 3 1) := by rfl
theorem zi_2_32 : (zM 2).1[32]? = some (.goto ((5 : Nat) : Int)) := by rfl
theorem zi_2_33 : (zM 2).1[33]? = some (.return_) := by rfl
def wb_2_31 (E : Nat → Nat) (d : Nat) (Q : Option Value → ZH → Prop) (L_5 : Nat → Nat → Nat → Int32 → ZH → Prop) (a0 : Nat) (a1 : Nat) (a2 : Nat) (a3 : Int32) (h : ZH) : Prop := ∀ x4 : Int32, x4 = (a3 + 1) → L_5 a0 a1 a2 x4 h
set_option maxRecDepth 20000 in
theorem okb_2_31 {E : Nat → Nat} {d : Nat} {Q : Option Value → ZH → Prop} {L_5 : Nat → Nat → Nat → Int32 → ZH → Prop} (hL_5 : ∀ (b0 : Nat) (b1 : Nat) (b2 : Nat) (b3 : Int32) (h : ZH), L_5 b0 b1 b2 b3 h → Gx E (d + 1) 2 5 [.ref b0, .ref b1, .ref b2, .int b3, .retAddr 0] [] h Q) {a0 : Nat} {a1 : Nat} {a2 : Nat} {a3 : Int32} {h : ZH} (hw : wb_2_31 E d Q L_5 a0 a1 a2 a3 h) : Gx E (d + 1) 2 31 [.ref a0, .ref a1, .ref a2, .int a3, .retAddr 0] [] h Q := by
  unfold wb_2_31 at hw
  obtain ⟨x4, ex4⟩ : ∃ x : Int32, x = a3 + 1 := ⟨_, rfl⟩
  have hw := hw x4 ex4
  refine zg_iinc (v := x4) (ls1 := [.ref a0, .ref a1, .ref a2, .int x4, .retAddr 0]) zi_2_31 rfl (by rw [ex4]; rfl) rfl ?_
  refine zg_goto zi_2_32 ?_
  exact hL_5 a0 a1 a2 x4 h hw
def wl_2_11 (E : Nat → Nat) (d : Nat) (Q : Option Value → ZH → Prop) (L_5 : Nat → Nat → Nat → Int32 → ZH → Prop) : Nat → Nat → Nat → Nat → Int32 → Int32 → ZH → Prop
  | 0, _, _, _, _, _, _ => False
  | n + 1, a0, a1, a2, a3, a4, h => (3 ≤ a4 → (wb_2_31 E d Q L_5 a0 a1 a2 a3 h)) ∧ (¬ (3 ≤ a4) → (ztag h a1 = 3 ∧ ∃ r6 : Nat, zR h a1 0 = r6 + 1 ∧ ztag h a2 = 5 ∧ ∃ r8 : Nat, zR h a2 0 = r8 + 1 ∧ (ztag h r8 = 13 ∨ ztag h r8 = 19) ∧ zin a3 (zlen h r8) = true ∧ (ztag h r6 = 13 ∨ ztag h r6 = 19) ∧ zin (20 + (zI h r8 a3.toNatClampNeg)) (zlen h r6) = true ∧ ztag h a0 = 0 ∧ Ct E d 4 [.ref a0, .int a3, .int a4, .int (4 * (zI h r6 (20 + (zI h r8 a3.toNatClampNeg) : Int32).toNatClampNeg))] h (fun v h12 => v = none ∧ ∀ x13 : Int32, x13 = (a4 + 1) → wl_2_11 E d Q L_5 n a0 a1 a2 a3 x13 h12)))
set_option maxRecDepth 20000 in
theorem okl_2_11 {E : Nat → Nat} {d : Nat} {Q : Option Value → ZH → Prop} {L_5 : Nat → Nat → Nat → Int32 → ZH → Prop} (hL_5 : ∀ (b0 : Nat) (b1 : Nat) (b2 : Nat) (b3 : Int32) (h : ZH), L_5 b0 b1 b2 b3 h → Gx E (d + 1) 2 5 [.ref b0, .ref b1, .ref b2, .int b3, .retAddr 0] [] h Q) : ∀ (n : Nat) (a0 : Nat) (a1 : Nat) (a2 : Nat) (a3 : Int32) (a4 : Int32) (h : ZH), wl_2_11 E d Q L_5 n a0 a1 a2 a3 a4 h → Gx E (d + 1) 2 11 [.ref a0, .ref a1, .ref a2, .int a3, .int a4] [] h Q := by
  intro n
  induction n with
  | zero => intro a0 a1 a2 a3 a4 h hw; exact hw.elim
  | succ n ih =>
    intro a0 a1 a2 a3 a4 h hw
    rw [wl_2_11] at hw
    refine zg_iload zi_2_11 rfl ?_
    refine zg_const (v := 3) zi_2_12 (by rfl) ?_
    refine zg_icmp_ge zi_2_13 (fun hc => ?_) (fun hc => ?_)
    · have hw := hw.1 hc
      exact Gx.forget (zrk (zrk (zrk (zrk (zrd zr0))))) (okb_2_31 hL_5 hw)
    · have hw := hw.2 hc
      refine zg_aload zi_2_14 rfl ?_
      refine zg_iload zi_2_15 rfl ?_
      refine zg_iload zi_2_16 rfl ?_
      refine zg_const (v := 4) zi_2_17 (by rfl) ?_
      refine zg_aload zi_2_18 rfl ?_
      obtain ⟨t5, hw⟩ := hw
      obtain ⟨r6, er6, hw⟩ := hw
      refine zg_getR (v := .ref r6) zi_2_19 t5 (by rfl) (by show zrv (zR h a1 0) = _; rw [er6]; rfl) ?_
      refine zg_const (v := 20) zi_2_20 (by rfl) ?_
      refine zg_aload zi_2_21 rfl ?_
      obtain ⟨t7, hw⟩ := hw
      obtain ⟨r8, er8, hw⟩ := hw
      refine zg_getR (v := .ref r8) zi_2_22 t7 (by rfl) (by show zrv (zR h a2 0) = _; rw [er8]; rfl) ?_
      refine zg_iload zi_2_23 rfl ?_
      obtain ⟨t9, hw⟩ := hw
      obtain ⟨hb, hw⟩ := hw
      refine zg_iaload (v := .int (zI h r8 a3.toNatClampNeg)) zi_2_24 t9 hb rfl ?_
      refine zg_iadd zi_2_25 ?_
      obtain ⟨t10, hw⟩ := hw
      obtain ⟨hb, hw⟩ := hw
      refine zg_iaload (v := .int (zI h r6 (20 + (zI h r8 a3.toNatClampNeg) : Int32).toNatClampNeg)) zi_2_26 t10 hb rfl ?_
      refine zg_imul zi_2_27 ?_
      obtain ⟨t11, hw⟩ := hw
      refine Gx.call2 (as := [.ref a0, .int a3, .int a4, .int (4 * (zI h r6 (20 + (zI h r8 a3.toNatClampNeg) : Int32).toNatClampNeg))]) (rest := []) zq_4 zi_2_28 rfl rfl rfl (Nat.le_of_ble_eq_true rfl) (Nat.le_of_ble_eq_true rfl) (zrv_v t11 rfl rfl) (Nat.le_of_ble_eq_true rfl) ?_
      refine Ct.mono hw ?_
      rintro v h12 ⟨rfl, hw⟩
      show Gx E (d + 1) 2 29 [.ref a0, .ref a1, .ref a2, .int a3, .int a4] [] h12 Q
      obtain ⟨x13, ex13⟩ : ∃ x : Int32, x = a4 + 1 := ⟨_, rfl⟩
      have hw := hw x13 ex13
      refine zg_iinc (v := x13) (ls1 := [.ref a0, .ref a1, .ref a2, .int a3, .int x13]) zi_2_29 rfl (by rw [ex13]; rfl) rfl ?_
      refine zg_goto zi_2_30 ?_
      exact ih a0 a1 a2 a3 x13 h12 hw
def wl_2_5 (E : Nat → Nat) (d : Nat) (Q : Option Value → ZH → Prop) : Nat → Nat → Nat → Nat → Int32 → ZH → Prop
  | 0, _, _, _, _, _ => False
  | n + 1, a0, a1, a2, a3, h => ztag h a1 = 3 ∧ (((zI h a1 6 : Int32) ≤ a3 → (Q none h)) ∧ (¬ ((zI h a1 6 : Int32) ≤ a3) → (∃ mm : Nat, wl_2_11 E d Q (wl_2_5 E d Q n) mm a0 a1 a2 a3 0 h)))
set_option maxRecDepth 20000 in
theorem okl_2_5 {E : Nat → Nat} {d : Nat} {Q : Option Value → ZH → Prop} : ∀ (n : Nat) (a0 : Nat) (a1 : Nat) (a2 : Nat) (a3 : Int32) (h : ZH), wl_2_5 E d Q n a0 a1 a2 a3 h → Gx E (d + 1) 2 5 [.ref a0, .ref a1, .ref a2, .int a3, .retAddr 0] [] h Q := by
  intro n
  induction n with
  | zero => intro a0 a1 a2 a3 h hw; exact hw.elim
  | succ n ih =>
    intro a0 a1 a2 a3 h hw
    rw [wl_2_5] at hw
    refine zg_iload zi_2_5 rfl ?_
    refine zg_aload zi_2_6 rfl ?_
    obtain ⟨t3, hw⟩ := hw
    refine zg_getI (v := .int (zI h a1 6)) zi_2_7 t3 (by rfl) rfl ?_
    refine zg_icmp_ge zi_2_8 (fun hc => ?_) (fun hc => ?_)
    · have hw := hw.1 hc
      exact zg_return zi_2_33 hw
    · have hw := hw.2 hc
      refine zg_const (v := 0) zi_2_9 (by rfl) ?_
      refine zg_istore (ls1 := [.ref a0, .ref a1, .ref a2, .int a3, .int 0]) zi_2_10 (Nat.le_of_ble_eq_true rfl) rfl ?_
      obtain ⟨mm, hw⟩ := hw
      exact okl_2_11 ih mm a0 a1 a2 a3 0 h hw
/-- TakeOrPay$Best.openKnowing(LTakeOrPay$Page;LTakeOrPay$Row;)V -/
def w_2 (E : Nat → Nat) (d : Nat) (a0 : Nat) (a1 : Nat) (a2 : Nat) (h : ZH) (Q : Option Value → ZH → Prop) : Prop := ztag h a0 = 0 ∧ Ct E d 3 [.ref a0, .ref a1] h (fun v h2 => v = none ∧ (∃ mm : Nat, wl_2_5 E d Q mm a0 a1 a2 0 h2))
set_option maxRecDepth 20000 in
theorem ok_2 {E : Nat → Nat} {d : Nat} {a0 : Nat} {a1 : Nat} {a2 : Nat} {h : ZH} {Q : Option Value → ZH → Prop} (hw : w_2 E d a0 a1 a2 h Q) : Ct E (d + 1) 2 [.ref a0, .ref a1, .ref a2] h Q := by
  unfold w_2 at hw
  show Gx E (d + 1) 2 0 [.ref a0, .ref a1, .ref a2, .retAddr 0, .retAddr 0] [] h Q
  refine zg_aload zi_2_0 rfl ?_
  refine zg_aload zi_2_1 rfl ?_
  obtain ⟨t1, hw⟩ := hw
  refine Gx.call2 (as := [.ref a0, .ref a1]) (rest := []) zq_3 zi_2_2 rfl rfl rfl (Nat.le_of_ble_eq_true rfl) (Nat.le_of_ble_eq_true rfl) (zrv_v t1 rfl rfl) (Nat.le_of_ble_eq_true rfl) ?_
  refine Ct.mono hw ?_
  rintro v h2 ⟨rfl, hw⟩
  show Gx E (d + 1) 2 3 [.ref a0, .ref a1, .ref a2, .retAddr 0, .retAddr 0] [] h2 Q
  refine zg_const (v := 0) zi_2_3 (by rfl) ?_
  refine zg_istore (ls1 := [.ref a0, .ref a1, .ref a2, .int 0, .retAddr 0]) zi_2_4 (Nat.le_of_ble_eq_true rfl) rfl ?_
  obtain ⟨mm, hw⟩ := hw
  exact okl_2_5 mm a0 a1 a2 0 h2 hw
theorem zq_5 : zQ 5 3 3 0 := by unfold zQ; decide +kernel
theorem zi_5_0 : (zM 5).1[0]? = some (.iload 1) := by rfl
theorem zi_5_1 : (zM 5).1[1]? = some (.ifCond .eq ((4 : Nat) : Int)) := by rfl
theorem zi_5_2 : (zM 5).1[2]? = some (.iload 2) := by rfl
theorem zi_5_3 : (zM 5).1[3]? = some (.ifCond .ne ((16 : Nat) : Int)) := by rfl
theorem zi_5_4 : (zM 5).1[4]? = some (.iload 1) := by rfl
theorem zi_5_5 : (zM 5).1[5]? = some (.ifCond .le ((10 : Nat) : Int)) := by rfl
theorem zi_5_6 : (zM 5).1[6]? = some (.iconst 8) := by rfl
theorem zi_5_7 : (zM 5).1[7]? = some (.iload 1) := by rfl
theorem zi_5_8 : (zM 5).1[8]? = some (.iadd) := by rfl
theorem zi_5_9 : (zM 5).1[9]? = some (.goto ((11 : Nat) : Int)) := by rfl
theorem zi_5_10 : (zM 5).1[10]? = some (.iload 2) := by rfl
theorem zi_5_11 : (zM 5).1[11]? = some (.iconst 21) := by rfl
theorem zi_5_12 : (zM 5).1[12]? = some (.imul) := by rfl
theorem zi_5_13 : (zM 5).1[13]? = some (.iload 0) := by rfl
theorem zi_5_14 : (zM 5).1[14]? = some (.iadd) := by rfl
theorem zi_5_15 : (zM 5).1[15]? = some (.ireturn) := by rfl
theorem zi_5_16 : (zM 5).1[16]? = some (.iconst 441) := by rfl
theorem zi_5_17 : (zM 5).1[17]? = some (.iload 1) := by rfl
theorem zi_5_18 : (zM 5).1[18]? = some (.iconst 1) := by rfl
theorem zi_5_19 : (zM 5).1[19]? = some (.isub) := by rfl
theorem zi_5_20 : (zM 5).1[20]? = some (.iconst 21) := by rfl
theorem zi_5_21 : (zM 5).1[21]? = some (.imul) := by rfl
theorem zi_5_22 : (zM 5).1[22]? = some (.iadd) := by rfl
theorem zi_5_23 : (zM 5).1[23]? = some (.iload 0) := by rfl
theorem zi_5_24 : (zM 5).1[24]? = some (.iadd) := by rfl
theorem zi_5_25 : (zM 5).1[25]? = some (.ireturn) := by rfl
/-- TakeOrPay$Best.cell(III)I -/
def w_5 (E : Nat → Nat) (d : Nat) (a0 : Int32) (a1 : Int32) (a2 : Int32) (h : ZH) (Q : Option Value → ZH → Prop) : Prop := (a1 = 0 → (Q (some (.int (((if a1 ≤ 0 then a2 else 8 + a1) * 21) + a0))) h)) ∧ (¬ (a1 = 0) → ((¬ a2 = 0 → (Q (some (.int ((441 + ((a1 - 1) * 21)) + a0))) h)) ∧ (¬ (¬ a2 = 0) → (Q (some (.int (((if a1 ≤ 0 then a2 else 8 + a1) * 21) + a0))) h))))
set_option maxRecDepth 20000 in
theorem ok_5 {E : Nat → Nat} {d : Nat} {a0 : Int32} {a1 : Int32} {a2 : Int32} {h : ZH} {Q : Option Value → ZH → Prop} (hw : w_5 E d a0 a1 a2 h Q) : Ct E (d + 1) 5 [.int a0, .int a1, .int a2] h Q := by
  unfold w_5 at hw
  show Gx E (d + 1) 5 0 [.int a0, .int a1, .int a2] [] h Q
  refine zg_iload zi_5_0 rfl ?_
  refine zg_if_eq zi_5_1 (fun hc => ?_) (fun hc => ?_)
  · have hw := hw.1 hc
    refine zg_iload zi_5_4 rfl ?_
    have g5 : Gx E (d + 1) 5 11 [.int a0, .int a1, .int a2] [.int (if a1 ≤ 0 then a2 else 8 + a1)] h Q := by
      refine zg_const (v := 21) zi_5_11 (by rfl) ?_
      refine zg_imul zi_5_12 ?_
      refine zg_iload zi_5_13 rfl ?_
      refine zg_iadd zi_5_14 ?_
      exact zg_ireturn zi_5_15 (by decide) hw
    refine zg_if_le zi_5_5 (fun hc5 => ?_) (fun hc5 => ?_)
    · skip
      refine zg_iload zi_5_10 rfl ?_
      have hg := g5
      simp only [if_pos hc5] at hg
      exact hg
    · skip
      refine zg_const (v := 8) zi_5_6 (by rfl) ?_
      refine zg_iload zi_5_7 rfl ?_
      refine zg_iadd zi_5_8 ?_
      refine zg_goto zi_5_9 ?_
      have hg := g5
      simp only [if_neg hc5] at hg
      exact hg
  · have hw := hw.2 hc
    refine zg_iload zi_5_2 rfl ?_
    refine zg_if_ne zi_5_3 (fun hc => ?_) (fun hc => ?_)
    · have hw := hw.1 hc
      refine zg_const (v := 441) zi_5_16 (by rfl) ?_
      refine zg_iload zi_5_17 rfl ?_
      refine zg_const (v := 1) zi_5_18 (by rfl) ?_
      refine zg_isub zi_5_19 ?_
      refine zg_const (v := 21) zi_5_20 (by rfl) ?_
      refine zg_imul zi_5_21 ?_
      refine zg_iadd zi_5_22 ?_
      refine zg_iload zi_5_23 rfl ?_
      refine zg_iadd zi_5_24 ?_
      exact zg_ireturn zi_5_25 (by decide) hw
    · have hw := hw.2 hc
      refine zg_iload zi_5_4 rfl ?_
      have g5 : Gx E (d + 1) 5 11 [.int a0, .int a1, .int a2] [.int (if a1 ≤ 0 then a2 else 8 + a1)] h Q := by
        refine zg_const (v := 21) zi_5_11 (by rfl) ?_
        refine zg_imul zi_5_12 ?_
        refine zg_iload zi_5_13 rfl ?_
        refine zg_iadd zi_5_14 ?_
        exact zg_ireturn zi_5_15 (by decide) hw
      refine zg_if_le zi_5_5 (fun hc5 => ?_) (fun hc5 => ?_)
      · skip
        refine zg_iload zi_5_10 rfl ?_
        have hg := g5
        simp only [if_pos hc5] at hg
        exact hg
      · skip
        refine zg_const (v := 8) zi_5_6 (by rfl) ?_
        refine zg_iload zi_5_7 rfl ?_
        refine zg_iadd zi_5_8 ?_
        refine zg_goto zi_5_9 ?_
        have hg := g5
        simp only [if_neg hc5] at hg
        exact hg
def fz_5 (E : Nat → Nat) (h : ZH) (a0 : Int32) (a1 : Int32) (a2 : Int32) : Int32 := if a1 = 0 then (((if a1 ≤ 0 then a2 else 8 + a1) * 21) + a0) else (if ¬ a2 = 0 then ((441 + ((a1 - 1) * 21)) + a0) else (((if a1 ≤ 0 then a2 else 8 + a1) * 21) + a0))
def sz_5 (E : Nat → Nat) (h : ZH) (a0 : Int32) (a1 : Int32) (a2 : Int32) : Prop := (a1 = 0 → (True)) ∧ (¬ (a1 = 0) → ((¬ a2 = 0 → (True)) ∧ (¬ (¬ a2 = 0) → (True))))
set_option maxRecDepth 20000 in
theorem cz_5 {E : Nat → Nat} {d : Nat} {a0 : Int32} {a1 : Int32} {a2 : Int32} {h : ZH} {Q : Option Value → ZH → Prop} (hd : 1 ≤ d) (hs : sz_5 E h a0 a1 a2) (hq : Q (some (.int (fz_5 E h a0 a1 a2))) h) : Ct E d 5 [.int a0, .int a1, .int a2] h Q := by
  obtain ⟨d, rfl⟩ : ∃ n, d = n + 1 := ⟨d - 1, by omega⟩
  refine ok_5 ?_
  unfold w_5
  unfold sz_5 at hs
  unfold fz_5 at hq
  refine ⟨fun hc => ?_, fun hc => ?_⟩
  · have hs := hs.1 hc
    rw [if_pos hc] at hq
    exact hq
  · have hs := hs.2 hc
    rw [if_neg hc] at hq
    refine ⟨fun hc => ?_, fun hc => ?_⟩
    · have hs := hs.1 hc
      rw [if_pos hc] at hq
      exact hq
    · have hs := hs.2 hc
      rw [if_neg hc] at hq
      exact hq
theorem zq_6 : zQ 6 1 1 0 := by unfold zQ; decide +kernel
theorem zi_6_0 : (zM 6).1[0]? = some (.iload 0) := by rfl
theorem zi_6_1 : (zM 6).1[1]? = some (.iconst 21) := by rfl
theorem zi_6_2 : (zM 6).1[2]? = some (.irem) := by rfl
theorem zi_6_3 : (zM 6).1[3]? = some (.ireturn) := by rfl
/-- TakeOrPay$Best.countedOf(I)I -/
def w_6 (E : Nat → Nat) (d : Nat) (a0 : Int32) (h : ZH) (Q : Option Value → ZH → Prop) : Prop := Q (some (.int (a0 - a0 / 21 * 21))) h
set_option maxRecDepth 20000 in
theorem ok_6 {E : Nat → Nat} {d : Nat} {a0 : Int32} {h : ZH} {Q : Option Value → ZH → Prop} (hw : w_6 E d a0 h Q) : Ct E (d + 1) 6 [.int a0] h Q := by
  unfold w_6 at hw
  show Gx E (d + 1) 6 0 [.int a0] [] h Q
  refine zg_iload zi_6_0 rfl ?_
  refine zg_const (v := 21) zi_6_1 (by rfl) ?_
  refine zg_irem zi_6_2 (by decide) ?_
  exact zg_ireturn zi_6_3 (by decide) hw
def fz_6 (E : Nat → Nat) (h : ZH) (a0 : Int32) : Int32 := a0 - a0 / 21 * 21
def sz_6 (E : Nat → Nat) (h : ZH) (a0 : Int32) : Prop := True
set_option maxRecDepth 20000 in
theorem cz_6 {E : Nat → Nat} {d : Nat} {a0 : Int32} {h : ZH} {Q : Option Value → ZH → Prop} (hd : 1 ≤ d) (hs : sz_6 E h a0) (hq : Q (some (.int (fz_6 E h a0))) h) : Ct E d 6 [.int a0] h Q := by
  obtain ⟨d, rfl⟩ : ∃ n, d = n + 1 := ⟨d - 1, by omega⟩
  refine ok_6 ?_
  unfold w_6
  unfold sz_6 at hs
  unfold fz_6 at hq
  exact hq
theorem zq_7 : zQ 7 1 1 0 := by unfold zQ; decide +kernel
theorem zi_7_0 : (zM 7).1[0]? = some (.iconst 0) := by rfl
theorem zi_7_1 : (zM 7).1[1]? = some (.iload 0) := by rfl
theorem zi_7_2 : (zM 7).1[2]? = some (.iconst 21) := by rfl
theorem zi_7_3 : (zM 7).1[3]? = some (.idiv) := by rfl
theorem zi_7_4 : (zM 7).1[4]? = some (.iconst 8) := by rfl
theorem zi_7_5 : (zM 7).1[5]? = some (.isub) := by rfl
theorem zi_7_6 : (zM 7).1[6]? = some (.invokedynamic 0) := by rfl
theorem zi_7_7 : (zM 7).1[7]? = some (.ireturn) := by rfl
/-- TakeOrPay$Best.madeOf(I)I -/
def w_7 (E : Nat → Nat) (d : Nat) (a0 : Int32) (h : ZH) (Q : Option Value → ZH → Prop) : Prop := 4 ≤ d ∧ Q (some (.int (zmax 0 ((a0 / 21) - 8)))) h
set_option maxRecDepth 20000 in
theorem ok_7 {E : Nat → Nat} {d : Nat} {a0 : Int32} {h : ZH} {Q : Option Value → ZH → Prop} (hw : w_7 E d a0 h Q) : Ct E (d + 1) 7 [.int a0] h Q := by
  unfold w_7 at hw
  show Gx E (d + 1) 7 0 [.int a0] [] h Q
  refine zg_const (v := 0) zi_7_0 (by rfl) ?_
  refine zg_iload zi_7_1 rfl ?_
  refine zg_const (v := 21) zi_7_2 (by rfl) ?_
  refine zg_idiv zi_7_3 (by decide) ?_
  refine zg_const (v := 8) zi_7_4 (by rfl) ?_
  refine zg_isub zi_7_5 ?_
  obtain ⟨hd, hw⟩ := hw
  refine zg_max zi_7_6 ⟨by omega, Nat.le_of_ble_eq_true rfl⟩ ?_
  exact zg_ireturn zi_7_7 (by decide) hw
def fz_7 (E : Nat → Nat) (h : ZH) (a0 : Int32) : Int32 := zmax 0 ((a0 / 21) - 8)
def sz_7 (E : Nat → Nat) (h : ZH) (a0 : Int32) : Prop := True
set_option maxRecDepth 20000 in
theorem cz_7 {E : Nat → Nat} {d : Nat} {a0 : Int32} {h : ZH} {Q : Option Value → ZH → Prop} (hd : 5 ≤ d) (hs : sz_7 E h a0) (hq : Q (some (.int (fz_7 E h a0))) h) : Ct E d 7 [.int a0] h Q := by
  obtain ⟨d, rfl⟩ : ∃ n, d = n + 1 := ⟨d - 1, by omega⟩
  refine ok_7 ?_
  unfold w_7
  unfold sz_7 at hs
  unfold fz_7 at hq
  refine ⟨by omega, ?_⟩
  exact hq
theorem zq_8 : zQ 8 1 1 0 := by unfold zQ; decide +kernel
theorem zi_8_0 : (zM 8).1[0]? = some (.iload 0) := by rfl
theorem zi_8_1 : (zM 8).1[1]? = some (.iconst 21) := by rfl
theorem zi_8_2 : (zM 8).1[2]? = some (.idiv) := by rfl
theorem zi_8_3 : (zM 8).1[3]? = some (.iconst 8) := by rfl
theorem zi_8_4 : (zM 8).1[4]? = some (.if_icmp .le ((7 : Nat) : Int)) := by rfl
theorem zi_8_5 : (zM 8).1[5]? = some (.iconst 0) := by rfl
theorem zi_8_6 : (zM 8).1[6]? = some (.goto ((10 : Nat) : Int)) := by rfl
theorem zi_8_7 : (zM 8).1[7]? = some (.iload 0) := by rfl
theorem zi_8_8 : (zM 8).1[8]? = some (.iconst 21) := by rfl
theorem zi_8_9 : (zM 8).1[9]? = some (.idiv) := by rfl
theorem zi_8_10 : (zM 8).1[10]? = some (.ireturn) := by rfl
/-- TakeOrPay$Best.creditOf(I)I -/
def w_8 (E : Nat → Nat) (d : Nat) (a0 : Int32) (h : ZH) (Q : Option Value → ZH → Prop) : Prop := Q (some (.int (if (a0 / 21 : Int32) ≤ 8 then a0 / 21 else 0))) h
set_option maxRecDepth 20000 in
theorem ok_8 {E : Nat → Nat} {d : Nat} {a0 : Int32} {h : ZH} {Q : Option Value → ZH → Prop} (hw : w_8 E d a0 h Q) : Ct E (d + 1) 8 [.int a0] h Q := by
  unfold w_8 at hw
  show Gx E (d + 1) 8 0 [.int a0] [] h Q
  refine zg_iload zi_8_0 rfl ?_
  refine zg_const (v := 21) zi_8_1 (by rfl) ?_
  refine zg_idiv zi_8_2 (by decide) ?_
  refine zg_const (v := 8) zi_8_3 (by rfl) ?_
  have g4 : Gx E (d + 1) 8 10 [.int a0] [.int (if (a0 / 21 : Int32) ≤ 8 then a0 / 21 else 0)] h Q := by
    exact zg_ireturn zi_8_10 (by decide) hw
  refine zg_icmp_le zi_8_4 (fun hc4 => ?_) (fun hc4 => ?_)
  · skip
    refine zg_iload zi_8_7 rfl ?_
    refine zg_const (v := 21) zi_8_8 (by rfl) ?_
    refine zg_idiv zi_8_9 (by decide) ?_
    have hg := g4
    simp only [if_pos hc4] at hg
    exact hg
  · skip
    refine zg_const (v := 0) zi_8_5 (by rfl) ?_
    refine zg_goto zi_8_6 ?_
    have hg := g4
    simp only [if_neg hc4] at hg
    exact hg
def fz_8 (E : Nat → Nat) (h : ZH) (a0 : Int32) : Int32 := if (a0 / 21 : Int32) ≤ 8 then a0 / 21 else 0
def sz_8 (E : Nat → Nat) (h : ZH) (a0 : Int32) : Prop := True
set_option maxRecDepth 20000 in
theorem cz_8 {E : Nat → Nat} {d : Nat} {a0 : Int32} {h : ZH} {Q : Option Value → ZH → Prop} (hd : 1 ≤ d) (hs : sz_8 E h a0) (hq : Q (some (.int (fz_8 E h a0))) h) : Ct E d 8 [.int a0] h Q := by
  obtain ⟨d, rfl⟩ : ∃ n, d = n + 1 := ⟨d - 1, by omega⟩
  refine ok_8 ?_
  unfold w_8
  unfold sz_8 at hs
  unfold fz_8 at hq
  exact hq
theorem zq_44 : zQ 44 2 2 3 := by unfold zQ; decide +kernel
theorem zi_44_0 : (zM 44).1[0]? = some (.aload 0) := by rfl
theorem zi_44_1 : (zM 44).1[1]? = some (.getfield 3201) := by rfl
theorem zi_44_2 : (zM 44).1[2]? = some (.iload 1) := by rfl
theorem zi_44_3 : (zM 44).1[3]? = some (.iaload) := by rfl
theorem zi_44_4 : (zM 44).1[4]? = some (.iconst (-4)) := by rfl
theorem zi_44_5 : (zM 44).1[5]? = some (.if_icmp .ne ((11 : Nat) : Int)) := by rfl
theorem zi_44_6 : (zM 44).1[6]? = some (.aload 0) := by rfl
theorem zi_44_7 : (zM 44).1[7]? = some (.getfield 3200) := by rfl
theorem zi_44_8 : (zM 44).1[8]? = some (.iconst 3) := by rfl
theorem zi_44_9 : (zM 44).1[9]? = some (.iaload) := by rfl
theorem zi_44_10 : (zM 44).1[10]? = some (.goto ((12 : Nat) : Int)) := by rfl
theorem zi_44_11 : (zM 44).1[11]? = some (.iconst 0) := by rfl
theorem zi_44_12 : (zM 44).1[12]? = some (.ireturn) := by rfl
/-- TakeOrPay$Page.least(I)I -/
def w_44 (E : Nat → Nat) (d : Nat) (a0 : Nat) (a1 : Int32) (h : ZH) (Q : Option Value → ZH → Prop) : Prop := ztag h a0 = 3 ∧ ∃ r2 : Nat, zR h a0 1 = r2 + 1 ∧ (ztag h r2 = 13 ∨ ztag h r2 = 19) ∧ zin a1 (zlen h r2) = true ∧ (((¬ (zI h r2 a1.toNatClampNeg : Int32) = ((-4) : Int32) → (True)) ∧ (¬ (¬ (zI h r2 a1.toNatClampNeg : Int32) = ((-4) : Int32)) → (¬ zR h a0 0 = 0 ∧ (ztag h (zR h a0 0 - 1) = 13 ∨ ztag h (zR h a0 0 - 1) = 19) ∧ zin 3 (zlen h (zR h a0 0 - 1)) = true ∧ True))) ∧ Q (some (.int (if ¬ (zI h r2 a1.toNatClampNeg : Int32) = ((-4) : Int32) then 0 else zI h (zR h a0 0 - 1) 3))) h)
set_option maxRecDepth 20000 in
theorem ok_44 {E : Nat → Nat} {d : Nat} {a0 : Nat} {a1 : Int32} {h : ZH} {Q : Option Value → ZH → Prop} (hw : w_44 E d a0 a1 h Q) : Ct E (d + 1) 44 [.ref a0, .int a1] h Q := by
  unfold w_44 at hw
  show Gx E (d + 1) 44 0 [.ref a0, .int a1] [] h Q
  refine zg_aload zi_44_0 rfl ?_
  obtain ⟨t1, hw⟩ := hw
  obtain ⟨r2, er2, hw⟩ := hw
  refine zg_getR (v := .ref r2) zi_44_1 t1 (by rfl) (by show zrv (zR h a0 1) = _; rw [er2]; rfl) ?_
  refine zg_iload zi_44_2 rfl ?_
  obtain ⟨t3, hw⟩ := hw
  obtain ⟨hb, hw⟩ := hw
  refine zg_iaload (v := .int (zI h r2 a1.toNatClampNeg)) zi_44_3 t3 hb rfl ?_
  refine zg_const (v := (-4)) zi_44_4 (by rfl) ?_
  obtain ⟨hsd5, hw⟩ := hw
  have g5 : Gx E (d + 1) 44 12 [.ref a0, .int a1] [.int (if ¬ (zI h r2 a1.toNatClampNeg : Int32) = ((-4) : Int32) then 0 else zI h (zR h a0 0 - 1) 3)] h Q := by
    exact zg_ireturn zi_44_12 (by decide) hw
  refine zg_icmp_ne zi_44_5 (fun hc5 => ?_) (fun hc5 => ?_)
  · have hw := hsd5.1 hc5
    refine zg_const (v := 0) zi_44_11 (by rfl) ?_
    have hg := g5
    simp only [if_pos hc5] at hg
    exact hg
  · have hw := hsd5.2 hc5
    refine zg_aload zi_44_6 rfl ?_
    obtain ⟨hr, hw⟩ := hw
    refine zg_getR (v := .ref (zR h a0 0 - 1)) zi_44_7 t1 (by rfl) (zrv_p hr) ?_
    refine zg_const (v := 3) zi_44_8 (by rfl) ?_
    obtain ⟨t4, hw⟩ := hw
    obtain ⟨hb, hw⟩ := hw
    refine zg_iaload (v := .int (zI h (zR h a0 0 - 1) 3)) zi_44_9 t4 hb rfl ?_
    refine zg_goto zi_44_10 ?_
    have hg := g5
    simp only [if_neg hc5] at hg
    exact hg
def fz_44 (E : Nat → Nat) (h : ZH) (a0 : Nat) (a1 : Int32) : Int32 := (fun r2 : Nat => if ¬ (zI h r2 a1.toNatClampNeg : Int32) = ((-4) : Int32) then 0 else zI h (zR h a0 0 - 1) 3) (zR h a0 1 - 1)
def sz_44 (E : Nat → Nat) (h : ZH) (a0 : Nat) (a1 : Int32) : Prop := ztag h a0 = 3 ∧ ∃ r2 : Nat, zR h a0 1 = r2 + 1 ∧ (ztag h r2 = 13 ∨ ztag h r2 = 19) ∧ zin a1 (zlen h r2) = true ∧ (((¬ (zI h r2 a1.toNatClampNeg : Int32) = ((-4) : Int32) → (True)) ∧ (¬ (¬ (zI h r2 a1.toNatClampNeg : Int32) = ((-4) : Int32)) → (¬ zR h a0 0 = 0 ∧ (ztag h (zR h a0 0 - 1) = 13 ∨ ztag h (zR h a0 0 - 1) = 19) ∧ zin 3 (zlen h (zR h a0 0 - 1)) = true ∧ True))) ∧ True)
set_option maxRecDepth 20000 in
theorem cz_44 {E : Nat → Nat} {d : Nat} {a0 : Nat} {a1 : Int32} {h : ZH} {Q : Option Value → ZH → Prop} (hd : 1 ≤ d) (hs : sz_44 E h a0 a1) (hq : Q (some (.int (fz_44 E h a0 a1))) h) : Ct E d 44 [.ref a0, .int a1] h Q := by
  obtain ⟨d, rfl⟩ : ∃ n, d = n + 1 := ⟨d - 1, by omega⟩
  refine ok_44 ?_
  unfold w_44
  unfold sz_44 at hs
  unfold fz_44 at hq
  refine ⟨hs.1, ?_⟩
  have hs := hs.2
  obtain ⟨r2, hr, hs⟩ := hs
  refine ⟨r2, hr, ?_⟩
  rw [hr] at hq
  simp only [Nat.add_sub_cancel] at hq
  refine ⟨hs.1, ?_⟩
  have hs := hs.2
  refine ⟨hs.1, ?_⟩
  have hs := hs.2
  refine ⟨⟨fun hc => ?_, fun hc => ?_⟩, ?_⟩
  · have hs := hs.1.1 hc
    trivial
  · have hs := hs.1.2 hc
    refine ⟨hs.1, ?_⟩
    have hs := hs.2
    refine ⟨hs.1, ?_⟩
    have hs := hs.2
    refine ⟨hs.1, ?_⟩
    have hs := hs.2
    trivial
  have hs := hs.2
  exact hq
theorem zq_45 : zQ 45 2 2 3 := by unfold zQ; decide +kernel
theorem zi_45_0 : (zM 45).1[0]? = some (.aload 0) := by rfl
theorem zi_45_1 : (zM 45).1[1]? = some (.getfield 3201) := by rfl
theorem zi_45_2 : (zM 45).1[2]? = some (.iload 1) := by rfl
theorem zi_45_3 : (zM 45).1[3]? = some (.iaload) := by rfl
theorem zi_45_4 : (zM 45).1[4]? = some (.iconst (-4)) := by rfl
theorem zi_45_5 : (zM 45).1[5]? = some (.if_icmp .ne ((11 : Nat) : Int)) := by rfl
theorem zi_45_6 : (zM 45).1[6]? = some (.aload 0) := by rfl
theorem zi_45_7 : (zM 45).1[7]? = some (.getfield 3200) := by rfl
theorem zi_45_8 : (zM 45).1[8]? = some (.iconst 4) := by rfl
theorem zi_45_9 : (zM 45).1[9]? = some (.iaload) := by rfl
theorem zi_45_10 : (zM 45).1[10]? = some (.goto ((12 : Nat) : Int)) := by rfl
theorem zi_45_11 : (zM 45).1[11]? = some (.iconst 0) := by rfl
theorem zi_45_12 : (zM 45).1[12]? = some (.ireturn) := by rfl
/-- TakeOrPay$Page.most(I)I -/
def w_45 (E : Nat → Nat) (d : Nat) (a0 : Nat) (a1 : Int32) (h : ZH) (Q : Option Value → ZH → Prop) : Prop := ztag h a0 = 3 ∧ ∃ r2 : Nat, zR h a0 1 = r2 + 1 ∧ (ztag h r2 = 13 ∨ ztag h r2 = 19) ∧ zin a1 (zlen h r2) = true ∧ (((¬ (zI h r2 a1.toNatClampNeg : Int32) = ((-4) : Int32) → (True)) ∧ (¬ (¬ (zI h r2 a1.toNatClampNeg : Int32) = ((-4) : Int32)) → (¬ zR h a0 0 = 0 ∧ (ztag h (zR h a0 0 - 1) = 13 ∨ ztag h (zR h a0 0 - 1) = 19) ∧ zin 4 (zlen h (zR h a0 0 - 1)) = true ∧ True))) ∧ Q (some (.int (if ¬ (zI h r2 a1.toNatClampNeg : Int32) = ((-4) : Int32) then 0 else zI h (zR h a0 0 - 1) 4))) h)
set_option maxRecDepth 20000 in
theorem ok_45 {E : Nat → Nat} {d : Nat} {a0 : Nat} {a1 : Int32} {h : ZH} {Q : Option Value → ZH → Prop} (hw : w_45 E d a0 a1 h Q) : Ct E (d + 1) 45 [.ref a0, .int a1] h Q := by
  unfold w_45 at hw
  show Gx E (d + 1) 45 0 [.ref a0, .int a1] [] h Q
  refine zg_aload zi_45_0 rfl ?_
  obtain ⟨t1, hw⟩ := hw
  obtain ⟨r2, er2, hw⟩ := hw
  refine zg_getR (v := .ref r2) zi_45_1 t1 (by rfl) (by show zrv (zR h a0 1) = _; rw [er2]; rfl) ?_
  refine zg_iload zi_45_2 rfl ?_
  obtain ⟨t3, hw⟩ := hw
  obtain ⟨hb, hw⟩ := hw
  refine zg_iaload (v := .int (zI h r2 a1.toNatClampNeg)) zi_45_3 t3 hb rfl ?_
  refine zg_const (v := (-4)) zi_45_4 (by rfl) ?_
  obtain ⟨hsd5, hw⟩ := hw
  have g5 : Gx E (d + 1) 45 12 [.ref a0, .int a1] [.int (if ¬ (zI h r2 a1.toNatClampNeg : Int32) = ((-4) : Int32) then 0 else zI h (zR h a0 0 - 1) 4)] h Q := by
    exact zg_ireturn zi_45_12 (by decide) hw
  refine zg_icmp_ne zi_45_5 (fun hc5 => ?_) (fun hc5 => ?_)
  · have hw := hsd5.1 hc5
    refine zg_const (v := 0) zi_45_11 (by rfl) ?_
    have hg := g5
    simp only [if_pos hc5] at hg
    exact hg
  · have hw := hsd5.2 hc5
    refine zg_aload zi_45_6 rfl ?_
    obtain ⟨hr, hw⟩ := hw
    refine zg_getR (v := .ref (zR h a0 0 - 1)) zi_45_7 t1 (by rfl) (zrv_p hr) ?_
    refine zg_const (v := 4) zi_45_8 (by rfl) ?_
    obtain ⟨t4, hw⟩ := hw
    obtain ⟨hb, hw⟩ := hw
    refine zg_iaload (v := .int (zI h (zR h a0 0 - 1) 4)) zi_45_9 t4 hb rfl ?_
    refine zg_goto zi_45_10 ?_
    have hg := g5
    simp only [if_neg hc5] at hg
    exact hg
def fz_45 (E : Nat → Nat) (h : ZH) (a0 : Nat) (a1 : Int32) : Int32 := (fun r2 : Nat => if ¬ (zI h r2 a1.toNatClampNeg : Int32) = ((-4) : Int32) then 0 else zI h (zR h a0 0 - 1) 4) (zR h a0 1 - 1)
def sz_45 (E : Nat → Nat) (h : ZH) (a0 : Nat) (a1 : Int32) : Prop := ztag h a0 = 3 ∧ ∃ r2 : Nat, zR h a0 1 = r2 + 1 ∧ (ztag h r2 = 13 ∨ ztag h r2 = 19) ∧ zin a1 (zlen h r2) = true ∧ (((¬ (zI h r2 a1.toNatClampNeg : Int32) = ((-4) : Int32) → (True)) ∧ (¬ (¬ (zI h r2 a1.toNatClampNeg : Int32) = ((-4) : Int32)) → (¬ zR h a0 0 = 0 ∧ (ztag h (zR h a0 0 - 1) = 13 ∨ ztag h (zR h a0 0 - 1) = 19) ∧ zin 4 (zlen h (zR h a0 0 - 1)) = true ∧ True))) ∧ True)
set_option maxRecDepth 20000 in
theorem cz_45 {E : Nat → Nat} {d : Nat} {a0 : Nat} {a1 : Int32} {h : ZH} {Q : Option Value → ZH → Prop} (hd : 1 ≤ d) (hs : sz_45 E h a0 a1) (hq : Q (some (.int (fz_45 E h a0 a1))) h) : Ct E d 45 [.ref a0, .int a1] h Q := by
  obtain ⟨d, rfl⟩ : ∃ n, d = n + 1 := ⟨d - 1, by omega⟩
  refine ok_45 ?_
  unfold w_45
  unfold sz_45 at hs
  unfold fz_45 at hq
  refine ⟨hs.1, ?_⟩
  have hs := hs.2
  obtain ⟨r2, hr, hs⟩ := hs
  refine ⟨r2, hr, ?_⟩
  rw [hr] at hq
  simp only [Nat.add_sub_cancel] at hq
  refine ⟨hs.1, ?_⟩
  have hs := hs.2
  refine ⟨hs.1, ?_⟩
  have hs := hs.2
  refine ⟨⟨fun hc => ?_, fun hc => ?_⟩, ?_⟩
  · have hs := hs.1.1 hc
    trivial
  · have hs := hs.1.2 hc
    refine ⟨hs.1, ?_⟩
    have hs := hs.2
    refine ⟨hs.1, ?_⟩
    have hs := hs.2
    refine ⟨hs.1, ?_⟩
    have hs := hs.2
    trivial
  have hs := hs.2
  exact hq
theorem zq_24 : zQ 24 4 4 2 := by unfold zQ; decide +kernel
theorem zi_24_0 : (zM 24).1[0]? = some (.aload 0) := by rfl
theorem zi_24_1 : (zM 24).1[1]? = some (.iload 1) := by rfl
theorem zi_24_2 : (zM 24).1[2]? = some (.putfield 2003) := by rfl
theorem zi_24_3 : (zM 24).1[3]? = some (.aload 0) := by rfl
theorem zi_24_4 : (zM 24).1[4]? = some (.iload 2) := by rfl
theorem zi_24_5 : (zM 24).1[5]? = some (.putfield 2004) := by rfl
theorem zi_24_6 : (zM 24).1[6]? = some (.aload 0) := by rfl
theorem zi_24_7 : (zM 24).1[7]? = some (.iload 3) := by rfl
theorem zi_24_8 : (zM 24).1[8]? = some (.putfield 2005) := by rfl
theorem zi_24_9 : (zM 24).1[9]? = some (.return_) := by rfl
/-- TakeOrPay$Move.stand(III)V -/
def w_24 (E : Nat → Nat) (d : Nat) (a0 : Nat) (a1 : Int32) (a2 : Int32) (a3 : Int32) (h : ZH) (Q : Option Value → ZH → Prop) : Prop := ztag h a0 = 2 ∧ ∀ h2 : ZH, h2 = (zuI h a0 3 a1) → ∀ h3 : ZH, h3 = (zuI h2 a0 4 a2) → ∀ h4 : ZH, h4 = (zuI h3 a0 5 a3) → Q none h4
set_option maxRecDepth 20000 in
theorem ok_24 {E : Nat → Nat} {d : Nat} {a0 : Nat} {a1 : Int32} {a2 : Int32} {a3 : Int32} {h : ZH} {Q : Option Value → ZH → Prop} (hw : w_24 E d a0 a1 a2 a3 h Q) : Ct E (d + 1) 24 [.ref a0, .int a1, .int a2, .int a3] h Q := by
  unfold w_24 at hw
  show Gx E (d + 1) 24 0 [.ref a0, .int a1, .int a2, .int a3] [] h Q
  refine zg_aload zi_24_0 rfl ?_
  refine zg_iload zi_24_1 rfl ?_
  obtain ⟨t1, hw⟩ := hw
  refine zg_putI (h1 := zuI h a0 3 a1) zi_24_2 t1 (by rfl) rfl ?_
  refine zg_nameH fun h2 eh2 => ?_
  have hw := hw h2 eh2
  refine zg_aload zi_24_3 rfl ?_
  refine zg_iload zi_24_4 rfl ?_
  refine zg_putI (h1 := zuI h2 a0 4 a2) zi_24_5 (by rw [eh2]; exact t1) (by rfl) rfl ?_
  refine zg_nameH fun h3 eh3 => ?_
  have hw := hw h3 eh3
  refine zg_aload zi_24_6 rfl ?_
  refine zg_iload zi_24_7 rfl ?_
  refine zg_putI (h1 := zuI h3 a0 5 a3) zi_24_8 (by rw [eh3, eh2]; exact t1) (by rfl) rfl ?_
  refine zg_nameH fun h4 eh4 => ?_
  have hw := hw h4 eh4
  exact zg_return zi_24_9 hw
theorem zq_25 : zQ 25 7 13 2 := by unfold zQ; decide +kernel
theorem zi_25_0 : (zM 25).1[0]? = some (.aload 1) := by rfl
theorem zi_25_1 : (zM 25).1[1]? = some (.getfield 3204) := by rfl
theorem zi_25_2 : (zM 25).1[2]? = some (.iload 2) := by rfl
theorem zi_25_3 : (zM 25).1[3]? = some (.iaload) := by rfl
theorem zi_25_4 : (zM 25).1[4]? = some (.istore 7) := by rfl
theorem zi_25_5 : (zM 25).1[5]? = some (.aload 1) := by rfl
theorem zi_25_6 : (zM 25).1[6]? = some (.getfield 3200) := by rfl
theorem zi_25_7 : (zM 25).1[7]? = some (.iconst 9) := by rfl
theorem zi_25_8 : (zM 25).1[8]? = some (.iaload) := by rfl
theorem zi_25_9 : (zM 25).1[9]? = some (.istore 8) := by rfl
theorem zi_25_10 : (zM 25).1[10]? = some (.iconst 0) := by rfl
theorem zi_25_11 : (zM 25).1[11]? = some (.aload 1) := by rfl
theorem zi_25_12 : (zM 25).1[12]? = some (.getfield 3203) := by rfl
theorem zi_25_13 : (zM 25).1[13]? = some (.iload 7) := by rfl
theorem zi_25_14 : (zM 25).1[14]? = some (.iaload) := by rfl
theorem zi_25_15 : (zM 25).1[15]? = some (.iload 5) := by rfl
theorem zi_25_16 : (zM 25).1[16]? = some (.isub) := by rfl
theorem zi_25_17 : (zM 25).1[17]? = some (.iload 3) := by rfl
theorem zi_25_18 : (zM 25).1[18]? = some (.isub) := by rfl
theorem zi_25_19 : (zM 25).1[19]? = some (.invokedynamic 0) := by rfl
theorem zi_25_20 : (zM 25).1[20]? = some (.istore 9) := by rfl
theorem zi_25_21 : (zM 25).1[21]? = some (.iload 8) := by rfl
theorem zi_25_22 : (zM 25).1[22]? = some (.iconst 2) := by rfl
theorem zi_25_23 : (zM 25).1[23]? = some (.if_icmp .ne ((28 : Nat) : Int)) := by rfl
theorem zi_25_24 : (zM 25).1[24]? = some (.iload 6) := by rfl
theorem zi_25_25 : (zM 25).1[25]? = some (.iload 9) := by rfl
theorem zi_25_26 : (zM 25).1[26]? = some (.invokedynamic 1) := by rfl
theorem zi_25_27 : (zM 25).1[27]? = some (.goto ((29 : Nat) : Int)) := by rfl
theorem zi_25_28 : (zM 25).1[28]? = some (.iconst 0) := by rfl
theorem zi_25_29 : (zM 25).1[29]? = some (.istore 10) := by rfl
theorem zi_25_30 : (zM 25).1[30]? = some (.aload 0) := by rfl
theorem zi_25_31 : (zM 25).1[31]? = some (.iload 6) := by rfl
theorem zi_25_32 : (zM 25).1[32]? = some (.putfield 2000) := by rfl
theorem zi_25_33 : (zM 25).1[33]? = some (.aload 0) := by rfl
theorem zi_25_34 : (zM 25).1[34]? = some (.iload 8) := by rfl
theorem zi_25_35 : (zM 25).1[35]? = some (.ifCond .ne ((38 : Nat) : Int)) := by rfl
theorem zi_25_36 : (zM 25).1[36]? = some (.iconst 0) := by rfl
theorem zi_25_37 : (zM 25).1[37]? = some (.goto ((43 : Nat) : Int)) := by rfl
theorem zi_25_38 : (zM 25).1[38]? = some (.iload 6) := by rfl
theorem zi_25_39 : (zM 25).1[39]? = some (.iload 10) := by rfl
theorem zi_25_40 : (zM 25).1[40]? = some (.isub) := by rfl
theorem zi_25_41 : (zM 25).1[41]? = some (.iload 4) := by rfl
theorem zi_25_42 : (zM 25).1[42]? = some (.invokedynamic 1) := by rfl
theorem zi_25_43 : (zM 25).1[43]? = some (.putfield 2001) := by rfl
theorem zi_25_44 : (zM 25).1[44]? = some (.aload 0) := by rfl
theorem zi_25_45 : (zM 25).1[45]? = some (.iload 6) := by rfl
theorem zi_25_46 : (zM 25).1[46]? = some (.aload 0) := by rfl
theorem zi_25_47 : (zM 25).1[47]? = some (.getfield 2001) := by rfl
theorem zi_25_48 : (zM 25).1[48]? = some (.isub) := by rfl
theorem zi_25_49 : (zM 25).1[49]? = some (.putfield 2002) := by rfl
theorem zi_25_50 : (zM 25).1[50]? = some (.iload 3) := by rfl
theorem zi_25_51 : (zM 25).1[51]? = some (.aload 0) := by rfl
theorem zi_25_52 : (zM 25).1[52]? = some (.getfield 2002) := by rfl
theorem zi_25_53 : (zM 25).1[53]? = some (.iadd) := by rfl
theorem zi_25_54 : (zM 25).1[54]? = some (.istore 11) := by rfl
theorem zi_25_55 : (zM 25).1[55]? = some (.iconst 0) := by rfl
theorem zi_25_56 : (zM 25).1[56]? = some (.aload 0) := by rfl
theorem zi_25_57 : (zM 25).1[57]? = some (.getfield 2002) := by rfl
theorem zi_25_58 : (zM 25).1[58]? = some (.iload 11) := by rfl
theorem zi_25_59 : (zM 25).1[59]? = some (.aload 1) := by rfl
theorem zi_25_60 : (zM 25).1[60]? = some (.getfield 3202) := by rfl
theorem zi_25_61 : (zM 25).1[61]? = some (.iload 7) := by rfl
theorem zi_25_62 : (zM 25).1[62]? = some (.iaload) := by rfl
theorem zi_25_63 : (zM 25).1[63]? = some (.isub) := by rfl
theorem zi_25_64 : (zM 25).1[64]? = some (.invokedynamic 1) := by rfl
theorem zi_25_65 : (zM 25).1[65]? = some (.invokedynamic 0) := by rfl
theorem zi_25_66 : (zM 25).1[66]? = some (.istore 12) := by rfl
theorem zi_25_67 : (zM 25).1[67]? = some (.aload 0) := by rfl
theorem zi_25_68 : (zM 25).1[68]? = some (.iconst 100) := by rfl
theorem zi_25_69 : (zM 25).1[69]? = some (.aload 1) := by rfl
theorem zi_25_70 : (zM 25).1[70]? = some (.getfield 3200) := by rfl
theorem zi_25_71 : (zM 25).1[71]? = some (.iconst 8) := by rfl
theorem zi_25_72 : (zM 25).1[72]? = some (.iaload) := by rfl
theorem zi_25_73 : (zM 25).1[73]? = some (.iload 12) := by rfl
theorem zi_25_74 : (zM 25).1[74]? = some (.imul) := by rfl
theorem zi_25_75 : (zM 25).1[75]? = some (.aload 1) := by rfl
theorem zi_25_76 : (zM 25).1[76]? = some (.getfield 3200) := by rfl
theorem zi_25_77 : (zM 25).1[77]? = some (.iconst 10) := by rfl
theorem zi_25_78 : (zM 25).1[78]? = some (.iaload) := by rfl
theorem zi_25_79 : (zM 25).1[79]? = some (.aload 0) := by rfl
theorem zi_25_80 : (zM 25).1[80]? = some (.getfield 2001) := by rfl
theorem zi_25_81 : (zM 25).1[81]? = some (.imul) := by rfl
theorem zi_25_82 : (zM 25).1[82]? = some (.iadd) := by rfl
theorem zi_25_83 : (zM 25).1[83]? = some (.imul) := by rfl
theorem zi_25_84 : (zM 25).1[84]? = some (.putfield 2007) := by rfl
theorem zi_25_85 : (zM 25).1[85]? = some (.aload 0) := by rfl
theorem zi_25_86 : (zM 25).1[86]? = some (.iconst 0) := by rfl
theorem zi_25_87 : (zM 25).1[87]? = some (.putfield 2006) := by rfl
theorem zi_25_88 : (zM 25).1[88]? = some (.aload 0) := by rfl
theorem zi_25_89 : (zM 25).1[89]? = some (.iconst 0) := by rfl
theorem zi_25_90 : (zM 25).1[90]? = some (.putfield 2008) := by rfl
theorem zi_25_91 : (zM 25).1[91]? = some (.aload 0) := by rfl
theorem zi_25_92 : (zM 25).1[92]? = some (.iconst 20) := by rfl
theorem zi_25_93 : (zM 25).1[93]? = some (.iload 11) := by rfl
theorem zi_25_94 : (zM 25).1[94]? = some (.invokedynamic 1) := by rfl
theorem zi_25_95 : (zM 25).1[95]? = some (.iload 4) := by rfl
theorem zi_25_96 : (zM 25).1[96]? = some (.aload 0) := by rfl
theorem zi_25_97 : (zM 25).1[97]? = some (.getfield 2001) := by rfl
theorem zi_25_98 : (zM 25).1[98]? = some (.isub) := by rfl
theorem zi_25_99 : (zM 25).1[99]? = some (.iload 5) := by rfl
theorem zi_25_100 : (zM 25).1[100]? = some (.invokevirtual 24) := by rfl
theorem zi_25_101 : (zM 25).1[101]? = some (.return_) := by rfl
/-- TakeOrPay$Move.take(LTakeOrPay$Page;IIIII)V -/
def w_25 (E : Nat → Nat) (d : Nat) (a0 : Nat) (a1 : Nat) (a2 : Int32) (a3 : Int32) (a4 : Int32) (a5 : Int32) (a6 : Int32) (h : ZH) (Q : Option Value → ZH → Prop) : Prop := ztag h a1 = 3 ∧ ∃ r2 : Nat, zR h a1 4 = r2 + 1 ∧ (ztag h r2 = 13 ∨ ztag h r2 = 19) ∧ zin a2 (zlen h r2) = true ∧ ∀ x4 : Int32, x4 = (zI h r2 a2.toNatClampNeg) → ∃ r5 : Nat, zR h a1 0 = r5 + 1 ∧ (ztag h r5 = 13 ∨ ztag h r5 = 19) ∧ zin 9 (zlen h r5) = true ∧ ∀ x7 : Int32, x7 = (zI h r5 9) → ∃ r8 : Nat, zR h a1 3 = r8 + 1 ∧ (ztag h r8 = 13 ∨ ztag h r8 = 19) ∧ zin x4 (zlen h r8) = true ∧ 4 ≤ d ∧ ∀ x10 : Int32, x10 = (zmax 0 (((zI h r8 x4.toNatClampNeg) - a5) - a3)) → (((¬ x7 = 2 → (True)) ∧ (¬ (¬ x7 = 2) → (4 ≤ d ∧ True))) ∧ ∀ x11 : Int32, x11 = (if ¬ x7 = 2 then 0 else zmin a6 x10) → ztag h a0 = 2 ∧ ∀ h13 : ZH, h13 = (zuI h a0 0 a6) → (((¬ x7 = 0 → (4 ≤ d ∧ True)) ∧ (¬ (¬ x7 = 0) → (True))) ∧ ∀ h14 : ZH, h14 = (zuI h13 a0 1 (if ¬ x7 = 0 then zmin (a6 - x11) a4 else 0)) → ∀ h15 : ZH, h15 = (zuI h14 a0 2 (a6 - (zI h14 a0 1))) → ∀ x16 : Int32, x16 = (a3 + (zI h15 a0 2)) → ∃ r17 : Nat, zR h15 a1 2 = r17 + 1 ∧ (ztag h15 r17 = 13 ∨ ztag h15 r17 = 19) ∧ zin x4 (zlen h15 r17) = true ∧ 4 ≤ d ∧ 4 ≤ d ∧ ∀ x19 : Int32, x19 = (zmax 0 (zmin (zI h15 a0 2) (x16 - (zI h15 r17 x4.toNatClampNeg)))) → zin 8 (zlen h15 r5) = true ∧ zin 10 (zlen h15 r5) = true ∧ ∀ h20 : ZH, h20 = (zuI h15 a0 7 (100 * (((zI h15 r5 8) * x19) + ((zI h15 r5 10) * (zI h15 a0 1))))) → ∀ h21 : ZH, h21 = (zuI h20 a0 6 0) → ∀ h22 : ZH, h22 = (zuI h21 a0 8 0) → 4 ≤ d ∧ Ct E d 24 [.ref a0, .int (zmin 20 x16), .int (a4 - (zI h22 a0 1)), .int a5] h22 (fun v h23 => v = none ∧ Q none h23)))
set_option maxRecDepth 20000 in
theorem ok_25 {E : Nat → Nat} {d : Nat} {a0 : Nat} {a1 : Nat} {a2 : Int32} {a3 : Int32} {a4 : Int32} {a5 : Int32} {a6 : Int32} {h : ZH} {Q : Option Value → ZH → Prop} (hw : w_25 E d a0 a1 a2 a3 a4 a5 a6 h Q) : Ct E (d + 1) 25 [.ref a0, .ref a1, .int a2, .int a3, .int a4, .int a5, .int a6] h Q := by
  unfold w_25 at hw
  show Gx E (d + 1) 25 0 [.ref a0, .ref a1, .int a2, .int a3, .int a4, .int a5, .int a6, .retAddr 0, .retAddr 0, .retAddr 0, .retAddr 0, .retAddr 0, .retAddr 0] [] h Q
  refine zg_aload zi_25_0 rfl ?_
  obtain ⟨t1, hw⟩ := hw
  obtain ⟨r2, er2, hw⟩ := hw
  refine zg_getR (v := .ref r2) zi_25_1 t1 (by rfl) (by show zrv (zR h a1 4) = _; rw [er2]; rfl) ?_
  refine zg_iload zi_25_2 rfl ?_
  obtain ⟨t3, hw⟩ := hw
  obtain ⟨hb, hw⟩ := hw
  refine zg_iaload (v := .int (zI h r2 a2.toNatClampNeg)) zi_25_3 t3 hb rfl ?_
  refine zg_nameI fun x4 ex4 => ?_
  have hw := hw x4 ex4
  refine zg_istore (ls1 := [.ref a0, .ref a1, .int a2, .int a3, .int a4, .int a5, .int a6, .int x4, .retAddr 0, .retAddr 0, .retAddr 0, .retAddr 0, .retAddr 0]) zi_25_4 (Nat.le_of_ble_eq_true rfl) rfl ?_
  refine zg_aload zi_25_5 rfl ?_
  obtain ⟨r5, er5, hw⟩ := hw
  refine zg_getR (v := .ref r5) zi_25_6 t1 (by rfl) (by show zrv (zR h a1 0) = _; rw [er5]; rfl) ?_
  refine zg_const (v := 9) zi_25_7 (by rfl) ?_
  obtain ⟨t6, hw⟩ := hw
  obtain ⟨hb, hw⟩ := hw
  refine zg_iaload (v := .int (zI h r5 9)) zi_25_8 t6 hb rfl ?_
  refine zg_nameI fun x7 ex7 => ?_
  have hw := hw x7 ex7
  refine zg_istore (ls1 := [.ref a0, .ref a1, .int a2, .int a3, .int a4, .int a5, .int a6, .int x4, .int x7, .retAddr 0, .retAddr 0, .retAddr 0, .retAddr 0]) zi_25_9 (Nat.le_of_ble_eq_true rfl) rfl ?_
  refine zg_const (v := 0) zi_25_10 (by rfl) ?_
  refine zg_aload zi_25_11 rfl ?_
  obtain ⟨r8, er8, hw⟩ := hw
  refine zg_getR (v := .ref r8) zi_25_12 t1 (by rfl) (by show zrv (zR h a1 3) = _; rw [er8]; rfl) ?_
  refine zg_iload zi_25_13 rfl ?_
  obtain ⟨t9, hw⟩ := hw
  obtain ⟨hb, hw⟩ := hw
  refine zg_iaload (v := .int (zI h r8 x4.toNatClampNeg)) zi_25_14 t9 hb rfl ?_
  refine zg_iload zi_25_15 rfl ?_
  refine zg_isub zi_25_16 ?_
  refine zg_iload zi_25_17 rfl ?_
  refine zg_isub zi_25_18 ?_
  obtain ⟨hd, hw⟩ := hw
  refine zg_max zi_25_19 ⟨by omega, Nat.le_of_ble_eq_true rfl⟩ ?_
  refine zg_nameI fun x10 ex10 => ?_
  have hw := hw x10 ex10
  refine zg_istore (ls1 := [.ref a0, .ref a1, .int a2, .int a3, .int a4, .int a5, .int a6, .int x4, .int x7, .int x10, .retAddr 0, .retAddr 0, .retAddr 0]) zi_25_20 (Nat.le_of_ble_eq_true rfl) rfl ?_
  refine zg_iload zi_25_21 rfl ?_
  refine zg_const (v := 2) zi_25_22 (by rfl) ?_
  obtain ⟨hsd23, hw⟩ := hw
  have g23 : Gx E (d + 1) 25 29 [.ref a0, .ref a1, .int a2, .int a3, .int a4, .int a5, .int a6, .int x4, .int x7, .int x10, .retAddr 0, .retAddr 0, .retAddr 0] [.int (if ¬ x7 = 2 then 0 else zmin a6 x10)] h Q := by
    refine zg_nameI fun x11 ex11 => ?_
    have hw := hw x11 ex11
    refine zg_istore (ls1 := [.ref a0, .ref a1, .int a2, .int a3, .int a4, .int a5, .int a6, .int x4, .int x7, .int x10, .int x11, .retAddr 0, .retAddr 0]) zi_25_29 (Nat.le_of_ble_eq_true rfl) rfl ?_
    refine zg_aload zi_25_30 rfl ?_
    refine zg_iload zi_25_31 rfl ?_
    obtain ⟨t12, hw⟩ := hw
    refine zg_putI (h1 := zuI h a0 0 a6) zi_25_32 t12 (by rfl) rfl ?_
    refine zg_nameH fun h13 eh13 => ?_
    have hw := hw h13 eh13
    refine zg_aload zi_25_33 rfl ?_
    refine zg_iload zi_25_34 rfl ?_
    obtain ⟨hsd35, hw⟩ := hw
    have g35 : Gx E (d + 1) 25 43 [.ref a0, .ref a1, .int a2, .int a3, .int a4, .int a5, .int a6, .int x4, .int x7, .int x10, .int x11, .retAddr 0, .retAddr 0] [.int (if ¬ x7 = 0 then zmin (a6 - x11) a4 else 0), .ref a0] h13 Q := by
      refine zg_putI (h1 := zuI h13 a0 1 (if ¬ x7 = 0 then zmin (a6 - x11) a4 else 0)) zi_25_43 (by rw [eh13]; exact t12) (by rfl) rfl ?_
      refine zg_nameH fun h14 eh14 => ?_
      have hw := hw h14 eh14
      refine zg_aload zi_25_44 rfl ?_
      refine zg_iload zi_25_45 rfl ?_
      refine zg_aload zi_25_46 rfl ?_
      refine zg_getI (v := .int (zI h14 a0 1)) zi_25_47 (by rw [eh14, eh13]; exact t12) (by rfl) rfl ?_
      refine zg_isub zi_25_48 ?_
      refine zg_putI (h1 := zuI h14 a0 2 (a6 - (zI h14 a0 1))) zi_25_49 (by rw [eh14, eh13]; exact t12) (by rfl) rfl ?_
      refine zg_nameH fun h15 eh15 => ?_
      have hw := hw h15 eh15
      refine zg_iload zi_25_50 rfl ?_
      refine zg_aload zi_25_51 rfl ?_
      refine zg_getI (v := .int (zI h15 a0 2)) zi_25_52 (by rw [eh15, eh14, eh13]; exact t12) (by rfl) rfl ?_
      refine zg_iadd zi_25_53 ?_
      refine zg_nameI fun x16 ex16 => ?_
      have hw := hw x16 ex16
      refine zg_istore (ls1 := [.ref a0, .ref a1, .int a2, .int a3, .int a4, .int a5, .int a6, .int x4, .int x7, .int x10, .int x11, .int x16, .retAddr 0]) zi_25_54 (Nat.le_of_ble_eq_true rfl) rfl ?_
      refine zg_const (v := 0) zi_25_55 (by rfl) ?_
      refine zg_aload zi_25_56 rfl ?_
      refine zg_getI (v := .int (zI h15 a0 2)) zi_25_57 (by rw [eh15, eh14, eh13]; exact t12) (by rfl) rfl ?_
      refine zg_iload zi_25_58 rfl ?_
      refine zg_aload zi_25_59 rfl ?_
      obtain ⟨r17, er17, hw⟩ := hw
      refine zg_getR (v := .ref r17) zi_25_60 (by rw [eh15, eh14, eh13]; exact t1) (by rfl) (by show zrv (zR h15 a1 2) = _; rw [er17]; rfl) ?_
      refine zg_iload zi_25_61 rfl ?_
      obtain ⟨t18, hw⟩ := hw
      obtain ⟨hb, hw⟩ := hw
      refine zg_iaload (v := .int (zI h15 r17 x4.toNatClampNeg)) zi_25_62 t18 hb rfl ?_
      refine zg_isub zi_25_63 ?_
      obtain ⟨hd, hw⟩ := hw
      refine zg_min zi_25_64 ⟨by omega, Nat.le_of_ble_eq_true rfl⟩ ?_
      obtain ⟨hd, hw⟩ := hw
      refine zg_max zi_25_65 ⟨by omega, Nat.le_of_ble_eq_true rfl⟩ ?_
      refine zg_nameI fun x19 ex19 => ?_
      have hw := hw x19 ex19
      refine zg_istore (ls1 := [.ref a0, .ref a1, .int a2, .int a3, .int a4, .int a5, .int a6, .int x4, .int x7, .int x10, .int x11, .int x16, .int x19]) zi_25_66 (Nat.le_of_ble_eq_true rfl) rfl ?_
      refine zg_aload zi_25_67 rfl ?_
      refine zg_const (v := 100) zi_25_68 (by rfl) ?_
      refine zg_aload zi_25_69 rfl ?_
      refine zg_getR (v := .ref r5) zi_25_70 (by rw [eh15, eh14, eh13]; exact t1) (by rfl) (by rw [eh15, eh14, eh13]; show zrv (zR h a1 0) = _; rw [er5]; rfl) ?_
      refine zg_const (v := 8) zi_25_71 (by rfl) ?_
      obtain ⟨hb, hw⟩ := hw
      refine zg_iaload (v := .int (zI h15 r5 8)) zi_25_72 (by rw [eh15, eh14, eh13]; exact t6) hb rfl ?_
      refine zg_iload zi_25_73 rfl ?_
      refine zg_imul zi_25_74 ?_
      refine zg_aload zi_25_75 rfl ?_
      refine zg_getR (v := .ref r5) zi_25_76 (by rw [eh15, eh14, eh13]; exact t1) (by rfl) (by rw [eh15, eh14, eh13]; show zrv (zR h a1 0) = _; rw [er5]; rfl) ?_
      refine zg_const (v := 10) zi_25_77 (by rfl) ?_
      obtain ⟨hb, hw⟩ := hw
      refine zg_iaload (v := .int (zI h15 r5 10)) zi_25_78 (by rw [eh15, eh14, eh13]; exact t6) hb rfl ?_
      refine zg_aload zi_25_79 rfl ?_
      refine zg_getI (v := .int (zI h15 a0 1)) zi_25_80 (by rw [eh15, eh14, eh13]; exact t12) (by rfl) rfl ?_
      refine zg_imul zi_25_81 ?_
      refine zg_iadd zi_25_82 ?_
      refine zg_imul zi_25_83 ?_
      refine zg_putI (h1 := zuI h15 a0 7 (100 * (((zI h15 r5 8) * x19) + ((zI h15 r5 10) * (zI h15 a0 1))))) zi_25_84 (by rw [eh15, eh14, eh13]; exact t12) (by rfl) rfl ?_
      refine zg_nameH fun h20 eh20 => ?_
      have hw := hw h20 eh20
      refine zg_aload zi_25_85 rfl ?_
      refine zg_const (v := 0) zi_25_86 (by rfl) ?_
      refine zg_putI (h1 := zuI h20 a0 6 0) zi_25_87 (by rw [eh20, eh15, eh14, eh13]; exact t12) (by rfl) rfl ?_
      refine zg_nameH fun h21 eh21 => ?_
      have hw := hw h21 eh21
      refine zg_aload zi_25_88 rfl ?_
      refine zg_const (v := 0) zi_25_89 (by rfl) ?_
      refine zg_putI (h1 := zuI h21 a0 8 0) zi_25_90 (by rw [eh21, eh20, eh15, eh14, eh13]; exact t12) (by rfl) rfl ?_
      refine zg_nameH fun h22 eh22 => ?_
      have hw := hw h22 eh22
      refine zg_aload zi_25_91 rfl ?_
      refine zg_const (v := 20) zi_25_92 (by rfl) ?_
      refine zg_iload zi_25_93 rfl ?_
      obtain ⟨hd, hw⟩ := hw
      refine zg_min zi_25_94 ⟨by omega, Nat.le_of_ble_eq_true rfl⟩ ?_
      refine zg_iload zi_25_95 rfl ?_
      refine zg_aload zi_25_96 rfl ?_
      refine zg_getI (v := .int (zI h22 a0 1)) zi_25_97 (by rw [eh22, eh21, eh20, eh15, eh14, eh13]; exact t12) (by rfl) rfl ?_
      refine zg_isub zi_25_98 ?_
      refine zg_iload zi_25_99 rfl ?_
      refine Gx.call2 (as := [.ref a0, .int (zmin 20 x16), .int (a4 - (zI h22 a0 1)), .int a5]) (rest := []) zq_24 zi_25_100 rfl rfl rfl (Nat.le_of_ble_eq_true rfl) (Nat.le_of_ble_eq_true rfl) (zrv_v (by rw [eh22, eh21, eh20, eh15, eh14, eh13]; exact t12) rfl rfl) (Nat.le_of_ble_eq_true rfl) ?_
      refine Ct.mono hw ?_
      rintro v h23 ⟨rfl, hw⟩
      show Gx E (d + 1) 25 101 [.ref a0, .ref a1, .int a2, .int a3, .int a4, .int a5, .int a6, .int x4, .int x7, .int x10, .int x11, .int x16, .int x19] [] h23 Q
      exact zg_return zi_25_101 hw
    refine zg_if_ne zi_25_35 (fun hc35 => ?_) (fun hc35 => ?_)
    · have hw := hsd35.1 hc35
      refine zg_iload zi_25_38 rfl ?_
      refine zg_iload zi_25_39 rfl ?_
      refine zg_isub zi_25_40 ?_
      refine zg_iload zi_25_41 rfl ?_
      obtain ⟨hd, hw⟩ := hw
      refine zg_min zi_25_42 ⟨by omega, Nat.le_of_ble_eq_true rfl⟩ ?_
      have hg := g35
      simp only [if_pos hc35] at hg
      exact hg
    · have hw := hsd35.2 hc35
      refine zg_const (v := 0) zi_25_36 (by rfl) ?_
      refine zg_goto zi_25_37 ?_
      have hg := g35
      simp only [if_neg hc35] at hg
      exact hg
  refine zg_icmp_ne zi_25_23 (fun hc23 => ?_) (fun hc23 => ?_)
  · have hw := hsd23.1 hc23
    refine zg_const (v := 0) zi_25_28 (by rfl) ?_
    have hg := g23
    simp only [if_pos hc23] at hg
    exact hg
  · have hw := hsd23.2 hc23
    refine zg_iload zi_25_24 rfl ?_
    refine zg_iload zi_25_25 rfl ?_
    obtain ⟨hd, hw⟩ := hw
    refine zg_min zi_25_26 ⟨by omega, Nat.le_of_ble_eq_true rfl⟩ ?_
    refine zg_goto zi_25_27 ?_
    have hg := g23
    simp only [if_neg hc23] at hg
    exact hg
theorem zq_26 : zQ 26 3 6 2 := by unfold zQ; decide +kernel
theorem zi_26_0 : (zM 26).1[0]? = some (.aload 1) := by rfl
theorem zi_26_1 : (zM 26).1[1]? = some (.getfield 3205) := by rfl
theorem zi_26_2 : (zM 26).1[2]? = some (.iload 2) := by rfl
theorem zi_26_3 : (zM 26).1[3]? = some (.baload) := by rfl
theorem zi_26_4 : (zM 26).1[4]? = some (.ifCond .ne ((6 : Nat) : Int)) := by rfl
theorem zi_26_5 : (zM 26).1[5]? = some (.return_) := by rfl
theorem zi_26_6 : (zM 26).1[6]? = some (.aload 1) := by rfl
theorem zi_26_7 : (zM 26).1[7]? = some (.getfield 3204) := by rfl
theorem zi_26_8 : (zM 26).1[8]? = some (.iload 2) := by rfl
theorem zi_26_9 : (zM 26).1[9]? = some (.iaload) := by rfl
theorem zi_26_10 : (zM 26).1[10]? = some (.istore 3) := by rfl
theorem zi_26_11 : (zM 26).1[11]? = some (.aload 0) := by rfl
theorem zi_26_12 : (zM 26).1[12]? = some (.iconst 0) := by rfl
theorem zi_26_13 : (zM 26).1[13]? = some (.aload 1) := by rfl
theorem zi_26_14 : (zM 26).1[14]? = some (.getfield 3203) := by rfl
theorem zi_26_15 : (zM 26).1[15]? = some (.iload 3) := by rfl
theorem zi_26_16 : (zM 26).1[16]? = some (.iaload) := by rfl
theorem zi_26_17 : (zM 26).1[17]? = some (.aload 0) := by rfl
theorem zi_26_18 : (zM 26).1[18]? = some (.getfield 2005) := by rfl
theorem zi_26_19 : (zM 26).1[19]? = some (.isub) := by rfl
theorem zi_26_20 : (zM 26).1[20]? = some (.aload 0) := by rfl
theorem zi_26_21 : (zM 26).1[21]? = some (.getfield 2003) := by rfl
theorem zi_26_22 : (zM 26).1[22]? = some (.isub) := by rfl
theorem zi_26_23 : (zM 26).1[23]? = some (.invokedynamic 0) := by rfl
theorem zi_26_24 : (zM 26).1[24]? = some (.putfield 2006) := by rfl
theorem zi_26_25 : (zM 26).1[25]? = some (.aload 0) := by rfl
theorem zi_26_26 : (zM 26).1[26]? = some (.iconst 100) := by rfl
theorem zi_26_27 : (zM 26).1[27]? = some (.aload 1) := by rfl
theorem zi_26_28 : (zM 26).1[28]? = some (.getfield 3200) := by rfl
theorem zi_26_29 : (zM 26).1[29]? = some (.iconst 6) := by rfl
theorem zi_26_30 : (zM 26).1[30]? = some (.iaload) := by rfl
theorem zi_26_31 : (zM 26).1[31]? = some (.imul) := by rfl
theorem zi_26_32 : (zM 26).1[32]? = some (.aload 0) := by rfl
theorem zi_26_33 : (zM 26).1[33]? = some (.getfield 2006) := by rfl
theorem zi_26_34 : (zM 26).1[34]? = some (.imul) := by rfl
theorem zi_26_35 : (zM 26).1[35]? = some (.putfield 2008) := by rfl
theorem zi_26_36 : (zM 26).1[36]? = some (.iconst 0) := by rfl
theorem zi_26_37 : (zM 26).1[37]? = some (.aload 0) := by rfl
theorem zi_26_38 : (zM 26).1[38]? = some (.getfield 2003) := by rfl
theorem zi_26_39 : (zM 26).1[39]? = some (.aload 1) := by rfl
theorem zi_26_40 : (zM 26).1[40]? = some (.getfield 3202) := by rfl
theorem zi_26_41 : (zM 26).1[41]? = some (.iload 3) := by rfl
theorem zi_26_42 : (zM 26).1[42]? = some (.iaload) := by rfl
theorem zi_26_43 : (zM 26).1[43]? = some (.isub) := by rfl
theorem zi_26_44 : (zM 26).1[44]? = some (.invokedynamic 0) := by rfl
theorem zi_26_45 : (zM 26).1[45]? = some (.istore 4) := by rfl
theorem zi_26_46 : (zM 26).1[46]? = some (.aload 1) := by rfl
theorem zi_26_47 : (zM 26).1[47]? = some (.getfield 3200) := by rfl
theorem zi_26_48 : (zM 26).1[48]? = some (.iconst 11) := by rfl
theorem zi_26_49 : (zM 26).1[49]? = some (.iaload) := by rfl
theorem zi_26_50 : (zM 26).1[50]? = some (.iconst 1) := by rfl
theorem zi_26_51 : (zM 26).1[51]? = some (.if_icmp .ne ((56 : Nat) : Int)) := by rfl
theorem zi_26_52 : (zM 26).1[52]? = some (.iconst 8) := by rfl
theorem zi_26_53 : (zM 26).1[53]? = some (.iload 4) := by rfl
theorem zi_26_54 : (zM 26).1[54]? = some (.invokedynamic 1) := by rfl
theorem zi_26_55 : (zM 26).1[55]? = some (.goto ((57 : Nat) : Int)) := by rfl
theorem zi_26_56 : (zM 26).1[56]? = some (.iconst 0) := by rfl
theorem zi_26_57 : (zM 26).1[57]? = some (.istore 5) := by rfl
theorem zi_26_58 : (zM 26).1[58]? = some (.aload 0) := by rfl
theorem zi_26_59 : (zM 26).1[59]? = some (.iconst 0) := by rfl
theorem zi_26_60 : (zM 26).1[60]? = some (.aload 1) := by rfl
theorem zi_26_61 : (zM 26).1[61]? = some (.getfield 3200) := by rfl
theorem zi_26_62 : (zM 26).1[62]? = some (.iconst 9) := by rfl
theorem zi_26_63 : (zM 26).1[63]? = some (.iaload) := by rfl
theorem zi_26_64 : (zM 26).1[64]? = some (.ifCond .ne ((67 : Nat) : Int)) := by rfl
theorem zi_26_65 : (zM 26).1[65]? = some (.iconst 0) := by rfl
theorem zi_26_66 : (zM 26).1[66]? = some (.goto ((69 : Nat) : Int)) := by rfl
theorem zi_26_67 : (zM 26).1[67]? = some (.aload 0) := by rfl
theorem zi_26_68 : (zM 26).1[68]? = some (.getfield 2006) := by rfl
theorem zi_26_69 : (zM 26).1[69]? = some (.iload 5) := by rfl
theorem zi_26_70 : (zM 26).1[70]? = some (.invokevirtual 24) := by rfl
theorem zi_26_71 : (zM 26).1[71]? = some (.return_) := by rfl
/-- TakeOrPay$Move.close(LTakeOrPay$Page;I)V -/
def w_26 (E : Nat → Nat) (d : Nat) (a0 : Nat) (a1 : Nat) (a2 : Int32) (h : ZH) (Q : Option Value → ZH → Prop) : Prop := ztag h a1 = 3 ∧ ∃ r2 : Nat, zR h a1 5 = r2 + 1 ∧ (ztag h r2 = 12 ∨ ztag h r2 = 15) ∧ zin a2 (zlen h r2) = true ∧ ((¬ (zI h r2 a2.toNatClampNeg : Int32) = 0 → (∃ r4 : Nat, zR h a1 4 = r4 + 1 ∧ (ztag h r4 = 13 ∨ ztag h r4 = 19) ∧ zin a2 (zlen h r4) = true ∧ ∀ x6 : Int32, x6 = (zI h r4 a2.toNatClampNeg) → ∃ r7 : Nat, zR h a1 3 = r7 + 1 ∧ (ztag h r7 = 13 ∨ ztag h r7 = 19) ∧ zin x6 (zlen h r7) = true ∧ ztag h a0 = 2 ∧ 4 ≤ d ∧ ∀ h10 : ZH, h10 = (zuI h a0 6 (zmax 0 (((zI h r7 x6.toNatClampNeg) - (zI h a0 5)) - (zI h a0 3)))) → ∃ r11 : Nat, zR h10 a1 0 = r11 + 1 ∧ (ztag h10 r11 = 13 ∨ ztag h10 r11 = 19) ∧ zin 6 (zlen h10 r11) = true ∧ ∀ h13 : ZH, h13 = (zuI h10 a0 8 ((100 * (zI h10 r11 6)) * (zI h10 a0 6))) → ∃ r14 : Nat, zR h13 a1 2 = r14 + 1 ∧ (ztag h13 r14 = 13 ∨ ztag h13 r14 = 19) ∧ zin x6 (zlen h13 r14) = true ∧ 4 ≤ d ∧ ∀ x16 : Int32, x16 = (zmax 0 ((zI h13 a0 3) - (zI h13 r14 x6.toNatClampNeg))) → zin 11 (zlen h13 r11) = true ∧ (((¬ (zI h13 r11 11 : Int32) = 1 → (True)) ∧ (¬ (¬ (zI h13 r11 11 : Int32) = 1) → (4 ≤ d ∧ True))) ∧ ∀ x17 : Int32, x17 = (if ¬ (zI h13 r11 11 : Int32) = 1 then 0 else zmin 8 x16) → zin 9 (zlen h13 r11) = true ∧ Ct E d 24 [.ref a0, .int 0, .int (if ¬ (zI h13 r11 9 : Int32) = 0 then zI h13 a0 6 else 0), .int x17] h13 (fun v h18 => v = none ∧ Q none h18)))) ∧ (¬ (¬ (zI h r2 a2.toNatClampNeg : Int32) = 0) → (Q none h)))
set_option maxRecDepth 20000 in
theorem ok_26 {E : Nat → Nat} {d : Nat} {a0 : Nat} {a1 : Nat} {a2 : Int32} {h : ZH} {Q : Option Value → ZH → Prop} (hw : w_26 E d a0 a1 a2 h Q) : Ct E (d + 1) 26 [.ref a0, .ref a1, .int a2] h Q := by
  unfold w_26 at hw
  show Gx E (d + 1) 26 0 [.ref a0, .ref a1, .int a2, .retAddr 0, .retAddr 0, .retAddr 0] [] h Q
  refine zg_aload zi_26_0 rfl ?_
  obtain ⟨t1, hw⟩ := hw
  obtain ⟨r2, er2, hw⟩ := hw
  refine zg_getR (v := .ref r2) zi_26_1 t1 (by rfl) (by show zrv (zR h a1 5) = _; rw [er2]; rfl) ?_
  refine zg_iload zi_26_2 rfl ?_
  obtain ⟨t3, hw⟩ := hw
  obtain ⟨hb, hw⟩ := hw
  refine zg_baload (v := .int (zI h r2 a2.toNatClampNeg)) zi_26_3 t3 hb rfl ?_
  refine zg_if_ne zi_26_4 (fun hc => ?_) (fun hc => ?_)
  · have hw := hw.1 hc
    refine zg_aload zi_26_6 rfl ?_
    obtain ⟨r4, er4, hw⟩ := hw
    refine zg_getR (v := .ref r4) zi_26_7 t1 (by rfl) (by show zrv (zR h a1 4) = _; rw [er4]; rfl) ?_
    refine zg_iload zi_26_8 rfl ?_
    obtain ⟨t5, hw⟩ := hw
    obtain ⟨hb, hw⟩ := hw
    refine zg_iaload (v := .int (zI h r4 a2.toNatClampNeg)) zi_26_9 t5 hb rfl ?_
    refine zg_nameI fun x6 ex6 => ?_
    have hw := hw x6 ex6
    refine zg_istore (ls1 := [.ref a0, .ref a1, .int a2, .int x6, .retAddr 0, .retAddr 0]) zi_26_10 (Nat.le_of_ble_eq_true rfl) rfl ?_
    refine zg_aload zi_26_11 rfl ?_
    refine zg_const (v := 0) zi_26_12 (by rfl) ?_
    refine zg_aload zi_26_13 rfl ?_
    obtain ⟨r7, er7, hw⟩ := hw
    refine zg_getR (v := .ref r7) zi_26_14 t1 (by rfl) (by show zrv (zR h a1 3) = _; rw [er7]; rfl) ?_
    refine zg_iload zi_26_15 rfl ?_
    obtain ⟨t8, hw⟩ := hw
    obtain ⟨hb, hw⟩ := hw
    refine zg_iaload (v := .int (zI h r7 x6.toNatClampNeg)) zi_26_16 t8 hb rfl ?_
    refine zg_aload zi_26_17 rfl ?_
    obtain ⟨t9, hw⟩ := hw
    refine zg_getI (v := .int (zI h a0 5)) zi_26_18 t9 (by rfl) rfl ?_
    refine zg_isub zi_26_19 ?_
    refine zg_aload zi_26_20 rfl ?_
    refine zg_getI (v := .int (zI h a0 3)) zi_26_21 t9 (by rfl) rfl ?_
    refine zg_isub zi_26_22 ?_
    obtain ⟨hd, hw⟩ := hw
    refine zg_max zi_26_23 ⟨by omega, Nat.le_of_ble_eq_true rfl⟩ ?_
    refine zg_putI (h1 := zuI h a0 6 (zmax 0 (((zI h r7 x6.toNatClampNeg) - (zI h a0 5)) - (zI h a0 3)))) zi_26_24 t9 (by rfl) rfl ?_
    refine zg_nameH fun h10 eh10 => ?_
    have hw := hw h10 eh10
    refine zg_aload zi_26_25 rfl ?_
    refine zg_const (v := 100) zi_26_26 (by rfl) ?_
    refine zg_aload zi_26_27 rfl ?_
    obtain ⟨r11, er11, hw⟩ := hw
    refine zg_getR (v := .ref r11) zi_26_28 (by rw [eh10]; exact t1) (by rfl) (by show zrv (zR h10 a1 0) = _; rw [er11]; rfl) ?_
    refine zg_const (v := 6) zi_26_29 (by rfl) ?_
    obtain ⟨t12, hw⟩ := hw
    obtain ⟨hb, hw⟩ := hw
    refine zg_iaload (v := .int (zI h10 r11 6)) zi_26_30 t12 hb rfl ?_
    refine zg_imul zi_26_31 ?_
    refine zg_aload zi_26_32 rfl ?_
    refine zg_getI (v := .int (zI h10 a0 6)) zi_26_33 (by rw [eh10]; exact t9) (by rfl) rfl ?_
    refine zg_imul zi_26_34 ?_
    refine zg_putI (h1 := zuI h10 a0 8 ((100 * (zI h10 r11 6)) * (zI h10 a0 6))) zi_26_35 (by rw [eh10]; exact t9) (by rfl) rfl ?_
    refine zg_nameH fun h13 eh13 => ?_
    have hw := hw h13 eh13
    refine zg_const (v := 0) zi_26_36 (by rfl) ?_
    refine zg_aload zi_26_37 rfl ?_
    refine zg_getI (v := .int (zI h13 a0 3)) zi_26_38 (by rw [eh13, eh10]; exact t9) (by rfl) rfl ?_
    refine zg_aload zi_26_39 rfl ?_
    obtain ⟨r14, er14, hw⟩ := hw
    refine zg_getR (v := .ref r14) zi_26_40 (by rw [eh13, eh10]; exact t1) (by rfl) (by show zrv (zR h13 a1 2) = _; rw [er14]; rfl) ?_
    refine zg_iload zi_26_41 rfl ?_
    obtain ⟨t15, hw⟩ := hw
    obtain ⟨hb, hw⟩ := hw
    refine zg_iaload (v := .int (zI h13 r14 x6.toNatClampNeg)) zi_26_42 t15 hb rfl ?_
    refine zg_isub zi_26_43 ?_
    obtain ⟨hd, hw⟩ := hw
    refine zg_max zi_26_44 ⟨by omega, Nat.le_of_ble_eq_true rfl⟩ ?_
    refine zg_nameI fun x16 ex16 => ?_
    have hw := hw x16 ex16
    refine zg_istore (ls1 := [.ref a0, .ref a1, .int a2, .int x6, .int x16, .retAddr 0]) zi_26_45 (Nat.le_of_ble_eq_true rfl) rfl ?_
    refine zg_aload zi_26_46 rfl ?_
    refine zg_getR (v := .ref r11) zi_26_47 (by rw [eh13, eh10]; exact t1) (by rfl) (by rw [eh13]; show zrv (zR h10 a1 0) = _; rw [er11]; rfl) ?_
    refine zg_const (v := 11) zi_26_48 (by rfl) ?_
    obtain ⟨hb, hw⟩ := hw
    refine zg_iaload (v := .int (zI h13 r11 11)) zi_26_49 (by rw [eh13]; exact t12) hb rfl ?_
    refine zg_const (v := 1) zi_26_50 (by rfl) ?_
    obtain ⟨hsd51, hw⟩ := hw
    have g51 : Gx E (d + 1) 26 57 [.ref a0, .ref a1, .int a2, .int x6, .int x16, .retAddr 0] [.int (if ¬ (zI h13 r11 11 : Int32) = 1 then 0 else zmin 8 x16)] h13 Q := by
      refine zg_nameI fun x17 ex17 => ?_
      have hw := hw x17 ex17
      refine zg_istore (ls1 := [.ref a0, .ref a1, .int a2, .int x6, .int x16, .int x17]) zi_26_57 (Nat.le_of_ble_eq_true rfl) rfl ?_
      refine zg_aload zi_26_58 rfl ?_
      refine zg_const (v := 0) zi_26_59 (by rfl) ?_
      refine zg_aload zi_26_60 rfl ?_
      refine zg_getR (v := .ref r11) zi_26_61 (by rw [eh13, eh10]; exact t1) (by rfl) (by rw [eh13]; show zrv (zR h10 a1 0) = _; rw [er11]; rfl) ?_
      refine zg_const (v := 9) zi_26_62 (by rfl) ?_
      obtain ⟨hb, hw⟩ := hw
      refine zg_iaload (v := .int (zI h13 r11 9)) zi_26_63 (by rw [eh13]; exact t12) hb rfl ?_
      have g64 : Gx E (d + 1) 26 69 [.ref a0, .ref a1, .int a2, .int x6, .int x16, .int x17] [.int (if ¬ (zI h13 r11 9 : Int32) = 0 then zI h13 a0 6 else 0), .int 0, .ref a0] h13 Q := by
        refine zg_iload zi_26_69 rfl ?_
        refine Gx.call2 (as := [.ref a0, .int 0, .int (if ¬ (zI h13 r11 9 : Int32) = 0 then zI h13 a0 6 else 0), .int x17]) (rest := []) zq_24 zi_26_70 rfl rfl rfl (Nat.le_of_ble_eq_true rfl) (Nat.le_of_ble_eq_true rfl) (zrv_v (by rw [eh13, eh10]; exact t9) rfl rfl) (Nat.le_of_ble_eq_true rfl) ?_
        refine Ct.mono hw ?_
        rintro v h18 ⟨rfl, hw⟩
        show Gx E (d + 1) 26 71 [.ref a0, .ref a1, .int a2, .int x6, .int x16, .int x17] [] h18 Q
        exact zg_return zi_26_71 hw
      refine zg_if_ne zi_26_64 (fun hc64 => ?_) (fun hc64 => ?_)
      · skip
        refine zg_aload zi_26_67 rfl ?_
        refine zg_getI (v := .int (zI h13 a0 6)) zi_26_68 (by rw [eh13, eh10]; exact t9) (by rfl) rfl ?_
        have hg := g64
        simp only [if_pos hc64] at hg
        exact hg
      · skip
        refine zg_const (v := 0) zi_26_65 (by rfl) ?_
        refine zg_goto zi_26_66 ?_
        have hg := g64
        simp only [if_neg hc64] at hg
        exact hg
    refine zg_icmp_ne zi_26_51 (fun hc51 => ?_) (fun hc51 => ?_)
    · have hw := hsd51.1 hc51
      refine zg_const (v := 0) zi_26_56 (by rfl) ?_
      have hg := g51
      simp only [if_pos hc51] at hg
      exact hg
    · have hw := hsd51.2 hc51
      refine zg_const (v := 8) zi_26_52 (by rfl) ?_
      refine zg_iload zi_26_53 rfl ?_
      obtain ⟨hd, hw⟩ := hw
      refine zg_min zi_26_54 ⟨by omega, Nat.le_of_ble_eq_true rfl⟩ ?_
      refine zg_goto zi_26_55 ?_
      have hg := g51
      simp only [if_neg hc51] at hg
      exact hg
  · have hw := hw.2 hc
    exact zg_return zi_26_5 hw
theorem zq_11 : zQ 11 4 9 0 := by unfold zQ; decide +kernel
theorem zi_11_0 : (zM 11).1[0]? = some (.iconst 3) := by rfl
theorem zi_11_1 : (zM 11).1[1]? = some (.iload 2) := by rfl
theorem zi_11_2 : (zM 11).1[2]? = some (.imul) := by rfl
theorem zi_11_3 : (zM 11).1[3]? = some (.iload 3) := by rfl
theorem zi_11_4 : (zM 11).1[4]? = some (.iadd) := by rfl
theorem zi_11_5 : (zM 11).1[5]? = some (.istore 4) := by rfl
theorem zi_11_6 : (zM 11).1[6]? = some (.aload 1) := by rfl
theorem zi_11_7 : (zM 11).1[7]? = some (.getfield 2002) := by rfl
theorem zi_11_8 : (zM 11).1[8]? = some (.aload 0) := by rfl
theorem zi_11_9 : (zM 11).1[9]? = some (.getfield 204) := by rfl
theorem zi_11_10 : (zM 11).1[10]? = some (.iload 4) := by rfl
theorem zi_11_11 : (zM 11).1[11]? = some (.iaload) := by rfl
theorem zi_11_12 : (zM 11).1[12]? = some (.imul) := by rfl
theorem zi_11_13 : (zM 11).1[13]? = some (.iconst 4) := by rfl
theorem zi_11_14 : (zM 11).1[14]? = some (.aload 1) := by rfl
theorem zi_11_15 : (zM 11).1[15]? = some (.getfield 2007) := by rfl
theorem zi_11_16 : (zM 11).1[16]? = some (.aload 1) := by rfl
theorem zi_11_17 : (zM 11).1[17]? = some (.getfield 2008) := by rfl
theorem zi_11_18 : (zM 11).1[18]? = some (.iadd) := by rfl
theorem zi_11_19 : (zM 11).1[19]? = some (.imul) := by rfl
theorem zi_11_20 : (zM 11).1[20]? = some (.iadd) := by rfl
theorem zi_11_21 : (zM 11).1[21]? = some (.istore 5) := by rfl
theorem zi_11_22 : (zM 11).1[22]? = some (.iconst 100) := by rfl
theorem zi_11_23 : (zM 11).1[23]? = some (.aload 0) := by rfl
theorem zi_11_24 : (zM 11).1[24]? = some (.getfield 203) := by rfl
theorem zi_11_25 : (zM 11).1[25]? = some (.iload 4) := by rfl
theorem zi_11_26 : (zM 11).1[26]? = some (.iaload) := by rfl
theorem zi_11_27 : (zM 11).1[27]? = some (.imul) := by rfl
theorem zi_11_28 : (zM 11).1[28]? = some (.aload 1) := by rfl
theorem zi_11_29 : (zM 11).1[29]? = some (.getfield 2000) := by rfl
theorem zi_11_30 : (zM 11).1[30]? = some (.imul) := by rfl
theorem zi_11_31 : (zM 11).1[31]? = some (.iload 5) := by rfl
theorem zi_11_32 : (zM 11).1[32]? = some (.isub) := by rfl
theorem zi_11_33 : (zM 11).1[33]? = some (.i2l) := by rfl
theorem zi_11_34 : (zM 11).1[34]? = some (.aload 0) := by rfl
theorem zi_11_35 : (zM 11).1[35]? = some (.getfield 205) := by rfl
theorem zi_11_36 : (zM 11).1[36]? = some (.iload 2) := by rfl
theorem zi_11_37 : (zM 11).1[37]? = some (.iconst 1) := by rfl
theorem zi_11_38 : (zM 11).1[38]? = some (.iadd) := by rfl
theorem zi_11_39 : (zM 11).1[39]? = some (.laload) := by rfl
theorem zi_11_40 : (zM 11).1[40]? = some (.lmul) := by rfl
theorem zi_11_41 : (zM 11).1[41]? = some (.lstore 6) := by rfl
theorem zi_11_42 : (zM 11).1[42]? = some (.iload 2) := by rfl
theorem zi_11_43 : (zM 11).1[43]? = some (.iconst 1) := by rfl
theorem zi_11_44 : (zM 11).1[44]? = some (.iadd) := by rfl
theorem zi_11_45 : (zM 11).1[45]? = some (.aload 0) := by rfl
theorem zi_11_46 : (zM 11).1[46]? = some (.getfield 206) := by rfl
theorem zi_11_47 : (zM 11).1[47]? = some (.getfield 3006) := by rfl
theorem zi_11_48 : (zM 11).1[48]? = some (.if_icmp .lt ((51 : Nat) : Int)) := by rfl
theorem zi_11_49 : (zM 11).1[49]? = some (.lload 6) := by rfl
theorem zi_11_50 : (zM 11).1[50]? = some (.lreturn) := by rfl
theorem zi_11_51 : (zM 11).1[51]? = some (.iload 2) := by rfl
theorem zi_11_52 : (zM 11).1[52]? = some (.iconst 1) := by rfl
theorem zi_11_53 : (zM 11).1[53]? = some (.iadd) := by rfl
theorem zi_11_54 : (zM 11).1[54]? = some (.iconst 693) := by rfl
theorem zi_11_55 : (zM 11).1[55]? = some (.imul) := by rfl
theorem zi_11_56 : (zM 11).1[56]? = some (.aload 1) := by rfl
theorem zi_11_57 : (zM 11).1[57]? = some (.getfield 2003) := by rfl
theorem zi_11_58 : (zM 11).1[58]? = some (.aload 1) := by rfl
theorem zi_11_59 : (zM 11).1[59]? = some (.getfield 2004) := by rfl
theorem zi_11_60 : (zM 11).1[60]? = some (.aload 1) := by rfl
theorem zi_11_61 : (zM 11).1[61]? = some (.getfield 2005) := by rfl
theorem zi_11_62 : (zM 11).1[62]? = some (.invokestatic 5) := by rfl
theorem zi_11_63 : (zM 11).1[63]? = some (.iadd) := by rfl
theorem zi_11_64 : (zM 11).1[64]? = some (.istore 8) := by rfl
theorem zi_11_65 : (zM 11).1[65]? = some (.lload 6) := by rfl
theorem zi_11_66 : (zM 11).1[66]? = some (.aload 0) := by rfl
theorem zi_11_67 : (zM 11).1[67]? = some (.getfield 200) := by rfl
theorem zi_11_68 : (zM 11).1[68]? = some (.iconst 3) := by rfl
theorem zi_11_69 : (zM 11).1[69]? = some (.iload 8) := by rfl
theorem zi_11_70 : (zM 11).1[70]? = some (.imul) := by rfl
theorem zi_11_71 : (zM 11).1[71]? = some (.iload 3) := by rfl
theorem zi_11_72 : (zM 11).1[72]? = some (.iadd) := by rfl
theorem zi_11_73 : (zM 11).1[73]? = some (.laload) := by rfl
theorem zi_11_74 : (zM 11).1[74]? = some (.ladd) := by rfl
theorem zi_11_75 : (zM 11).1[75]? = some (.lreturn) := by rfl
/-- TakeOrPay$Best.worthMade(LTakeOrPay$Move;II)J -/
def w_11 (E : Nat → Nat) (d : Nat) (a0 : Nat) (a1 : Nat) (a2 : Int32) (a3 : Int32) (h : ZH) (Q : Option Value → ZH → Prop) : Prop := ∀ x1 : Int32, x1 = ((3 * a2) + a3) → ztag h a1 = 2 ∧ ztag h a0 = 0 ∧ ∃ r4 : Nat, zR h a0 4 = r4 + 1 ∧ (ztag h r4 = 13 ∨ ztag h r4 = 19) ∧ zin x1 (zlen h r4) = true ∧ ∀ x6 : Int32, x6 = (((zI h a1 2) * (zI h r4 x1.toNatClampNeg)) + (4 * ((zI h a1 7) + (zI h a1 8)))) → ∃ r7 : Nat, zR h a0 3 = r7 + 1 ∧ (ztag h r7 = 13 ∨ ztag h r7 = 19) ∧ zin x1 (zlen h r7) = true ∧ ∃ r9 : Nat, zR h a0 5 = r9 + 1 ∧ ztag h r9 = 14 ∧ zin (a2 + 1) (zlen h r9) = true ∧ ∀ x11 : Int64, x11 = (((((100 * (zI h r7 x1.toNatClampNeg)) * (zI h a1 0)) - x6 : Int32).toInt64) * (zL h r9 (a2 + 1 : Int32).toNatClampNeg)) → ∃ r12 : Nat, zR h a0 6 = r12 + 1 ∧ ztag h r12 = 3 ∧ (((a2 + 1 : Int32) < (zI h r12 6 : Int32) → (1 ≤ d ∧ sz_5 E h (zI h a1 3) (zI h a1 4) (zI h a1 5) ∧ ∀ x14 : Int32, x14 = (((a2 + 1) * 693) + (fz_5 E h (zI h a1 3) (zI h a1 4) (zI h a1 5))) → ∃ r15 : Nat, zR h a0 0 = r15 + 1 ∧ ztag h r15 = 14 ∧ zin ((3 * x14) + a3) (zlen h r15) = true ∧ Q (some (.long (x11 + (zL h r15 ((3 * x14) + a3 : Int32).toNatClampNeg)))) h)) ∧ (¬ ((a2 + 1 : Int32) < (zI h r12 6 : Int32)) → (Q (some (.long x11)) h)))
set_option maxRecDepth 20000 in
theorem ok_11 {E : Nat → Nat} {d : Nat} {a0 : Nat} {a1 : Nat} {a2 : Int32} {a3 : Int32} {h : ZH} {Q : Option Value → ZH → Prop} (hw : w_11 E d a0 a1 a2 a3 h Q) : Ct E (d + 1) 11 [.ref a0, .ref a1, .int a2, .int a3] h Q := by
  unfold w_11 at hw
  show Gx E (d + 1) 11 0 [.ref a0, .ref a1, .int a2, .int a3, .retAddr 0, .retAddr 0, .retAddr 0, .retAddr 0, .retAddr 0] [] h Q
  refine zg_const (v := 3) zi_11_0 (by rfl) ?_
  refine zg_iload zi_11_1 rfl ?_
  refine zg_imul zi_11_2 ?_
  refine zg_iload zi_11_3 rfl ?_
  refine zg_iadd zi_11_4 ?_
  refine zg_nameI fun x1 ex1 => ?_
  have hw := hw x1 ex1
  refine zg_istore (ls1 := [.ref a0, .ref a1, .int a2, .int a3, .int x1, .retAddr 0, .retAddr 0, .retAddr 0, .retAddr 0]) zi_11_5 (Nat.le_of_ble_eq_true rfl) rfl ?_
  refine zg_aload zi_11_6 rfl ?_
  obtain ⟨t2, hw⟩ := hw
  refine zg_getI (v := .int (zI h a1 2)) zi_11_7 t2 (by rfl) rfl ?_
  refine zg_aload zi_11_8 rfl ?_
  obtain ⟨t3, hw⟩ := hw
  obtain ⟨r4, er4, hw⟩ := hw
  refine zg_getR (v := .ref r4) zi_11_9 t3 (by rfl) (by show zrv (zR h a0 4) = _; rw [er4]; rfl) ?_
  refine zg_iload zi_11_10 rfl ?_
  obtain ⟨t5, hw⟩ := hw
  obtain ⟨hb, hw⟩ := hw
  refine zg_iaload (v := .int (zI h r4 x1.toNatClampNeg)) zi_11_11 t5 hb rfl ?_
  refine zg_imul zi_11_12 ?_
  refine zg_const (v := 4) zi_11_13 (by rfl) ?_
  refine zg_aload zi_11_14 rfl ?_
  refine zg_getI (v := .int (zI h a1 7)) zi_11_15 t2 (by rfl) rfl ?_
  refine zg_aload zi_11_16 rfl ?_
  refine zg_getI (v := .int (zI h a1 8)) zi_11_17 t2 (by rfl) rfl ?_
  refine zg_iadd zi_11_18 ?_
  refine zg_imul zi_11_19 ?_
  refine zg_iadd zi_11_20 ?_
  refine zg_nameI fun x6 ex6 => ?_
  have hw := hw x6 ex6
  refine zg_istore (ls1 := [.ref a0, .ref a1, .int a2, .int a3, .int x1, .int x6, .retAddr 0, .retAddr 0, .retAddr 0]) zi_11_21 (Nat.le_of_ble_eq_true rfl) rfl ?_
  refine zg_const (v := 100) zi_11_22 (by rfl) ?_
  refine zg_aload zi_11_23 rfl ?_
  obtain ⟨r7, er7, hw⟩ := hw
  refine zg_getR (v := .ref r7) zi_11_24 t3 (by rfl) (by show zrv (zR h a0 3) = _; rw [er7]; rfl) ?_
  refine zg_iload zi_11_25 rfl ?_
  obtain ⟨t8, hw⟩ := hw
  obtain ⟨hb, hw⟩ := hw
  refine zg_iaload (v := .int (zI h r7 x1.toNatClampNeg)) zi_11_26 t8 hb rfl ?_
  refine zg_imul zi_11_27 ?_
  refine zg_aload zi_11_28 rfl ?_
  refine zg_getI (v := .int (zI h a1 0)) zi_11_29 t2 (by rfl) rfl ?_
  refine zg_imul zi_11_30 ?_
  refine zg_iload zi_11_31 rfl ?_
  refine zg_isub zi_11_32 ?_
  refine zg_i2l zi_11_33 ?_
  refine zg_aload zi_11_34 rfl ?_
  obtain ⟨r9, er9, hw⟩ := hw
  refine zg_getR (v := .ref r9) zi_11_35 t3 (by rfl) (by show zrv (zR h a0 5) = _; rw [er9]; rfl) ?_
  refine zg_iload zi_11_36 rfl ?_
  refine zg_const (v := 1) zi_11_37 (by rfl) ?_
  refine zg_iadd zi_11_38 ?_
  obtain ⟨t10, hw⟩ := hw
  obtain ⟨hb, hw⟩ := hw
  refine zg_laload (v := .long (zL h r9 (a2 + 1 : Int32).toNatClampNeg)) zi_11_39 t10 hb rfl ?_
  refine zg_lmul zi_11_40 ?_
  refine zg_nameL fun x11 ex11 => ?_
  have hw := hw x11 ex11
  refine zg_lstore (ls1 := [.ref a0, .ref a1, .int a2, .int a3, .int x1, .int x6, .long x11, .retAddr 0, .retAddr 0]) zi_11_41 (Nat.le_of_ble_eq_true rfl) rfl ?_
  refine zg_iload zi_11_42 rfl ?_
  refine zg_const (v := 1) zi_11_43 (by rfl) ?_
  refine zg_iadd zi_11_44 ?_
  refine zg_aload zi_11_45 rfl ?_
  obtain ⟨r12, er12, hw⟩ := hw
  refine zg_getR (v := .ref r12) zi_11_46 t3 (by rfl) (by show zrv (zR h a0 6) = _; rw [er12]; rfl) ?_
  obtain ⟨t13, hw⟩ := hw
  refine zg_getI (v := .int (zI h r12 6)) zi_11_47 t13 (by rfl) rfl ?_
  refine zg_icmp_lt zi_11_48 (fun hc => ?_) (fun hc => ?_)
  · have hw := hw.1 hc
    refine zg_iload zi_11_51 rfl ?_
    refine zg_const (v := 1) zi_11_52 (by rfl) ?_
    refine zg_iadd zi_11_53 ?_
    refine zg_const (v := 693) zi_11_54 (by rfl) ?_
    refine zg_imul zi_11_55 ?_
    refine zg_aload zi_11_56 rfl ?_
    refine zg_getI (v := .int (zI h a1 3)) zi_11_57 t2 (by rfl) rfl ?_
    refine zg_aload zi_11_58 rfl ?_
    refine zg_getI (v := .int (zI h a1 4)) zi_11_59 t2 (by rfl) rfl ?_
    refine zg_aload zi_11_60 rfl ?_
    refine zg_getI (v := .int (zI h a1 5)) zi_11_61 t2 (by rfl) rfl ?_
    obtain ⟨hd, hs, hw⟩ := hw
    refine Gx.call2 (as := [.int (zI h a1 3), .int (zI h a1 4), .int (zI h a1 5)]) (rest := [.int ((a2 + 1) * 693)]) zq_5 zi_11_62 rfl rfl rfl (Nat.le_of_ble_eq_true rfl) (Nat.le_of_ble_eq_true rfl) (rfl) (Nat.le_of_ble_eq_true rfl) ?_
    refine cz_5 hd hs ?_
    show Gx E (d + 1) 11 63 [.ref a0, .ref a1, .int a2, .int a3, .int x1, .int x6, .long x11, .retAddr 0, .retAddr 0] [.int (fz_5 E h (zI h a1 3) (zI h a1 4) (zI h a1 5)), .int ((a2 + 1) * 693)] h Q
    refine zg_iadd zi_11_63 ?_
    refine zg_nameI fun x14 ex14 => ?_
    have hw := hw x14 ex14
    refine zg_istore (ls1 := [.ref a0, .ref a1, .int a2, .int a3, .int x1, .int x6, .long x11, .retAddr 0, .int x14]) zi_11_64 (Nat.le_of_ble_eq_true rfl) rfl ?_
    refine zg_lload zi_11_65 rfl ?_
    refine zg_aload zi_11_66 rfl ?_
    obtain ⟨r15, er15, hw⟩ := hw
    refine zg_getR (v := .ref r15) zi_11_67 t3 (by rfl) (by show zrv (zR h a0 0) = _; rw [er15]; rfl) ?_
    refine zg_const (v := 3) zi_11_68 (by rfl) ?_
    refine zg_iload zi_11_69 rfl ?_
    refine zg_imul zi_11_70 ?_
    refine zg_iload zi_11_71 rfl ?_
    refine zg_iadd zi_11_72 ?_
    obtain ⟨t16, hw⟩ := hw
    obtain ⟨hb, hw⟩ := hw
    refine zg_laload (v := .long (zL h r15 ((3 * x14) + a3 : Int32).toNatClampNeg)) zi_11_73 t16 hb rfl ?_
    refine zg_ladd zi_11_74 ?_
    exact zg_lreturn zi_11_75 hw
  · have hw := hw.2 hc
    refine zg_lload zi_11_49 rfl ?_
    exact zg_lreturn zi_11_50 hw
def fz_11 (E : Nat → Nat) (h : ZH) (a0 : Nat) (a1 : Nat) (a2 : Int32) (a3 : Int32) : Int64 := let x1 : Int32 := ((3 * a2) + a3); (fun r4 : Nat => let x6 : Int32 := (((zI h a1 2) * (zI h r4 x1.toNatClampNeg)) + (4 * ((zI h a1 7) + (zI h a1 8)))); (fun r7 : Nat => (fun r9 : Nat => let x11 : Int64 := (((((100 * (zI h r7 x1.toNatClampNeg)) * (zI h a1 0)) - x6 : Int32).toInt64) * (zL h r9 (a2 + 1 : Int32).toNatClampNeg)); (fun r12 : Nat => if (a2 + 1 : Int32) < (zI h r12 6 : Int32) then (let x14 : Int32 := (((a2 + 1) * 693) + (fz_5 E h (zI h a1 3) (zI h a1 4) (zI h a1 5))); (fun r15 : Nat => x11 + (zL h r15 ((3 * x14) + a3 : Int32).toNatClampNeg)) (zR h a0 0 - 1)) else (x11)) (zR h a0 6 - 1)) (zR h a0 5 - 1)) (zR h a0 3 - 1)) (zR h a0 4 - 1)
def sz_11 (E : Nat → Nat) (h : ZH) (a0 : Nat) (a1 : Nat) (a2 : Int32) (a3 : Int32) : Prop := ∀ x1 : Int32, x1 = ((3 * a2) + a3) → ztag h a1 = 2 ∧ ztag h a0 = 0 ∧ ∃ r4 : Nat, zR h a0 4 = r4 + 1 ∧ (ztag h r4 = 13 ∨ ztag h r4 = 19) ∧ zin x1 (zlen h r4) = true ∧ ∀ x6 : Int32, x6 = (((zI h a1 2) * (zI h r4 x1.toNatClampNeg)) + (4 * ((zI h a1 7) + (zI h a1 8)))) → ∃ r7 : Nat, zR h a0 3 = r7 + 1 ∧ (ztag h r7 = 13 ∨ ztag h r7 = 19) ∧ zin x1 (zlen h r7) = true ∧ ∃ r9 : Nat, zR h a0 5 = r9 + 1 ∧ ztag h r9 = 14 ∧ zin (a2 + 1) (zlen h r9) = true ∧ ∀ x11 : Int64, x11 = (((((100 * (zI h r7 x1.toNatClampNeg)) * (zI h a1 0)) - x6 : Int32).toInt64) * (zL h r9 (a2 + 1 : Int32).toNatClampNeg)) → ∃ r12 : Nat, zR h a0 6 = r12 + 1 ∧ ztag h r12 = 3 ∧ (((a2 + 1 : Int32) < (zI h r12 6 : Int32) → (sz_5 E h (zI h a1 3) (zI h a1 4) (zI h a1 5) ∧ ∀ x14 : Int32, x14 = (((a2 + 1) * 693) + (fz_5 E h (zI h a1 3) (zI h a1 4) (zI h a1 5))) → ∃ r15 : Nat, zR h a0 0 = r15 + 1 ∧ ztag h r15 = 14 ∧ zin ((3 * x14) + a3) (zlen h r15) = true ∧ True)) ∧ (¬ ((a2 + 1 : Int32) < (zI h r12 6 : Int32)) → (True)))
set_option maxRecDepth 20000 in
theorem cz_11 {E : Nat → Nat} {d : Nat} {a0 : Nat} {a1 : Nat} {a2 : Int32} {a3 : Int32} {h : ZH} {Q : Option Value → ZH → Prop} (hd : 2 ≤ d) (hs : sz_11 E h a0 a1 a2 a3) (hq : Q (some (.long (fz_11 E h a0 a1 a2 a3))) h) : Ct E d 11 [.ref a0, .ref a1, .int a2, .int a3] h Q := by
  obtain ⟨d, rfl⟩ : ∃ n, d = n + 1 := ⟨d - 1, by omega⟩
  refine ok_11 ?_
  unfold w_11
  unfold sz_11 at hs
  unfold fz_11 at hq
  intro x1 ex1
  have hs := hs x1 ex1
  subst ex1
  refine ⟨hs.1, ?_⟩
  have hs := hs.2
  refine ⟨hs.1, ?_⟩
  have hs := hs.2
  obtain ⟨r4, hr, hs⟩ := hs
  refine ⟨r4, hr, ?_⟩
  rw [hr] at hq
  simp only [Nat.add_sub_cancel] at hq
  refine ⟨hs.1, ?_⟩
  have hs := hs.2
  refine ⟨hs.1, ?_⟩
  have hs := hs.2
  intro x6 ex6
  have hs := hs x6 ex6
  subst ex6
  obtain ⟨r7, hr, hs⟩ := hs
  refine ⟨r7, hr, ?_⟩
  rw [hr] at hq
  simp only [Nat.add_sub_cancel] at hq
  refine ⟨hs.1, ?_⟩
  have hs := hs.2
  refine ⟨hs.1, ?_⟩
  have hs := hs.2
  obtain ⟨r9, hr, hs⟩ := hs
  refine ⟨r9, hr, ?_⟩
  rw [hr] at hq
  simp only [Nat.add_sub_cancel] at hq
  refine ⟨hs.1, ?_⟩
  have hs := hs.2
  refine ⟨hs.1, ?_⟩
  have hs := hs.2
  intro x11 ex11
  have hs := hs x11 ex11
  subst ex11
  obtain ⟨r12, hr, hs⟩ := hs
  refine ⟨r12, hr, ?_⟩
  rw [hr] at hq
  simp only [Nat.add_sub_cancel] at hq
  refine ⟨hs.1, ?_⟩
  have hs := hs.2
  refine ⟨fun hc => ?_, fun hc => ?_⟩
  · have hs := hs.1 hc
    rw [if_pos hc] at hq
    refine ⟨by omega, ?_⟩
    refine ⟨hs.1, ?_⟩
    have hs := hs.2
    intro x14 ex14
    have hs := hs x14 ex14
    subst ex14
    obtain ⟨r15, hr, hs⟩ := hs
    refine ⟨r15, hr, ?_⟩
    rw [hr] at hq
    simp only [Nat.add_sub_cancel] at hq
    refine ⟨hs.1, ?_⟩
    have hs := hs.2
    refine ⟨hs.1, ?_⟩
    have hs := hs.2
    exact hq
  · have hs := hs.2 hc
    rw [if_neg hc] at hq
    exact hq
theorem zq_10 : zQ 10 5 25 0 := by unfold zQ; decide +kernel
theorem zi_10_0 : (zM 10).1[0]? = some (.aload 0) := by rfl
theorem zi_10_1 : (zM 10).1[1]? = some (.getfield 206) := by rfl
theorem zi_10_2 : (zM 10).1[2]? = some (.astore 5) := by rfl
theorem zi_10_3 : (zM 10).1[3]? = some (.iload 1) := by rfl
theorem zi_10_4 : (zM 10).1[4]? = some (.aload 5) := by rfl
theorem zi_10_5 : (zM 10).1[5]? = some (.getfield 3006) := by rfl
theorem zi_10_6 : (zM 10).1[6]? = some (.if_icmp .lt ((8 : Nat) : Int)) := by rfl
theorem zi_10_7 : (zM 10).1[7]? = some (.return_) := by rfl
theorem zi_10_8 : (zM 10).1[8]? = some (.iload 2) := by rfl
theorem zi_10_9 : (zM 10).1[9]? = some (.iload 3) := by rfl
theorem zi_10_10 : (zM 10).1[10]? = some (.iload 4) := by rfl
theorem zi_10_11 : (zM 10).1[11]? = some (.invokestatic 5) := by rfl
theorem zi_10_12 : (zM 10).1[12]? = some (.istore 6) := by rfl
theorem zi_10_13 : (zM 10).1[13]? = some (.iload 6) := by rfl
theorem zi_10_14 : (zM 10).1[14]? = some (.iconst 441) := by rfl
theorem zi_10_15 : (zM 10).1[15]? = some (.if_icmp .ge ((19 : Nat) : Int)) := by rfl
theorem zi_10_16 : (zM 10).1[16]? = some (.aload 0) := by rfl
theorem zi_10_17 : (zM 10).1[17]? = some (.getfield 7) := by rfl
theorem zi_10_18 : (zM 10).1[18]? = some (.goto ((21 : Nat) : Int)) := by rfl
theorem zi_10_19 : (zM 10).1[19]? = some (.aload 0) := by rfl
theorem zi_10_20 : (zM 10).1[20]? = some (.getfield 8) := by rfl
theorem zi_10_21 : (zM 10).1[21]? = some (.istore 7) := by rfl
theorem zi_10_22 : (zM 10).1[22]? = some (.iload 1) := by rfl
theorem zi_10_23 : (zM 10).1[23]? = some (.iconst 693) := by rfl
theorem zi_10_24 : (zM 10).1[24]? = some (.imul) := by rfl
theorem zi_10_25 : (zM 10).1[25]? = some (.iload 6) := by rfl
theorem zi_10_26 : (zM 10).1[26]? = some (.iadd) := by rfl
theorem zi_10_27 : (zM 10).1[27]? = some (.istore 8) := by rfl
theorem zi_10_28 : (zM 10).1[28]? = some (.aload 0) := by rfl
theorem zi_10_29 : (zM 10).1[29]? = some (.getfield 201) := by rfl
theorem zi_10_30 : (zM 10).1[30]? = some (.iload 8) := by rfl
theorem zi_10_31 : (zM 10).1[31]? = some (.iaload) := by rfl
theorem zi_10_32 : (zM 10).1[32]? = some (.iload 7) := by rfl
theorem zi_10_33 : (zM 10).1[33]? = some (.if_icmp .ne ((35 : Nat) : Int)) := by rfl
theorem zi_10_34 : (zM 10).1[34]? = some (.return_) := by rfl
theorem zi_10_35 : (zM 10).1[35]? = some (.aload 0) := by rfl
theorem zi_10_36 : (zM 10).1[36]? = some (.getfield 202) := by rfl
theorem zi_10_37 : (zM 10).1[37]? = some (.iload 1) := by rfl
theorem zi_10_38 : (zM 10).1[38]? = some (.aaload) := by rfl
theorem zi_10_39 : (zM 10).1[39]? = some (.astore 9) := by rfl
theorem zi_10_40 : (zM 10).1[40]? = some (.aload 5) := by rfl
theorem zi_10_41 : (zM 10).1[41]? = some (.iload 1) := by rfl
theorem zi_10_42 : (zM 10).1[42]? = some (.invokevirtual 44) := by rfl
theorem zi_10_43 : (zM 10).1[43]? = some (.istore 10) := by rfl
theorem zi_10_44 : (zM 10).1[44]? = some (.aload 5) := by rfl
theorem zi_10_45 : (zM 10).1[45]? = some (.iload 1) := by rfl
theorem zi_10_46 : (zM 10).1[46]? = some (.invokevirtual 45) := by rfl
theorem zi_10_47 : (zM 10).1[47]? = some (.istore 11) := by rfl
theorem zi_10_48 : (zM 10).1[48]? = some (.jsr_w 0) := by rfl
theorem zi_10_49 : (zM 10).1[49]? = some (.lstore 12) := by rfl
theorem zi_10_50 : (zM 10).1[50]? = some (.jsr_w 0) := by rfl
theorem zi_10_51 : (zM 10).1[51]? = some (.lstore 14) := by rfl
theorem zi_10_52 : (zM 10).1[52]? = some (.jsr_w 0) := by rfl
theorem zi_10_53 : (zM 10).1[53]? = some (.lstore 16) := by rfl
theorem zi_10_54 : (zM 10).1[54]? = some (.iload 10) := by rfl
theorem zi_10_55 : (zM 10).1[55]? = some (.istore 18) := by rfl
theorem zi_10_56 : (zM 10).1[56]? = some (.iload 18) := by rfl
theorem zi_10_57 : (zM 10).1[57]? = some (.iload 11) := by rfl
theorem zi_10_58 : (zM 10).1[58]? = some (.if_icmp .gt ((135 : Nat) : Int)) := by rfl
theorem zi_10_59 : (zM 10).1[59]? = some (.aload 9) := by rfl
theorem zi_10_60 : (zM 10).1[60]? = some (.aload 5) := by rfl
theorem zi_10_61 : (zM 10).1[61]? = some (.iload 1) := by rfl
theorem zi_10_62 : (zM 10).1[62]? = some (.iload 2) := by rfl
theorem zi_10_63 : (zM 10).1[63]? = some (.iload 3) := by rfl
theorem zi_10_64 : (zM 10).1[64]? = some (.iload 4) := by rfl
theorem zi_10_65 : (zM 10).1[65]? = some (.iload 18) := by rfl
theorem zi_10_66 : (zM 10).1[66]? = some (.invokevirtual 25) := by rfl
theorem zi_10_67 : (zM 10).1[67]? = some (.aload 9) := by rfl
theorem zi_10_68 : (zM 10).1[68]? = some (.aload 5) := by rfl
theorem zi_10_69 : (zM 10).1[69]? = some (.iload 1) := by rfl
theorem zi_10_70 : (zM 10).1[70]? = some (.invokevirtual 26) := by rfl
theorem zi_10_71 : (zM 10).1[71]? = some (.aload 0) := by rfl
theorem zi_10_72 : (zM 10).1[72]? = some (.iload 1) := by rfl
theorem zi_10_73 : (zM 10).1[73]? = some (.iconst 1) := by rfl
theorem zi_10_74 : (zM 10).1[74]? = some (.iadd) := by rfl
theorem zi_10_75 : (zM 10).1[75]? = some (.aload 9) := by rfl
theorem zi_10_76 : (zM 10).1[76]? = some (.getfield 2003) := by rfl
theorem zi_10_77 : (zM 10).1[77]? = some (.aload 9) := by rfl
theorem zi_10_78 : (zM 10).1[78]? = some (.getfield 2004) := by rfl
theorem zi_10_79 : (zM 10).1[79]? = some (.aload 9) := by rfl
theorem zi_10_80 : (zM 10).1[80]? = some (.getfield 2005) := by rfl
theorem zi_10_81 : (zM 10).1[81]? = some (.invokestatic 10) := by rfl
theorem zi_10_82 : (zM 10).1[82]? = some (.aload 0) := by rfl
theorem zi_10_83 : (zM 10).1[83]? = some (.aload 9) := by rfl
theorem zi_10_84 : (zM 10).1[84]? = some (.iload 1) := by rfl
theorem zi_10_85 : (zM 10).1[85]? = some (.iconst 0) := by rfl
theorem zi_10_86 : (zM 10).1[86]? = some (.invokevirtual 11) := by rfl
theorem zi_10_87 : (zM 10).1[87]? = some (.lstore 19) := by rfl
theorem zi_10_88 : (zM 10).1[88]? = some (.aload 0) := by rfl
theorem zi_10_89 : (zM 10).1[89]? = some (.aload 9) := by rfl
theorem zi_10_90 : (zM 10).1[90]? = some (.iload 1) := by rfl
theorem zi_10_91 : (zM 10).1[91]? = some (.iconst 1) := by rfl
theorem zi_10_92 : (zM 10).1[92]? = some (.invokevirtual 11) := by rfl
theorem zi_10_93 : (zM 10).1[93]? = some (.lstore 21) := by rfl
theorem zi_10_94 : (zM 10).1[94]? = some (.aload 0) := by rfl
theorem zi_10_95 : (zM 10).1[95]? = some (.aload 9) := by rfl
theorem zi_10_96 : (zM 10).1[96]? = some (.iload 1) := by rfl
theorem zi_10_97 : (zM 10).1[97]? = some (.iconst 2) := by rfl
theorem zi_10_98 : (zM 10).1[98]? = some (.invokevirtual 11) := by rfl
theorem zi_10_99 : (zM 10).1[99]? = some (.lstore 23) := by rfl
theorem zi_10_100 : (zM 10).1[100]? = some (.iload 18) := by rfl
theorem zi_10_101 : (zM 10).1[101]? = some (.iload 10) := by rfl
theorem zi_10_102 : (zM 10).1[102]? = some (.if_icmp .eq ((107 : Nat) : Int)) := by rfl
theorem zi_10_103 : (zM 10).1[103]? = some (.lload 19) := by rfl
theorem zi_10_104 : (zM 10).1[104]? = some (.lload 12) := by rfl
theorem zi_10_105 : (zM 10).1[105]? = some (.lcmp) := by rfl
theorem zi_10_106 : (zM 10).1[106]? = some (.ifCond .le ((109 : Nat) : Int)) := by rfl
theorem zi_10_107 : (zM 10).1[107]? = some (.lload 19) := by rfl
theorem zi_10_108 : (zM 10).1[108]? = some (.goto ((110 : Nat) : Int)) := by rfl
theorem zi_10_109 : (zM 10).1[109]? = some (.lload 12) := by rfl
theorem zi_10_110 : (zM 10).1[110]? = some (.lstore 12) := by rfl
theorem zi_10_111 : (zM 10).1[111]? = some (.iload 18) := by rfl
theorem zi_10_112 : (zM 10).1[112]? = some (.iload 10) := by rfl
theorem zi_10_113 : (zM 10).1[113]? = some (.if_icmp .eq ((118 : Nat) : Int)) := by rfl
theorem zi_10_114 : (zM 10).1[114]? = some (.lload 21) := by rfl
theorem zi_10_115 : (zM 10).1[115]? = some (.lload 14) := by rfl
theorem zi_10_116 : (zM 10).1[116]? = some (.lcmp) := by rfl
theorem zi_10_117 : (zM 10).1[117]? = some (.ifCond .le ((120 : Nat) : Int)) := by rfl
theorem zi_10_118 : (zM 10).1[118]? = some (.lload 21) := by rfl
theorem zi_10_119 : (zM 10).1[119]? = some (.goto ((121 : Nat) : Int)) := by rfl
theorem zi_10_120 : (zM 10).1[120]? = some (.lload 14) := by rfl
theorem zi_10_121 : (zM 10).1[121]? = some (.lstore 14) := by rfl
theorem zi_10_122 : (zM 10).1[122]? = some (.iload 18) := by rfl
theorem zi_10_123 : (zM 10).1[123]? = some (.iload 10) := by rfl
theorem zi_10_124 : (zM 10).1[124]? = some (.if_icmp .eq ((129 : Nat) : Int)) := by rfl
theorem zi_10_125 : (zM 10).1[125]? = some (.lload 23) := by rfl
theorem zi_10_126 : (zM 10).1[126]? = some (.lload 16) := by rfl
theorem zi_10_127 : (zM 10).1[127]? = some (.lcmp) := by rfl
theorem zi_10_128 : (zM 10).1[128]? = some (.ifCond .le ((131 : Nat) : Int)) := by rfl
theorem zi_10_129 : (zM 10).1[129]? = some (.lload 23) := by rfl
theorem zi_10_130 : (zM 10).1[130]? = some (.goto ((132 : Nat) : Int)) := by rfl
theorem zi_10_131 : (zM 10).1[131]? = some (.lload 16) := by rfl
theorem zi_10_132 : (zM 10).1[132]? = some (.lstore 16) := by rfl
theorem zi_10_133 : (zM 10).1[133]? = some (.iinc 18 1) := by rfl
theorem zi_10_134 : (zM 10).1[134]? = some (.goto ((56 : Nat) : Int)) := by rfl
theorem zi_10_135 : (zM 10).1[135]? = some (.iconst 0) := by rfl
theorem zi_10_136 : (zM 10).1[136]? = some (.istore 18) := by rfl
theorem zi_10_137 : (zM 10).1[137]? = some (.iload 18) := by rfl
theorem zi_10_138 : (zM 10).1[138]? = some (.iconst 3) := by rfl
theorem zi_10_139 : (zM 10).1[139]? = some (.if_icmp .ge ((173 : Nat) : Int)) := by rfl
theorem zi_10_140 : (zM 10).1[140]? = some (.aload 0) := by rfl
theorem zi_10_141 : (zM 10).1[141]? = some (.getfield 200) := by rfl
theorem zi_10_142 : (zM 10).1[142]? = some (.iconst 3) := by rfl
theorem zi_10_143 : (zM 10).1[143]? = some (.iload 8) := by rfl
theorem zi_10_144 : (zM 10).1[144]? = some (.imul) := by rfl
theorem zi_10_145 : (zM 10).1[145]? = some (.iload 18) := by rfl
theorem zi_10_146 : (zM 10).1[146]? = some (.iadd) := by rfl
theorem zi_10_147 : (zM 10).1[147]? = some (.aload 5) := by rfl
theorem zi_10_148 : (zM 10).1[148]? = some (.iload 18) := by rfl
theorem zi_10_149 : (zM 10).1[149]? = some (.iconst 0) := by rfl
theorem zi_10_150 : (zM 10).1[150]? = some (.invokevirtual 48) := by rfl
theorem zi_10_151 : (zM 10).1[151]? = some (.i2l) := by rfl
theorem zi_10_152 : (zM 10).1[152]? = some (.lload 12) := by rfl
theorem zi_10_153 : (zM 10).1[153]? = some (.lmul) := by rfl
theorem zi_10_154 : (zM 10).1[154]? = some (.aload 5) := by rfl
theorem zi_10_155 : (zM 10).1[155]? = some (.iload 18) := by rfl
theorem zi_10_156 : (zM 10).1[156]? = some (.iconst 1) := by rfl
theorem zi_10_157 : (zM 10).1[157]? = some (.invokevirtual 48) := by rfl
theorem zi_10_158 : (zM 10).1[158]? = some (.i2l) := by rfl
theorem zi_10_159 : (zM 10).1[159]? = some (.lload 14) := by rfl
theorem zi_10_160 : (zM 10).1[160]? = some (.lmul) := by rfl
theorem zi_10_161 : (zM 10).1[161]? = some (.ladd) := by rfl
theorem zi_10_162 : (zM 10).1[162]? = some (.aload 5) := by rfl
theorem zi_10_163 : (zM 10).1[163]? = some (.iload 18) := by rfl
theorem zi_10_164 : (zM 10).1[164]? = some (.iconst 2) := by rfl
theorem zi_10_165 : (zM 10).1[165]? = some (.invokevirtual 48) := by rfl
theorem zi_10_166 : (zM 10).1[166]? = some (.i2l) := by rfl
theorem zi_10_167 : (zM 10).1[167]? = some (.lload 16) := by rfl
theorem zi_10_168 : (zM 10).1[168]? = some (.lmul) := by rfl
theorem zi_10_169 : (zM 10).1[169]? = some (.ladd) := by rfl
theorem zi_10_170 : (zM 10).1[170]? = some (.lastore) := by rfl
theorem zi_10_171 : (zM 10).1[171]? = some (.iinc 18 1) := by rfl
theorem zi_10_172 : (zM 10).1[172]? = some (.goto ((137 : Nat) : Int)) := by rfl
theorem zi_10_173 : (zM 10).1[173]? = some (.aload 0) := by rfl
theorem zi_10_174 : (zM 10).1[174]? = some (.getfield 201) := by rfl
theorem zi_10_175 : (zM 10).1[175]? = some (.iload 8) := by rfl
theorem zi_10_176 : (zM 10).1[176]? = some (.iload 7) := by rfl
theorem zi_10_177 : (zM 10).1[177]? = some (.iastore) := by rfl
theorem zi_10_178 : (zM 10).1[178]? = some (.return_) := by rfl
def wb_10_173 (E : Nat → Nat) (d : Nat) (Q : Option Value → ZH → Prop) (a0 : Nat) (a7 : Int32) (a8 : Int32) (h : ZH) : Prop := ztag h a0 = 0 ∧ ∃ r15 : Nat, zR h a0 1 = r15 + 1 ∧ ztag h r15 = 13 ∧ zin a8 (zlen h r15) = true ∧ ∀ h17 : ZH, h17 = (zuI h r15 a8.toNatClampNeg a7) → Q none h17
set_option maxRecDepth 20000 in
theorem okb_10_173 {E : Nat → Nat} {d : Nat} {Q : Option Value → ZH → Prop} {a0 : Nat} {a7 : Int32} {a8 : Int32} {h : ZH} (hw : wb_10_173 E d Q a0 a7 a8 h) : Gx E (d + 1) 10 173 [.ref a0, .retAddr 0, .retAddr 0, .retAddr 0, .retAddr 0, .retAddr 0, .retAddr 0, .int a7, .int a8, .retAddr 0, .retAddr 0, .retAddr 0, .retAddr 0, .retAddr 0, .retAddr 0, .retAddr 0, .retAddr 0, .retAddr 0, .retAddr 0, .retAddr 0, .retAddr 0, .retAddr 0, .retAddr 0, .retAddr 0, .retAddr 0] [] h Q := by
  unfold wb_10_173 at hw
  refine zg_aload zi_10_173 rfl ?_
  obtain ⟨t14, hw⟩ := hw
  obtain ⟨r15, er15, hw⟩ := hw
  refine zg_getR (v := .ref r15) zi_10_174 t14 (by rfl) (by show zrv (zR h a0 1) = _; rw [er15]; rfl) ?_
  refine zg_iload zi_10_175 rfl ?_
  refine zg_iload zi_10_176 rfl ?_
  obtain ⟨t16, hw⟩ := hw
  obtain ⟨hb, hw⟩ := hw
  refine zg_iastore (h1 := zuI h r15 a8.toNatClampNeg a7) zi_10_177 t16 hb rfl ?_
  refine zg_nameH fun h17 eh17 => ?_
  have hw := hw h17 eh17
  exact zg_return zi_10_178 hw
def wl_10_137 (E : Nat → Nat) (d : Nat) (Q : Option Value → ZH → Prop) : Nat → Nat → Nat → Int32 → Int32 → Int64 → Int64 → Int64 → Int32 → ZH → Prop
  | 0, _, _, _, _, _, _, _, _, _ => False
  | n + 1, a0, a5, a7, a8, a12, a14, a16, a18, h => (3 ≤ a18 → (wb_10_173 E d Q a0 a7 a8 h)) ∧ (¬ (3 ≤ a18) → (ztag h a0 = 0 ∧ ∃ r19 : Nat, zR h a0 0 = r19 + 1 ∧ ztag h a5 = 3 ∧ 1 ≤ d ∧ sz_48 E h a5 a18 0 ∧ 1 ≤ d ∧ sz_48 E h a5 a18 1 ∧ 1 ≤ d ∧ sz_48 E h a5 a18 2 ∧ ztag h r19 = 14 ∧ zin ((3 * a8) + a18) (zlen h r19) = true ∧ ∀ h22 : ZH, h22 = (zuL h r19 ((3 * a8) + a18 : Int32).toNatClampNeg (((((fz_48 E h a5 a18 0 : Int32).toInt64) * a12) + (((fz_48 E h a5 a18 1 : Int32).toInt64) * a14)) + (((fz_48 E h a5 a18 2 : Int32).toInt64) * a16))) → ∀ x23 : Int32, x23 = (a18 + 1) → wl_10_137 E d Q n a0 a5 a7 a8 a12 a14 a16 x23 h22))
set_option maxRecDepth 20000 in
theorem okl_10_137 {E : Nat → Nat} {d : Nat} {Q : Option Value → ZH → Prop} : ∀ (n : Nat) (a0 : Nat) (a5 : Nat) (a7 : Int32) (a8 : Int32) (a12 : Int64) (a14 : Int64) (a16 : Int64) (a18 : Int32) (h : ZH), wl_10_137 E d Q n a0 a5 a7 a8 a12 a14 a16 a18 h → Gx E (d + 1) 10 137 [.ref a0, .retAddr 0, .retAddr 0, .retAddr 0, .retAddr 0, .ref a5, .retAddr 0, .int a7, .int a8, .retAddr 0, .retAddr 0, .retAddr 0, .long a12, .retAddr 0, .long a14, .retAddr 0, .long a16, .retAddr 0, .int a18, .retAddr 0, .retAddr 0, .retAddr 0, .retAddr 0, .retAddr 0, .retAddr 0] [] h Q := by
  intro n
  induction n with
  | zero => intro a0 a5 a7 a8 a12 a14 a16 a18 h hw; exact hw.elim
  | succ n ih =>
    intro a0 a5 a7 a8 a12 a14 a16 a18 h hw
    rw [wl_10_137] at hw
    refine zg_iload zi_10_137 rfl ?_
    refine zg_const (v := 3) zi_10_138 (by rfl) ?_
    refine zg_icmp_ge zi_10_139 (fun hc => ?_) (fun hc => ?_)
    · have hw := hw.1 hc
      exact Gx.forget (zrk (zrk (zrk (zrk (zrk (zrd (zrk (zrk (zrk (zrk (zrk (zrk (zrd (zrk (zrd (zrk (zrd (zrk (zrd (zrk (zrk (zrk (zrk (zrk (zrk zr0))))))))))))))))))))))))) (okb_10_173 hw)
    · have hw := hw.2 hc
      refine zg_aload zi_10_140 rfl ?_
      obtain ⟨t18, hw⟩ := hw
      obtain ⟨r19, er19, hw⟩ := hw
      refine zg_getR (v := .ref r19) zi_10_141 t18 (by rfl) (by show zrv (zR h a0 0) = _; rw [er19]; rfl) ?_
      refine zg_const (v := 3) zi_10_142 (by rfl) ?_
      refine zg_iload zi_10_143 rfl ?_
      refine zg_imul zi_10_144 ?_
      refine zg_iload zi_10_145 rfl ?_
      refine zg_iadd zi_10_146 ?_
      refine zg_aload zi_10_147 rfl ?_
      refine zg_iload zi_10_148 rfl ?_
      refine zg_const (v := 0) zi_10_149 (by rfl) ?_
      obtain ⟨t20, hw⟩ := hw
      obtain ⟨hd, hs, hw⟩ := hw
      refine Gx.call2 (as := [.ref a5, .int a18, .int 0]) (rest := [.int ((3 * a8) + a18), .ref r19]) zq_48 zi_10_150 rfl rfl rfl (Nat.le_of_ble_eq_true rfl) (Nat.le_of_ble_eq_true rfl) (zrv_v t20 rfl rfl) (Nat.le_of_ble_eq_true rfl) ?_
      refine cz_48 hd hs ?_
      show Gx E (d + 1) 10 151 [.ref a0, .retAddr 0, .retAddr 0, .retAddr 0, .retAddr 0, .ref a5, .retAddr 0, .int a7, .int a8, .retAddr 0, .retAddr 0, .retAddr 0, .long a12, .retAddr 0, .long a14, .retAddr 0, .long a16, .retAddr 0, .int a18, .retAddr 0, .retAddr 0, .retAddr 0, .retAddr 0, .retAddr 0, .retAddr 0] [.int (fz_48 E h a5 a18 0), .int ((3 * a8) + a18), .ref r19] h Q
      refine zg_i2l zi_10_151 ?_
      refine zg_lload zi_10_152 rfl ?_
      refine zg_lmul zi_10_153 ?_
      refine zg_aload zi_10_154 rfl ?_
      refine zg_iload zi_10_155 rfl ?_
      refine zg_const (v := 1) zi_10_156 (by rfl) ?_
      obtain ⟨hd, hs, hw⟩ := hw
      refine Gx.call2 (as := [.ref a5, .int a18, .int 1]) (rest := [.long (((fz_48 E h a5 a18 0 : Int32).toInt64) * a12), .int ((3 * a8) + a18), .ref r19]) zq_48 zi_10_157 rfl rfl rfl (Nat.le_of_ble_eq_true rfl) (Nat.le_of_ble_eq_true rfl) (zrv_v t20 rfl rfl) (Nat.le_of_ble_eq_true rfl) ?_
      refine cz_48 hd hs ?_
      show Gx E (d + 1) 10 158 [.ref a0, .retAddr 0, .retAddr 0, .retAddr 0, .retAddr 0, .ref a5, .retAddr 0, .int a7, .int a8, .retAddr 0, .retAddr 0, .retAddr 0, .long a12, .retAddr 0, .long a14, .retAddr 0, .long a16, .retAddr 0, .int a18, .retAddr 0, .retAddr 0, .retAddr 0, .retAddr 0, .retAddr 0, .retAddr 0] [.int (fz_48 E h a5 a18 1), .long (((fz_48 E h a5 a18 0 : Int32).toInt64) * a12), .int ((3 * a8) + a18), .ref r19] h Q
      refine zg_i2l zi_10_158 ?_
      refine zg_lload zi_10_159 rfl ?_
      refine zg_lmul zi_10_160 ?_
      refine zg_ladd zi_10_161 ?_
      refine zg_aload zi_10_162 rfl ?_
      refine zg_iload zi_10_163 rfl ?_
      refine zg_const (v := 2) zi_10_164 (by rfl) ?_
      obtain ⟨hd, hs, hw⟩ := hw
      refine Gx.call2 (as := [.ref a5, .int a18, .int 2]) (rest := [.long ((((fz_48 E h a5 a18 0 : Int32).toInt64) * a12) + (((fz_48 E h a5 a18 1 : Int32).toInt64) * a14)), .int ((3 * a8) + a18), .ref r19]) zq_48 zi_10_165 rfl rfl rfl (Nat.le_of_ble_eq_true rfl) (Nat.le_of_ble_eq_true rfl) (zrv_v t20 rfl rfl) (Nat.le_of_ble_eq_true rfl) ?_
      refine cz_48 hd hs ?_
      show Gx E (d + 1) 10 166 [.ref a0, .retAddr 0, .retAddr 0, .retAddr 0, .retAddr 0, .ref a5, .retAddr 0, .int a7, .int a8, .retAddr 0, .retAddr 0, .retAddr 0, .long a12, .retAddr 0, .long a14, .retAddr 0, .long a16, .retAddr 0, .int a18, .retAddr 0, .retAddr 0, .retAddr 0, .retAddr 0, .retAddr 0, .retAddr 0] [.int (fz_48 E h a5 a18 2), .long ((((fz_48 E h a5 a18 0 : Int32).toInt64) * a12) + (((fz_48 E h a5 a18 1 : Int32).toInt64) * a14)), .int ((3 * a8) + a18), .ref r19] h Q
      refine zg_i2l zi_10_166 ?_
      refine zg_lload zi_10_167 rfl ?_
      refine zg_lmul zi_10_168 ?_
      refine zg_ladd zi_10_169 ?_
      obtain ⟨t21, hw⟩ := hw
      obtain ⟨hb, hw⟩ := hw
      refine zg_lastore (h1 := zuL h r19 ((3 * a8) + a18 : Int32).toNatClampNeg (((((fz_48 E h a5 a18 0 : Int32).toInt64) * a12) + (((fz_48 E h a5 a18 1 : Int32).toInt64) * a14)) + (((fz_48 E h a5 a18 2 : Int32).toInt64) * a16))) zi_10_170 t21 hb rfl ?_
      refine zg_nameH fun h22 eh22 => ?_
      have hw := hw h22 eh22
      obtain ⟨x23, ex23⟩ : ∃ x : Int32, x = a18 + 1 := ⟨_, rfl⟩
      have hw := hw x23 ex23
      refine zg_iinc (v := x23) (ls1 := [.ref a0, .retAddr 0, .retAddr 0, .retAddr 0, .retAddr 0, .ref a5, .retAddr 0, .int a7, .int a8, .retAddr 0, .retAddr 0, .retAddr 0, .long a12, .retAddr 0, .long a14, .retAddr 0, .long a16, .retAddr 0, .int x23, .retAddr 0, .retAddr 0, .retAddr 0, .retAddr 0, .retAddr 0, .retAddr 0]) zi_10_171 rfl (by rw [ex23]; rfl) rfl ?_
      refine zg_goto zi_10_172 ?_
      exact ih a0 a5 a7 a8 a12 a14 a16 x23 h22 hw
def wb_10_135 (E : Nat → Nat) (d : Nat) (Q : Option Value → ZH → Prop) (a0 : Nat) (a5 : Nat) (a7 : Int32) (a8 : Int32) (a12 : Int64) (a14 : Int64) (a16 : Int64) (h : ZH) : Prop := ∃ mm : Nat, wl_10_137 E d Q mm a0 a5 a7 a8 a12 a14 a16 0 h
set_option maxRecDepth 20000 in
theorem okb_10_135 {E : Nat → Nat} {d : Nat} {Q : Option Value → ZH → Prop} {a0 : Nat} {a5 : Nat} {a7 : Int32} {a8 : Int32} {a12 : Int64} {a14 : Int64} {a16 : Int64} {h : ZH} (hw : wb_10_135 E d Q a0 a5 a7 a8 a12 a14 a16 h) : Gx E (d + 1) 10 135 [.ref a0, .retAddr 0, .retAddr 0, .retAddr 0, .retAddr 0, .ref a5, .retAddr 0, .int a7, .int a8, .retAddr 0, .retAddr 0, .retAddr 0, .long a12, .retAddr 0, .long a14, .retAddr 0, .long a16, .retAddr 0, .retAddr 0, .retAddr 0, .retAddr 0, .retAddr 0, .retAddr 0, .retAddr 0, .retAddr 0] [] h Q := by
  unfold wb_10_135 at hw
  refine zg_const (v := 0) zi_10_135 (by rfl) ?_
  refine zg_istore (ls1 := [.ref a0, .retAddr 0, .retAddr 0, .retAddr 0, .retAddr 0, .ref a5, .retAddr 0, .int a7, .int a8, .retAddr 0, .retAddr 0, .retAddr 0, .long a12, .retAddr 0, .long a14, .retAddr 0, .long a16, .retAddr 0, .int 0, .retAddr 0, .retAddr 0, .retAddr 0, .retAddr 0, .retAddr 0, .retAddr 0]) zi_10_136 (Nat.le_of_ble_eq_true rfl) rfl ?_
  obtain ⟨mm, hw⟩ := hw
  exact okl_10_137 mm a0 a5 a7 a8 a12 a14 a16 0 h hw
def wl_10_56 (E : Nat → Nat) (d : Nat) (Q : Option Value → ZH → Prop) : Nat → Nat → Int32 → Int32 → Int32 → Int32 → Nat → Int32 → Int32 → Nat → Int32 → Int32 → Int64 → Int64 → Int64 → Int32 → ZH → Prop
  | 0, _, _, _, _, _, _, _, _, _, _, _, _, _, _, _, _ => False
  | n + 1, a0, a1, a2, a3, a4, a5, a7, a8, a9, a10, a11, a12, a14, a16, a18, h => (a11 < a18 → (wb_10_135 E d Q a0 a5 a7 a8 a12 a14 a16 h)) ∧ (¬ (a11 < a18) → (ztag h a9 = 2 ∧ Ct E d 25 [.ref a9, .ref a5, .int a1, .int a2, .int a3, .int a4, .int a18] h (fun v h25 => v = none ∧ ztag h25 a9 = 2 ∧ Ct E d 26 [.ref a9, .ref a5, .int a1] h25 (fun v h27 => v = none ∧ ztag h27 a9 = 2 ∧ Ct E d 10 [.ref a0, .int (a1 + 1), .int (zI h27 a9 3), .int (zI h27 a9 4), .int (zI h27 a9 5)] h27 (fun v h29 => v = none ∧ ztag h29 a0 = 0 ∧ 2 ≤ d ∧ sz_11 E h29 a0 a9 a1 0 ∧ ∀ x31 : Int64, x31 = (fz_11 E h29 a0 a9 a1 0) → 2 ≤ d ∧ sz_11 E h29 a0 a9 a1 1 ∧ ∀ x32 : Int64, x32 = (fz_11 E h29 a0 a9 a1 1) → 2 ≤ d ∧ sz_11 E h29 a0 a9 a1 2 ∧ ∀ x33 : Int64, x33 = (fz_11 E h29 a0 a9 a1 2) → ∀ x34 : Int64, x34 = (if a18 = a10 then x31 else if x31 ≤ a12 then a12 else x31) → ∀ x35 : Int64, x35 = (if a18 = a10 then x32 else if x32 ≤ a14 then a14 else x32) → ∀ x36 : Int64, x36 = (if a18 = a10 then x33 else if x33 ≤ a16 then a16 else x33) → ∀ x37 : Int32, x37 = (a18 + 1) → wl_10_56 E d Q n a0 a1 a2 a3 a4 a5 a7 a8 a9 a10 a11 x34 x35 x36 x37 h29)))))
set_option maxRecDepth 20000 in
theorem okl_10_56 {E : Nat → Nat} {d : Nat} {Q : Option Value → ZH → Prop} : ∀ (n : Nat) (a0 : Nat) (a1 : Int32) (a2 : Int32) (a3 : Int32) (a4 : Int32) (a5 : Nat) (a7 : Int32) (a8 : Int32) (a9 : Nat) (a10 : Int32) (a11 : Int32) (a12 : Int64) (a14 : Int64) (a16 : Int64) (a18 : Int32) (h : ZH), wl_10_56 E d Q n a0 a1 a2 a3 a4 a5 a7 a8 a9 a10 a11 a12 a14 a16 a18 h → Gx E (d + 1) 10 56 [.ref a0, .int a1, .int a2, .int a3, .int a4, .ref a5, .retAddr 0, .int a7, .int a8, .ref a9, .int a10, .int a11, .long a12, .retAddr 0, .long a14, .retAddr 0, .long a16, .retAddr 0, .int a18, .retAddr 0, .retAddr 0, .retAddr 0, .retAddr 0, .retAddr 0, .retAddr 0] [] h Q := by
  intro n
  induction n with
  | zero => intro a0 a1 a2 a3 a4 a5 a7 a8 a9 a10 a11 a12 a14 a16 a18 h hw; exact hw.elim
  | succ n ih =>
    intro a0 a1 a2 a3 a4 a5 a7 a8 a9 a10 a11 a12 a14 a16 a18 h hw
    rw [wl_10_56] at hw
    refine zg_iload zi_10_56 rfl ?_
    refine zg_iload zi_10_57 rfl ?_
    refine zg_icmp_gt zi_10_58 (fun hc => ?_) (fun hc => ?_)
    · have hw := hw.1 hc
      exact Gx.forget (zrk (zrd (zrd (zrd (zrd (zrk (zrk (zrk (zrk (zrd (zrd (zrd (zrk (zrk (zrk (zrk (zrk (zrk (zrd (zrk (zrk (zrk (zrk (zrk (zrk zr0))))))))))))))))))))))))) (okb_10_135 hw)
    · have hw := hw.2 hc
      refine zg_aload zi_10_59 rfl ?_
      refine zg_aload zi_10_60 rfl ?_
      refine zg_iload zi_10_61 rfl ?_
      refine zg_iload zi_10_62 rfl ?_
      refine zg_iload zi_10_63 rfl ?_
      refine zg_iload zi_10_64 rfl ?_
      refine zg_iload zi_10_65 rfl ?_
      obtain ⟨t24, hw⟩ := hw
      refine Gx.call2 (as := [.ref a9, .ref a5, .int a1, .int a2, .int a3, .int a4, .int a18]) (rest := []) zq_25 zi_10_66 rfl rfl rfl (Nat.le_of_ble_eq_true rfl) (Nat.le_of_ble_eq_true rfl) (zrv_v t24 rfl rfl) (Nat.le_of_ble_eq_true rfl) ?_
      refine Ct.mono hw ?_
      rintro v h25 ⟨rfl, hw⟩
      show Gx E (d + 1) 10 67 [.ref a0, .int a1, .int a2, .int a3, .int a4, .ref a5, .retAddr 0, .int a7, .int a8, .ref a9, .int a10, .int a11, .long a12, .retAddr 0, .long a14, .retAddr 0, .long a16, .retAddr 0, .int a18, .retAddr 0, .retAddr 0, .retAddr 0, .retAddr 0, .retAddr 0, .retAddr 0] [] h25 Q
      refine zg_aload zi_10_67 rfl ?_
      refine zg_aload zi_10_68 rfl ?_
      refine zg_iload zi_10_69 rfl ?_
      obtain ⟨t26, hw⟩ := hw
      refine Gx.call2 (as := [.ref a9, .ref a5, .int a1]) (rest := []) zq_26 zi_10_70 rfl rfl rfl (Nat.le_of_ble_eq_true rfl) (Nat.le_of_ble_eq_true rfl) (zrv_v t26 rfl rfl) (Nat.le_of_ble_eq_true rfl) ?_
      refine Ct.mono hw ?_
      rintro v h27 ⟨rfl, hw⟩
      show Gx E (d + 1) 10 71 [.ref a0, .int a1, .int a2, .int a3, .int a4, .ref a5, .retAddr 0, .int a7, .int a8, .ref a9, .int a10, .int a11, .long a12, .retAddr 0, .long a14, .retAddr 0, .long a16, .retAddr 0, .int a18, .retAddr 0, .retAddr 0, .retAddr 0, .retAddr 0, .retAddr 0, .retAddr 0] [] h27 Q
      refine zg_aload zi_10_71 rfl ?_
      refine zg_iload zi_10_72 rfl ?_
      refine zg_const (v := 1) zi_10_73 (by rfl) ?_
      refine zg_iadd zi_10_74 ?_
      refine zg_aload zi_10_75 rfl ?_
      obtain ⟨t28, hw⟩ := hw
      refine zg_getI (v := .int (zI h27 a9 3)) zi_10_76 t28 (by rfl) rfl ?_
      refine zg_aload zi_10_77 rfl ?_
      refine zg_getI (v := .int (zI h27 a9 4)) zi_10_78 t28 (by rfl) rfl ?_
      refine zg_aload zi_10_79 rfl ?_
      refine zg_getI (v := .int (zI h27 a9 5)) zi_10_80 t28 (by rfl) rfl ?_
      refine Gx.call2 (as := [.ref a0, .int (a1 + 1), .int (zI h27 a9 3), .int (zI h27 a9 4), .int (zI h27 a9 5)]) (rest := []) zq_10 zi_10_81 rfl rfl rfl (Nat.le_of_ble_eq_true rfl) (Nat.le_of_ble_eq_true rfl) (rfl) (Nat.le_of_ble_eq_true rfl) ?_
      refine Ct.mono hw ?_
      rintro v h29 ⟨rfl, hw⟩
      show Gx E (d + 1) 10 82 [.ref a0, .int a1, .int a2, .int a3, .int a4, .ref a5, .retAddr 0, .int a7, .int a8, .ref a9, .int a10, .int a11, .long a12, .retAddr 0, .long a14, .retAddr 0, .long a16, .retAddr 0, .int a18, .retAddr 0, .retAddr 0, .retAddr 0, .retAddr 0, .retAddr 0, .retAddr 0] [] h29 Q
      refine zg_aload zi_10_82 rfl ?_
      refine zg_aload zi_10_83 rfl ?_
      refine zg_iload zi_10_84 rfl ?_
      refine zg_const (v := 0) zi_10_85 (by rfl) ?_
      obtain ⟨t30, hw⟩ := hw
      obtain ⟨hd, hs, hw⟩ := hw
      refine Gx.call2 (as := [.ref a0, .ref a9, .int a1, .int 0]) (rest := []) zq_11 zi_10_86 rfl rfl rfl (Nat.le_of_ble_eq_true rfl) (Nat.le_of_ble_eq_true rfl) (zrv_v t30 rfl rfl) (Nat.le_of_ble_eq_true rfl) ?_
      refine cz_11 hd hs ?_
      show Gx E (d + 1) 10 87 [.ref a0, .int a1, .int a2, .int a3, .int a4, .ref a5, .retAddr 0, .int a7, .int a8, .ref a9, .int a10, .int a11, .long a12, .retAddr 0, .long a14, .retAddr 0, .long a16, .retAddr 0, .int a18, .retAddr 0, .retAddr 0, .retAddr 0, .retAddr 0, .retAddr 0, .retAddr 0] [.long (fz_11 E h29 a0 a9 a1 0)] h29 Q
      refine zg_nameL fun x31 ex31 => ?_
      have hw := hw x31 ex31
      refine zg_lstore (ls1 := [.ref a0, .int a1, .int a2, .int a3, .int a4, .ref a5, .retAddr 0, .int a7, .int a8, .ref a9, .int a10, .int a11, .long a12, .retAddr 0, .long a14, .retAddr 0, .long a16, .retAddr 0, .int a18, .long x31, .retAddr 0, .retAddr 0, .retAddr 0, .retAddr 0, .retAddr 0]) zi_10_87 (Nat.le_of_ble_eq_true rfl) rfl ?_
      refine zg_aload zi_10_88 rfl ?_
      refine zg_aload zi_10_89 rfl ?_
      refine zg_iload zi_10_90 rfl ?_
      refine zg_const (v := 1) zi_10_91 (by rfl) ?_
      obtain ⟨hd, hs, hw⟩ := hw
      refine Gx.call2 (as := [.ref a0, .ref a9, .int a1, .int 1]) (rest := []) zq_11 zi_10_92 rfl rfl rfl (Nat.le_of_ble_eq_true rfl) (Nat.le_of_ble_eq_true rfl) (zrv_v t30 rfl rfl) (Nat.le_of_ble_eq_true rfl) ?_
      refine cz_11 hd hs ?_
      show Gx E (d + 1) 10 93 [.ref a0, .int a1, .int a2, .int a3, .int a4, .ref a5, .retAddr 0, .int a7, .int a8, .ref a9, .int a10, .int a11, .long a12, .retAddr 0, .long a14, .retAddr 0, .long a16, .retAddr 0, .int a18, .long x31, .retAddr 0, .retAddr 0, .retAddr 0, .retAddr 0, .retAddr 0] [.long (fz_11 E h29 a0 a9 a1 1)] h29 Q
      refine zg_nameL fun x32 ex32 => ?_
      have hw := hw x32 ex32
      refine zg_lstore (ls1 := [.ref a0, .int a1, .int a2, .int a3, .int a4, .ref a5, .retAddr 0, .int a7, .int a8, .ref a9, .int a10, .int a11, .long a12, .retAddr 0, .long a14, .retAddr 0, .long a16, .retAddr 0, .int a18, .long x31, .retAddr 0, .long x32, .retAddr 0, .retAddr 0, .retAddr 0]) zi_10_93 (Nat.le_of_ble_eq_true rfl) rfl ?_
      refine zg_aload zi_10_94 rfl ?_
      refine zg_aload zi_10_95 rfl ?_
      refine zg_iload zi_10_96 rfl ?_
      refine zg_const (v := 2) zi_10_97 (by rfl) ?_
      obtain ⟨hd, hs, hw⟩ := hw
      refine Gx.call2 (as := [.ref a0, .ref a9, .int a1, .int 2]) (rest := []) zq_11 zi_10_98 rfl rfl rfl (Nat.le_of_ble_eq_true rfl) (Nat.le_of_ble_eq_true rfl) (zrv_v t30 rfl rfl) (Nat.le_of_ble_eq_true rfl) ?_
      refine cz_11 hd hs ?_
      show Gx E (d + 1) 10 99 [.ref a0, .int a1, .int a2, .int a3, .int a4, .ref a5, .retAddr 0, .int a7, .int a8, .ref a9, .int a10, .int a11, .long a12, .retAddr 0, .long a14, .retAddr 0, .long a16, .retAddr 0, .int a18, .long x31, .retAddr 0, .long x32, .retAddr 0, .retAddr 0, .retAddr 0] [.long (fz_11 E h29 a0 a9 a1 2)] h29 Q
      refine zg_nameL fun x33 ex33 => ?_
      have hw := hw x33 ex33
      refine zg_lstore (ls1 := [.ref a0, .int a1, .int a2, .int a3, .int a4, .ref a5, .retAddr 0, .int a7, .int a8, .ref a9, .int a10, .int a11, .long a12, .retAddr 0, .long a14, .retAddr 0, .long a16, .retAddr 0, .int a18, .long x31, .retAddr 0, .long x32, .retAddr 0, .long x33, .retAddr 0]) zi_10_99 (Nat.le_of_ble_eq_true rfl) rfl ?_
      refine zg_iload zi_10_100 rfl ?_
      refine zg_iload zi_10_101 rfl ?_
      have g102 : Gx E (d + 1) 10 110 [.ref a0, .int a1, .int a2, .int a3, .int a4, .ref a5, .retAddr 0, .int a7, .int a8, .ref a9, .int a10, .int a11, .long a12, .retAddr 0, .long a14, .retAddr 0, .long a16, .retAddr 0, .int a18, .long x31, .retAddr 0, .long x32, .retAddr 0, .long x33, .retAddr 0] [.long (if a18 = a10 then x31 else if x31 ≤ a12 then a12 else x31)] h29 Q := by
        refine zg_nameL fun x34 ex34 => ?_
        have hw := hw x34 ex34
        refine zg_lstore (ls1 := [.ref a0, .int a1, .int a2, .int a3, .int a4, .ref a5, .retAddr 0, .int a7, .int a8, .ref a9, .int a10, .int a11, .long x34, .retAddr 0, .long a14, .retAddr 0, .long a16, .retAddr 0, .int a18, .long x31, .retAddr 0, .long x32, .retAddr 0, .long x33, .retAddr 0]) zi_10_110 (Nat.le_of_ble_eq_true rfl) rfl ?_
        refine zg_iload zi_10_111 rfl ?_
        refine zg_iload zi_10_112 rfl ?_
        have g113 : Gx E (d + 1) 10 121 [.ref a0, .int a1, .int a2, .int a3, .int a4, .ref a5, .retAddr 0, .int a7, .int a8, .ref a9, .int a10, .int a11, .long x34, .retAddr 0, .long a14, .retAddr 0, .long a16, .retAddr 0, .int a18, .long x31, .retAddr 0, .long x32, .retAddr 0, .long x33, .retAddr 0] [.long (if a18 = a10 then x32 else if x32 ≤ a14 then a14 else x32)] h29 Q := by
          refine zg_nameL fun x35 ex35 => ?_
          have hw := hw x35 ex35
          refine zg_lstore (ls1 := [.ref a0, .int a1, .int a2, .int a3, .int a4, .ref a5, .retAddr 0, .int a7, .int a8, .ref a9, .int a10, .int a11, .long x34, .retAddr 0, .long x35, .retAddr 0, .long a16, .retAddr 0, .int a18, .long x31, .retAddr 0, .long x32, .retAddr 0, .long x33, .retAddr 0]) zi_10_121 (Nat.le_of_ble_eq_true rfl) rfl ?_
          refine zg_iload zi_10_122 rfl ?_
          refine zg_iload zi_10_123 rfl ?_
          have g124 : Gx E (d + 1) 10 132 [.ref a0, .int a1, .int a2, .int a3, .int a4, .ref a5, .retAddr 0, .int a7, .int a8, .ref a9, .int a10, .int a11, .long x34, .retAddr 0, .long x35, .retAddr 0, .long a16, .retAddr 0, .int a18, .long x31, .retAddr 0, .long x32, .retAddr 0, .long x33, .retAddr 0] [.long (if a18 = a10 then x33 else if x33 ≤ a16 then a16 else x33)] h29 Q := by
            refine zg_nameL fun x36 ex36 => ?_
            have hw := hw x36 ex36
            refine zg_lstore (ls1 := [.ref a0, .int a1, .int a2, .int a3, .int a4, .ref a5, .retAddr 0, .int a7, .int a8, .ref a9, .int a10, .int a11, .long x34, .retAddr 0, .long x35, .retAddr 0, .long x36, .retAddr 0, .int a18, .long x31, .retAddr 0, .long x32, .retAddr 0, .long x33, .retAddr 0]) zi_10_132 (Nat.le_of_ble_eq_true rfl) rfl ?_
            obtain ⟨x37, ex37⟩ : ∃ x : Int32, x = a18 + 1 := ⟨_, rfl⟩
            have hw := hw x37 ex37
            refine zg_iinc (v := x37) (ls1 := [.ref a0, .int a1, .int a2, .int a3, .int a4, .ref a5, .retAddr 0, .int a7, .int a8, .ref a9, .int a10, .int a11, .long x34, .retAddr 0, .long x35, .retAddr 0, .long x36, .retAddr 0, .int x37, .long x31, .retAddr 0, .long x32, .retAddr 0, .long x33, .retAddr 0]) zi_10_133 rfl (by rw [ex37]; rfl) rfl ?_
            refine zg_goto zi_10_134 ?_
            exact Gx.forget (zrk (zrk (zrk (zrk (zrk (zrk (zrk (zrk (zrk (zrk (zrk (zrk (zrk (zrk (zrk (zrk (zrk (zrk (zrk (zrd (zrk (zrd (zrk (zrd (zrk zr0))))))))))))))))))))))))) (ih a0 a1 a2 a3 a4 a5 a7 a8 a9 a10 a11 x34 x35 x36 x37 h29 hw)
          refine zg_icmp_eq zi_10_124 (fun hc124 => ?_) (fun hc124 => ?_)
          · skip
            refine zg_lload zi_10_129 rfl ?_
            refine zg_goto zi_10_130 ?_
            have hg := g124
            simp only [if_pos hc124] at hg
            exact hg
          · skip
            refine zg_lload zi_10_125 rfl ?_
            refine zg_lload zi_10_126 rfl ?_
            have g128 : Gx E (d + 1) 10 132 [.ref a0, .int a1, .int a2, .int a3, .int a4, .ref a5, .retAddr 0, .int a7, .int a8, .ref a9, .int a10, .int a11, .long x34, .retAddr 0, .long x35, .retAddr 0, .long a16, .retAddr 0, .int a18, .long x31, .retAddr 0, .long x32, .retAddr 0, .long x33, .retAddr 0] [.long (if x33 ≤ a16 then a16 else x33)] h29 Q := by
              have hg := g124
              simp only [if_neg hc124] at hg
              exact hg
            refine zg_lcmp_le zi_10_127 zi_10_128 (fun hc128 => ?_) (fun hc128 => ?_)
            · skip
              refine zg_lload zi_10_131 rfl ?_
              have hg := g128
              simp only [if_pos hc128] at hg
              exact hg
            · skip
              refine zg_lload zi_10_129 rfl ?_
              refine zg_goto zi_10_130 ?_
              have hg := g128
              simp only [if_neg hc128] at hg
              exact hg
        refine zg_icmp_eq zi_10_113 (fun hc113 => ?_) (fun hc113 => ?_)
        · skip
          refine zg_lload zi_10_118 rfl ?_
          refine zg_goto zi_10_119 ?_
          have hg := g113
          simp only [if_pos hc113] at hg
          exact hg
        · skip
          refine zg_lload zi_10_114 rfl ?_
          refine zg_lload zi_10_115 rfl ?_
          have g117 : Gx E (d + 1) 10 121 [.ref a0, .int a1, .int a2, .int a3, .int a4, .ref a5, .retAddr 0, .int a7, .int a8, .ref a9, .int a10, .int a11, .long x34, .retAddr 0, .long a14, .retAddr 0, .long a16, .retAddr 0, .int a18, .long x31, .retAddr 0, .long x32, .retAddr 0, .long x33, .retAddr 0] [.long (if x32 ≤ a14 then a14 else x32)] h29 Q := by
            have hg := g113
            simp only [if_neg hc113] at hg
            exact hg
          refine zg_lcmp_le zi_10_116 zi_10_117 (fun hc117 => ?_) (fun hc117 => ?_)
          · skip
            refine zg_lload zi_10_120 rfl ?_
            have hg := g117
            simp only [if_pos hc117] at hg
            exact hg
          · skip
            refine zg_lload zi_10_118 rfl ?_
            refine zg_goto zi_10_119 ?_
            have hg := g117
            simp only [if_neg hc117] at hg
            exact hg
      refine zg_icmp_eq zi_10_102 (fun hc102 => ?_) (fun hc102 => ?_)
      · skip
        refine zg_lload zi_10_107 rfl ?_
        refine zg_goto zi_10_108 ?_
        have hg := g102
        simp only [if_pos hc102] at hg
        exact hg
      · skip
        refine zg_lload zi_10_103 rfl ?_
        refine zg_lload zi_10_104 rfl ?_
        have g106 : Gx E (d + 1) 10 110 [.ref a0, .int a1, .int a2, .int a3, .int a4, .ref a5, .retAddr 0, .int a7, .int a8, .ref a9, .int a10, .int a11, .long a12, .retAddr 0, .long a14, .retAddr 0, .long a16, .retAddr 0, .int a18, .long x31, .retAddr 0, .long x32, .retAddr 0, .long x33, .retAddr 0] [.long (if x31 ≤ a12 then a12 else x31)] h29 Q := by
          have hg := g102
          simp only [if_neg hc102] at hg
          exact hg
        refine zg_lcmp_le zi_10_105 zi_10_106 (fun hc106 => ?_) (fun hc106 => ?_)
        · skip
          refine zg_lload zi_10_109 rfl ?_
          have hg := g106
          simp only [if_pos hc106] at hg
          exact hg
        · skip
          refine zg_lload zi_10_107 rfl ?_
          refine zg_goto zi_10_108 ?_
          have hg := g106
          simp only [if_neg hc106] at hg
          exact hg
/-- TakeOrPay$Best.settle(LTakeOrPay$Best;IIII)V -/
def w_10 (E : Nat → Nat) (d : Nat) (a0 : Nat) (a1 : Int32) (a2 : Int32) (a3 : Int32) (a4 : Int32) (h : ZH) (Q : Option Value → ZH → Prop) : Prop := ztag h a0 = 0 ∧ ∃ r2 : Nat, zR h a0 6 = r2 + 1 ∧ ztag h r2 = 3 ∧ ((a1 < (zI h r2 6 : Int32) → (1 ≤ d ∧ sz_5 E h a2 a3 a4 ∧ ∀ x4 : Int32, x4 = (fz_5 E h a2 a3 a4) → ∀ x5 : Int32, x5 = (if 441 ≤ x4 then zI h a0 8 else zI h a0 7) → ∀ x6 : Int32, x6 = ((a1 * 693) + x4) → ∃ r7 : Nat, zR h a0 1 = r7 + 1 ∧ (ztag h r7 = 13 ∨ ztag h r7 = 19) ∧ zin x6 (zlen h r7) = true ∧ ((¬ (zI h r7 x6.toNatClampNeg : Int32) = x5 → (∃ r9 : Nat, zR h a0 2 = r9 + 1 ∧ (ztag h r9 = 16 ∨ ztag h r9 = 17) ∧ zin a1 (zlen h r9) = true ∧ ∃ r11 : Nat, zR h r9 a1.toNatClampNeg = r11 + 1 ∧ 1 ≤ d ∧ sz_44 E h r2 a1 ∧ ∀ x12 : Int32, x12 = (fz_44 E h r2 a1) → 1 ≤ d ∧ sz_45 E h r2 a1 ∧ ∀ x13 : Int32, x13 = (fz_45 E h r2 a1) → (∃ mm : Nat, wl_10_56 E d Q mm a0 a1 a2 a3 a4 r2 x5 x6 r11 x12 x13 0 0 0 x12 h))) ∧ (¬ (¬ (zI h r7 x6.toNatClampNeg : Int32) = x5) → (Q none h))))) ∧ (¬ (a1 < (zI h r2 6 : Int32)) → (Q none h)))
set_option maxRecDepth 20000 in
theorem ok_10 {E : Nat → Nat} {d : Nat} {a0 : Nat} {a1 : Int32} {a2 : Int32} {a3 : Int32} {a4 : Int32} {h : ZH} {Q : Option Value → ZH → Prop} (hw : w_10 E d a0 a1 a2 a3 a4 h Q) : Ct E (d + 1) 10 [.ref a0, .int a1, .int a2, .int a3, .int a4] h Q := by
  unfold w_10 at hw
  show Gx E (d + 1) 10 0 [.ref a0, .int a1, .int a2, .int a3, .int a4, .retAddr 0, .retAddr 0, .retAddr 0, .retAddr 0, .retAddr 0, .retAddr 0, .retAddr 0, .retAddr 0, .retAddr 0, .retAddr 0, .retAddr 0, .retAddr 0, .retAddr 0, .retAddr 0, .retAddr 0, .retAddr 0, .retAddr 0, .retAddr 0, .retAddr 0, .retAddr 0] [] h Q
  refine zg_aload zi_10_0 rfl ?_
  obtain ⟨t1, hw⟩ := hw
  obtain ⟨r2, er2, hw⟩ := hw
  refine zg_getR (v := .ref r2) zi_10_1 t1 (by rfl) (by show zrv (zR h a0 6) = _; rw [er2]; rfl) ?_
  refine zg_astore (ls1 := [.ref a0, .int a1, .int a2, .int a3, .int a4, .ref r2, .retAddr 0, .retAddr 0, .retAddr 0, .retAddr 0, .retAddr 0, .retAddr 0, .retAddr 0, .retAddr 0, .retAddr 0, .retAddr 0, .retAddr 0, .retAddr 0, .retAddr 0, .retAddr 0, .retAddr 0, .retAddr 0, .retAddr 0, .retAddr 0, .retAddr 0]) zi_10_2 (Nat.le_of_ble_eq_true rfl) rfl ?_
  refine zg_iload zi_10_3 rfl ?_
  refine zg_aload zi_10_4 rfl ?_
  obtain ⟨t3, hw⟩ := hw
  refine zg_getI (v := .int (zI h r2 6)) zi_10_5 t3 (by rfl) rfl ?_
  refine zg_icmp_lt zi_10_6 (fun hc => ?_) (fun hc => ?_)
  · have hw := hw.1 hc
    refine zg_iload zi_10_8 rfl ?_
    refine zg_iload zi_10_9 rfl ?_
    refine zg_iload zi_10_10 rfl ?_
    obtain ⟨hd, hs, hw⟩ := hw
    refine Gx.call2 (as := [.int a2, .int a3, .int a4]) (rest := []) zq_5 zi_10_11 rfl rfl rfl (Nat.le_of_ble_eq_true rfl) (Nat.le_of_ble_eq_true rfl) (rfl) (Nat.le_of_ble_eq_true rfl) ?_
    refine cz_5 hd hs ?_
    show Gx E (d + 1) 10 12 [.ref a0, .int a1, .int a2, .int a3, .int a4, .ref r2, .retAddr 0, .retAddr 0, .retAddr 0, .retAddr 0, .retAddr 0, .retAddr 0, .retAddr 0, .retAddr 0, .retAddr 0, .retAddr 0, .retAddr 0, .retAddr 0, .retAddr 0, .retAddr 0, .retAddr 0, .retAddr 0, .retAddr 0, .retAddr 0, .retAddr 0] [.int (fz_5 E h a2 a3 a4)] h Q
    refine zg_nameI fun x4 ex4 => ?_
    have hw := hw x4 ex4
    refine zg_istore (ls1 := [.ref a0, .int a1, .int a2, .int a3, .int a4, .ref r2, .int x4, .retAddr 0, .retAddr 0, .retAddr 0, .retAddr 0, .retAddr 0, .retAddr 0, .retAddr 0, .retAddr 0, .retAddr 0, .retAddr 0, .retAddr 0, .retAddr 0, .retAddr 0, .retAddr 0, .retAddr 0, .retAddr 0, .retAddr 0, .retAddr 0]) zi_10_12 (Nat.le_of_ble_eq_true rfl) rfl ?_
    refine zg_iload zi_10_13 rfl ?_
    refine zg_const (v := 441) zi_10_14 (by rfl) ?_
    have g15 : Gx E (d + 1) 10 21 [.ref a0, .int a1, .int a2, .int a3, .int a4, .ref r2, .int x4, .retAddr 0, .retAddr 0, .retAddr 0, .retAddr 0, .retAddr 0, .retAddr 0, .retAddr 0, .retAddr 0, .retAddr 0, .retAddr 0, .retAddr 0, .retAddr 0, .retAddr 0, .retAddr 0, .retAddr 0, .retAddr 0, .retAddr 0, .retAddr 0] [.int (if 441 ≤ x4 then zI h a0 8 else zI h a0 7)] h Q := by
      refine zg_nameI fun x5 ex5 => ?_
      have hw := hw x5 ex5
      refine zg_istore (ls1 := [.ref a0, .int a1, .int a2, .int a3, .int a4, .ref r2, .int x4, .int x5, .retAddr 0, .retAddr 0, .retAddr 0, .retAddr 0, .retAddr 0, .retAddr 0, .retAddr 0, .retAddr 0, .retAddr 0, .retAddr 0, .retAddr 0, .retAddr 0, .retAddr 0, .retAddr 0, .retAddr 0, .retAddr 0, .retAddr 0]) zi_10_21 (Nat.le_of_ble_eq_true rfl) rfl ?_
      refine zg_iload zi_10_22 rfl ?_
      refine zg_const (v := 693) zi_10_23 (by rfl) ?_
      refine zg_imul zi_10_24 ?_
      refine zg_iload zi_10_25 rfl ?_
      refine zg_iadd zi_10_26 ?_
      refine zg_nameI fun x6 ex6 => ?_
      have hw := hw x6 ex6
      refine zg_istore (ls1 := [.ref a0, .int a1, .int a2, .int a3, .int a4, .ref r2, .int x4, .int x5, .int x6, .retAddr 0, .retAddr 0, .retAddr 0, .retAddr 0, .retAddr 0, .retAddr 0, .retAddr 0, .retAddr 0, .retAddr 0, .retAddr 0, .retAddr 0, .retAddr 0, .retAddr 0, .retAddr 0, .retAddr 0, .retAddr 0]) zi_10_27 (Nat.le_of_ble_eq_true rfl) rfl ?_
      refine zg_aload zi_10_28 rfl ?_
      obtain ⟨r7, er7, hw⟩ := hw
      refine zg_getR (v := .ref r7) zi_10_29 t1 (by rfl) (by show zrv (zR h a0 1) = _; rw [er7]; rfl) ?_
      refine zg_iload zi_10_30 rfl ?_
      obtain ⟨t8, hw⟩ := hw
      obtain ⟨hb, hw⟩ := hw
      refine zg_iaload (v := .int (zI h r7 x6.toNatClampNeg)) zi_10_31 t8 hb rfl ?_
      refine zg_iload zi_10_32 rfl ?_
      refine zg_icmp_ne zi_10_33 (fun hc => ?_) (fun hc => ?_)
      · have hw := hw.1 hc
        refine zg_aload zi_10_35 rfl ?_
        obtain ⟨r9, er9, hw⟩ := hw
        refine zg_getR (v := .ref r9) zi_10_36 t1 (by rfl) (by show zrv (zR h a0 2) = _; rw [er9]; rfl) ?_
        refine zg_iload zi_10_37 rfl ?_
        obtain ⟨t10, hw⟩ := hw
        obtain ⟨hb, hw⟩ := hw
        obtain ⟨r11, hr, hw⟩ := hw
        refine zg_aaload (v := .ref r11) zi_10_38 t10 hb (by first | (rw [hr]; rfl) | exact congrArg zrv hr) ?_
        refine zg_astore (ls1 := [.ref a0, .int a1, .int a2, .int a3, .int a4, .ref r2, .int x4, .int x5, .int x6, .ref r11, .retAddr 0, .retAddr 0, .retAddr 0, .retAddr 0, .retAddr 0, .retAddr 0, .retAddr 0, .retAddr 0, .retAddr 0, .retAddr 0, .retAddr 0, .retAddr 0, .retAddr 0, .retAddr 0, .retAddr 0]) zi_10_39 (Nat.le_of_ble_eq_true rfl) rfl ?_
        refine zg_aload zi_10_40 rfl ?_
        refine zg_iload zi_10_41 rfl ?_
        obtain ⟨hd, hs, hw⟩ := hw
        refine Gx.call2 (as := [.ref r2, .int a1]) (rest := []) zq_44 zi_10_42 rfl rfl rfl (Nat.le_of_ble_eq_true rfl) (Nat.le_of_ble_eq_true rfl) (zrv_v t3 rfl rfl) (Nat.le_of_ble_eq_true rfl) ?_
        refine cz_44 hd hs ?_
        show Gx E (d + 1) 10 43 [.ref a0, .int a1, .int a2, .int a3, .int a4, .ref r2, .int x4, .int x5, .int x6, .ref r11, .retAddr 0, .retAddr 0, .retAddr 0, .retAddr 0, .retAddr 0, .retAddr 0, .retAddr 0, .retAddr 0, .retAddr 0, .retAddr 0, .retAddr 0, .retAddr 0, .retAddr 0, .retAddr 0, .retAddr 0] [.int (fz_44 E h r2 a1)] h Q
        refine zg_nameI fun x12 ex12 => ?_
        have hw := hw x12 ex12
        refine zg_istore (ls1 := [.ref a0, .int a1, .int a2, .int a3, .int a4, .ref r2, .int x4, .int x5, .int x6, .ref r11, .int x12, .retAddr 0, .retAddr 0, .retAddr 0, .retAddr 0, .retAddr 0, .retAddr 0, .retAddr 0, .retAddr 0, .retAddr 0, .retAddr 0, .retAddr 0, .retAddr 0, .retAddr 0, .retAddr 0]) zi_10_43 (Nat.le_of_ble_eq_true rfl) rfl ?_
        refine zg_aload zi_10_44 rfl ?_
        refine zg_iload zi_10_45 rfl ?_
        obtain ⟨hd, hs, hw⟩ := hw
        refine Gx.call2 (as := [.ref r2, .int a1]) (rest := []) zq_45 zi_10_46 rfl rfl rfl (Nat.le_of_ble_eq_true rfl) (Nat.le_of_ble_eq_true rfl) (zrv_v t3 rfl rfl) (Nat.le_of_ble_eq_true rfl) ?_
        refine cz_45 hd hs ?_
        show Gx E (d + 1) 10 47 [.ref a0, .int a1, .int a2, .int a3, .int a4, .ref r2, .int x4, .int x5, .int x6, .ref r11, .int x12, .retAddr 0, .retAddr 0, .retAddr 0, .retAddr 0, .retAddr 0, .retAddr 0, .retAddr 0, .retAddr 0, .retAddr 0, .retAddr 0, .retAddr 0, .retAddr 0, .retAddr 0, .retAddr 0] [.int (fz_45 E h r2 a1)] h Q
        refine zg_nameI fun x13 ex13 => ?_
        have hw := hw x13 ex13
        refine zg_istore (ls1 := [.ref a0, .int a1, .int a2, .int a3, .int a4, .ref r2, .int x4, .int x5, .int x6, .ref r11, .int x12, .int x13, .retAddr 0, .retAddr 0, .retAddr 0, .retAddr 0, .retAddr 0, .retAddr 0, .retAddr 0, .retAddr 0, .retAddr 0, .retAddr 0, .retAddr 0, .retAddr 0, .retAddr 0]) zi_10_47 (Nat.le_of_ble_eq_true rfl) rfl ?_
        refine zg_lconst (v := 0) zi_10_48 (by rfl) ?_
        refine zg_lstore (ls1 := [.ref a0, .int a1, .int a2, .int a3, .int a4, .ref r2, .int x4, .int x5, .int x6, .ref r11, .int x12, .int x13, .long 0, .retAddr 0, .retAddr 0, .retAddr 0, .retAddr 0, .retAddr 0, .retAddr 0, .retAddr 0, .retAddr 0, .retAddr 0, .retAddr 0, .retAddr 0, .retAddr 0]) zi_10_49 (Nat.le_of_ble_eq_true rfl) rfl ?_
        refine zg_lconst (v := 0) zi_10_50 (by rfl) ?_
        refine zg_lstore (ls1 := [.ref a0, .int a1, .int a2, .int a3, .int a4, .ref r2, .int x4, .int x5, .int x6, .ref r11, .int x12, .int x13, .long 0, .retAddr 0, .long 0, .retAddr 0, .retAddr 0, .retAddr 0, .retAddr 0, .retAddr 0, .retAddr 0, .retAddr 0, .retAddr 0, .retAddr 0, .retAddr 0]) zi_10_51 (Nat.le_of_ble_eq_true rfl) rfl ?_
        refine zg_lconst (v := 0) zi_10_52 (by rfl) ?_
        refine zg_lstore (ls1 := [.ref a0, .int a1, .int a2, .int a3, .int a4, .ref r2, .int x4, .int x5, .int x6, .ref r11, .int x12, .int x13, .long 0, .retAddr 0, .long 0, .retAddr 0, .long 0, .retAddr 0, .retAddr 0, .retAddr 0, .retAddr 0, .retAddr 0, .retAddr 0, .retAddr 0, .retAddr 0]) zi_10_53 (Nat.le_of_ble_eq_true rfl) rfl ?_
        refine zg_iload zi_10_54 rfl ?_
        refine zg_istore (ls1 := [.ref a0, .int a1, .int a2, .int a3, .int a4, .ref r2, .int x4, .int x5, .int x6, .ref r11, .int x12, .int x13, .long 0, .retAddr 0, .long 0, .retAddr 0, .long 0, .retAddr 0, .int x12, .retAddr 0, .retAddr 0, .retAddr 0, .retAddr 0, .retAddr 0, .retAddr 0]) zi_10_55 (Nat.le_of_ble_eq_true rfl) rfl ?_
        obtain ⟨mm, hw⟩ := hw
        exact Gx.forget (zrk (zrk (zrk (zrk (zrk (zrk (zrd (zrk (zrk (zrk (zrk (zrk (zrk (zrk (zrk (zrk (zrk (zrk (zrk (zrk (zrk (zrk (zrk (zrk (zrk zr0))))))))))))))))))))))))) (okl_10_56 mm a0 a1 a2 a3 a4 r2 x5 x6 r11 x12 x13 0 0 0 x12 h hw)
      · have hw := hw.2 hc
        exact zg_return zi_10_34 hw
    refine zg_icmp_ge zi_10_15 (fun hc15 => ?_) (fun hc15 => ?_)
    · skip
      refine zg_aload zi_10_19 rfl ?_
      refine zg_getI (v := .int (zI h a0 8)) zi_10_20 t1 (by rfl) rfl ?_
      have hg := g15
      simp only [if_pos hc15] at hg
      exact hg
    · skip
      refine zg_aload zi_10_16 rfl ?_
      refine zg_getI (v := .int (zI h a0 7)) zi_10_17 t1 (by rfl) rfl ?_
      refine zg_goto zi_10_18 ?_
      have hg := g15
      simp only [if_neg hc15] at hg
      exact hg
  · have hw := hw.2 hc
    exact zg_return zi_10_7 hw
theorem zq_9 : zQ 9 5 5 0 := by unfold zQ; decide +kernel
theorem zi_9_0 : (zM 9).1[0]? = some (.iload 3) := by rfl
theorem zi_9_1 : (zM 9).1[1]? = some (.ifCond .le ((21 : Nat) : Int)) := by rfl
theorem zi_9_2 : (zM 9).1[2]? = some (.iload 4) := by rfl
theorem zi_9_3 : (zM 9).1[3]? = some (.ifCond .le ((21 : Nat) : Int)) := by rfl
theorem zi_9_4 : (zM 9).1[4]? = some (.iload 4) := by rfl
theorem zi_9_5 : (zM 9).1[5]? = some (.aload 0) := by rfl
theorem zi_9_6 : (zM 9).1[6]? = some (.getfield 9) := by rfl
theorem zi_9_7 : (zM 9).1[7]? = some (.if_icmp .eq ((21 : Nat) : Int)) := by rfl
theorem zi_9_8 : (zM 9).1[8]? = some (.aload 0) := by rfl
theorem zi_9_9 : (zM 9).1[9]? = some (.dup) := by rfl
theorem zi_9_10 : (zM 9).1[10]? = some (.getfield 10) := by rfl
theorem zi_9_11 : (zM 9).1[11]? = some (.iconst 1) := by rfl
theorem zi_9_12 : (zM 9).1[12]? = some (.iadd) := by rfl
theorem zi_9_13 : (zM 9).1[13]? = some (.putfield 10) := by rfl
theorem zi_9_14 : (zM 9).1[14]? = some (.aload 0) := by rfl
theorem zi_9_15 : (zM 9).1[15]? = some (.aload 0) := by rfl
theorem zi_9_16 : (zM 9).1[16]? = some (.getfield 10) := by rfl
theorem zi_9_17 : (zM 9).1[17]? = some (.putfield 8) := by rfl
theorem zi_9_18 : (zM 9).1[18]? = some (.aload 0) := by rfl
theorem zi_9_19 : (zM 9).1[19]? = some (.iload 4) := by rfl
theorem zi_9_20 : (zM 9).1[20]? = some (.putfield 9) := by rfl
theorem zi_9_21 : (zM 9).1[21]? = some (.aload 0) := by rfl
theorem zi_9_22 : (zM 9).1[22]? = some (.iload 1) := by rfl
theorem zi_9_23 : (zM 9).1[23]? = some (.iload 2) := by rfl
theorem zi_9_24 : (zM 9).1[24]? = some (.iload 3) := by rfl
theorem zi_9_25 : (zM 9).1[25]? = some (.iload 4) := by rfl
theorem zi_9_26 : (zM 9).1[26]? = some (.invokestatic 10) := by rfl
theorem zi_9_27 : (zM 9).1[27]? = some (.return_) := by rfl
def wb_9_21 (E : Nat → Nat) (d : Nat) (Q : Option Value → ZH → Prop) (a0 : Nat) (a1 : Int32) (a2 : Int32) (a3 : Int32) (a4 : Int32) (h : ZH) : Prop := Ct E d 10 [.ref a0, .int a1, .int a2, .int a3, .int a4] h (fun v h1 => v = none ∧ Q none h1)
set_option maxRecDepth 20000 in
theorem okb_9_21 {E : Nat → Nat} {d : Nat} {Q : Option Value → ZH → Prop} {a0 : Nat} {a1 : Int32} {a2 : Int32} {a3 : Int32} {a4 : Int32} {h : ZH} (hw : wb_9_21 E d Q a0 a1 a2 a3 a4 h) : Gx E (d + 1) 9 21 [.ref a0, .int a1, .int a2, .int a3, .int a4] [] h Q := by
  unfold wb_9_21 at hw
  refine zg_aload zi_9_21 rfl ?_
  refine zg_iload zi_9_22 rfl ?_
  refine zg_iload zi_9_23 rfl ?_
  refine zg_iload zi_9_24 rfl ?_
  refine zg_iload zi_9_25 rfl ?_
  refine Gx.call2 (as := [.ref a0, .int a1, .int a2, .int a3, .int a4]) (rest := []) zq_10 zi_9_26 rfl rfl rfl (Nat.le_of_ble_eq_true rfl) (Nat.le_of_ble_eq_true rfl) (rfl) (Nat.le_of_ble_eq_true rfl) ?_
  refine Ct.mono hw ?_
  rintro v h1 ⟨rfl, hw⟩
  show Gx E (d + 1) 9 27 [.ref a0, .int a1, .int a2, .int a3, .int a4] [] h1 Q
  exact zg_return zi_9_27 hw
/-- TakeOrPay$Best.prepare(IIII)V -/
def w_9 (E : Nat → Nat) (d : Nat) (a0 : Nat) (a1 : Int32) (a2 : Int32) (a3 : Int32) (a4 : Int32) (h : ZH) (Q : Option Value → ZH → Prop) : Prop := (a3 ≤ 0 → (wb_9_21 E d Q a0 a1 a2 a3 a4 h)) ∧ (¬ (a3 ≤ 0) → ((a4 ≤ 0 → (wb_9_21 E d Q a0 a1 a2 a3 a4 h)) ∧ (¬ (a4 ≤ 0) → (ztag h a0 = 0 ∧ ((a4 = (zI h a0 9 : Int32) → (wb_9_21 E d Q a0 a1 a2 a3 a4 h)) ∧ (¬ (a4 = (zI h a0 9 : Int32)) → (∀ h3 : ZH, h3 = (zuI h a0 10 ((zI h a0 10) + 1)) → ∀ h4 : ZH, h4 = (zuI h3 a0 8 (zI h3 a0 10)) → ∀ h5 : ZH, h5 = (zuI h4 a0 9 a4) → wb_9_21 E d Q a0 a1 a2 a3 a4 h5)))))))
set_option maxRecDepth 20000 in
theorem ok_9 {E : Nat → Nat} {d : Nat} {a0 : Nat} {a1 : Int32} {a2 : Int32} {a3 : Int32} {a4 : Int32} {h : ZH} {Q : Option Value → ZH → Prop} (hw : w_9 E d a0 a1 a2 a3 a4 h Q) : Ct E (d + 1) 9 [.ref a0, .int a1, .int a2, .int a3, .int a4] h Q := by
  unfold w_9 at hw
  show Gx E (d + 1) 9 0 [.ref a0, .int a1, .int a2, .int a3, .int a4] [] h Q
  refine zg_iload zi_9_0 rfl ?_
  refine zg_if_le zi_9_1 (fun hc => ?_) (fun hc => ?_)
  · have hw := hw.1 hc
    exact okb_9_21 hw
  · have hw := hw.2 hc
    refine zg_iload zi_9_2 rfl ?_
    refine zg_if_le zi_9_3 (fun hc => ?_) (fun hc => ?_)
    · have hw := hw.1 hc
      exact okb_9_21 hw
    · have hw := hw.2 hc
      refine zg_iload zi_9_4 rfl ?_
      refine zg_aload zi_9_5 rfl ?_
      obtain ⟨t2, hw⟩ := hw
      refine zg_getI (v := .int (zI h a0 9)) zi_9_6 t2 (by rfl) rfl ?_
      refine zg_icmp_eq zi_9_7 (fun hc => ?_) (fun hc => ?_)
      · have hw := hw.1 hc
        exact okb_9_21 hw
      · have hw := hw.2 hc
        refine zg_aload zi_9_8 rfl ?_
        refine zg_dup zi_9_9 rfl ?_
        refine zg_getI (v := .int (zI h a0 10)) zi_9_10 t2 (by rfl) rfl ?_
        refine zg_const (v := 1) zi_9_11 (by rfl) ?_
        refine zg_iadd zi_9_12 ?_
        refine zg_putI (h1 := zuI h a0 10 ((zI h a0 10) + 1)) zi_9_13 t2 (by rfl) rfl ?_
        refine zg_nameH fun h3 eh3 => ?_
        have hw := hw h3 eh3
        refine zg_aload zi_9_14 rfl ?_
        refine zg_aload zi_9_15 rfl ?_
        refine zg_getI (v := .int (zI h3 a0 10)) zi_9_16 (by rw [eh3]; exact t2) (by rfl) rfl ?_
        refine zg_putI (h1 := zuI h3 a0 8 (zI h3 a0 10)) zi_9_17 (by rw [eh3]; exact t2) (by rfl) rfl ?_
        refine zg_nameH fun h4 eh4 => ?_
        have hw := hw h4 eh4
        refine zg_aload zi_9_18 rfl ?_
        refine zg_iload zi_9_19 rfl ?_
        refine zg_putI (h1 := zuI h4 a0 9 a4) zi_9_20 (by rw [eh4, eh3]; exact t2) (by rfl) rfl ?_
        refine zg_nameH fun h5 eh5 => ?_
        have hw := hw h5 eh5
        exact okb_9_21 hw
theorem zq_12 : zQ 12 6 13 0 := by unfold zQ; decide +kernel
theorem zi_12_0 : (zM 12).1[0]? = some (.aload 0) := by rfl
theorem zi_12_1 : (zM 12).1[1]? = some (.getfield 202) := by rfl
theorem zi_12_2 : (zM 12).1[2]? = some (.iload 1) := by rfl
theorem zi_12_3 : (zM 12).1[3]? = some (.aaload) := by rfl
theorem zi_12_4 : (zM 12).1[4]? = some (.astore 6) := by rfl
theorem zi_12_5 : (zM 12).1[5]? = some (.aload 0) := by rfl
theorem zi_12_6 : (zM 12).1[6]? = some (.getfield 206) := by rfl
theorem zi_12_7 : (zM 12).1[7]? = some (.iload 1) := by rfl
theorem zi_12_8 : (zM 12).1[8]? = some (.invokevirtual 44) := by rfl
theorem zi_12_9 : (zM 12).1[9]? = some (.istore 7) := by rfl
theorem zi_12_10 : (zM 12).1[10]? = some (.aload 0) := by rfl
theorem zi_12_11 : (zM 12).1[11]? = some (.getfield 206) := by rfl
theorem zi_12_12 : (zM 12).1[12]? = some (.iload 1) := by rfl
theorem zi_12_13 : (zM 12).1[13]? = some (.invokevirtual 45) := by rfl
theorem zi_12_14 : (zM 12).1[14]? = some (.istore 8) := by rfl
theorem zi_12_15 : (zM 12).1[15]? = some (.iload 7) := by rfl
theorem zi_12_16 : (zM 12).1[16]? = some (.istore 9) := by rfl
theorem zi_12_17 : (zM 12).1[17]? = some (.iload 7) := by rfl
theorem zi_12_18 : (zM 12).1[18]? = some (.istore 10) := by rfl
theorem zi_12_19 : (zM 12).1[19]? = some (.iload 10) := by rfl
theorem zi_12_20 : (zM 12).1[20]? = some (.iload 8) := by rfl
theorem zi_12_21 : (zM 12).1[21]? = some (.if_icmp .gt ((57 : Nat) : Int)) := by rfl
theorem zi_12_22 : (zM 12).1[22]? = some (.aload 6) := by rfl
theorem zi_12_23 : (zM 12).1[23]? = some (.aload 0) := by rfl
theorem zi_12_24 : (zM 12).1[24]? = some (.getfield 206) := by rfl
theorem zi_12_25 : (zM 12).1[25]? = some (.iload 1) := by rfl
theorem zi_12_26 : (zM 12).1[26]? = some (.iload 2) := by rfl
theorem zi_12_27 : (zM 12).1[27]? = some (.iload 3) := by rfl
theorem zi_12_28 : (zM 12).1[28]? = some (.iload 4) := by rfl
theorem zi_12_29 : (zM 12).1[29]? = some (.iload 10) := by rfl
theorem zi_12_30 : (zM 12).1[30]? = some (.invokevirtual 25) := by rfl
theorem zi_12_31 : (zM 12).1[31]? = some (.aload 6) := by rfl
theorem zi_12_32 : (zM 12).1[32]? = some (.aload 0) := by rfl
theorem zi_12_33 : (zM 12).1[33]? = some (.getfield 206) := by rfl
theorem zi_12_34 : (zM 12).1[34]? = some (.iload 1) := by rfl
theorem zi_12_35 : (zM 12).1[35]? = some (.invokevirtual 26) := by rfl
theorem zi_12_36 : (zM 12).1[36]? = some (.aload 0) := by rfl
theorem zi_12_37 : (zM 12).1[37]? = some (.aload 6) := by rfl
theorem zi_12_38 : (zM 12).1[38]? = some (.iload 1) := by rfl
theorem zi_12_39 : (zM 12).1[39]? = some (.iload 5) := by rfl
theorem zi_12_40 : (zM 12).1[40]? = some (.invokevirtual 11) := by rfl
theorem zi_12_41 : (zM 12).1[41]? = some (.lstore 11) := by rfl
theorem zi_12_42 : (zM 12).1[42]? = some (.iload 10) := by rfl
theorem zi_12_43 : (zM 12).1[43]? = some (.iload 7) := by rfl
theorem zi_12_44 : (zM 12).1[44]? = some (.if_icmp .eq ((50 : Nat) : Int)) := by rfl
theorem zi_12_45 : (zM 12).1[45]? = some (.lload 11) := by rfl
theorem zi_12_46 : (zM 12).1[46]? = some (.aload 0) := by rfl
theorem zi_12_47 : (zM 12).1[47]? = some (.getfield 111) := by rfl
theorem zi_12_48 : (zM 12).1[48]? = some (.lcmp) := by rfl
theorem zi_12_49 : (zM 12).1[49]? = some (.ifCond .le ((55 : Nat) : Int)) := by rfl
theorem zi_12_50 : (zM 12).1[50]? = some (.iload 10) := by rfl
theorem zi_12_51 : (zM 12).1[51]? = some (.istore 9) := by rfl
theorem zi_12_52 : (zM 12).1[52]? = some (.aload 0) := by rfl
theorem zi_12_53 : (zM 12).1[53]? = some (.lload 11) := by rfl
theorem zi_12_54 : (zM 12).1[54]? = some (.putfield 111) := by rfl
theorem zi_12_55 : (zM 12).1[55]? = some (.iinc 10 1) := by rfl
theorem zi_12_56 : (zM 12).1[56]? = some (.goto ((19 : Nat) : Int)) := by rfl
theorem zi_12_57 : (zM 12).1[57]? = some (.iload 9) := by rfl
theorem zi_12_58 : (zM 12).1[58]? = some (.ireturn) := by rfl
def wb_12_57 (E : Nat → Nat) (d : Nat) (Q : Option Value → ZH → Prop) (a9 : Int32) (h : ZH) : Prop := Q (some (.int a9)) h
set_option maxRecDepth 20000 in
theorem okb_12_57 {E : Nat → Nat} {d : Nat} {Q : Option Value → ZH → Prop} {a9 : Int32} {h : ZH} (hw : wb_12_57 E d Q a9 h) : Gx E (d + 1) 12 57 [.retAddr 0, .retAddr 0, .retAddr 0, .retAddr 0, .retAddr 0, .retAddr 0, .retAddr 0, .retAddr 0, .retAddr 0, .int a9, .retAddr 0, .retAddr 0, .retAddr 0] [] h Q := by
  unfold wb_12_57 at hw
  refine zg_iload zi_12_57 rfl ?_
  exact zg_ireturn zi_12_58 (by decide) hw
def wb_12_55 (E : Nat → Nat) (d : Nat) (Q : Option Value → ZH → Prop) (L_19 : Nat → Int32 → Int32 → Int32 → Int32 → Int32 → Nat → Int32 → Int32 → Int32 → Int32 → ZH → Prop) (a0 : Nat) (a1 : Int32) (a2 : Int32) (a3 : Int32) (a4 : Int32) (a5 : Int32) (a6 : Nat) (a7 : Int32) (a8 : Int32) (a9 : Int32) (a10 : Int32) (h : ZH) : Prop := ∀ x20 : Int32, x20 = (a10 + 1) → L_19 a0 a1 a2 a3 a4 a5 a6 a7 a8 a9 x20 h
set_option maxRecDepth 20000 in
theorem okb_12_55 {E : Nat → Nat} {d : Nat} {Q : Option Value → ZH → Prop} {L_19 : Nat → Int32 → Int32 → Int32 → Int32 → Int32 → Nat → Int32 → Int32 → Int32 → Int32 → ZH → Prop} (hL_19 : ∀ (b0 : Nat) (b1 : Int32) (b2 : Int32) (b3 : Int32) (b4 : Int32) (b5 : Int32) (b6 : Nat) (b7 : Int32) (b8 : Int32) (b9 : Int32) (b10 : Int32) (h : ZH), L_19 b0 b1 b2 b3 b4 b5 b6 b7 b8 b9 b10 h → Gx E (d + 1) 12 19 [.ref b0, .int b1, .int b2, .int b3, .int b4, .int b5, .ref b6, .int b7, .int b8, .int b9, .int b10, .retAddr 0, .retAddr 0] [] h Q) {a0 : Nat} {a1 : Int32} {a2 : Int32} {a3 : Int32} {a4 : Int32} {a5 : Int32} {a6 : Nat} {a7 : Int32} {a8 : Int32} {a9 : Int32} {a10 : Int32} {h : ZH} (hw : wb_12_55 E d Q L_19 a0 a1 a2 a3 a4 a5 a6 a7 a8 a9 a10 h) : Gx E (d + 1) 12 55 [.ref a0, .int a1, .int a2, .int a3, .int a4, .int a5, .ref a6, .int a7, .int a8, .int a9, .int a10, .retAddr 0, .retAddr 0] [] h Q := by
  unfold wb_12_55 at hw
  obtain ⟨x20, ex20⟩ : ∃ x : Int32, x = a10 + 1 := ⟨_, rfl⟩
  have hw := hw x20 ex20
  refine zg_iinc (v := x20) (ls1 := [.ref a0, .int a1, .int a2, .int a3, .int a4, .int a5, .ref a6, .int a7, .int a8, .int a9, .int x20, .retAddr 0, .retAddr 0]) zi_12_55 rfl (by rw [ex20]; rfl) rfl ?_
  refine zg_goto zi_12_56 ?_
  exact hL_19 a0 a1 a2 a3 a4 a5 a6 a7 a8 a9 x20 h hw
def wl_12_19 (E : Nat → Nat) (d : Nat) (Q : Option Value → ZH → Prop) : Nat → Nat → Int32 → Int32 → Int32 → Int32 → Int32 → Nat → Int32 → Int32 → Int32 → Int32 → ZH → Prop
  | 0, _, _, _, _, _, _, _, _, _, _, _, _ => False
  | n + 1, a0, a1, a2, a3, a4, a5, a6, a7, a8, a9, a10, h => (a8 < a10 → (wb_12_57 E d Q a9 h)) ∧ (¬ (a8 < a10) → (ztag h a0 = 0 ∧ ∃ r10 : Nat, zR h a0 6 = r10 + 1 ∧ ztag h a6 = 2 ∧ Ct E d 25 [.ref a6, .ref r10, .int a1, .int a2, .int a3, .int a4, .int a10] h (fun v h12 => v = none ∧ ztag h12 a0 = 0 ∧ ∃ r14 : Nat, zR h12 a0 6 = r14 + 1 ∧ ztag h12 a6 = 2 ∧ Ct E d 26 [.ref a6, .ref r14, .int a1] h12 (fun v h16 => v = none ∧ ztag h16 a0 = 0 ∧ 2 ≤ d ∧ sz_11 E h16 a0 a6 a1 a5 ∧ ∀ x18 : Int64, x18 = (fz_11 E h16 a0 a6 a1 a5) → ((a10 = a7 → (∀ h19 : ZH, h19 = (zuL h16 a0 11 x18) → wb_12_55 E d Q (wl_12_19 E d Q n) a0 a1 a2 a3 a4 a5 a6 a7 a8 a10 a10 h19)) ∧ (¬ (a10 = a7) → ((x18 ≤ (zL h16 a0 11 : Int64) → (wb_12_55 E d Q (wl_12_19 E d Q n) a0 a1 a2 a3 a4 a5 a6 a7 a8 a9 a10 h16)) ∧ (¬ (x18 ≤ (zL h16 a0 11 : Int64)) → (∀ h21 : ZH, h21 = (zuL h16 a0 11 x18) → wb_12_55 E d Q (wl_12_19 E d Q n) a0 a1 a2 a3 a4 a5 a6 a7 a8 a10 a10 h21)))))))))
set_option maxRecDepth 20000 in
theorem okl_12_19 {E : Nat → Nat} {d : Nat} {Q : Option Value → ZH → Prop} : ∀ (n : Nat) (a0 : Nat) (a1 : Int32) (a2 : Int32) (a3 : Int32) (a4 : Int32) (a5 : Int32) (a6 : Nat) (a7 : Int32) (a8 : Int32) (a9 : Int32) (a10 : Int32) (h : ZH), wl_12_19 E d Q n a0 a1 a2 a3 a4 a5 a6 a7 a8 a9 a10 h → Gx E (d + 1) 12 19 [.ref a0, .int a1, .int a2, .int a3, .int a4, .int a5, .ref a6, .int a7, .int a8, .int a9, .int a10, .retAddr 0, .retAddr 0] [] h Q := by
  intro n
  induction n with
  | zero => intro a0 a1 a2 a3 a4 a5 a6 a7 a8 a9 a10 h hw; exact hw.elim
  | succ n ih =>
    intro a0 a1 a2 a3 a4 a5 a6 a7 a8 a9 a10 h hw
    rw [wl_12_19] at hw
    refine zg_iload zi_12_19 rfl ?_
    refine zg_iload zi_12_20 rfl ?_
    refine zg_icmp_gt zi_12_21 (fun hc => ?_) (fun hc => ?_)
    · have hw := hw.1 hc
      exact Gx.forget (zrd (zrd (zrd (zrd (zrd (zrd (zrd (zrd (zrd (zrk (zrd (zrk (zrk zr0))))))))))))) (okb_12_57 hw)
    · have hw := hw.2 hc
      refine zg_aload zi_12_22 rfl ?_
      refine zg_aload zi_12_23 rfl ?_
      obtain ⟨t9, hw⟩ := hw
      obtain ⟨r10, er10, hw⟩ := hw
      refine zg_getR (v := .ref r10) zi_12_24 t9 (by rfl) (by show zrv (zR h a0 6) = _; rw [er10]; rfl) ?_
      refine zg_iload zi_12_25 rfl ?_
      refine zg_iload zi_12_26 rfl ?_
      refine zg_iload zi_12_27 rfl ?_
      refine zg_iload zi_12_28 rfl ?_
      refine zg_iload zi_12_29 rfl ?_
      obtain ⟨t11, hw⟩ := hw
      refine Gx.call2 (as := [.ref a6, .ref r10, .int a1, .int a2, .int a3, .int a4, .int a10]) (rest := []) zq_25 zi_12_30 rfl rfl rfl (Nat.le_of_ble_eq_true rfl) (Nat.le_of_ble_eq_true rfl) (zrv_v t11 rfl rfl) (Nat.le_of_ble_eq_true rfl) ?_
      refine Ct.mono hw ?_
      rintro v h12 ⟨rfl, hw⟩
      show Gx E (d + 1) 12 31 [.ref a0, .int a1, .int a2, .int a3, .int a4, .int a5, .ref a6, .int a7, .int a8, .int a9, .int a10, .retAddr 0, .retAddr 0] [] h12 Q
      refine zg_aload zi_12_31 rfl ?_
      refine zg_aload zi_12_32 rfl ?_
      obtain ⟨t13, hw⟩ := hw
      obtain ⟨r14, er14, hw⟩ := hw
      refine zg_getR (v := .ref r14) zi_12_33 t13 (by rfl) (by show zrv (zR h12 a0 6) = _; rw [er14]; rfl) ?_
      refine zg_iload zi_12_34 rfl ?_
      obtain ⟨t15, hw⟩ := hw
      refine Gx.call2 (as := [.ref a6, .ref r14, .int a1]) (rest := []) zq_26 zi_12_35 rfl rfl rfl (Nat.le_of_ble_eq_true rfl) (Nat.le_of_ble_eq_true rfl) (zrv_v t15 rfl rfl) (Nat.le_of_ble_eq_true rfl) ?_
      refine Ct.mono hw ?_
      rintro v h16 ⟨rfl, hw⟩
      show Gx E (d + 1) 12 36 [.ref a0, .int a1, .int a2, .int a3, .int a4, .int a5, .ref a6, .int a7, .int a8, .int a9, .int a10, .retAddr 0, .retAddr 0] [] h16 Q
      refine zg_aload zi_12_36 rfl ?_
      refine zg_aload zi_12_37 rfl ?_
      refine zg_iload zi_12_38 rfl ?_
      refine zg_iload zi_12_39 rfl ?_
      obtain ⟨t17, hw⟩ := hw
      obtain ⟨hd, hs, hw⟩ := hw
      refine Gx.call2 (as := [.ref a0, .ref a6, .int a1, .int a5]) (rest := []) zq_11 zi_12_40 rfl rfl rfl (Nat.le_of_ble_eq_true rfl) (Nat.le_of_ble_eq_true rfl) (zrv_v t17 rfl rfl) (Nat.le_of_ble_eq_true rfl) ?_
      refine cz_11 hd hs ?_
      show Gx E (d + 1) 12 41 [.ref a0, .int a1, .int a2, .int a3, .int a4, .int a5, .ref a6, .int a7, .int a8, .int a9, .int a10, .retAddr 0, .retAddr 0] [.long (fz_11 E h16 a0 a6 a1 a5)] h16 Q
      refine zg_nameL fun x18 ex18 => ?_
      have hw := hw x18 ex18
      refine zg_lstore (ls1 := [.ref a0, .int a1, .int a2, .int a3, .int a4, .int a5, .ref a6, .int a7, .int a8, .int a9, .int a10, .long x18, .retAddr 0]) zi_12_41 (Nat.le_of_ble_eq_true rfl) rfl ?_
      refine zg_iload zi_12_42 rfl ?_
      refine zg_iload zi_12_43 rfl ?_
      refine zg_icmp_eq zi_12_44 (fun hc => ?_) (fun hc => ?_)
      · have hw := hw.1 hc
        refine zg_iload zi_12_50 rfl ?_
        refine zg_istore (ls1 := [.ref a0, .int a1, .int a2, .int a3, .int a4, .int a5, .ref a6, .int a7, .int a8, .int a10, .int a10, .long x18, .retAddr 0]) zi_12_51 (Nat.le_of_ble_eq_true rfl) rfl ?_
        refine zg_aload zi_12_52 rfl ?_
        refine zg_lload zi_12_53 rfl ?_
        refine zg_putL (h1 := zuL h16 a0 11 x18) zi_12_54 t17 (by rfl) rfl ?_
        refine zg_nameH fun h19 eh19 => ?_
        have hw := hw h19 eh19
        exact Gx.forget (zrk (zrk (zrk (zrk (zrk (zrk (zrk (zrk (zrk (zrk (zrk (zrd (zrk zr0))))))))))))) (okb_12_55 ih hw)
      · have hw := hw.2 hc
        refine zg_lload zi_12_45 rfl ?_
        refine zg_aload zi_12_46 rfl ?_
        refine zg_getL (v := .long (zL h16 a0 11)) zi_12_47 t17 (by rfl) rfl ?_
        refine zg_lcmp_le zi_12_48 zi_12_49 (fun hc => ?_) (fun hc => ?_)
        · have hw := hw.1 hc
          exact Gx.forget (zrk (zrk (zrk (zrk (zrk (zrk (zrk (zrk (zrk (zrk (zrk (zrd (zrk zr0))))))))))))) (okb_12_55 ih hw)
        · have hw := hw.2 hc
          refine zg_iload zi_12_50 rfl ?_
          refine zg_istore (ls1 := [.ref a0, .int a1, .int a2, .int a3, .int a4, .int a5, .ref a6, .int a7, .int a8, .int a10, .int a10, .long x18, .retAddr 0]) zi_12_51 (Nat.le_of_ble_eq_true rfl) rfl ?_
          refine zg_aload zi_12_52 rfl ?_
          refine zg_lload zi_12_53 rfl ?_
          refine zg_putL (h1 := zuL h16 a0 11 x18) zi_12_54 t17 (by rfl) rfl ?_
          refine zg_nameH fun h21 eh21 => ?_
          have hw := hw h21 eh21
          exact Gx.forget (zrk (zrk (zrk (zrk (zrk (zrk (zrk (zrk (zrk (zrk (zrk (zrd (zrk zr0))))))))))))) (okb_12_55 ih hw)
/-- TakeOrPay$Best.choose(IIIII)I -/
def w_12 (E : Nat → Nat) (d : Nat) (a0 : Nat) (a1 : Int32) (a2 : Int32) (a3 : Int32) (a4 : Int32) (a5 : Int32) (h : ZH) (Q : Option Value → ZH → Prop) : Prop := ztag h a0 = 0 ∧ ∃ r2 : Nat, zR h a0 2 = r2 + 1 ∧ (ztag h r2 = 16 ∨ ztag h r2 = 17) ∧ zin a1 (zlen h r2) = true ∧ ∃ r4 : Nat, zR h r2 a1.toNatClampNeg = r4 + 1 ∧ ∃ r5 : Nat, zR h a0 6 = r5 + 1 ∧ ztag h r5 = 3 ∧ 1 ≤ d ∧ sz_44 E h r5 a1 ∧ ∀ x7 : Int32, x7 = (fz_44 E h r5 a1) → 1 ≤ d ∧ sz_45 E h r5 a1 ∧ ∀ x8 : Int32, x8 = (fz_45 E h r5 a1) → (∃ mm : Nat, wl_12_19 E d Q mm a0 a1 a2 a3 a4 a5 r4 x7 x8 x7 x7 h)
set_option maxRecDepth 20000 in
theorem ok_12 {E : Nat → Nat} {d : Nat} {a0 : Nat} {a1 : Int32} {a2 : Int32} {a3 : Int32} {a4 : Int32} {a5 : Int32} {h : ZH} {Q : Option Value → ZH → Prop} (hw : w_12 E d a0 a1 a2 a3 a4 a5 h Q) : Ct E (d + 1) 12 [.ref a0, .int a1, .int a2, .int a3, .int a4, .int a5] h Q := by
  unfold w_12 at hw
  show Gx E (d + 1) 12 0 [.ref a0, .int a1, .int a2, .int a3, .int a4, .int a5, .retAddr 0, .retAddr 0, .retAddr 0, .retAddr 0, .retAddr 0, .retAddr 0, .retAddr 0] [] h Q
  refine zg_aload zi_12_0 rfl ?_
  obtain ⟨t1, hw⟩ := hw
  obtain ⟨r2, er2, hw⟩ := hw
  refine zg_getR (v := .ref r2) zi_12_1 t1 (by rfl) (by show zrv (zR h a0 2) = _; rw [er2]; rfl) ?_
  refine zg_iload zi_12_2 rfl ?_
  obtain ⟨t3, hw⟩ := hw
  obtain ⟨hb, hw⟩ := hw
  obtain ⟨r4, hr, hw⟩ := hw
  refine zg_aaload (v := .ref r4) zi_12_3 t3 hb (by first | (rw [hr]; rfl) | exact congrArg zrv hr) ?_
  refine zg_astore (ls1 := [.ref a0, .int a1, .int a2, .int a3, .int a4, .int a5, .ref r4, .retAddr 0, .retAddr 0, .retAddr 0, .retAddr 0, .retAddr 0, .retAddr 0]) zi_12_4 (Nat.le_of_ble_eq_true rfl) rfl ?_
  refine zg_aload zi_12_5 rfl ?_
  obtain ⟨r5, er5, hw⟩ := hw
  refine zg_getR (v := .ref r5) zi_12_6 t1 (by rfl) (by show zrv (zR h a0 6) = _; rw [er5]; rfl) ?_
  refine zg_iload zi_12_7 rfl ?_
  obtain ⟨t6, hw⟩ := hw
  obtain ⟨hd, hs, hw⟩ := hw
  refine Gx.call2 (as := [.ref r5, .int a1]) (rest := []) zq_44 zi_12_8 rfl rfl rfl (Nat.le_of_ble_eq_true rfl) (Nat.le_of_ble_eq_true rfl) (zrv_v t6 rfl rfl) (Nat.le_of_ble_eq_true rfl) ?_
  refine cz_44 hd hs ?_
  show Gx E (d + 1) 12 9 [.ref a0, .int a1, .int a2, .int a3, .int a4, .int a5, .ref r4, .retAddr 0, .retAddr 0, .retAddr 0, .retAddr 0, .retAddr 0, .retAddr 0] [.int (fz_44 E h r5 a1)] h Q
  refine zg_nameI fun x7 ex7 => ?_
  have hw := hw x7 ex7
  refine zg_istore (ls1 := [.ref a0, .int a1, .int a2, .int a3, .int a4, .int a5, .ref r4, .int x7, .retAddr 0, .retAddr 0, .retAddr 0, .retAddr 0, .retAddr 0]) zi_12_9 (Nat.le_of_ble_eq_true rfl) rfl ?_
  refine zg_aload zi_12_10 rfl ?_
  refine zg_getR (v := .ref r5) zi_12_11 t1 (by rfl) (by show zrv (zR h a0 6) = _; rw [er5]; rfl) ?_
  refine zg_iload zi_12_12 rfl ?_
  obtain ⟨hd, hs, hw⟩ := hw
  refine Gx.call2 (as := [.ref r5, .int a1]) (rest := []) zq_45 zi_12_13 rfl rfl rfl (Nat.le_of_ble_eq_true rfl) (Nat.le_of_ble_eq_true rfl) (zrv_v t6 rfl rfl) (Nat.le_of_ble_eq_true rfl) ?_
  refine cz_45 hd hs ?_
  show Gx E (d + 1) 12 14 [.ref a0, .int a1, .int a2, .int a3, .int a4, .int a5, .ref r4, .int x7, .retAddr 0, .retAddr 0, .retAddr 0, .retAddr 0, .retAddr 0] [.int (fz_45 E h r5 a1)] h Q
  refine zg_nameI fun x8 ex8 => ?_
  have hw := hw x8 ex8
  refine zg_istore (ls1 := [.ref a0, .int a1, .int a2, .int a3, .int a4, .int a5, .ref r4, .int x7, .int x8, .retAddr 0, .retAddr 0, .retAddr 0, .retAddr 0]) zi_12_14 (Nat.le_of_ble_eq_true rfl) rfl ?_
  refine zg_iload zi_12_15 rfl ?_
  refine zg_istore (ls1 := [.ref a0, .int a1, .int a2, .int a3, .int a4, .int a5, .ref r4, .int x7, .int x8, .int x7, .retAddr 0, .retAddr 0, .retAddr 0]) zi_12_16 (Nat.le_of_ble_eq_true rfl) rfl ?_
  refine zg_iload zi_12_17 rfl ?_
  refine zg_istore (ls1 := [.ref a0, .int a1, .int a2, .int a3, .int a4, .int a5, .ref r4, .int x7, .int x8, .int x7, .int x7, .retAddr 0, .retAddr 0]) zi_12_18 (Nat.le_of_ble_eq_true rfl) rfl ?_
  obtain ⟨mm, hw⟩ := hw
  exact okl_12_19 mm a0 a1 a2 a3 a4 a5 r4 x7 x8 x7 x7 h hw
theorem zq_30 : zQ 30 1 1 3 := by unfold zQ; decide +kernel
theorem zi_30_0 : (zM 30).1[0]? = some (.getstatic 1) := by rfl
theorem zi_30_1 : (zM 30).1[1]? = some (.iconst 0) := by rfl
theorem zi_30_2 : (zM 30).1[2]? = some (.aload 0) := by rfl
theorem zi_30_3 : (zM 30).1[3]? = some (.getfield 3200) := by rfl
theorem zi_30_4 : (zM 30).1[4]? = some (.iconst 0) := by rfl
theorem zi_30_5 : (zM 30).1[5]? = some (.iconst 39) := by rfl
theorem zi_30_6 : (zM 30).1[6]? = some (.invokedynamic 2) := by rfl
theorem zi_30_7 : (zM 30).1[7]? = some (.return_) := by rfl
/-- TakeOrPay$Page.setAtFirst()V -/
def w_30 (E : Nat → Nat) (d : Nat) (a0 : Nat) (h : ZH) (Q : Option Value → ZH → Prop) : Prop := ztag h a0 = 3 ∧ ∃ r2 : Nat, zR h a0 0 = r2 + 1 ∧ (4 ≤ d ∧ ztag h r2 = 13 ∧ (ztag h (E 1) = 13 ∨ ztag h (E 1) = 19) ∧ 39 ≤ zlen h (E 1) ∧ 39 ≤ zlen h r2) ∧ ∀ h3 : ZH, h3 = (zuA h r2 (zcpy (zI h (E 1)) (zI h r2) 0 0 39)) → Q none h3
set_option maxRecDepth 20000 in
theorem ok_30 {E : Nat → Nat} {d : Nat} {a0 : Nat} {h : ZH} {Q : Option Value → ZH → Prop} (hw : w_30 E d a0 h Q) : Ct E (d + 1) 30 [.ref a0] h Q := by
  unfold w_30 at hw
  show Gx E (d + 1) 30 0 [.ref a0] [] h Q
  refine zg_getstatic zi_30_0 ?_
  refine zg_const (v := 0) zi_30_1 (by rfl) ?_
  refine zg_aload zi_30_2 rfl ?_
  obtain ⟨t1, hw⟩ := hw
  obtain ⟨r2, er2, hw⟩ := hw
  refine zg_getR (v := .ref r2) zi_30_3 t1 (by rfl) (by show zrv (zR h a0 0) = _; rw [er2]; rfl) ?_
  refine zg_const (v := 0) zi_30_4 (by rfl) ?_
  refine zg_const (v := 39) zi_30_5 (by rfl) ?_
  obtain ⟨⟨hd, ha, hb, hn1, hn2⟩, hw⟩ := hw
  refine zg_copy (h1 := zuA h r2 (zcpy (zI h (E 1)) (zI h r2) 0 0 39)) zi_30_6 ⟨by omega, Nat.le_of_ble_eq_true rfl, ha, hb, by decide, by decide, by decide, hn1, hn2⟩ rfl ?_
  refine zg_nameH fun h3 eh3 => ?_
  have hw := hw h3 eh3
  exact zg_return zi_30_7 hw
theorem zq_38 : zQ 38 2 2 3 := by unfold zQ; decide +kernel
theorem zi_38_0 : (zM 38).1[0]? = some (.aload 0) := by rfl
theorem zi_38_1 : (zM 38).1[1]? = some (.getfield 3200) := by rfl
theorem zi_38_2 : (zM 38).1[2]? = some (.iconst 13) := by rfl
theorem zi_38_3 : (zM 38).1[3]? = some (.iaload) := by rfl
theorem zi_38_4 : (zM 38).1[4]? = some (.iload 1) := by rfl
theorem zi_38_5 : (zM 38).1[5]? = some (.ishr) := by rfl
theorem zi_38_6 : (zM 38).1[6]? = some (.iconst 1) := by rfl
theorem zi_38_7 : (zM 38).1[7]? = some (.iand) := by rfl
theorem zi_38_8 : (zM 38).1[8]? = some (.iconst 1) := by rfl
theorem zi_38_9 : (zM 38).1[9]? = some (.if_icmp .ne ((12 : Nat) : Int)) := by rfl
theorem zi_38_10 : (zM 38).1[10]? = some (.iconst 1) := by rfl
theorem zi_38_11 : (zM 38).1[11]? = some (.goto ((13 : Nat) : Int)) := by rfl
theorem zi_38_12 : (zM 38).1[12]? = some (.iconst 0) := by rfl
theorem zi_38_13 : (zM 38).1[13]? = some (.ireturn) := by rfl
/-- TakeOrPay$Page.isFree(I)Z -/
def w_38 (E : Nat → Nat) (d : Nat) (a0 : Nat) (a1 : Int32) (h : ZH) (Q : Option Value → ZH → Prop) : Prop := ztag h a0 = 3 ∧ ∃ r2 : Nat, zR h a0 0 = r2 + 1 ∧ (ztag h r2 = 13 ∨ ztag h r2 = 19) ∧ zin 13 (zlen h r2) = true ∧ Q (some (.int (if ¬ (((zI h r2 13) >>> (a1 &&& 31)) &&& 1 : Int32) = 1 then 0 else 1))) h
set_option maxRecDepth 20000 in
theorem ok_38 {E : Nat → Nat} {d : Nat} {a0 : Nat} {a1 : Int32} {h : ZH} {Q : Option Value → ZH → Prop} (hw : w_38 E d a0 a1 h Q) : Ct E (d + 1) 38 [.ref a0, .int a1] h Q := by
  unfold w_38 at hw
  show Gx E (d + 1) 38 0 [.ref a0, .int a1] [] h Q
  refine zg_aload zi_38_0 rfl ?_
  obtain ⟨t1, hw⟩ := hw
  obtain ⟨r2, er2, hw⟩ := hw
  refine zg_getR (v := .ref r2) zi_38_1 t1 (by rfl) (by show zrv (zR h a0 0) = _; rw [er2]; rfl) ?_
  refine zg_const (v := 13) zi_38_2 (by rfl) ?_
  obtain ⟨t3, hw⟩ := hw
  obtain ⟨hb, hw⟩ := hw
  refine zg_iaload (v := .int (zI h r2 13)) zi_38_3 t3 hb rfl ?_
  refine zg_iload zi_38_4 rfl ?_
  refine zg_ishr zi_38_5 ?_
  refine zg_const (v := 1) zi_38_6 (by rfl) ?_
  refine zg_iand zi_38_7 ?_
  refine zg_const (v := 1) zi_38_8 (by rfl) ?_
  have g9 : Gx E (d + 1) 38 13 [.ref a0, .int a1] [.int (if ¬ (((zI h r2 13) >>> (a1 &&& 31)) &&& 1 : Int32) = 1 then 0 else 1)] h Q := by
    exact zg_zreturn zi_38_13 (by (repeat' split) <;> first | (left; rfl) | (right; rfl)) hw
  refine zg_icmp_ne zi_38_9 (fun hc9 => ?_) (fun hc9 => ?_)
  · skip
    refine zg_const (v := 0) zi_38_12 (by rfl) ?_
    have hg := g9
    simp only [if_pos hc9] at hg
    exact hg
  · skip
    refine zg_const (v := 1) zi_38_10 (by rfl) ?_
    refine zg_goto zi_38_11 ?_
    have hg := g9
    simp only [if_neg hc9] at hg
    exact hg
def fz_38 (E : Nat → Nat) (h : ZH) (a0 : Nat) (a1 : Int32) : Int32 := (fun r2 : Nat => if ¬ (((zI h r2 13) >>> (a1 &&& 31)) &&& 1 : Int32) = 1 then 0 else 1) (zR h a0 0 - 1)
def sz_38 (E : Nat → Nat) (h : ZH) (a0 : Nat) (a1 : Int32) : Prop := ztag h a0 = 3 ∧ ∃ r2 : Nat, zR h a0 0 = r2 + 1 ∧ (ztag h r2 = 13 ∨ ztag h r2 = 19) ∧ zin 13 (zlen h r2) = true ∧ True
set_option maxRecDepth 20000 in
theorem fb_38 {E : Nat → Nat} {h : ZH} {a0 : Nat} {a1 : Int32} : fz_38 E h a0 a1 = 0 ∨ fz_38 E h a0 a1 = 1 := by
  unfold fz_38
  (try dsimp only)
  (repeat' split) <;> first | (left; rfl) | (right; rfl)
set_option maxRecDepth 20000 in
theorem cz_38 {E : Nat → Nat} {d : Nat} {a0 : Nat} {a1 : Int32} {h : ZH} {Q : Option Value → ZH → Prop} (hd : 1 ≤ d) (hs : sz_38 E h a0 a1) (hq : Q (some (.int (fz_38 E h a0 a1))) h) : Ct E d 38 [.ref a0, .int a1] h Q := by
  obtain ⟨d, rfl⟩ : ∃ n, d = n + 1 := ⟨d - 1, by omega⟩
  refine ok_38 ?_
  unfold w_38
  unfold sz_38 at hs
  unfold fz_38 at hq
  refine ⟨hs.1, ?_⟩
  have hs := hs.2
  obtain ⟨r2, hr, hs⟩ := hs
  refine ⟨r2, hr, ?_⟩
  rw [hr] at hq
  simp only [Nat.add_sub_cancel] at hq
  refine ⟨hs.1, ?_⟩
  have hs := hs.2
  refine ⟨hs.1, ?_⟩
  have hs := hs.2
  exact hq
theorem zq_41 : zQ 41 2 4 3 := by unfold zQ; decide +kernel
theorem zi_41_0 : (zM 41).1[0]? = some (.iconst 0) := by rfl
theorem zi_41_1 : (zM 41).1[1]? = some (.istore 2) := by rfl
theorem zi_41_2 : (zM 41).1[2]? = some (.iconst 0) := by rfl
theorem zi_41_3 : (zM 41).1[3]? = some (.istore 3) := by rfl
theorem zi_41_4 : (zM 41).1[4]? = some (.iload 3) := by rfl
theorem zi_41_5 : (zM 41).1[5]? = some (.aload 0) := by rfl
theorem zi_41_6 : (zM 41).1[6]? = some (.getfield 3006) := by rfl
theorem zi_41_7 : (zM 41).1[7]? = some (.if_icmp .ge ((30 : Nat) : Int)) := by rfl
theorem zi_41_8 : (zM 41).1[8]? = some (.aload 0) := by rfl
theorem zi_41_9 : (zM 41).1[9]? = some (.getfield 3204) := by rfl
theorem zi_41_10 : (zM 41).1[10]? = some (.iload 3) := by rfl
theorem zi_41_11 : (zM 41).1[11]? = some (.iaload) := by rfl
theorem zi_41_12 : (zM 41).1[12]? = some (.iload 1) := by rfl
theorem zi_41_13 : (zM 41).1[13]? = some (.if_icmp .ne ((28 : Nat) : Int)) := by rfl
theorem zi_41_14 : (zM 41).1[14]? = some (.aload 0) := by rfl
theorem zi_41_15 : (zM 41).1[15]? = some (.getfield 3201) := by rfl
theorem zi_41_16 : (zM 41).1[16]? = some (.iload 3) := by rfl
theorem zi_41_17 : (zM 41).1[17]? = some (.iaload) := by rfl
theorem zi_41_18 : (zM 41).1[18]? = some (.iconst (-4)) := by rfl
theorem zi_41_19 : (zM 41).1[19]? = some (.if_icmp .eq ((28 : Nat) : Int)) := by rfl
theorem zi_41_20 : (zM 41).1[20]? = some (.aload 0) := by rfl
theorem zi_41_21 : (zM 41).1[21]? = some (.aload 0) := by rfl
theorem zi_41_22 : (zM 41).1[22]? = some (.getfield 3201) := by rfl
theorem zi_41_23 : (zM 41).1[23]? = some (.iload 3) := by rfl
theorem zi_41_24 : (zM 41).1[24]? = some (.iaload) := by rfl
theorem zi_41_25 : (zM 41).1[25]? = some (.invokevirtual 38) := by rfl
theorem zi_41_26 : (zM 41).1[26]? = some (.ifCond .eq ((28 : Nat) : Int)) := by rfl
theorem zi_41_27 : (zM 41).1[27]? = some (.iinc 2 1) := by rfl
theorem zi_41_28 : (zM 41).1[28]? = some (.iinc 3 1) := by rfl
theorem zi_41_29 : (zM 41).1[29]? = some (.goto ((4 : Nat) : Int)) := by rfl
theorem zi_41_30 : (zM 41).1[30]? = some (.iload 2) := by rfl
theorem zi_41_31 : (zM 41).1[31]? = some (.ireturn) := by rfl
def wb_41_30 (E : Nat → Nat) (d : Nat) (Q : Option Value → ZH → Prop) (a2 : Int32) (h : ZH) : Prop := Q (some (.int a2)) h
set_option maxRecDepth 20000 in
theorem okb_41_30 {E : Nat → Nat} {d : Nat} {Q : Option Value → ZH → Prop} {a2 : Int32} {h : ZH} (hw : wb_41_30 E d Q a2 h) : Gx E (d + 1) 41 30 [.retAddr 0, .retAddr 0, .int a2, .retAddr 0] [] h Q := by
  unfold wb_41_30 at hw
  refine zg_iload zi_41_30 rfl ?_
  exact zg_ireturn zi_41_31 (by decide) hw
def wl_41_4 (E : Nat → Nat) (d : Nat) (Q : Option Value → ZH → Prop) : Nat → Nat → Int32 → Int32 → Int32 → ZH → Prop
  | 0, _, _, _, _, _ => False
  | n + 1, a0, a1, a2, a3, h => ztag h a0 = 3 ∧ (((zI h a0 6 : Int32) ≤ a3 → (wb_41_30 E d Q a2 h)) ∧ (¬ ((zI h a0 6 : Int32) ≤ a3) → (∃ r2 : Nat, zR h a0 4 = r2 + 1 ∧ (ztag h r2 = 13 ∨ ztag h r2 = 19) ∧ zin a3 (zlen h r2) = true ∧ (((¬ (zI h r2 a3.toNatClampNeg : Int32) = a1 → (True)) ∧ (¬ (¬ (zI h r2 a3.toNatClampNeg : Int32) = a1) → (¬ zR h a0 1 = 0 ∧ (ztag h (zR h a0 1 - 1) = 13 ∨ ztag h (zR h a0 1 - 1) = 19) ∧ zin a3 (zlen h (zR h a0 1 - 1)) = true ∧ ((((zI h (zR h a0 1 - 1) a3.toNatClampNeg : Int32) = ((-4) : Int32) → (True)) ∧ (¬ ((zI h (zR h a0 1 - 1) a3.toNatClampNeg : Int32) = ((-4) : Int32)) → (¬ zR h a0 1 = 0 ∧ zin a3 (zlen h (zR h a0 1 - 1)) = true ∧ 1 ≤ d ∧ sz_38 E h a0 (zI h (zR h a0 1 - 1) a3.toNatClampNeg) ∧ True))) ∧ True)))) ∧ ∀ x5 : Int32, x5 = (a3 + 1) → wl_41_4 E d Q n a0 a1 (if ¬ (zI h r2 a3.toNatClampNeg : Int32) = a1 then a2 else if (zI h (zR h a0 1 - 1) a3.toNatClampNeg : Int32) = ((-4) : Int32) then a2 else if (fz_38 E h a0 (zI h (zR h a0 1 - 1) a3.toNatClampNeg) : Int32) = 0 then a2 else a2 + 1) x5 h))))
set_option maxRecDepth 20000 in
theorem okl_41_4 {E : Nat → Nat} {d : Nat} {Q : Option Value → ZH → Prop} : ∀ (n : Nat) (a0 : Nat) (a1 : Int32) (a2 : Int32) (a3 : Int32) (h : ZH), wl_41_4 E d Q n a0 a1 a2 a3 h → Gx E (d + 1) 41 4 [.ref a0, .int a1, .int a2, .int a3] [] h Q := by
  intro n
  induction n with
  | zero => intro a0 a1 a2 a3 h hw; exact hw.elim
  | succ n ih =>
    intro a0 a1 a2 a3 h hw
    rw [wl_41_4] at hw
    refine zg_iload zi_41_4 rfl ?_
    refine zg_aload zi_41_5 rfl ?_
    obtain ⟨t1, hw⟩ := hw
    refine zg_getI (v := .int (zI h a0 6)) zi_41_6 t1 (by rfl) rfl ?_
    refine zg_icmp_ge zi_41_7 (fun hc => ?_) (fun hc => ?_)
    · have hw := hw.1 hc
      exact Gx.forget (zrd (zrd (zrk (zrd zr0)))) (okb_41_30 hw)
    · have hw := hw.2 hc
      refine zg_aload zi_41_8 rfl ?_
      obtain ⟨r2, er2, hw⟩ := hw
      refine zg_getR (v := .ref r2) zi_41_9 t1 (by rfl) (by show zrv (zR h a0 4) = _; rw [er2]; rfl) ?_
      refine zg_iload zi_41_10 rfl ?_
      obtain ⟨t3, hw⟩ := hw
      obtain ⟨hb, hw⟩ := hw
      refine zg_iaload (v := .int (zI h r2 a3.toNatClampNeg)) zi_41_11 t3 hb rfl ?_
      refine zg_iload zi_41_12 rfl ?_
      obtain ⟨hsd13, hw⟩ := hw
      have g13 : Gx E (d + 1) 41 28 [.ref a0, .int a1, .int (if ¬ (zI h r2 a3.toNatClampNeg : Int32) = a1 then a2 else if (zI h (zR h a0 1 - 1) a3.toNatClampNeg : Int32) = ((-4) : Int32) then a2 else if (fz_38 E h a0 (zI h (zR h a0 1 - 1) a3.toNatClampNeg) : Int32) = 0 then a2 else a2 + 1), .int a3] [] h Q := by
        obtain ⟨x5, ex5⟩ : ∃ x : Int32, x = a3 + 1 := ⟨_, rfl⟩
        have hw := hw x5 ex5
        refine zg_iinc (v := x5) (ls1 := [.ref a0, .int a1, .int (if ¬ (zI h r2 a3.toNatClampNeg : Int32) = a1 then a2 else if (zI h (zR h a0 1 - 1) a3.toNatClampNeg : Int32) = ((-4) : Int32) then a2 else if (fz_38 E h a0 (zI h (zR h a0 1 - 1) a3.toNatClampNeg) : Int32) = 0 then a2 else a2 + 1), .int x5]) zi_41_28 rfl (by rw [ex5]; rfl) rfl ?_
        refine zg_goto zi_41_29 ?_
        exact ih a0 a1 (if ¬ (zI h r2 a3.toNatClampNeg : Int32) = a1 then a2 else if (zI h (zR h a0 1 - 1) a3.toNatClampNeg : Int32) = ((-4) : Int32) then a2 else if (fz_38 E h a0 (zI h (zR h a0 1 - 1) a3.toNatClampNeg) : Int32) = 0 then a2 else a2 + 1) x5 h hw
      refine zg_icmp_ne zi_41_13 (fun hc13 => ?_) (fun hc13 => ?_)
      · have hw := hsd13.1 hc13
        have hg := g13
        simp only [if_pos hc13] at hg
        exact hg
      · have hw := hsd13.2 hc13
        refine zg_aload zi_41_14 rfl ?_
        obtain ⟨hr, hw⟩ := hw
        refine zg_getR (v := .ref (zR h a0 1 - 1)) zi_41_15 t1 (by rfl) (zrv_p hr) ?_
        refine zg_iload zi_41_16 rfl ?_
        obtain ⟨t4, hw⟩ := hw
        obtain ⟨hb, hw⟩ := hw
        refine zg_iaload (v := .int (zI h (zR h a0 1 - 1) a3.toNatClampNeg)) zi_41_17 t4 hb rfl ?_
        refine zg_const (v := (-4)) zi_41_18 (by rfl) ?_
        obtain ⟨hsd19, hw⟩ := hw
        have g19 : Gx E (d + 1) 41 28 [.ref a0, .int a1, .int (if (zI h (zR h a0 1 - 1) a3.toNatClampNeg : Int32) = ((-4) : Int32) then a2 else if (fz_38 E h a0 (zI h (zR h a0 1 - 1) a3.toNatClampNeg) : Int32) = 0 then a2 else a2 + 1), .int a3] [] h Q := by
          have hg := g13
          simp only [if_neg hc13] at hg
          exact hg
        refine zg_icmp_eq zi_41_19 (fun hc19 => ?_) (fun hc19 => ?_)
        · have hw := hsd19.1 hc19
          have hg := g19
          simp only [if_pos hc19] at hg
          exact hg
        · have hw := hsd19.2 hc19
          refine zg_aload zi_41_20 rfl ?_
          refine zg_aload zi_41_21 rfl ?_
          obtain ⟨hr, hw⟩ := hw
          refine zg_getR (v := .ref (zR h a0 1 - 1)) zi_41_22 t1 (by rfl) (zrv_p hr) ?_
          refine zg_iload zi_41_23 rfl ?_
          obtain ⟨hb, hw⟩ := hw
          refine zg_iaload (v := .int (zI h (zR h a0 1 - 1) a3.toNatClampNeg)) zi_41_24 t4 hb rfl ?_
          obtain ⟨hd, hs, hw⟩ := hw
          refine Gx.call2 (as := [.ref a0, .int (zI h (zR h a0 1 - 1) a3.toNatClampNeg)]) (rest := []) zq_38 zi_41_25 rfl rfl rfl (Nat.le_of_ble_eq_true rfl) (Nat.le_of_ble_eq_true rfl) (zrv_v t1 rfl rfl) (Nat.le_of_ble_eq_true rfl) ?_
          refine cz_38 hd hs ?_
          show Gx E (d + 1) 41 26 [.ref a0, .int a1, .int a2, .int a3] [.int (fz_38 E h a0 (zI h (zR h a0 1 - 1) a3.toNatClampNeg))] h Q
          have g26 : Gx E (d + 1) 41 28 [.ref a0, .int a1, .int (if (fz_38 E h a0 (zI h (zR h a0 1 - 1) a3.toNatClampNeg) : Int32) = 0 then a2 else a2 + 1), .int a3] [] h Q := by
            have hg := g19
            simp only [if_neg hc19] at hg
            exact hg
          refine zg_if_eq zi_41_26 (fun hc26 => ?_) (fun hc26 => ?_)
          · skip
            have hg := g26
            simp only [if_pos hc26] at hg
            exact hg
          · skip
            refine zg_iinc (v := a2 + 1) (ls1 := [.ref a0, .int a1, .int (a2 + 1), .int a3]) zi_41_27 rfl rfl rfl ?_
            have hg := g26
            simp only [if_neg hc26] at hg
            exact hg
/-- TakeOrPay$Page.freeOnes(I)I -/
def w_41 (E : Nat → Nat) (d : Nat) (a0 : Nat) (a1 : Int32) (h : ZH) (Q : Option Value → ZH → Prop) : Prop := ∃ mm : Nat, wl_41_4 E d Q mm a0 a1 0 0 h
set_option maxRecDepth 20000 in
theorem ok_41 {E : Nat → Nat} {d : Nat} {a0 : Nat} {a1 : Int32} {h : ZH} {Q : Option Value → ZH → Prop} (hw : w_41 E d a0 a1 h Q) : Ct E (d + 1) 41 [.ref a0, .int a1] h Q := by
  unfold w_41 at hw
  show Gx E (d + 1) 41 0 [.ref a0, .int a1, .retAddr 0, .retAddr 0] [] h Q
  refine zg_const (v := 0) zi_41_0 (by rfl) ?_
  refine zg_istore (ls1 := [.ref a0, .int a1, .int 0, .retAddr 0]) zi_41_1 (Nat.le_of_ble_eq_true rfl) rfl ?_
  refine zg_const (v := 0) zi_41_2 (by rfl) ?_
  refine zg_istore (ls1 := [.ref a0, .int a1, .int 0, .int 0]) zi_41_3 (Nat.le_of_ble_eq_true rfl) rfl ?_
  obtain ⟨mm, hw⟩ := hw
  exact okl_41_4 mm a0 a1 0 0 h hw
theorem zq_40 : zQ 40 3 4 3 := by unfold zQ; decide +kernel
theorem zi_40_0 : (zM 40).1[0]? = some (.aload 0) := by rfl
theorem zi_40_1 : (zM 40).1[1]? = some (.getfield 3200) := by rfl
theorem zi_40_2 : (zM 40).1[2]? = some (.iconst 1) := by rfl
theorem zi_40_3 : (zM 40).1[3]? = some (.iaload) := by rfl
theorem zi_40_4 : (zM 40).1[4]? = some (.istore 3) := by rfl
theorem zi_40_5 : (zM 40).1[5]? = some (.iload 3) := by rfl
theorem zi_40_6 : (zM 40).1[6]? = some (.ifCond .le ((15 : Nat) : Int)) := by rfl
theorem zi_40_7 : (zM 40).1[7]? = some (.iload 1) := by rfl
theorem zi_40_8 : (zM 40).1[8]? = some (.iload 1) := by rfl
theorem zi_40_9 : (zM 40).1[9]? = some (.iload 2) := by rfl
theorem zi_40_10 : (zM 40).1[10]? = some (.imul) := by rfl
theorem zi_40_11 : (zM 40).1[11]? = some (.iload 3) := by rfl
theorem zi_40_12 : (zM 40).1[12]? = some (.idiv) := by rfl
theorem zi_40_13 : (zM 40).1[13]? = some (.isub) := by rfl
theorem zi_40_14 : (zM 40).1[14]? = some (.goto ((16 : Nat) : Int)) := by rfl
theorem zi_40_15 : (zM 40).1[15]? = some (.iload 1) := by rfl
theorem zi_40_16 : (zM 40).1[16]? = some (.ireturn) := by rfl
/-- TakeOrPay$Page.lessFree(II)I -/
def w_40 (E : Nat → Nat) (d : Nat) (a0 : Nat) (a1 : Int32) (a2 : Int32) (h : ZH) (Q : Option Value → ZH → Prop) : Prop := ztag h a0 = 3 ∧ ∃ r2 : Nat, zR h a0 0 = r2 + 1 ∧ (ztag h r2 = 13 ∨ ztag h r2 = 19) ∧ zin 1 (zlen h r2) = true ∧ ∀ x4 : Int32, x4 = (zI h r2 1) → (((x4 ≤ 0 → (True)) ∧ (¬ (x4 ≤ 0) → (¬ x4 = 0 ∧ True))) ∧ Q (some (.int (if x4 ≤ 0 then a1 else a1 - ((a1 * a2) / x4)))) h)
set_option maxRecDepth 20000 in
theorem ok_40 {E : Nat → Nat} {d : Nat} {a0 : Nat} {a1 : Int32} {a2 : Int32} {h : ZH} {Q : Option Value → ZH → Prop} (hw : w_40 E d a0 a1 a2 h Q) : Ct E (d + 1) 40 [.ref a0, .int a1, .int a2] h Q := by
  unfold w_40 at hw
  show Gx E (d + 1) 40 0 [.ref a0, .int a1, .int a2, .retAddr 0] [] h Q
  refine zg_aload zi_40_0 rfl ?_
  obtain ⟨t1, hw⟩ := hw
  obtain ⟨r2, er2, hw⟩ := hw
  refine zg_getR (v := .ref r2) zi_40_1 t1 (by rfl) (by show zrv (zR h a0 0) = _; rw [er2]; rfl) ?_
  refine zg_const (v := 1) zi_40_2 (by rfl) ?_
  obtain ⟨t3, hw⟩ := hw
  obtain ⟨hb, hw⟩ := hw
  refine zg_iaload (v := .int (zI h r2 1)) zi_40_3 t3 hb rfl ?_
  refine zg_nameI fun x4 ex4 => ?_
  have hw := hw x4 ex4
  refine zg_istore (ls1 := [.ref a0, .int a1, .int a2, .int x4]) zi_40_4 (Nat.le_of_ble_eq_true rfl) rfl ?_
  refine zg_iload zi_40_5 rfl ?_
  obtain ⟨hsd6, hw⟩ := hw
  have g6 : Gx E (d + 1) 40 16 [.ref a0, .int a1, .int a2, .int x4] [.int (if x4 ≤ 0 then a1 else a1 - ((a1 * a2) / x4))] h Q := by
    exact zg_ireturn zi_40_16 (by decide) hw
  refine zg_if_le zi_40_6 (fun hc6 => ?_) (fun hc6 => ?_)
  · have hw := hsd6.1 hc6
    refine zg_iload zi_40_15 rfl ?_
    have hg := g6
    simp only [if_pos hc6] at hg
    exact hg
  · have hw := hsd6.2 hc6
    refine zg_iload zi_40_7 rfl ?_
    refine zg_iload zi_40_8 rfl ?_
    refine zg_iload zi_40_9 rfl ?_
    refine zg_imul zi_40_10 ?_
    refine zg_iload zi_40_11 rfl ?_
    obtain ⟨hc, hw⟩ := hw
    refine zg_idiv zi_40_12 hc ?_
    refine zg_isub zi_40_13 ?_
    refine zg_goto zi_40_14 ?_
    have hg := g6
    simp only [if_neg hc6] at hg
    exact hg
def fz_40 (E : Nat → Nat) (h : ZH) (a0 : Nat) (a1 : Int32) (a2 : Int32) : Int32 := (fun r2 : Nat => let x4 : Int32 := (zI h r2 1); if x4 ≤ 0 then a1 else a1 - ((a1 * a2) / x4)) (zR h a0 0 - 1)
def sz_40 (E : Nat → Nat) (h : ZH) (a0 : Nat) (a1 : Int32) (a2 : Int32) : Prop := ztag h a0 = 3 ∧ ∃ r2 : Nat, zR h a0 0 = r2 + 1 ∧ (ztag h r2 = 13 ∨ ztag h r2 = 19) ∧ zin 1 (zlen h r2) = true ∧ ∀ x4 : Int32, x4 = (zI h r2 1) → (((x4 ≤ 0 → (True)) ∧ (¬ (x4 ≤ 0) → (¬ x4 = 0 ∧ True))) ∧ True)
set_option maxRecDepth 20000 in
theorem cz_40 {E : Nat → Nat} {d : Nat} {a0 : Nat} {a1 : Int32} {a2 : Int32} {h : ZH} {Q : Option Value → ZH → Prop} (hd : 1 ≤ d) (hs : sz_40 E h a0 a1 a2) (hq : Q (some (.int (fz_40 E h a0 a1 a2))) h) : Ct E d 40 [.ref a0, .int a1, .int a2] h Q := by
  obtain ⟨d, rfl⟩ : ∃ n, d = n + 1 := ⟨d - 1, by omega⟩
  refine ok_40 ?_
  unfold w_40
  unfold sz_40 at hs
  unfold fz_40 at hq
  refine ⟨hs.1, ?_⟩
  have hs := hs.2
  obtain ⟨r2, hr, hs⟩ := hs
  refine ⟨r2, hr, ?_⟩
  rw [hr] at hq
  simp only [Nat.add_sub_cancel] at hq
  refine ⟨hs.1, ?_⟩
  have hs := hs.2
  refine ⟨hs.1, ?_⟩
  have hs := hs.2
  intro x4 ex4
  have hs := hs x4 ex4
  subst ex4
  refine ⟨⟨fun hc => ?_, fun hc => ?_⟩, ?_⟩
  · have hs := hs.1.1 hc
    trivial
  · have hs := hs.1.2 hc
    refine ⟨hs.1, ?_⟩
    have hs := hs.2
    trivial
  have hs := hs.2
  exact hq
theorem zq_39 : zQ 39 1 1 3 := by unfold zQ; decide +kernel
theorem zi_39_0 : (zM 39).1[0]? = some (.iconst 12) := by rfl
theorem zi_39_1 : (zM 39).1[1]? = some (.aload 0) := by rfl
theorem zi_39_2 : (zM 39).1[2]? = some (.getfield 3200) := by rfl
theorem zi_39_3 : (zM 39).1[3]? = some (.iconst 2) := by rfl
theorem zi_39_4 : (zM 39).1[4]? = some (.iaload) := by rfl
theorem zi_39_5 : (zM 39).1[5]? = some (.aload 0) := by rfl
theorem zi_39_6 : (zM 39).1[6]? = some (.getfield 3200) := by rfl
theorem zi_39_7 : (zM 39).1[7]? = some (.iconst 5) := by rfl
theorem zi_39_8 : (zM 39).1[8]? = some (.iaload) := by rfl
theorem zi_39_9 : (zM 39).1[9]? = some (.imul) := by rfl
theorem zi_39_10 : (zM 39).1[10]? = some (.iconst 100) := by rfl
theorem zi_39_11 : (zM 39).1[11]? = some (.idiv) := by rfl
theorem zi_39_12 : (zM 39).1[12]? = some (.invokedynamic 1) := by rfl
theorem zi_39_13 : (zM 39).1[13]? = some (.ireturn) := by rfl
/-- TakeOrPay$Page.fullTop()I -/
def w_39 (E : Nat → Nat) (d : Nat) (a0 : Nat) (h : ZH) (Q : Option Value → ZH → Prop) : Prop := ztag h a0 = 3 ∧ ∃ r2 : Nat, zR h a0 0 = r2 + 1 ∧ (ztag h r2 = 13 ∨ ztag h r2 = 19) ∧ zin 2 (zlen h r2) = true ∧ zin 5 (zlen h r2) = true ∧ 4 ≤ d ∧ Q (some (.int (zmin 12 (((zI h r2 2) * (zI h r2 5)) / 100)))) h
set_option maxRecDepth 20000 in
theorem ok_39 {E : Nat → Nat} {d : Nat} {a0 : Nat} {h : ZH} {Q : Option Value → ZH → Prop} (hw : w_39 E d a0 h Q) : Ct E (d + 1) 39 [.ref a0] h Q := by
  unfold w_39 at hw
  show Gx E (d + 1) 39 0 [.ref a0] [] h Q
  refine zg_const (v := 12) zi_39_0 (by rfl) ?_
  refine zg_aload zi_39_1 rfl ?_
  obtain ⟨t1, hw⟩ := hw
  obtain ⟨r2, er2, hw⟩ := hw
  refine zg_getR (v := .ref r2) zi_39_2 t1 (by rfl) (by show zrv (zR h a0 0) = _; rw [er2]; rfl) ?_
  refine zg_const (v := 2) zi_39_3 (by rfl) ?_
  obtain ⟨t3, hw⟩ := hw
  obtain ⟨hb, hw⟩ := hw
  refine zg_iaload (v := .int (zI h r2 2)) zi_39_4 t3 hb rfl ?_
  refine zg_aload zi_39_5 rfl ?_
  refine zg_getR (v := .ref r2) zi_39_6 t1 (by rfl) (by show zrv (zR h a0 0) = _; rw [er2]; rfl) ?_
  refine zg_const (v := 5) zi_39_7 (by rfl) ?_
  obtain ⟨hb, hw⟩ := hw
  refine zg_iaload (v := .int (zI h r2 5)) zi_39_8 t3 hb rfl ?_
  refine zg_imul zi_39_9 ?_
  refine zg_const (v := 100) zi_39_10 (by rfl) ?_
  refine zg_idiv zi_39_11 (by decide) ?_
  obtain ⟨hd, hw⟩ := hw
  refine zg_min zi_39_12 ⟨by omega, Nat.le_of_ble_eq_true rfl⟩ ?_
  exact zg_ireturn zi_39_13 (by decide) hw
def fz_39 (E : Nat → Nat) (h : ZH) (a0 : Nat) : Int32 := (fun r2 : Nat => zmin 12 (((zI h r2 2) * (zI h r2 5)) / 100)) (zR h a0 0 - 1)
def sz_39 (E : Nat → Nat) (h : ZH) (a0 : Nat) : Prop := ztag h a0 = 3 ∧ ∃ r2 : Nat, zR h a0 0 = r2 + 1 ∧ (ztag h r2 = 13 ∨ ztag h r2 = 19) ∧ zin 2 (zlen h r2) = true ∧ zin 5 (zlen h r2) = true ∧ True
set_option maxRecDepth 20000 in
theorem cz_39 {E : Nat → Nat} {d : Nat} {a0 : Nat} {h : ZH} {Q : Option Value → ZH → Prop} (hd : 5 ≤ d) (hs : sz_39 E h a0) (hq : Q (some (.int (fz_39 E h a0))) h) : Ct E d 39 [.ref a0] h Q := by
  obtain ⟨d, rfl⟩ : ∃ n, d = n + 1 := ⟨d - 1, by omega⟩
  refine ok_39 ?_
  unfold w_39
  unfold sz_39 at hs
  unfold fz_39 at hq
  refine ⟨hs.1, ?_⟩
  have hs := hs.2
  obtain ⟨r2, hr, hs⟩ := hs
  refine ⟨r2, hr, ?_⟩
  rw [hr] at hq
  simp only [Nat.add_sub_cancel] at hq
  refine ⟨hs.1, ?_⟩
  have hs := hs.2
  refine ⟨hs.1, ?_⟩
  have hs := hs.2
  refine ⟨hs.1, ?_⟩
  have hs := hs.2
  refine ⟨by omega, ?_⟩
  exact hq
theorem zq_34 : zQ 34 1 3 3 := by unfold zQ; decide +kernel
theorem zi_34_0 : (zM 34).1[0]? = some (.aload 0) := by rfl
theorem zi_34_1 : (zM 34).1[1]? = some (.iconst 0) := by rfl
theorem zi_34_2 : (zM 34).1[2]? = some (.putfield 3006) := by rfl
theorem zi_34_3 : (zM 34).1[3]? = some (.iconst 0) := by rfl
theorem zi_34_4 : (zM 34).1[4]? = some (.istore 1) := by rfl
theorem zi_34_5 : (zM 34).1[5]? = some (.iload 1) := by rfl
theorem zi_34_6 : (zM 34).1[6]? = some (.aload 0) := by rfl
theorem zi_34_7 : (zM 34).1[7]? = some (.getfield 3200) := by rfl
theorem zi_34_8 : (zM 34).1[8]? = some (.iconst 0) := by rfl
theorem zi_34_9 : (zM 34).1[9]? = some (.iaload) := by rfl
theorem zi_34_10 : (zM 34).1[10]? = some (.if_icmp .ge ((49 : Nat) : Int)) := by rfl
theorem zi_34_11 : (zM 34).1[11]? = some (.iconst 1) := by rfl
theorem zi_34_12 : (zM 34).1[12]? = some (.istore 2) := by rfl
theorem zi_34_13 : (zM 34).1[13]? = some (.iload 2) := by rfl
theorem zi_34_14 : (zM 34).1[14]? = some (.aload 0) := by rfl
theorem zi_34_15 : (zM 34).1[15]? = some (.getfield 3200) := by rfl
theorem zi_34_16 : (zM 34).1[16]? = some (.iconst 1) := by rfl
theorem zi_34_17 : (zM 34).1[17]? = some (.iaload) := by rfl
theorem zi_34_18 : (zM 34).1[18]? = some (.if_icmp .gt ((47 : Nat) : Int)) := by rfl
theorem zi_34_19 : (zM 34).1[19]? = some (.aload 0) := by rfl
theorem zi_34_20 : (zM 34).1[20]? = some (.getfield 3204) := by rfl
theorem zi_34_21 : (zM 34).1[21]? = some (.aload 0) := by rfl
theorem zi_34_22 : (zM 34).1[22]? = some (.getfield 3006) := by rfl
theorem zi_34_23 : (zM 34).1[23]? = some (.iload 1) := by rfl
theorem zi_34_24 : (zM 34).1[24]? = some (.iastore) := by rfl
theorem zi_34_25 : (zM 34).1[25]? = some (.aload 0) := by rfl
theorem zi_34_26 : (zM 34).1[26]? = some (.getfield 3205) := by rfl
theorem zi_34_27 : (zM 34).1[27]? = some (.aload 0) := by rfl
theorem zi_34_28 : (zM 34).1[28]? = some (.getfield 3006) := by rfl
theorem zi_34_29 : (zM 34).1[29]? = some (.iload 2) := by rfl
theorem zi_34_30 : (zM 34).1[30]? = some (.aload 0) := by rfl
theorem zi_34_31 : (zM 34).1[31]? = some (.getfield 3200) := by rfl
theorem zi_34_32 : (zM 34).1[32]? = some (.iconst 1) := by rfl
theorem zi_34_33 : (zM 34).1[33]? = some (.iaload) := by rfl
theorem zi_34_34 : (zM 34).1[34]? = some (.if_icmp .ne ((37 : Nat) : Int)) := by rfl
theorem zi_34_35 : (zM 34).1[35]? = some (.iconst 1) := by rfl
theorem zi_34_36 : (zM 34).1[36]? = some (.goto ((38 : Nat) : Int)) := by rfl
theorem zi_34_37 : (zM 34).1[37]? = some (.iconst 0) := by rfl
theorem zi_34_38 : (zM 34).1[38]? = some (.bastore) := by rfl
theorem zi_34_39 : (zM 34).1[39]? = some (.aload 0) := by rfl
theorem zi_34_40 : (zM 34).1[40]? = some (.dup) := by rfl
theorem zi_34_41 : (zM 34).1[41]? = some (.getfield 3006) := by rfl
theorem zi_34_42 : (zM 34).1[42]? = some (.iconst 1) := by rfl
theorem zi_34_43 : (zM 34).1[43]? = some (.iadd) := by rfl
theorem zi_34_44 : (zM 34).1[44]? = some (.putfield 3006) := by rfl
theorem zi_34_45 : (zM 34).1[45]? = some (.iinc 2 1) := by rfl
theorem zi_34_46 : (zM 34).1[46]? = some (.goto ((13 : Nat) : Int)) := by rfl
theorem zi_34_47 : (zM 34).1[47]? = some (.iinc 1 1) := by rfl
theorem zi_34_48 : (zM 34).1[48]? = some (.goto ((5 : Nat) : Int)) := by rfl
theorem zi_34_49 : (zM 34).1[49]? = some (.iconst 0) := by rfl
theorem zi_34_50 : (zM 34).1[50]? = some (.istore 1) := by rfl
theorem zi_34_51 : (zM 34).1[51]? = some (.iload 1) := by rfl
theorem zi_34_52 : (zM 34).1[52]? = some (.aload 0) := by rfl
theorem zi_34_53 : (zM 34).1[53]? = some (.getfield 3200) := by rfl
theorem zi_34_54 : (zM 34).1[54]? = some (.iconst 0) := by rfl
theorem zi_34_55 : (zM 34).1[55]? = some (.iaload) := by rfl
theorem zi_34_56 : (zM 34).1[56]? = some (.if_icmp .ge ((83 : Nat) : Int)) := by rfl
theorem zi_34_57 : (zM 34).1[57]? = some (.aload 0) := by rfl
theorem zi_34_58 : (zM 34).1[58]? = some (.iload 1) := by rfl
theorem zi_34_59 : (zM 34).1[59]? = some (.invokevirtual 41) := by rfl
theorem zi_34_60 : (zM 34).1[60]? = some (.istore 2) := by rfl
theorem zi_34_61 : (zM 34).1[61]? = some (.aload 0) := by rfl
theorem zi_34_62 : (zM 34).1[62]? = some (.getfield 3202) := by rfl
theorem zi_34_63 : (zM 34).1[63]? = some (.iload 1) := by rfl
theorem zi_34_64 : (zM 34).1[64]? = some (.aload 0) := by rfl
theorem zi_34_65 : (zM 34).1[65]? = some (.aload 0) := by rfl
theorem zi_34_66 : (zM 34).1[66]? = some (.getfield 3200) := by rfl
theorem zi_34_67 : (zM 34).1[67]? = some (.iconst 2) := by rfl
theorem zi_34_68 : (zM 34).1[68]? = some (.iaload) := by rfl
theorem zi_34_69 : (zM 34).1[69]? = some (.iload 2) := by rfl
theorem zi_34_70 : (zM 34).1[70]? = some (.invokevirtual 40) := by rfl
theorem zi_34_71 : (zM 34).1[71]? = some (.iastore) := by rfl
theorem zi_34_72 : (zM 34).1[72]? = some (.aload 0) := by rfl
theorem zi_34_73 : (zM 34).1[73]? = some (.getfield 3203) := by rfl
theorem zi_34_74 : (zM 34).1[74]? = some (.iload 1) := by rfl
theorem zi_34_75 : (zM 34).1[75]? = some (.aload 0) := by rfl
theorem zi_34_76 : (zM 34).1[76]? = some (.aload 0) := by rfl
theorem zi_34_77 : (zM 34).1[77]? = some (.invokevirtual 39) := by rfl
theorem zi_34_78 : (zM 34).1[78]? = some (.iload 2) := by rfl
theorem zi_34_79 : (zM 34).1[79]? = some (.invokevirtual 40) := by rfl
theorem zi_34_80 : (zM 34).1[80]? = some (.iastore) := by rfl
theorem zi_34_81 : (zM 34).1[81]? = some (.iinc 1 1) := by rfl
theorem zi_34_82 : (zM 34).1[82]? = some (.goto ((51 : Nat) : Int)) := by rfl
theorem zi_34_83 : (zM 34).1[83]? = some (.return_) := by rfl
def wl_34_51 (E : Nat → Nat) (d : Nat) (Q : Option Value → ZH → Prop) : Nat → Nat → Int32 → ZH → Prop
  | 0, _, _, _ => False
  | n + 1, a0, a1, h => ztag h a0 = 3 ∧ ∃ r7 : Nat, zR h a0 0 = r7 + 1 ∧ (ztag h r7 = 13 ∨ ztag h r7 = 19) ∧ zin 0 (zlen h r7) = true ∧ (((zI h r7 0 : Int32) ≤ a1 → (Q none h)) ∧ (¬ ((zI h r7 0 : Int32) ≤ a1) → (Ct E d 41 [.ref a0, .int a1] h (fun v h9 => ∃ x10 : Int32, v = some (.int x10) ∧ ztag h9 a0 = 3 ∧ ∃ r12 : Nat, zR h9 a0 2 = r12 + 1 ∧ ∃ r13 : Nat, zR h9 a0 0 = r13 + 1 ∧ (ztag h9 r13 = 13 ∨ ztag h9 r13 = 19) ∧ zin 2 (zlen h9 r13) = true ∧ 1 ≤ d ∧ sz_40 E h9 a0 (zI h9 r13 2) x10 ∧ ztag h9 r12 = 13 ∧ zin a1 (zlen h9 r12) = true ∧ ∀ h16 : ZH, h16 = (zuI h9 r12 a1.toNatClampNeg (fz_40 E h9 a0 (zI h9 r13 2) x10)) → ∃ r17 : Nat, zR h16 a0 3 = r17 + 1 ∧ 5 ≤ d ∧ sz_39 E h16 a0 ∧ 1 ≤ d ∧ sz_40 E h16 a0 (fz_39 E h16 a0) x10 ∧ ztag h16 r17 = 13 ∧ zin a1 (zlen h16 r17) = true ∧ ∀ h19 : ZH, h19 = (zuI h16 r17 a1.toNatClampNeg (fz_40 E h16 a0 (fz_39 E h16 a0) x10)) → ∀ x20 : Int32, x20 = (a1 + 1) → wl_34_51 E d Q n a0 x20 h19))))
set_option maxRecDepth 20000 in
theorem okl_34_51 {E : Nat → Nat} {d : Nat} {Q : Option Value → ZH → Prop} : ∀ (n : Nat) (a0 : Nat) (a1 : Int32) (h : ZH), wl_34_51 E d Q n a0 a1 h → Gx E (d + 1) 34 51 [.ref a0, .int a1, .retAddr 0] [] h Q := by
  intro n
  induction n with
  | zero => intro a0 a1 h hw; exact hw.elim
  | succ n ih =>
    intro a0 a1 h hw
    rw [wl_34_51] at hw
    refine zg_iload zi_34_51 rfl ?_
    refine zg_aload zi_34_52 rfl ?_
    obtain ⟨t6, hw⟩ := hw
    obtain ⟨r7, er7, hw⟩ := hw
    refine zg_getR (v := .ref r7) zi_34_53 t6 (by rfl) (by show zrv (zR h a0 0) = _; rw [er7]; rfl) ?_
    refine zg_const (v := 0) zi_34_54 (by rfl) ?_
    obtain ⟨t8, hw⟩ := hw
    obtain ⟨hb, hw⟩ := hw
    refine zg_iaload (v := .int (zI h r7 0)) zi_34_55 t8 hb rfl ?_
    refine zg_icmp_ge zi_34_56 (fun hc => ?_) (fun hc => ?_)
    · have hw := hw.1 hc
      exact zg_return zi_34_83 hw
    · have hw := hw.2 hc
      refine zg_aload zi_34_57 rfl ?_
      refine zg_iload zi_34_58 rfl ?_
      refine Gx.call2 (as := [.ref a0, .int a1]) (rest := []) zq_41 zi_34_59 rfl rfl rfl (Nat.le_of_ble_eq_true rfl) (Nat.le_of_ble_eq_true rfl) (zrv_v t6 rfl rfl) (Nat.le_of_ble_eq_true rfl) ?_
      refine Ct.mono hw ?_
      rintro v h9 ⟨x10, rfl, hw⟩
      show Gx E (d + 1) 34 60 [.ref a0, .int a1, .retAddr 0] [.int x10] h9 Q
      refine zg_istore (ls1 := [.ref a0, .int a1, .int x10]) zi_34_60 (Nat.le_of_ble_eq_true rfl) rfl ?_
      refine zg_aload zi_34_61 rfl ?_
      obtain ⟨t11, hw⟩ := hw
      obtain ⟨r12, er12, hw⟩ := hw
      refine zg_getR (v := .ref r12) zi_34_62 t11 (by rfl) (by show zrv (zR h9 a0 2) = _; rw [er12]; rfl) ?_
      refine zg_iload zi_34_63 rfl ?_
      refine zg_aload zi_34_64 rfl ?_
      refine zg_aload zi_34_65 rfl ?_
      obtain ⟨r13, er13, hw⟩ := hw
      refine zg_getR (v := .ref r13) zi_34_66 t11 (by rfl) (by show zrv (zR h9 a0 0) = _; rw [er13]; rfl) ?_
      refine zg_const (v := 2) zi_34_67 (by rfl) ?_
      obtain ⟨t14, hw⟩ := hw
      obtain ⟨hb, hw⟩ := hw
      refine zg_iaload (v := .int (zI h9 r13 2)) zi_34_68 t14 hb rfl ?_
      refine zg_iload zi_34_69 rfl ?_
      obtain ⟨hd, hs, hw⟩ := hw
      refine Gx.call2 (as := [.ref a0, .int (zI h9 r13 2), .int x10]) (rest := [.int a1, .ref r12]) zq_40 zi_34_70 rfl rfl rfl (Nat.le_of_ble_eq_true rfl) (Nat.le_of_ble_eq_true rfl) (zrv_v t11 rfl rfl) (Nat.le_of_ble_eq_true rfl) ?_
      refine cz_40 hd hs ?_
      show Gx E (d + 1) 34 71 [.ref a0, .int a1, .int x10] [.int (fz_40 E h9 a0 (zI h9 r13 2) x10), .int a1, .ref r12] h9 Q
      obtain ⟨t15, hw⟩ := hw
      obtain ⟨hb, hw⟩ := hw
      refine zg_iastore (h1 := zuI h9 r12 a1.toNatClampNeg (fz_40 E h9 a0 (zI h9 r13 2) x10)) zi_34_71 t15 hb rfl ?_
      refine zg_nameH fun h16 eh16 => ?_
      have hw := hw h16 eh16
      refine zg_aload zi_34_72 rfl ?_
      obtain ⟨r17, er17, hw⟩ := hw
      refine zg_getR (v := .ref r17) zi_34_73 (by rw [eh16]; exact t11) (by rfl) (by show zrv (zR h16 a0 3) = _; rw [er17]; rfl) ?_
      refine zg_iload zi_34_74 rfl ?_
      refine zg_aload zi_34_75 rfl ?_
      refine zg_aload zi_34_76 rfl ?_
      obtain ⟨hd, hs, hw⟩ := hw
      refine Gx.call2 (as := [.ref a0]) (rest := [.ref a0, .int a1, .ref r17]) zq_39 zi_34_77 rfl rfl rfl (Nat.le_of_ble_eq_true rfl) (Nat.le_of_ble_eq_true rfl) (zrv_v (by rw [eh16]; exact t11) rfl rfl) (Nat.le_of_ble_eq_true rfl) ?_
      refine cz_39 hd hs ?_
      show Gx E (d + 1) 34 78 [.ref a0, .int a1, .int x10] [.int (fz_39 E h16 a0), .ref a0, .int a1, .ref r17] h16 Q
      refine zg_iload zi_34_78 rfl ?_
      obtain ⟨hd, hs, hw⟩ := hw
      refine Gx.call2 (as := [.ref a0, .int (fz_39 E h16 a0), .int x10]) (rest := [.int a1, .ref r17]) zq_40 zi_34_79 rfl rfl rfl (Nat.le_of_ble_eq_true rfl) (Nat.le_of_ble_eq_true rfl) (zrv_v (by rw [eh16]; exact t11) rfl rfl) (Nat.le_of_ble_eq_true rfl) ?_
      refine cz_40 hd hs ?_
      show Gx E (d + 1) 34 80 [.ref a0, .int a1, .int x10] [.int (fz_40 E h16 a0 (fz_39 E h16 a0) x10), .int a1, .ref r17] h16 Q
      obtain ⟨t18, hw⟩ := hw
      obtain ⟨hb, hw⟩ := hw
      refine zg_iastore (h1 := zuI h16 r17 a1.toNatClampNeg (fz_40 E h16 a0 (fz_39 E h16 a0) x10)) zi_34_80 t18 hb rfl ?_
      refine zg_nameH fun h19 eh19 => ?_
      have hw := hw h19 eh19
      obtain ⟨x20, ex20⟩ : ∃ x : Int32, x = a1 + 1 := ⟨_, rfl⟩
      have hw := hw x20 ex20
      refine zg_iinc (v := x20) (ls1 := [.ref a0, .int x20, .int x10]) zi_34_81 rfl (by rw [ex20]; rfl) rfl ?_
      refine zg_goto zi_34_82 ?_
      exact Gx.forget (zrk (zrk (zrd zr0))) (ih a0 x20 h19 hw)
def wb_34_49 (E : Nat → Nat) (d : Nat) (Q : Option Value → ZH → Prop) (a0 : Nat) (h : ZH) : Prop := ∃ mm : Nat, wl_34_51 E d Q mm a0 0 h
set_option maxRecDepth 20000 in
theorem okb_34_49 {E : Nat → Nat} {d : Nat} {Q : Option Value → ZH → Prop} {a0 : Nat} {h : ZH} (hw : wb_34_49 E d Q a0 h) : Gx E (d + 1) 34 49 [.ref a0, .retAddr 0, .retAddr 0] [] h Q := by
  unfold wb_34_49 at hw
  refine zg_const (v := 0) zi_34_49 (by rfl) ?_
  refine zg_istore (ls1 := [.ref a0, .int 0, .retAddr 0]) zi_34_50 (Nat.le_of_ble_eq_true rfl) rfl ?_
  obtain ⟨mm, hw⟩ := hw
  exact okl_34_51 mm a0 0 h hw
def wb_34_47 (E : Nat → Nat) (d : Nat) (Q : Option Value → ZH → Prop) (L_5 : Nat → Int32 → ZH → Prop) (a0 : Nat) (a1 : Int32) (h : ZH) : Prop := ∀ x24 : Int32, x24 = (a1 + 1) → L_5 a0 x24 h
set_option maxRecDepth 20000 in
theorem okb_34_47 {E : Nat → Nat} {d : Nat} {Q : Option Value → ZH → Prop} {L_5 : Nat → Int32 → ZH → Prop} (hL_5 : ∀ (b0 : Nat) (b1 : Int32) (h : ZH), L_5 b0 b1 h → Gx E (d + 1) 34 5 [.ref b0, .int b1, .retAddr 0] [] h Q) {a0 : Nat} {a1 : Int32} {h : ZH} (hw : wb_34_47 E d Q L_5 a0 a1 h) : Gx E (d + 1) 34 47 [.ref a0, .int a1, .retAddr 0] [] h Q := by
  unfold wb_34_47 at hw
  obtain ⟨x24, ex24⟩ : ∃ x : Int32, x = a1 + 1 := ⟨_, rfl⟩
  have hw := hw x24 ex24
  refine zg_iinc (v := x24) (ls1 := [.ref a0, .int x24, .retAddr 0]) zi_34_47 rfl (by rw [ex24]; rfl) rfl ?_
  refine zg_goto zi_34_48 ?_
  exact hL_5 a0 x24 h hw
def wl_34_13 (E : Nat → Nat) (d : Nat) (Q : Option Value → ZH → Prop) (L_5 : Nat → Int32 → ZH → Prop) : Nat → Nat → Int32 → Int32 → ZH → Prop
  | 0, _, _, _, _ => False
  | n + 1, a0, a1, a2, h => ztag h a0 = 3 ∧ ∃ r22 : Nat, zR h a0 0 = r22 + 1 ∧ (ztag h r22 = 13 ∨ ztag h r22 = 19) ∧ zin 1 (zlen h r22) = true ∧ (((zI h r22 1 : Int32) < a2 → (wb_34_47 E d Q L_5 a0 a1 h)) ∧ (¬ ((zI h r22 1 : Int32) < a2) → (∃ r25 : Nat, zR h a0 4 = r25 + 1 ∧ ztag h r25 = 13 ∧ zin (zI h a0 6) (zlen h r25) = true ∧ ∀ h27 : ZH, h27 = (zuI h r25 (zI h a0 6 : Int32).toNatClampNeg a1) → ∃ r28 : Nat, zR h27 a0 5 = r28 + 1 ∧ zin 1 (zlen h27 r22) = true ∧ (ztag h27 r28 = 12 ∨ ztag h27 r28 = 15) ∧ zin (zI h27 a0 6) (zlen h27 r28) = true ∧ ∀ h30 : ZH, h30 = (zuI h27 r28 (zI h27 a0 6 : Int32).toNatClampNeg (zbyte (ztag h27 r28) (if ¬ a2 = (zI h27 r22 1 : Int32) then 0 else 1))) → ∀ h31 : ZH, h31 = (zuI h30 a0 6 ((zI h30 a0 6) + 1)) → ∀ x32 : Int32, x32 = (a2 + 1) → wl_34_13 E d Q L_5 n a0 a1 x32 h31)))
set_option maxRecDepth 20000 in
theorem okl_34_13 {E : Nat → Nat} {d : Nat} {Q : Option Value → ZH → Prop} {L_5 : Nat → Int32 → ZH → Prop} (hL_5 : ∀ (b0 : Nat) (b1 : Int32) (h : ZH), L_5 b0 b1 h → Gx E (d + 1) 34 5 [.ref b0, .int b1, .retAddr 0] [] h Q) : ∀ (n : Nat) (a0 : Nat) (a1 : Int32) (a2 : Int32) (h : ZH), wl_34_13 E d Q L_5 n a0 a1 a2 h → Gx E (d + 1) 34 13 [.ref a0, .int a1, .int a2] [] h Q := by
  intro n
  induction n with
  | zero => intro a0 a1 a2 h hw; exact hw.elim
  | succ n ih =>
    intro a0 a1 a2 h hw
    rw [wl_34_13] at hw
    refine zg_iload zi_34_13 rfl ?_
    refine zg_aload zi_34_14 rfl ?_
    obtain ⟨t21, hw⟩ := hw
    obtain ⟨r22, er22, hw⟩ := hw
    refine zg_getR (v := .ref r22) zi_34_15 t21 (by rfl) (by show zrv (zR h a0 0) = _; rw [er22]; rfl) ?_
    refine zg_const (v := 1) zi_34_16 (by rfl) ?_
    obtain ⟨t23, hw⟩ := hw
    obtain ⟨hb, hw⟩ := hw
    refine zg_iaload (v := .int (zI h r22 1)) zi_34_17 t23 hb rfl ?_
    refine zg_icmp_gt zi_34_18 (fun hc => ?_) (fun hc => ?_)
    · have hw := hw.1 hc
      exact Gx.forget (zrk (zrk (zrd zr0))) (okb_34_47 hL_5 hw)
    · have hw := hw.2 hc
      refine zg_aload zi_34_19 rfl ?_
      obtain ⟨r25, er25, hw⟩ := hw
      refine zg_getR (v := .ref r25) zi_34_20 t21 (by rfl) (by show zrv (zR h a0 4) = _; rw [er25]; rfl) ?_
      refine zg_aload zi_34_21 rfl ?_
      refine zg_getI (v := .int (zI h a0 6)) zi_34_22 t21 (by rfl) rfl ?_
      refine zg_iload zi_34_23 rfl ?_
      obtain ⟨t26, hw⟩ := hw
      obtain ⟨hb, hw⟩ := hw
      refine zg_iastore (h1 := zuI h r25 (zI h a0 6 : Int32).toNatClampNeg a1) zi_34_24 t26 hb rfl ?_
      refine zg_nameH fun h27 eh27 => ?_
      have hw := hw h27 eh27
      refine zg_aload zi_34_25 rfl ?_
      obtain ⟨r28, er28, hw⟩ := hw
      refine zg_getR (v := .ref r28) zi_34_26 (by rw [eh27]; exact t21) (by rfl) (by show zrv (zR h27 a0 5) = _; rw [er28]; rfl) ?_
      refine zg_aload zi_34_27 rfl ?_
      refine zg_getI (v := .int (zI h27 a0 6)) zi_34_28 (by rw [eh27]; exact t21) (by rfl) rfl ?_
      refine zg_iload zi_34_29 rfl ?_
      refine zg_aload zi_34_30 rfl ?_
      refine zg_getR (v := .ref r22) zi_34_31 (by rw [eh27]; exact t21) (by rfl) (by rw [eh27]; show zrv (zR h a0 0) = _; rw [er22]; rfl) ?_
      refine zg_const (v := 1) zi_34_32 (by rfl) ?_
      obtain ⟨hb, hw⟩ := hw
      refine zg_iaload (v := .int (zI h27 r22 1)) zi_34_33 (by rw [eh27]; exact t23) hb rfl ?_
      have g34 : Gx E (d + 1) 34 38 [.ref a0, .int a1, .int a2] [.int (if ¬ a2 = (zI h27 r22 1 : Int32) then 0 else 1), .int (zI h27 a0 6), .ref r28] h27 Q := by
        obtain ⟨t29, hw⟩ := hw
        obtain ⟨hb, hw⟩ := hw
        refine zg_bastore (h1 := zuI h27 r28 (zI h27 a0 6 : Int32).toNatClampNeg (zbyte (ztag h27 r28) (if ¬ a2 = (zI h27 r22 1 : Int32) then 0 else 1))) zi_34_38 t29 hb rfl ?_
        refine zg_nameH fun h30 eh30 => ?_
        have hw := hw h30 eh30
        refine zg_aload zi_34_39 rfl ?_
        refine zg_dup zi_34_40 rfl ?_
        refine zg_getI (v := .int (zI h30 a0 6)) zi_34_41 (by rw [eh30, eh27]; exact t21) (by rfl) rfl ?_
        refine zg_const (v := 1) zi_34_42 (by rfl) ?_
        refine zg_iadd zi_34_43 ?_
        refine zg_putI (h1 := zuI h30 a0 6 ((zI h30 a0 6) + 1)) zi_34_44 (by rw [eh30, eh27]; exact t21) (by rfl) rfl ?_
        refine zg_nameH fun h31 eh31 => ?_
        have hw := hw h31 eh31
        obtain ⟨x32, ex32⟩ : ∃ x : Int32, x = a2 + 1 := ⟨_, rfl⟩
        have hw := hw x32 ex32
        refine zg_iinc (v := x32) (ls1 := [.ref a0, .int a1, .int x32]) zi_34_45 rfl (by rw [ex32]; rfl) rfl ?_
        refine zg_goto zi_34_46 ?_
        exact ih a0 a1 x32 h31 hw
      refine zg_icmp_ne zi_34_34 (fun hc34 => ?_) (fun hc34 => ?_)
      · skip
        refine zg_const (v := 0) zi_34_37 (by rfl) ?_
        have hg := g34
        simp only [if_pos hc34] at hg
        exact hg
      · skip
        refine zg_const (v := 1) zi_34_35 (by rfl) ?_
        refine zg_goto zi_34_36 ?_
        have hg := g34
        simp only [if_neg hc34] at hg
        exact hg
def wl_34_5 (E : Nat → Nat) (d : Nat) (Q : Option Value → ZH → Prop) : Nat → Nat → Int32 → ZH → Prop
  | 0, _, _, _ => False
  | n + 1, a0, a1, h => ztag h a0 = 3 ∧ ∃ r4 : Nat, zR h a0 0 = r4 + 1 ∧ (ztag h r4 = 13 ∨ ztag h r4 = 19) ∧ zin 0 (zlen h r4) = true ∧ (((zI h r4 0 : Int32) ≤ a1 → (wb_34_49 E d Q a0 h)) ∧ (¬ ((zI h r4 0 : Int32) ≤ a1) → (∃ mm : Nat, wl_34_13 E d Q (wl_34_5 E d Q n) mm a0 a1 1 h)))
set_option maxRecDepth 20000 in
theorem okl_34_5 {E : Nat → Nat} {d : Nat} {Q : Option Value → ZH → Prop} : ∀ (n : Nat) (a0 : Nat) (a1 : Int32) (h : ZH), wl_34_5 E d Q n a0 a1 h → Gx E (d + 1) 34 5 [.ref a0, .int a1, .retAddr 0] [] h Q := by
  intro n
  induction n with
  | zero => intro a0 a1 h hw; exact hw.elim
  | succ n ih =>
    intro a0 a1 h hw
    rw [wl_34_5] at hw
    refine zg_iload zi_34_5 rfl ?_
    refine zg_aload zi_34_6 rfl ?_
    obtain ⟨t3, hw⟩ := hw
    obtain ⟨r4, er4, hw⟩ := hw
    refine zg_getR (v := .ref r4) zi_34_7 t3 (by rfl) (by show zrv (zR h a0 0) = _; rw [er4]; rfl) ?_
    refine zg_const (v := 0) zi_34_8 (by rfl) ?_
    obtain ⟨t5, hw⟩ := hw
    obtain ⟨hb, hw⟩ := hw
    refine zg_iaload (v := .int (zI h r4 0)) zi_34_9 t5 hb rfl ?_
    refine zg_icmp_ge zi_34_10 (fun hc => ?_) (fun hc => ?_)
    · have hw := hw.1 hc
      exact Gx.forget (zrk (zrd (zrk zr0))) (okb_34_49 hw)
    · have hw := hw.2 hc
      refine zg_const (v := 1) zi_34_11 (by rfl) ?_
      refine zg_istore (ls1 := [.ref a0, .int a1, .int 1]) zi_34_12 (Nat.le_of_ble_eq_true rfl) rfl ?_
      obtain ⟨mm, hw⟩ := hw
      exact okl_34_13 ih mm a0 a1 1 h hw
/-- TakeOrPay$Page.reckon()V -/
def w_34 (E : Nat → Nat) (d : Nat) (a0 : Nat) (h : ZH) (Q : Option Value → ZH → Prop) : Prop := ztag h a0 = 3 ∧ ∀ h2 : ZH, h2 = (zuI h a0 6 0) → (∃ mm : Nat, wl_34_5 E d Q mm a0 0 h2)
set_option maxRecDepth 20000 in
theorem ok_34 {E : Nat → Nat} {d : Nat} {a0 : Nat} {h : ZH} {Q : Option Value → ZH → Prop} (hw : w_34 E d a0 h Q) : Ct E (d + 1) 34 [.ref a0] h Q := by
  unfold w_34 at hw
  show Gx E (d + 1) 34 0 [.ref a0, .retAddr 0, .retAddr 0] [] h Q
  refine zg_aload zi_34_0 rfl ?_
  refine zg_const (v := 0) zi_34_1 (by rfl) ?_
  obtain ⟨t1, hw⟩ := hw
  refine zg_putI (h1 := zuI h a0 6 0) zi_34_2 t1 (by rfl) rfl ?_
  refine zg_nameH fun h2 eh2 => ?_
  have hw := hw h2 eh2
  refine zg_const (v := 0) zi_34_3 (by rfl) ?_
  refine zg_istore (ls1 := [.ref a0, .int 0, .retAddr 0]) zi_34_4 (Nat.le_of_ble_eq_true rfl) rfl ?_
  obtain ⟨mm, hw⟩ := hw
  exact okl_34_5 mm a0 0 h2 hw
theorem zq_33 : zQ 33 1 2 3 := by unfold zQ; decide +kernel
theorem zi_33_0 : (zM 33).1[0]? = some (.iconst 0) := by rfl
theorem zi_33_1 : (zM 33).1[1]? = some (.istore 1) := by rfl
theorem zi_33_2 : (zM 33).1[2]? = some (.iload 1) := by rfl
theorem zi_33_3 : (zM 33).1[3]? = some (.iconst 20) := by rfl
theorem zi_33_4 : (zM 33).1[4]? = some (.if_icmp .ge ((12 : Nat) : Int)) := by rfl
theorem zi_33_5 : (zM 33).1[5]? = some (.aload 0) := by rfl
theorem zi_33_6 : (zM 33).1[6]? = some (.getfield 3201) := by rfl
theorem zi_33_7 : (zM 33).1[7]? = some (.iload 1) := by rfl
theorem zi_33_8 : (zM 33).1[8]? = some (.iconst (-4)) := by rfl
theorem zi_33_9 : (zM 33).1[9]? = some (.iastore) := by rfl
theorem zi_33_10 : (zM 33).1[10]? = some (.iinc 1 1) := by rfl
theorem zi_33_11 : (zM 33).1[11]? = some (.goto ((2 : Nat) : Int)) := by rfl
theorem zi_33_12 : (zM 33).1[12]? = some (.aload 0) := by rfl
theorem zi_33_13 : (zM 33).1[13]? = some (.invokevirtual 34) := by rfl
theorem zi_33_14 : (zM 33).1[14]? = some (.return_) := by rfl
def wb_33_12 (E : Nat → Nat) (d : Nat) (Q : Option Value → ZH → Prop) (a0 : Nat) (h : ZH) : Prop := ztag h a0 = 3 ∧ Ct E d 34 [.ref a0] h (fun v h2 => v = none ∧ Q none h2)
set_option maxRecDepth 20000 in
theorem okb_33_12 {E : Nat → Nat} {d : Nat} {Q : Option Value → ZH → Prop} {a0 : Nat} {h : ZH} (hw : wb_33_12 E d Q a0 h) : Gx E (d + 1) 33 12 [.ref a0, .retAddr 0] [] h Q := by
  unfold wb_33_12 at hw
  refine zg_aload zi_33_12 rfl ?_
  obtain ⟨t1, hw⟩ := hw
  refine Gx.call2 (as := [.ref a0]) (rest := []) zq_34 zi_33_13 rfl rfl rfl (Nat.le_of_ble_eq_true rfl) (Nat.le_of_ble_eq_true rfl) (zrv_v t1 rfl rfl) (Nat.le_of_ble_eq_true rfl) ?_
  refine Ct.mono hw ?_
  rintro v h2 ⟨rfl, hw⟩
  show Gx E (d + 1) 33 14 [.ref a0, .retAddr 0] [] h2 Q
  exact zg_return zi_33_14 hw
def wl_33_2 (E : Nat → Nat) (d : Nat) (Q : Option Value → ZH → Prop) : Nat → Nat → Int32 → ZH → Prop
  | 0, _, _, _ => False
  | n + 1, a0, a1, h => (20 ≤ a1 → (wb_33_12 E d Q a0 h)) ∧ (¬ (20 ≤ a1) → (ztag h a0 = 3 ∧ ∃ r4 : Nat, zR h a0 1 = r4 + 1 ∧ ztag h r4 = 13 ∧ zin a1 (zlen h r4) = true ∧ ∀ h6 : ZH, h6 = (zuI h r4 a1.toNatClampNeg ((-4))) → ∀ x7 : Int32, x7 = (a1 + 1) → wl_33_2 E d Q n a0 x7 h6))
set_option maxRecDepth 20000 in
theorem okl_33_2 {E : Nat → Nat} {d : Nat} {Q : Option Value → ZH → Prop} : ∀ (n : Nat) (a0 : Nat) (a1 : Int32) (h : ZH), wl_33_2 E d Q n a0 a1 h → Gx E (d + 1) 33 2 [.ref a0, .int a1] [] h Q := by
  intro n
  induction n with
  | zero => intro a0 a1 h hw; exact hw.elim
  | succ n ih =>
    intro a0 a1 h hw
    rw [wl_33_2] at hw
    refine zg_iload zi_33_2 rfl ?_
    refine zg_const (v := 20) zi_33_3 (by rfl) ?_
    refine zg_icmp_ge zi_33_4 (fun hc => ?_) (fun hc => ?_)
    · have hw := hw.1 hc
      exact Gx.forget (zrk (zrd zr0)) (okb_33_12 hw)
    · have hw := hw.2 hc
      refine zg_aload zi_33_5 rfl ?_
      obtain ⟨t3, hw⟩ := hw
      obtain ⟨r4, er4, hw⟩ := hw
      refine zg_getR (v := .ref r4) zi_33_6 t3 (by rfl) (by show zrv (zR h a0 1) = _; rw [er4]; rfl) ?_
      refine zg_iload zi_33_7 rfl ?_
      refine zg_const (v := (-4)) zi_33_8 (by rfl) ?_
      obtain ⟨t5, hw⟩ := hw
      obtain ⟨hb, hw⟩ := hw
      refine zg_iastore (h1 := zuI h r4 a1.toNatClampNeg ((-4))) zi_33_9 t5 hb rfl ?_
      refine zg_nameH fun h6 eh6 => ?_
      have hw := hw h6 eh6
      obtain ⟨x7, ex7⟩ : ∃ x : Int32, x = a1 + 1 := ⟨_, rfl⟩
      have hw := hw x7 ex7
      refine zg_iinc (v := x7) (ls1 := [.ref a0, .int x7]) zi_33_10 rfl (by rw [ex7]; rfl) rfl ?_
      refine zg_goto zi_33_11 ?_
      exact ih a0 x7 h6 hw
/-- TakeOrPay$Page.openAllDays()V -/
def w_33 (E : Nat → Nat) (d : Nat) (a0 : Nat) (h : ZH) (Q : Option Value → ZH → Prop) : Prop := ∃ mm : Nat, wl_33_2 E d Q mm a0 0 h
set_option maxRecDepth 20000 in
theorem ok_33 {E : Nat → Nat} {d : Nat} {a0 : Nat} {h : ZH} {Q : Option Value → ZH → Prop} (hw : w_33 E d a0 h Q) : Ct E (d + 1) 33 [.ref a0] h Q := by
  unfold w_33 at hw
  show Gx E (d + 1) 33 0 [.ref a0, .retAddr 0] [] h Q
  refine zg_const (v := 0) zi_33_0 (by rfl) ?_
  refine zg_istore (ls1 := [.ref a0, .int 0]) zi_33_1 (Nat.le_of_ble_eq_true rfl) rfl ?_
  obtain ⟨mm, hw⟩ := hw
  exact okl_33_2 mm a0 0 h hw
theorem zq_29 : zQ 29 1 1 3 := by unfold zQ; decide +kernel
theorem zi_29_0 : (zM 29).1[0]? = some (.aload 0) := by rfl
theorem zi_29_1 : (zM 29).1[1]? = some (.invokedynamic 3) := by rfl
theorem zi_29_2 : (zM 29).1[2]? = some (.aload 0) := by rfl
theorem zi_29_3 : (zM 29).1[3]? = some (.iconst 39) := by rfl
theorem zi_29_4 : (zM 29).1[4]? = some (.newarray .int) := by rfl
theorem zi_29_5 : (zM 29).1[5]? = some (.putfield 3200) := by rfl
theorem zi_29_6 : (zM 29).1[6]? = some (.aload 0) := by rfl
theorem zi_29_7 : (zM 29).1[7]? = some (.iconst 20) := by rfl
theorem zi_29_8 : (zM 29).1[8]? = some (.newarray .int) := by rfl
theorem zi_29_9 : (zM 29).1[9]? = some (.putfield 3201) := by rfl
theorem zi_29_10 : (zM 29).1[10]? = some (.aload 0) := by rfl
theorem zi_29_11 : (zM 29).1[11]? = some (.iconst 4) := by rfl
theorem zi_29_12 : (zM 29).1[12]? = some (.newarray .int) := by rfl
theorem zi_29_13 : (zM 29).1[13]? = some (.putfield 3202) := by rfl
theorem zi_29_14 : (zM 29).1[14]? = some (.aload 0) := by rfl
theorem zi_29_15 : (zM 29).1[15]? = some (.iconst 4) := by rfl
theorem zi_29_16 : (zM 29).1[16]? = some (.newarray .int) := by rfl
theorem zi_29_17 : (zM 29).1[17]? = some (.putfield 3203) := by rfl
theorem zi_29_18 : (zM 29).1[18]? = some (.aload 0) := by rfl
theorem zi_29_19 : (zM 29).1[19]? = some (.iconst 20) := by rfl
theorem zi_29_20 : (zM 29).1[20]? = some (.newarray .int) := by rfl
theorem zi_29_21 : (zM 29).1[21]? = some (.putfield 3204) := by rfl
theorem zi_29_22 : (zM 29).1[22]? = some (.aload 0) := by rfl
theorem zi_29_23 : (zM 29).1[23]? = some (.iconst 20) := by rfl
theorem zi_29_24 : (zM 29).1[24]? = some (.newarray .boolean) := by rfl
theorem zi_29_25 : (zM 29).1[25]? = some (.putfield 3205) := by rfl
theorem zi_29_26 : (zM 29).1[26]? = some (.aload 0) := by rfl
theorem zi_29_27 : (zM 29).1[27]? = some (.invokevirtual 30) := by rfl
theorem zi_29_28 : (zM 29).1[28]? = some (.aload 0) := by rfl
theorem zi_29_29 : (zM 29).1[29]? = some (.invokevirtual 33) := by rfl
theorem zi_29_30 : (zM 29).1[30]? = some (.return_) := by rfl
/-- TakeOrPay$Page.<init>()V -/
def w_29 (E : Nat → Nat) (d : Nat) (a0 : Nat) (h : ZH) (Q : Option Value → ZH → Prop) : Prop := 4 ≤ d ∧ ∀ h1 : ZH, h1 = (znew h 13 39) → ∀ r2 : Nat, r2 = (zsz h) → ztag h1 a0 = 3 ∧ ∀ h4 : ZH, h4 = (zuR h1 a0 0 (r2 + 1)) → ∀ h5 : ZH, h5 = (znew h4 13 20) → ∀ r6 : Nat, r6 = (zsz h4) → ztag h5 a0 = 3 ∧ ∀ h8 : ZH, h8 = (zuR h5 a0 1 (r6 + 1)) → ∀ h9 : ZH, h9 = (znew h8 13 4) → ∀ r10 : Nat, r10 = (zsz h8) → ztag h9 a0 = 3 ∧ ∀ h12 : ZH, h12 = (zuR h9 a0 2 (r10 + 1)) → ∀ h13 : ZH, h13 = (znew h12 13 4) → ∀ r14 : Nat, r14 = (zsz h12) → ztag h13 a0 = 3 ∧ ∀ h16 : ZH, h16 = (zuR h13 a0 3 (r14 + 1)) → ∀ h17 : ZH, h17 = (znew h16 13 20) → ∀ r18 : Nat, r18 = (zsz h16) → ztag h17 a0 = 3 ∧ ∀ h20 : ZH, h20 = (zuR h17 a0 4 (r18 + 1)) → ∀ h21 : ZH, h21 = (znew h20 15 20) → ∀ r22 : Nat, r22 = (zsz h20) → ztag h21 a0 = 3 ∧ ∀ h24 : ZH, h24 = (zuR h21 a0 5 (r22 + 1)) → ztag h24 a0 = 3 ∧ Ct E d 30 [.ref a0] h24 (fun v h26 => v = none ∧ ztag h26 a0 = 3 ∧ Ct E d 33 [.ref a0] h26 (fun v h28 => v = none ∧ Q none h28))
set_option maxRecDepth 20000 in
theorem ok_29 {E : Nat → Nat} {d : Nat} {a0 : Nat} {h : ZH} {Q : Option Value → ZH → Prop} (hw : w_29 E d a0 h Q) : Ct E (d + 1) 29 [.ref a0] h Q := by
  unfold w_29 at hw
  show Gx E (d + 1) 29 0 [.ref a0] [] h Q
  refine zg_aload zi_29_0 rfl ?_
  obtain ⟨hd, hw⟩ := hw
  refine zg_object zi_29_1 ⟨by omega, Nat.le_of_ble_eq_true rfl⟩ ?_
  refine zg_aload zi_29_2 rfl ?_
  refine zg_const (v := 39) zi_29_3 (by rfl) ?_
  refine zg_newarray_int (N := 39) zi_29_4 (by decide) (by decide) ?_
  refine zg_nameH fun h1 eh1 => ?_
  have hw := hw h1 eh1
  refine zg_nameA fun r2 er2 => ?_
  have hw := hw r2 er2
  obtain ⟨t3, hw⟩ := hw
  refine zg_putR (h1 := zuR h1 a0 0 (r2 + 1)) zi_29_5 t3 (by rfl) rfl ?_
  refine zg_nameH fun h4 eh4 => ?_
  have hw := hw h4 eh4
  refine zg_aload zi_29_6 rfl ?_
  refine zg_const (v := 20) zi_29_7 (by rfl) ?_
  refine zg_newarray_int (N := 20) zi_29_8 (by decide) (by decide) ?_
  refine zg_nameH fun h5 eh5 => ?_
  have hw := hw h5 eh5
  refine zg_nameA fun r6 er6 => ?_
  have hw := hw r6 er6
  obtain ⟨t7, hw⟩ := hw
  refine zg_putR (h1 := zuR h5 a0 1 (r6 + 1)) zi_29_9 t7 (by rfl) rfl ?_
  refine zg_nameH fun h8 eh8 => ?_
  have hw := hw h8 eh8
  refine zg_aload zi_29_10 rfl ?_
  refine zg_const (v := 4) zi_29_11 (by rfl) ?_
  refine zg_newarray_int (N := 4) zi_29_12 (by decide) (by decide) ?_
  refine zg_nameH fun h9 eh9 => ?_
  have hw := hw h9 eh9
  refine zg_nameA fun r10 er10 => ?_
  have hw := hw r10 er10
  obtain ⟨t11, hw⟩ := hw
  refine zg_putR (h1 := zuR h9 a0 2 (r10 + 1)) zi_29_13 t11 (by rfl) rfl ?_
  refine zg_nameH fun h12 eh12 => ?_
  have hw := hw h12 eh12
  refine zg_aload zi_29_14 rfl ?_
  refine zg_const (v := 4) zi_29_15 (by rfl) ?_
  refine zg_newarray_int (N := 4) zi_29_16 (by decide) (by decide) ?_
  refine zg_nameH fun h13 eh13 => ?_
  have hw := hw h13 eh13
  refine zg_nameA fun r14 er14 => ?_
  have hw := hw r14 er14
  obtain ⟨t15, hw⟩ := hw
  refine zg_putR (h1 := zuR h13 a0 3 (r14 + 1)) zi_29_17 t15 (by rfl) rfl ?_
  refine zg_nameH fun h16 eh16 => ?_
  have hw := hw h16 eh16
  refine zg_aload zi_29_18 rfl ?_
  refine zg_const (v := 20) zi_29_19 (by rfl) ?_
  refine zg_newarray_int (N := 20) zi_29_20 (by decide) (by decide) ?_
  refine zg_nameH fun h17 eh17 => ?_
  have hw := hw h17 eh17
  refine zg_nameA fun r18 er18 => ?_
  have hw := hw r18 er18
  obtain ⟨t19, hw⟩ := hw
  refine zg_putR (h1 := zuR h17 a0 4 (r18 + 1)) zi_29_21 t19 (by rfl) rfl ?_
  refine zg_nameH fun h20 eh20 => ?_
  have hw := hw h20 eh20
  refine zg_aload zi_29_22 rfl ?_
  refine zg_const (v := 20) zi_29_23 (by rfl) ?_
  refine zg_newarray_boolean (N := 20) zi_29_24 (by decide) (by decide) ?_
  refine zg_nameH fun h21 eh21 => ?_
  have hw := hw h21 eh21
  refine zg_nameA fun r22 er22 => ?_
  have hw := hw r22 er22
  obtain ⟨t23, hw⟩ := hw
  refine zg_putR (h1 := zuR h21 a0 5 (r22 + 1)) zi_29_25 t23 (by rfl) rfl ?_
  refine zg_nameH fun h24 eh24 => ?_
  have hw := hw h24 eh24
  refine zg_aload zi_29_26 rfl ?_
  obtain ⟨t25, hw⟩ := hw
  refine Gx.call2 (as := [.ref a0]) (rest := []) zq_30 zi_29_27 rfl rfl rfl (Nat.le_of_ble_eq_true rfl) (Nat.le_of_ble_eq_true rfl) (zrv_v t25 rfl rfl) (Nat.le_of_ble_eq_true rfl) ?_
  refine Ct.mono hw ?_
  rintro v h26 ⟨rfl, hw⟩
  show Gx E (d + 1) 29 28 [.ref a0] [] h26 Q
  refine zg_aload zi_29_28 rfl ?_
  obtain ⟨t27, hw⟩ := hw
  refine Gx.call2 (as := [.ref a0]) (rest := []) zq_33 zi_29_29 rfl rfl rfl (Nat.le_of_ble_eq_true rfl) (Nat.le_of_ble_eq_true rfl) (zrv_v t27 rfl rfl) (Nat.le_of_ble_eq_true rfl) ?_
  refine Ct.mono hw ?_
  rintro v h28 ⟨rfl, hw⟩
  show Gx E (d + 1) 29 30 [.ref a0] [] h28 Q
  exact zg_return zi_29_30 hw
theorem zq_13 : zQ 13 3 3 1 := by unfold zQ; decide +kernel
theorem zi_13_0 : (zM 13).1[0]? = some (.aload 0) := by rfl
theorem zi_13_1 : (zM 13).1[1]? = some (.invokedynamic 3) := by rfl
theorem zi_13_2 : (zM 13).1[2]? = some (.aload 0) := by rfl
theorem zi_13_3 : (zM 13).1[3]? = some (.new 3) := by rfl
theorem zi_13_4 : (zM 13).1[4]? = some (.dup) := by rfl
theorem zi_13_5 : (zM 13).1[5]? = some (.invokespecial 29) := by rfl
theorem zi_13_6 : (zM 13).1[6]? = some (.putfield 1202) := by rfl
theorem zi_13_7 : (zM 13).1[7]? = some (.aload 0) := by rfl
theorem zi_13_8 : (zM 13).1[8]? = some (.new 2) := by rfl
theorem zi_13_9 : (zM 13).1[9]? = some (.dup) := by rfl
theorem zi_13_10 : (zM 13).1[10]? = some (.invokespecial 23) := by rfl
theorem zi_13_11 : (zM 13).1[11]? = some (.putfield 1203) := by rfl
theorem zi_13_12 : (zM 13).1[12]? = some (.aload 0) := by rfl
theorem zi_13_13 : (zM 13).1[13]? = some (.iconst 8) := by rfl
theorem zi_13_14 : (zM 13).1[14]? = some (.newarray .boolean) := by rfl
theorem zi_13_15 : (zM 13).1[15]? = some (.putfield 1211) := by rfl
theorem zi_13_16 : (zM 13).1[16]? = some (.aload 0) := by rfl
theorem zi_13_17 : (zM 13).1[17]? = some (.iconst 5) := by rfl
theorem zi_13_18 : (zM 13).1[18]? = some (.newarray .long) := by rfl
theorem zi_13_19 : (zM 13).1[19]? = some (.putfield 1212) := by rfl
theorem zi_13_20 : (zM 13).1[20]? = some (.aload 0) := by rfl
theorem zi_13_21 : (zM 13).1[21]? = some (.iconst 16) := by rfl
theorem zi_13_22 : (zM 13).1[22]? = some (.newarray .long) := by rfl
theorem zi_13_23 : (zM 13).1[23]? = some (.putfield 1213) := by rfl
theorem zi_13_24 : (zM 13).1[24]? = some (.aload 0) := by rfl
theorem zi_13_25 : (zM 13).1[25]? = some (.aload 1) := by rfl
theorem zi_13_26 : (zM 13).1[26]? = some (.putfield 1200) := by rfl
theorem zi_13_27 : (zM 13).1[27]? = some (.aload 0) := by rfl
theorem zi_13_28 : (zM 13).1[28]? = some (.aload 2) := by rfl
theorem zi_13_29 : (zM 13).1[29]? = some (.putfield 1201) := by rfl
theorem zi_13_30 : (zM 13).1[30]? = some (.return_) := by rfl
/-- TakeOrPay$Figures.<init>(LTakeOrPay$Page;LTakeOrPay$Row;)V -/
def w_13 (E : Nat → Nat) (d : Nat) (a0 : Nat) (a1 : Nat) (a2 : Nat) (h : ZH) (Q : Option Value → ZH → Prop) : Prop := 4 ≤ d ∧ ∀ h1 : ZH, h1 = (znew h 3 (zN 3)) → ∀ r2 : Nat, r2 = (zsz h) → ztag h1 r2 = 3 ∧ Ct E d 29 [.ref r2] h1 (fun v h4 => v = none ∧ ztag h4 a0 = 1 ∧ ∀ h6 : ZH, h6 = (zuR h4 a0 2 (r2 + 1)) → ∀ h7 : ZH, h7 = (znew h6 2 (zN 2)) → ∀ r8 : Nat, r8 = (zsz h6) → ztag h7 r8 = 2 ∧ Ct E d 23 [.ref r8] h7 (fun v h10 => v = none ∧ ztag h10 a0 = 1 ∧ ∀ h12 : ZH, h12 = (zuR h10 a0 3 (r8 + 1)) → ∀ h13 : ZH, h13 = (znew h12 15 8) → ∀ r14 : Nat, r14 = (zsz h12) → ztag h13 a0 = 1 ∧ ∀ h16 : ZH, h16 = (zuR h13 a0 11 (r14 + 1)) → ∀ h17 : ZH, h17 = (znew h16 14 5) → ∀ r18 : Nat, r18 = (zsz h16) → ztag h17 a0 = 1 ∧ ∀ h20 : ZH, h20 = (zuR h17 a0 12 (r18 + 1)) → ∀ h21 : ZH, h21 = (znew h20 14 16) → ∀ r22 : Nat, r22 = (zsz h20) → ztag h21 a0 = 1 ∧ ∀ h24 : ZH, h24 = (zuR h21 a0 13 (r22 + 1)) → ztag h24 a0 = 1 ∧ ∀ h26 : ZH, h26 = (zuR h24 a0 0 (a1 + 1)) → ztag h26 a0 = 1 ∧ ∀ h28 : ZH, h28 = (zuR h26 a0 1 (a2 + 1)) → Q none h28))
set_option maxRecDepth 20000 in
theorem ok_13 {E : Nat → Nat} {d : Nat} {a0 : Nat} {a1 : Nat} {a2 : Nat} {h : ZH} {Q : Option Value → ZH → Prop} (hw : w_13 E d a0 a1 a2 h Q) : Ct E (d + 1) 13 [.ref a0, .ref a1, .ref a2] h Q := by
  unfold w_13 at hw
  show Gx E (d + 1) 13 0 [.ref a0, .ref a1, .ref a2] [] h Q
  refine zg_aload zi_13_0 rfl ?_
  obtain ⟨hd, hw⟩ := hw
  refine zg_object zi_13_1 ⟨by omega, Nat.le_of_ble_eq_true rfl⟩ ?_
  refine zg_aload zi_13_2 rfl ?_
  refine zg_new zi_13_3 (by decide) ?_
  refine zg_nameH fun h1 eh1 => ?_
  have hw := hw h1 eh1
  refine zg_nameA fun r2 er2 => ?_
  have hw := hw r2 er2
  refine zg_dup zi_13_4 rfl ?_
  obtain ⟨t3, hw⟩ := hw
  refine Gx.call2 (as := [.ref r2]) (rest := [.ref r2, .ref a0]) zq_29 zi_13_5 rfl rfl rfl (Nat.le_of_ble_eq_true rfl) (Nat.le_of_ble_eq_true rfl) (zrv_i t3 rfl rfl) (Nat.le_of_ble_eq_true rfl) ?_
  refine Ct.mono hw ?_
  rintro v h4 ⟨rfl, hw⟩
  show Gx E (d + 1) 13 6 [.ref a0, .ref a1, .ref a2] [.ref r2, .ref a0] h4 Q
  obtain ⟨t5, hw⟩ := hw
  refine zg_putR (h1 := zuR h4 a0 2 (r2 + 1)) zi_13_6 t5 (by rfl) rfl ?_
  refine zg_nameH fun h6 eh6 => ?_
  have hw := hw h6 eh6
  refine zg_aload zi_13_7 rfl ?_
  refine zg_new zi_13_8 (by decide) ?_
  refine zg_nameH fun h7 eh7 => ?_
  have hw := hw h7 eh7
  refine zg_nameA fun r8 er8 => ?_
  have hw := hw r8 er8
  refine zg_dup zi_13_9 rfl ?_
  obtain ⟨t9, hw⟩ := hw
  refine Gx.call2 (as := [.ref r8]) (rest := [.ref r8, .ref a0]) zq_23 zi_13_10 rfl rfl rfl (Nat.le_of_ble_eq_true rfl) (Nat.le_of_ble_eq_true rfl) (zrv_i t9 rfl rfl) (Nat.le_of_ble_eq_true rfl) ?_
  refine Ct.mono hw ?_
  rintro v h10 ⟨rfl, hw⟩
  show Gx E (d + 1) 13 11 [.ref a0, .ref a1, .ref a2] [.ref r8, .ref a0] h10 Q
  obtain ⟨t11, hw⟩ := hw
  refine zg_putR (h1 := zuR h10 a0 3 (r8 + 1)) zi_13_11 t11 (by rfl) rfl ?_
  refine zg_nameH fun h12 eh12 => ?_
  have hw := hw h12 eh12
  refine zg_aload zi_13_12 rfl ?_
  refine zg_const (v := 8) zi_13_13 (by rfl) ?_
  refine zg_newarray_boolean (N := 8) zi_13_14 (by decide) (by decide) ?_
  refine zg_nameH fun h13 eh13 => ?_
  have hw := hw h13 eh13
  refine zg_nameA fun r14 er14 => ?_
  have hw := hw r14 er14
  obtain ⟨t15, hw⟩ := hw
  refine zg_putR (h1 := zuR h13 a0 11 (r14 + 1)) zi_13_15 t15 (by rfl) rfl ?_
  refine zg_nameH fun h16 eh16 => ?_
  have hw := hw h16 eh16
  refine zg_aload zi_13_16 rfl ?_
  refine zg_const (v := 5) zi_13_17 (by rfl) ?_
  refine zg_newarray_long (N := 5) zi_13_18 (by decide) (by decide) ?_
  refine zg_nameH fun h17 eh17 => ?_
  have hw := hw h17 eh17
  refine zg_nameA fun r18 er18 => ?_
  have hw := hw r18 er18
  obtain ⟨t19, hw⟩ := hw
  refine zg_putR (h1 := zuR h17 a0 12 (r18 + 1)) zi_13_19 t19 (by rfl) rfl ?_
  refine zg_nameH fun h20 eh20 => ?_
  have hw := hw h20 eh20
  refine zg_aload zi_13_20 rfl ?_
  refine zg_const (v := 16) zi_13_21 (by rfl) ?_
  refine zg_newarray_long (N := 16) zi_13_22 (by decide) (by decide) ?_
  refine zg_nameH fun h21 eh21 => ?_
  have hw := hw h21 eh21
  refine zg_nameA fun r22 er22 => ?_
  have hw := hw r22 er22
  obtain ⟨t23, hw⟩ := hw
  refine zg_putR (h1 := zuR h21 a0 13 (r22 + 1)) zi_13_23 t23 (by rfl) rfl ?_
  refine zg_nameH fun h24 eh24 => ?_
  have hw := hw h24 eh24
  refine zg_aload zi_13_24 rfl ?_
  refine zg_aload zi_13_25 rfl ?_
  obtain ⟨t25, hw⟩ := hw
  refine zg_putR (h1 := zuR h24 a0 0 (a1 + 1)) zi_13_26 t25 (by rfl) rfl ?_
  refine zg_nameH fun h26 eh26 => ?_
  have hw := hw h26 eh26
  refine zg_aload zi_13_27 rfl ?_
  refine zg_aload zi_13_28 rfl ?_
  obtain ⟨t27, hw⟩ := hw
  refine zg_putR (h1 := zuR h26 a0 1 (a2 + 1)) zi_13_29 t27 (by rfl) rfl ?_
  refine zg_nameH fun h28 eh28 => ?_
  have hw := hw h28 eh28
  exact zg_return zi_13_30 hw
theorem zq_15 : zQ 15 1 1 1 := by unfold zQ; decide +kernel
theorem zi_15_0 : (zM 15).1[0]? = some (.aload 0) := by rfl
theorem zi_15_1 : (zM 15).1[1]? = some (.iconst 0) := by rfl
theorem zi_15_2 : (zM 15).1[2]? = some (.putfield 1310) := by rfl
theorem zi_15_3 : (zM 15).1[3]? = some (.return_) := by rfl
/-- TakeOrPay$Figures.forgetRow()V -/
def w_15 (E : Nat → Nat) (d : Nat) (a0 : Nat) (h : ZH) (Q : Option Value → ZH → Prop) : Prop := ztag h a0 = 1 ∧ ∀ h2 : ZH, h2 = (zuI h a0 10 0) → Q none h2
set_option maxRecDepth 20000 in
theorem ok_15 {E : Nat → Nat} {d : Nat} {a0 : Nat} {h : ZH} {Q : Option Value → ZH → Prop} (hw : w_15 E d a0 h Q) : Ct E (d + 1) 15 [.ref a0] h Q := by
  unfold w_15 at hw
  show Gx E (d + 1) 15 0 [.ref a0] [] h Q
  refine zg_aload zi_15_0 rfl ?_
  refine zg_const (v := 0) zi_15_1 (by rfl) ?_
  obtain ⟨t1, hw⟩ := hw
  refine zg_putZ (h1 := zuI h a0 10 0) zi_15_2 t1 (by rfl) (by decide) rfl ?_
  refine zg_nameH fun h2 eh2 => ?_
  have hw := hw h2 eh2
  exact zg_return zi_15_3 hw
theorem zq_14 : zQ 14 1 2 1 := by unfold zQ; decide +kernel
theorem zi_14_0 : (zM 14).1[0]? = some (.aload 0) := by rfl
theorem zi_14_1 : (zM 14).1[1]? = some (.iconst 0) := by rfl
theorem zi_14_2 : (zM 14).1[2]? = some (.putfield 1307) := by rfl
theorem zi_14_3 : (zM 14).1[3]? = some (.aload 0) := by rfl
theorem zi_14_4 : (zM 14).1[4]? = some (.iconst 0) := by rfl
theorem zi_14_5 : (zM 14).1[5]? = some (.putfield 1308) := by rfl
theorem zi_14_6 : (zM 14).1[6]? = some (.aload 0) := by rfl
theorem zi_14_7 : (zM 14).1[7]? = some (.iconst 0) := by rfl
theorem zi_14_8 : (zM 14).1[8]? = some (.putfield 1309) := by rfl
theorem zi_14_9 : (zM 14).1[9]? = some (.iconst 0) := by rfl
theorem zi_14_10 : (zM 14).1[10]? = some (.istore 1) := by rfl
theorem zi_14_11 : (zM 14).1[11]? = some (.iload 1) := by rfl
theorem zi_14_12 : (zM 14).1[12]? = some (.iconst 8) := by rfl
theorem zi_14_13 : (zM 14).1[13]? = some (.if_icmp .ge ((21 : Nat) : Int)) := by rfl
theorem zi_14_14 : (zM 14).1[14]? = some (.aload 0) := by rfl
theorem zi_14_15 : (zM 14).1[15]? = some (.getfield 1211) := by rfl
theorem zi_14_16 : (zM 14).1[16]? = some (.iload 1) := by rfl
theorem zi_14_17 : (zM 14).1[17]? = some (.iconst 0) := by rfl
theorem zi_14_18 : (zM 14).1[18]? = some (.bastore) := by rfl
theorem zi_14_19 : (zM 14).1[19]? = some (.iinc 1 1) := by rfl
theorem zi_14_20 : (zM 14).1[20]? = some (.goto ((11 : Nat) : Int)) := by rfl
theorem zi_14_21 : (zM 14).1[21]? = some (.aload 0) := by rfl
theorem zi_14_22 : (zM 14).1[22]? = some (.invokevirtual 15) := by rfl
theorem zi_14_23 : (zM 14).1[23]? = some (.return_) := by rfl
def wb_14_21 (E : Nat → Nat) (d : Nat) (Q : Option Value → ZH → Prop) (a0 : Nat) (h : ZH) : Prop := ztag h a0 = 1 ∧ Ct E d 15 [.ref a0] h (fun v h6 => v = none ∧ Q none h6)
set_option maxRecDepth 20000 in
theorem okb_14_21 {E : Nat → Nat} {d : Nat} {Q : Option Value → ZH → Prop} {a0 : Nat} {h : ZH} (hw : wb_14_21 E d Q a0 h) : Gx E (d + 1) 14 21 [.ref a0, .retAddr 0] [] h Q := by
  unfold wb_14_21 at hw
  refine zg_aload zi_14_21 rfl ?_
  obtain ⟨t5, hw⟩ := hw
  refine Gx.call2 (as := [.ref a0]) (rest := []) zq_15 zi_14_22 rfl rfl rfl (Nat.le_of_ble_eq_true rfl) (Nat.le_of_ble_eq_true rfl) (zrv_v t5 rfl rfl) (Nat.le_of_ble_eq_true rfl) ?_
  refine Ct.mono hw ?_
  rintro v h6 ⟨rfl, hw⟩
  show Gx E (d + 1) 14 23 [.ref a0, .retAddr 0] [] h6 Q
  exact zg_return zi_14_23 hw
def wl_14_11 (E : Nat → Nat) (d : Nat) (Q : Option Value → ZH → Prop) : Nat → Nat → Int32 → ZH → Prop
  | 0, _, _, _ => False
  | n + 1, a0, a1, h => (8 ≤ a1 → (wb_14_21 E d Q a0 h)) ∧ (¬ (8 ≤ a1) → (ztag h a0 = 1 ∧ ∃ r8 : Nat, zR h a0 11 = r8 + 1 ∧ (ztag h r8 = 12 ∨ ztag h r8 = 15) ∧ zin a1 (zlen h r8) = true ∧ ∀ h10 : ZH, h10 = (zuI h r8 a1.toNatClampNeg (zbyte (ztag h r8) 0)) → ∀ x11 : Int32, x11 = (a1 + 1) → wl_14_11 E d Q n a0 x11 h10))
set_option maxRecDepth 20000 in
theorem okl_14_11 {E : Nat → Nat} {d : Nat} {Q : Option Value → ZH → Prop} : ∀ (n : Nat) (a0 : Nat) (a1 : Int32) (h : ZH), wl_14_11 E d Q n a0 a1 h → Gx E (d + 1) 14 11 [.ref a0, .int a1] [] h Q := by
  intro n
  induction n with
  | zero => intro a0 a1 h hw; exact hw.elim
  | succ n ih =>
    intro a0 a1 h hw
    rw [wl_14_11] at hw
    refine zg_iload zi_14_11 rfl ?_
    refine zg_const (v := 8) zi_14_12 (by rfl) ?_
    refine zg_icmp_ge zi_14_13 (fun hc => ?_) (fun hc => ?_)
    · have hw := hw.1 hc
      exact Gx.forget (zrk (zrd zr0)) (okb_14_21 hw)
    · have hw := hw.2 hc
      refine zg_aload zi_14_14 rfl ?_
      obtain ⟨t7, hw⟩ := hw
      obtain ⟨r8, er8, hw⟩ := hw
      refine zg_getR (v := .ref r8) zi_14_15 t7 (by rfl) (by show zrv (zR h a0 11) = _; rw [er8]; rfl) ?_
      refine zg_iload zi_14_16 rfl ?_
      refine zg_const (v := 0) zi_14_17 (by rfl) ?_
      obtain ⟨t9, hw⟩ := hw
      obtain ⟨hb, hw⟩ := hw
      refine zg_bastore (h1 := zuI h r8 a1.toNatClampNeg (zbyte (ztag h r8) 0)) zi_14_18 t9 hb rfl ?_
      refine zg_nameH fun h10 eh10 => ?_
      have hw := hw h10 eh10
      obtain ⟨x11, ex11⟩ : ∃ x : Int32, x = a1 + 1 := ⟨_, rfl⟩
      have hw := hw x11 ex11
      refine zg_iinc (v := x11) (ls1 := [.ref a0, .int x11]) zi_14_19 rfl (by rw [ex11]; rfl) rfl ?_
      refine zg_goto zi_14_20 ?_
      exact ih a0 x11 h10 hw
/-- TakeOrPay$Figures.forgetPage()V -/
def w_14 (E : Nat → Nat) (d : Nat) (a0 : Nat) (h : ZH) (Q : Option Value → ZH → Prop) : Prop := ztag h a0 = 1 ∧ ∀ h2 : ZH, h2 = (zuI h a0 7 0) → ∀ h3 : ZH, h3 = (zuI h2 a0 8 0) → ∀ h4 : ZH, h4 = (zuI h3 a0 9 0) → (∃ mm : Nat, wl_14_11 E d Q mm a0 0 h4)
set_option maxRecDepth 20000 in
theorem ok_14 {E : Nat → Nat} {d : Nat} {a0 : Nat} {h : ZH} {Q : Option Value → ZH → Prop} (hw : w_14 E d a0 h Q) : Ct E (d + 1) 14 [.ref a0] h Q := by
  unfold w_14 at hw
  show Gx E (d + 1) 14 0 [.ref a0, .retAddr 0] [] h Q
  refine zg_aload zi_14_0 rfl ?_
  refine zg_const (v := 0) zi_14_1 (by rfl) ?_
  obtain ⟨t1, hw⟩ := hw
  refine zg_putZ (h1 := zuI h a0 7 0) zi_14_2 t1 (by rfl) (by decide) rfl ?_
  refine zg_nameH fun h2 eh2 => ?_
  have hw := hw h2 eh2
  refine zg_aload zi_14_3 rfl ?_
  refine zg_const (v := 0) zi_14_4 (by rfl) ?_
  refine zg_putZ (h1 := zuI h2 a0 8 0) zi_14_5 (by rw [eh2]; exact t1) (by rfl) (by decide) rfl ?_
  refine zg_nameH fun h3 eh3 => ?_
  have hw := hw h3 eh3
  refine zg_aload zi_14_6 rfl ?_
  refine zg_const (v := 0) zi_14_7 (by rfl) ?_
  refine zg_putZ (h1 := zuI h3 a0 9 0) zi_14_8 (by rw [eh3, eh2]; exact t1) (by rfl) (by decide) rfl ?_
  refine zg_nameH fun h4 eh4 => ?_
  have hw := hw h4 eh4
  refine zg_const (v := 0) zi_14_9 (by rfl) ?_
  refine zg_istore (ls1 := [.ref a0, .int 0]) zi_14_10 (Nat.le_of_ble_eq_true rfl) rfl ?_
  obtain ⟨mm, hw⟩ := hw
  exact okl_14_11 mm a0 0 h4 hw
theorem zq_16 : zQ 16 5 5 1 := by unfold zQ; decide +kernel
theorem zi_16_0 : (zM 16).1[0]? = some (.aload 0) := by rfl
theorem zi_16_1 : (zM 16).1[1]? = some (.getfield 1204) := by rfl
theorem zi_16_2 : (zM 16).1[2]? = some (.ifnonnull ((8 : Nat) : Int)) := by rfl
theorem zi_16_3 : (zM 16).1[3]? = some (.aload 0) := by rfl
theorem zi_16_4 : (zM 16).1[4]? = some (.new 0) := by rfl
theorem zi_16_5 : (zM 16).1[5]? = some (.dup) := by rfl
theorem zi_16_6 : (zM 16).1[6]? = some (.invokespecial 0) := by rfl
theorem zi_16_7 : (zM 16).1[7]? = some (.putfield 1204) := by rfl
theorem zi_16_8 : (zM 16).1[8]? = some (.aload 0) := by rfl
theorem zi_16_9 : (zM 16).1[9]? = some (.getfield 1307) := by rfl
theorem zi_16_10 : (zM 16).1[10]? = some (.ifCond .ne ((19 : Nat) : Int)) := by rfl
theorem zi_16_11 : (zM 16).1[11]? = some (.aload 0) := by rfl
theorem zi_16_12 : (zM 16).1[12]? = some (.getfield 1204) := by rfl
theorem zi_16_13 : (zM 16).1[13]? = some (.aload 0) := by rfl
theorem zi_16_14 : (zM 16).1[14]? = some (.getfield 1200) := by rfl
theorem zi_16_15 : (zM 16).1[15]? = some (.invokevirtual 1) := by rfl
theorem zi_16_16 : (zM 16).1[16]? = some (.aload 0) := by rfl
theorem zi_16_17 : (zM 16).1[17]? = some (.iconst 1) := by rfl
theorem zi_16_18 : (zM 16).1[18]? = some (.putfield 1307) := by rfl
theorem zi_16_19 : (zM 16).1[19]? = some (.aload 0) := by rfl
theorem zi_16_20 : (zM 16).1[20]? = some (.getfield 1204) := by rfl
theorem zi_16_21 : (zM 16).1[21]? = some (.iload 1) := by rfl
theorem zi_16_22 : (zM 16).1[22]? = some (.iload 2) := by rfl
theorem zi_16_23 : (zM 16).1[23]? = some (.iload 3) := by rfl
theorem zi_16_24 : (zM 16).1[24]? = some (.iload 4) := by rfl
theorem zi_16_25 : (zM 16).1[25]? = some (.invokevirtual 9) := by rfl
theorem zi_16_26 : (zM 16).1[26]? = some (.aload 0) := by rfl
theorem zi_16_27 : (zM 16).1[27]? = some (.getfield 1204) := by rfl
theorem zi_16_28 : (zM 16).1[28]? = some (.areturn) := by rfl
def wb_16_19 (E : Nat → Nat) (d : Nat) (Q : Option Value → ZH → Prop) (a0 : Nat) (a1 : Int32) (a2 : Int32) (a3 : Int32) (a4 : Int32) (h : ZH) : Prop := ztag h a0 = 1 ∧ ∃ r11 : Nat, zR h a0 4 = r11 + 1 ∧ ztag h r11 = 0 ∧ Ct E d 9 [.ref r11, .int a1, .int a2, .int a3, .int a4] h (fun v h13 => v = none ∧ ztag h13 a0 = 1 ∧ ∃ r15 : Nat, zR h13 a0 4 = r15 + 1 ∧ Q (some (.ref r15)) h13)
set_option maxRecDepth 20000 in
theorem okb_16_19 {E : Nat → Nat} {d : Nat} {Q : Option Value → ZH → Prop} {a0 : Nat} {a1 : Int32} {a2 : Int32} {a3 : Int32} {a4 : Int32} {h : ZH} (hw : wb_16_19 E d Q a0 a1 a2 a3 a4 h) : Gx E (d + 1) 16 19 [.ref a0, .int a1, .int a2, .int a3, .int a4] [] h Q := by
  unfold wb_16_19 at hw
  refine zg_aload zi_16_19 rfl ?_
  obtain ⟨t10, hw⟩ := hw
  obtain ⟨r11, er11, hw⟩ := hw
  refine zg_getR (v := .ref r11) zi_16_20 t10 (by rfl) (by show zrv (zR h a0 4) = _; rw [er11]; rfl) ?_
  refine zg_iload zi_16_21 rfl ?_
  refine zg_iload zi_16_22 rfl ?_
  refine zg_iload zi_16_23 rfl ?_
  refine zg_iload zi_16_24 rfl ?_
  obtain ⟨t12, hw⟩ := hw
  refine Gx.call2 (as := [.ref r11, .int a1, .int a2, .int a3, .int a4]) (rest := []) zq_9 zi_16_25 rfl rfl rfl (Nat.le_of_ble_eq_true rfl) (Nat.le_of_ble_eq_true rfl) (zrv_v t12 rfl rfl) (Nat.le_of_ble_eq_true rfl) ?_
  refine Ct.mono hw ?_
  rintro v h13 ⟨rfl, hw⟩
  show Gx E (d + 1) 16 26 [.ref a0, .int a1, .int a2, .int a3, .int a4] [] h13 Q
  refine zg_aload zi_16_26 rfl ?_
  obtain ⟨t14, hw⟩ := hw
  obtain ⟨r15, er15, hw⟩ := hw
  refine zg_getR (v := .ref r15) zi_16_27 t14 (by rfl) (by show zrv (zR h13 a0 4) = _; rw [er15]; rfl) ?_
  exact zg_areturn zi_16_28 hw
def wb_16_8 (E : Nat → Nat) (d : Nat) (Q : Option Value → ZH → Prop) (a0 : Nat) (a1 : Int32) (a2 : Int32) (a3 : Int32) (a4 : Int32) (h : ZH) : Prop := ztag h a0 = 1 ∧ ((¬ (zI h a0 7 : Int32) = 0 → (wb_16_19 E d Q a0 a1 a2 a3 a4 h)) ∧ (¬ (¬ (zI h a0 7 : Int32) = 0) → (∃ r16 : Nat, zR h a0 4 = r16 + 1 ∧ ∃ r17 : Nat, zR h a0 0 = r17 + 1 ∧ ztag h r16 = 0 ∧ Ct E d 1 [.ref r16, .ref r17] h (fun v h19 => v = none ∧ ztag h19 a0 = 1 ∧ ∀ h21 : ZH, h21 = (zuI h19 a0 7 1) → wb_16_19 E d Q a0 a1 a2 a3 a4 h21))))
set_option maxRecDepth 20000 in
theorem okb_16_8 {E : Nat → Nat} {d : Nat} {Q : Option Value → ZH → Prop} {a0 : Nat} {a1 : Int32} {a2 : Int32} {a3 : Int32} {a4 : Int32} {h : ZH} (hw : wb_16_8 E d Q a0 a1 a2 a3 a4 h) : Gx E (d + 1) 16 8 [.ref a0, .int a1, .int a2, .int a3, .int a4] [] h Q := by
  unfold wb_16_8 at hw
  refine zg_aload zi_16_8 rfl ?_
  obtain ⟨t9, hw⟩ := hw
  refine zg_getZ (v := .int (zI h a0 7)) zi_16_9 t9 (by rfl) rfl ?_
  refine zg_if_ne zi_16_10 (fun hc => ?_) (fun hc => ?_)
  · have hw := hw.1 hc
    exact okb_16_19 hw
  · have hw := hw.2 hc
    refine zg_aload zi_16_11 rfl ?_
    obtain ⟨r16, er16, hw⟩ := hw
    refine zg_getR (v := .ref r16) zi_16_12 t9 (by rfl) (by show zrv (zR h a0 4) = _; rw [er16]; rfl) ?_
    refine zg_aload zi_16_13 rfl ?_
    obtain ⟨r17, er17, hw⟩ := hw
    refine zg_getR (v := .ref r17) zi_16_14 t9 (by rfl) (by show zrv (zR h a0 0) = _; rw [er17]; rfl) ?_
    obtain ⟨t18, hw⟩ := hw
    refine Gx.call2 (as := [.ref r16, .ref r17]) (rest := []) zq_1 zi_16_15 rfl rfl rfl (Nat.le_of_ble_eq_true rfl) (Nat.le_of_ble_eq_true rfl) (zrv_v t18 rfl rfl) (Nat.le_of_ble_eq_true rfl) ?_
    refine Ct.mono hw ?_
    rintro v h19 ⟨rfl, hw⟩
    show Gx E (d + 1) 16 16 [.ref a0, .int a1, .int a2, .int a3, .int a4] [] h19 Q
    refine zg_aload zi_16_16 rfl ?_
    refine zg_const (v := 1) zi_16_17 (by rfl) ?_
    obtain ⟨t20, hw⟩ := hw
    refine zg_putZ (h1 := zuI h19 a0 7 1) zi_16_18 t20 (by rfl) (by decide) rfl ?_
    refine zg_nameH fun h21 eh21 => ?_
    have hw := hw h21 eh21
    exact okb_16_19 hw
/-- TakeOrPay$Figures.bestFrom(IIII)LTakeOrPay$Best; -/
def w_16 (E : Nat → Nat) (d : Nat) (a0 : Nat) (a1 : Int32) (a2 : Int32) (a3 : Int32) (a4 : Int32) (h : ZH) (Q : Option Value → ZH → Prop) : Prop := ztag h a0 = 1 ∧ ((zR h a0 4 = 0 → (∀ h3 : ZH, h3 = (znew h 0 (zN 0)) → ∀ r4 : Nat, r4 = (zsz h) → ztag h3 r4 = 0 ∧ Ct E d 0 [.ref r4] h3 (fun v h6 => v = none ∧ ztag h6 a0 = 1 ∧ ∀ h8 : ZH, h8 = (zuR h6 a0 4 (r4 + 1)) → wb_16_8 E d Q a0 a1 a2 a3 a4 h8))) ∧ (∀ r2 : Nat, zR h a0 4 = r2 + 1 → (wb_16_8 E d Q a0 a1 a2 a3 a4 h)))
set_option maxRecDepth 20000 in
theorem ok_16 {E : Nat → Nat} {d : Nat} {a0 : Nat} {a1 : Int32} {a2 : Int32} {a3 : Int32} {a4 : Int32} {h : ZH} {Q : Option Value → ZH → Prop} (hw : w_16 E d a0 a1 a2 a3 a4 h Q) : Ct E (d + 1) 16 [.ref a0, .int a1, .int a2, .int a3, .int a4] h Q := by
  unfold w_16 at hw
  show Gx E (d + 1) 16 0 [.ref a0, .int a1, .int a2, .int a3, .int a4] [] h Q
  refine zg_aload zi_16_0 rfl ?_
  obtain ⟨t1, hw⟩ := hw
  rcases hz2 : zR h a0 4 with _ | r2
  · have hw := hw.1 hz2
    refine zg_getR (v := .null) zi_16_1 t1 (by rfl) (by show zrv (zR h a0 4) = _; rw [hz2]; rfl) ?_
    refine zg_nonnullN zi_16_2 ?_
    refine zg_aload zi_16_3 rfl ?_
    refine zg_new zi_16_4 (by decide) ?_
    refine zg_nameH fun h3 eh3 => ?_
    have hw := hw h3 eh3
    refine zg_nameA fun r4 er4 => ?_
    have hw := hw r4 er4
    refine zg_dup zi_16_5 rfl ?_
    obtain ⟨t5, hw⟩ := hw
    refine Gx.call2 (as := [.ref r4]) (rest := [.ref r4, .ref a0]) zq_0 zi_16_6 rfl rfl rfl (Nat.le_of_ble_eq_true rfl) (Nat.le_of_ble_eq_true rfl) (zrv_i t5 rfl rfl) (Nat.le_of_ble_eq_true rfl) ?_
    refine Ct.mono hw ?_
    rintro v h6 ⟨rfl, hw⟩
    show Gx E (d + 1) 16 7 [.ref a0, .int a1, .int a2, .int a3, .int a4] [.ref r4, .ref a0] h6 Q
    obtain ⟨t7, hw⟩ := hw
    refine zg_putR (h1 := zuR h6 a0 4 (r4 + 1)) zi_16_7 t7 (by rfl) rfl ?_
    refine zg_nameH fun h8 eh8 => ?_
    have hw := hw h8 eh8
    exact okb_16_8 hw
  · have hw := hw.2 r2 hz2
    refine zg_getR (v := .ref r2) zi_16_1 t1 (by rfl) (by show zrv (zR h a0 4) = _; rw [hz2]; rfl) ?_
    refine zg_nonnull zi_16_2 ?_
    exact okb_16_8 hw
theorem zq_72 : zQ 72 1 1 7 := by unfold zQ; decide +kernel
theorem zi_72_0 : (zM 72).1[0]? = some (.aload 0) := by rfl
theorem zi_72_1 : (zM 72).1[1]? = some (.invokedynamic 3) := by rfl
theorem zi_72_2 : (zM 72).1[2]? = some (.aload 0) := by rfl
theorem zi_72_3 : (zM 72).1[3]? = some (.iconst 1323) := by rfl
theorem zi_72_4 : (zM 72).1[4]? = some (.newarray .long) := by rfl
theorem zi_72_5 : (zM 72).1[5]? = some (.putfield 7200) := by rfl
theorem zi_72_6 : (zM 72).1[6]? = some (.aload 0) := by rfl
theorem zi_72_7 : (zM 72).1[7]? = some (.iconst 1323) := by rfl
theorem zi_72_8 : (zM 72).1[8]? = some (.newarray .long) := by rfl
theorem zi_72_9 : (zM 72).1[9]? = some (.putfield 7201) := by rfl
theorem zi_72_10 : (zM 72).1[10]? = some (.aload 0) := by rfl
theorem zi_72_11 : (zM 72).1[11]? = some (.iconst 1323) := by rfl
theorem zi_72_12 : (zM 72).1[12]? = some (.newarray .int) := by rfl
theorem zi_72_13 : (zM 72).1[13]? = some (.putfield 7202) := by rfl
theorem zi_72_14 : (zM 72).1[14]? = some (.aload 0) := by rfl
theorem zi_72_15 : (zM 72).1[15]? = some (.iconst 1323) := by rfl
theorem zi_72_16 : (zM 72).1[16]? = some (.newarray .int) := by rfl
theorem zi_72_17 : (zM 72).1[17]? = some (.putfield 7203) := by rfl
theorem zi_72_18 : (zM 72).1[18]? = some (.aload 0) := by rfl
theorem zi_72_19 : (zM 72).1[19]? = some (.new 2) := by rfl
theorem zi_72_20 : (zM 72).1[20]? = some (.dup) := by rfl
theorem zi_72_21 : (zM 72).1[21]? = some (.invokespecial 23) := by rfl
theorem zi_72_22 : (zM 72).1[22]? = some (.putfield 7206) := by rfl
theorem zi_72_23 : (zM 72).1[23]? = some (.return_) := by rfl
/-- TakeOrPay$Spread.<init>()V -/
def w_72 (E : Nat → Nat) (d : Nat) (a0 : Nat) (h : ZH) (Q : Option Value → ZH → Prop) : Prop := 4 ≤ d ∧ ∀ h1 : ZH, h1 = (znew h 14 1323) → ∀ r2 : Nat, r2 = (zsz h) → ztag h1 a0 = 7 ∧ ∀ h4 : ZH, h4 = (zuR h1 a0 0 (r2 + 1)) → ∀ h5 : ZH, h5 = (znew h4 14 1323) → ∀ r6 : Nat, r6 = (zsz h4) → ztag h5 a0 = 7 ∧ ∀ h8 : ZH, h8 = (zuR h5 a0 1 (r6 + 1)) → ∀ h9 : ZH, h9 = (znew h8 13 1323) → ∀ r10 : Nat, r10 = (zsz h8) → ztag h9 a0 = 7 ∧ ∀ h12 : ZH, h12 = (zuR h9 a0 2 (r10 + 1)) → ∀ h13 : ZH, h13 = (znew h12 13 1323) → ∀ r14 : Nat, r14 = (zsz h12) → ztag h13 a0 = 7 ∧ ∀ h16 : ZH, h16 = (zuR h13 a0 3 (r14 + 1)) → ∀ h17 : ZH, h17 = (znew h16 2 (zN 2)) → ∀ r18 : Nat, r18 = (zsz h16) → ztag h17 r18 = 2 ∧ Ct E d 23 [.ref r18] h17 (fun v h20 => v = none ∧ ztag h20 a0 = 7 ∧ ∀ h22 : ZH, h22 = (zuR h20 a0 6 (r18 + 1)) → Q none h22)
set_option maxRecDepth 20000 in
theorem ok_72 {E : Nat → Nat} {d : Nat} {a0 : Nat} {h : ZH} {Q : Option Value → ZH → Prop} (hw : w_72 E d a0 h Q) : Ct E (d + 1) 72 [.ref a0] h Q := by
  unfold w_72 at hw
  show Gx E (d + 1) 72 0 [.ref a0] [] h Q
  refine zg_aload zi_72_0 rfl ?_
  obtain ⟨hd, hw⟩ := hw
  refine zg_object zi_72_1 ⟨by omega, Nat.le_of_ble_eq_true rfl⟩ ?_
  refine zg_aload zi_72_2 rfl ?_
  refine zg_const (v := 1323) zi_72_3 (by rfl) ?_
  refine zg_newarray_long (N := 1323) zi_72_4 (by decide) (by decide) ?_
  refine zg_nameH fun h1 eh1 => ?_
  have hw := hw h1 eh1
  refine zg_nameA fun r2 er2 => ?_
  have hw := hw r2 er2
  obtain ⟨t3, hw⟩ := hw
  refine zg_putR (h1 := zuR h1 a0 0 (r2 + 1)) zi_72_5 t3 (by rfl) rfl ?_
  refine zg_nameH fun h4 eh4 => ?_
  have hw := hw h4 eh4
  refine zg_aload zi_72_6 rfl ?_
  refine zg_const (v := 1323) zi_72_7 (by rfl) ?_
  refine zg_newarray_long (N := 1323) zi_72_8 (by decide) (by decide) ?_
  refine zg_nameH fun h5 eh5 => ?_
  have hw := hw h5 eh5
  refine zg_nameA fun r6 er6 => ?_
  have hw := hw r6 er6
  obtain ⟨t7, hw⟩ := hw
  refine zg_putR (h1 := zuR h5 a0 1 (r6 + 1)) zi_72_9 t7 (by rfl) rfl ?_
  refine zg_nameH fun h8 eh8 => ?_
  have hw := hw h8 eh8
  refine zg_aload zi_72_10 rfl ?_
  refine zg_const (v := 1323) zi_72_11 (by rfl) ?_
  refine zg_newarray_int (N := 1323) zi_72_12 (by decide) (by decide) ?_
  refine zg_nameH fun h9 eh9 => ?_
  have hw := hw h9 eh9
  refine zg_nameA fun r10 er10 => ?_
  have hw := hw r10 er10
  obtain ⟨t11, hw⟩ := hw
  refine zg_putR (h1 := zuR h9 a0 2 (r10 + 1)) zi_72_13 t11 (by rfl) rfl ?_
  refine zg_nameH fun h12 eh12 => ?_
  have hw := hw h12 eh12
  refine zg_aload zi_72_14 rfl ?_
  refine zg_const (v := 1323) zi_72_15 (by rfl) ?_
  refine zg_newarray_int (N := 1323) zi_72_16 (by decide) (by decide) ?_
  refine zg_nameH fun h13 eh13 => ?_
  have hw := hw h13 eh13
  refine zg_nameA fun r14 er14 => ?_
  have hw := hw r14 er14
  obtain ⟨t15, hw⟩ := hw
  refine zg_putR (h1 := zuR h13 a0 3 (r14 + 1)) zi_72_17 t15 (by rfl) rfl ?_
  refine zg_nameH fun h16 eh16 => ?_
  have hw := hw h16 eh16
  refine zg_aload zi_72_18 rfl ?_
  refine zg_new zi_72_19 (by decide) ?_
  refine zg_nameH fun h17 eh17 => ?_
  have hw := hw h17 eh17
  refine zg_nameA fun r18 er18 => ?_
  have hw := hw r18 er18
  refine zg_dup zi_72_20 rfl ?_
  obtain ⟨t19, hw⟩ := hw
  refine Gx.call2 (as := [.ref r18]) (rest := [.ref r18, .ref a0]) zq_23 zi_72_21 rfl rfl rfl (Nat.le_of_ble_eq_true rfl) (Nat.le_of_ble_eq_true rfl) (zrv_i t19 rfl rfl) (Nat.le_of_ble_eq_true rfl) ?_
  refine Ct.mono hw ?_
  rintro v h20 ⟨rfl, hw⟩
  show Gx E (d + 1) 72 22 [.ref a0] [.ref r18, .ref a0] h20 Q
  obtain ⟨t21, hw⟩ := hw
  refine zg_putR (h1 := zuR h20 a0 6 (r18 + 1)) zi_72_22 t21 (by rfl) rfl ?_
  refine zg_nameH fun h22 eh22 => ?_
  have hw := hw h22 eh22
  exact zg_return zi_72_23 hw
theorem zq_17 : zQ 17 1 1 1 := by unfold zQ; decide +kernel
theorem zi_17_0 : (zM 17).1[0]? = some (.aload 0) := by rfl
theorem zi_17_1 : (zM 17).1[1]? = some (.getfield 1205) := by rfl
theorem zi_17_2 : (zM 17).1[2]? = some (.ifnonnull ((8 : Nat) : Int)) := by rfl
theorem zi_17_3 : (zM 17).1[3]? = some (.aload 0) := by rfl
theorem zi_17_4 : (zM 17).1[4]? = some (.new 0) := by rfl
theorem zi_17_5 : (zM 17).1[5]? = some (.dup) := by rfl
theorem zi_17_6 : (zM 17).1[6]? = some (.invokespecial 0) := by rfl
theorem zi_17_7 : (zM 17).1[7]? = some (.putfield 1205) := by rfl
theorem zi_17_8 : (zM 17).1[8]? = some (.aload 0) := by rfl
theorem zi_17_9 : (zM 17).1[9]? = some (.getfield 1206) := by rfl
theorem zi_17_10 : (zM 17).1[10]? = some (.ifnonnull ((16 : Nat) : Int)) := by rfl
theorem zi_17_11 : (zM 17).1[11]? = some (.aload 0) := by rfl
theorem zi_17_12 : (zM 17).1[12]? = some (.new 7) := by rfl
theorem zi_17_13 : (zM 17).1[13]? = some (.dup) := by rfl
theorem zi_17_14 : (zM 17).1[14]? = some (.invokespecial 72) := by rfl
theorem zi_17_15 : (zM 17).1[15]? = some (.putfield 1206) := by rfl
theorem zi_17_16 : (zM 17).1[16]? = some (.return_) := by rfl
def wb_17_8 (E : Nat → Nat) (d : Nat) (Q : Option Value → ZH → Prop) (a0 : Nat) (h : ZH) : Prop := ztag h a0 = 1 ∧ ((zR h a0 6 = 0 → (∀ h11 : ZH, h11 = (znew h 7 (zN 7)) → ∀ r12 : Nat, r12 = (zsz h) → ztag h11 r12 = 7 ∧ Ct E d 72 [.ref r12] h11 (fun v h14 => v = none ∧ ztag h14 a0 = 1 ∧ ∀ h16 : ZH, h16 = (zuR h14 a0 6 (r12 + 1)) → Q none h16))) ∧ (∀ r10 : Nat, zR h a0 6 = r10 + 1 → (Q none h)))
set_option maxRecDepth 20000 in
theorem okb_17_8 {E : Nat → Nat} {d : Nat} {Q : Option Value → ZH → Prop} {a0 : Nat} {h : ZH} (hw : wb_17_8 E d Q a0 h) : Gx E (d + 1) 17 8 [.ref a0] [] h Q := by
  unfold wb_17_8 at hw
  refine zg_aload zi_17_8 rfl ?_
  obtain ⟨t9, hw⟩ := hw
  rcases hz10 : zR h a0 6 with _ | r10
  · have hw := hw.1 hz10
    refine zg_getR (v := .null) zi_17_9 t9 (by rfl) (by show zrv (zR h a0 6) = _; rw [hz10]; rfl) ?_
    refine zg_nonnullN zi_17_10 ?_
    refine zg_aload zi_17_11 rfl ?_
    refine zg_new zi_17_12 (by decide) ?_
    refine zg_nameH fun h11 eh11 => ?_
    have hw := hw h11 eh11
    refine zg_nameA fun r12 er12 => ?_
    have hw := hw r12 er12
    refine zg_dup zi_17_13 rfl ?_
    obtain ⟨t13, hw⟩ := hw
    refine Gx.call2 (as := [.ref r12]) (rest := [.ref r12, .ref a0]) zq_72 zi_17_14 rfl rfl rfl (Nat.le_of_ble_eq_true rfl) (Nat.le_of_ble_eq_true rfl) (zrv_i t13 rfl rfl) (Nat.le_of_ble_eq_true rfl) ?_
    refine Ct.mono hw ?_
    rintro v h14 ⟨rfl, hw⟩
    show Gx E (d + 1) 17 15 [.ref a0] [.ref r12, .ref a0] h14 Q
    obtain ⟨t15, hw⟩ := hw
    refine zg_putR (h1 := zuR h14 a0 6 (r12 + 1)) zi_17_15 t15 (by rfl) rfl ?_
    refine zg_nameH fun h16 eh16 => ?_
    have hw := hw h16 eh16
    exact zg_return zi_17_16 hw
  · have hw := hw.2 r10 hz10
    refine zg_getR (v := .ref r10) zi_17_9 t9 (by rfl) (by show zrv (zR h a0 6) = _; rw [hz10]; rfl) ?_
    refine zg_nonnull zi_17_10 ?_
    exact zg_return zi_17_16 hw
/-- TakeOrPay$Figures.makeTrialRoom()V -/
def w_17 (E : Nat → Nat) (d : Nat) (a0 : Nat) (h : ZH) (Q : Option Value → ZH → Prop) : Prop := ztag h a0 = 1 ∧ ((zR h a0 5 = 0 → (∀ h3 : ZH, h3 = (znew h 0 (zN 0)) → ∀ r4 : Nat, r4 = (zsz h) → ztag h3 r4 = 0 ∧ Ct E d 0 [.ref r4] h3 (fun v h6 => v = none ∧ ztag h6 a0 = 1 ∧ ∀ h8 : ZH, h8 = (zuR h6 a0 5 (r4 + 1)) → wb_17_8 E d Q a0 h8))) ∧ (∀ r2 : Nat, zR h a0 5 = r2 + 1 → (wb_17_8 E d Q a0 h)))
set_option maxRecDepth 20000 in
theorem ok_17 {E : Nat → Nat} {d : Nat} {a0 : Nat} {h : ZH} {Q : Option Value → ZH → Prop} (hw : w_17 E d a0 h Q) : Ct E (d + 1) 17 [.ref a0] h Q := by
  unfold w_17 at hw
  show Gx E (d + 1) 17 0 [.ref a0] [] h Q
  refine zg_aload zi_17_0 rfl ?_
  obtain ⟨t1, hw⟩ := hw
  rcases hz2 : zR h a0 5 with _ | r2
  · have hw := hw.1 hz2
    refine zg_getR (v := .null) zi_17_1 t1 (by rfl) (by show zrv (zR h a0 5) = _; rw [hz2]; rfl) ?_
    refine zg_nonnullN zi_17_2 ?_
    refine zg_aload zi_17_3 rfl ?_
    refine zg_new zi_17_4 (by decide) ?_
    refine zg_nameH fun h3 eh3 => ?_
    have hw := hw h3 eh3
    refine zg_nameA fun r4 er4 => ?_
    have hw := hw r4 er4
    refine zg_dup zi_17_5 rfl ?_
    obtain ⟨t5, hw⟩ := hw
    refine Gx.call2 (as := [.ref r4]) (rest := [.ref r4, .ref a0]) zq_0 zi_17_6 rfl rfl rfl (Nat.le_of_ble_eq_true rfl) (Nat.le_of_ble_eq_true rfl) (zrv_i t5 rfl rfl) (Nat.le_of_ble_eq_true rfl) ?_
    refine Ct.mono hw ?_
    rintro v h6 ⟨rfl, hw⟩
    show Gx E (d + 1) 17 7 [.ref a0] [.ref r4, .ref a0] h6 Q
    obtain ⟨t7, hw⟩ := hw
    refine zg_putR (h1 := zuR h6 a0 5 (r4 + 1)) zi_17_7 t7 (by rfl) rfl ?_
    refine zg_nameH fun h8 eh8 => ?_
    have hw := hw h8 eh8
    exact okb_17_8 hw
  · have hw := hw.2 r2 hz2
    refine zg_getR (v := .ref r2) zi_17_1 t1 (by rfl) (by show zrv (zR h a0 5) = _; rw [hz2]; rfl) ?_
    refine zg_nonnull zi_17_2 ?_
    exact okb_17_8 hw
theorem zq_75 : zQ 75 3 4 7 := by unfold zQ; decide +kernel
theorem zi_75_0 : (zM 75).1[0]? = some (.aload 0) := by rfl
theorem zi_75_1 : (zM 75).1[1]? = some (.getfield 7201) := by rfl
theorem zi_75_2 : (zM 75).1[2]? = some (.iload 1) := by rfl
theorem zi_75_3 : (zM 75).1[3]? = some (.laload) := by rfl
theorem zi_75_4 : (zM 75).1[4]? = some (.jsr_w 0) := by rfl
theorem zi_75_5 : (zM 75).1[5]? = some (.lcmp) := by rfl
theorem zi_75_6 : (zM 75).1[6]? = some (.ifCond .ne ((19 : Nat) : Int)) := by rfl
theorem zi_75_7 : (zM 75).1[7]? = some (.aload 0) := by rfl
theorem zi_75_8 : (zM 75).1[8]? = some (.getfield 7203) := by rfl
theorem zi_75_9 : (zM 75).1[9]? = some (.aload 0) := by rfl
theorem zi_75_10 : (zM 75).1[10]? = some (.getfield 7005) := by rfl
theorem zi_75_11 : (zM 75).1[11]? = some (.iload 1) := by rfl
theorem zi_75_12 : (zM 75).1[12]? = some (.iastore) := by rfl
theorem zi_75_13 : (zM 75).1[13]? = some (.aload 0) := by rfl
theorem zi_75_14 : (zM 75).1[14]? = some (.dup) := by rfl
theorem zi_75_15 : (zM 75).1[15]? = some (.getfield 7005) := by rfl
theorem zi_75_16 : (zM 75).1[16]? = some (.iconst 1) := by rfl
theorem zi_75_17 : (zM 75).1[17]? = some (.iadd) := by rfl
theorem zi_75_18 : (zM 75).1[18]? = some (.putfield 7005) := by rfl
theorem zi_75_19 : (zM 75).1[19]? = some (.aload 0) := by rfl
theorem zi_75_20 : (zM 75).1[20]? = some (.getfield 7201) := by rfl
theorem zi_75_21 : (zM 75).1[21]? = some (.iload 1) := by rfl
theorem zi_75_22 : (zM 75).1[22]? = some (.dup2) := by rfl
theorem zi_75_23 : (zM 75).1[23]? = some (.laload) := by rfl
theorem zi_75_24 : (zM 75).1[24]? = some (.lload 2) := by rfl
theorem zi_75_25 : (zM 75).1[25]? = some (.ladd) := by rfl
theorem zi_75_26 : (zM 75).1[26]? = some (.lastore) := by rfl
theorem zi_75_27 : (zM 75).1[27]? = some (.return_) := by rfl
def wb_75_19 (E : Nat → Nat) (d : Nat) (Q : Option Value → ZH → Prop) (a0 : Nat) (a1 : Int32) (a2 : Int64) (h : ZH) : Prop := ztag h a0 = 7 ∧ ∃ r5 : Nat, zR h a0 1 = r5 + 1 ∧ ztag h r5 = 14 ∧ zin a1 (zlen h r5) = true ∧ ztag h r5 = 14 ∧ zin a1 (zlen h r5) = true ∧ ∀ h8 : ZH, h8 = (zuL h r5 a1.toNatClampNeg ((zL h r5 a1.toNatClampNeg) + a2)) → Q none h8
set_option maxRecDepth 20000 in
theorem okb_75_19 {E : Nat → Nat} {d : Nat} {Q : Option Value → ZH → Prop} {a0 : Nat} {a1 : Int32} {a2 : Int64} {h : ZH} (hw : wb_75_19 E d Q a0 a1 a2 h) : Gx E (d + 1) 75 19 [.ref a0, .int a1, .long a2, .retAddr 0] [] h Q := by
  unfold wb_75_19 at hw
  refine zg_aload zi_75_19 rfl ?_
  obtain ⟨t4, hw⟩ := hw
  obtain ⟨r5, er5, hw⟩ := hw
  refine zg_getR (v := .ref r5) zi_75_20 t4 (by rfl) (by show zrv (zR h a0 1) = _; rw [er5]; rfl) ?_
  refine zg_iload zi_75_21 rfl ?_
  refine zg_dup2_11 zi_75_22 rfl ?_
  obtain ⟨t6, hw⟩ := hw
  obtain ⟨hb, hw⟩ := hw
  refine zg_laload (v := .long (zL h r5 a1.toNatClampNeg)) zi_75_23 t6 hb rfl ?_
  refine zg_lload zi_75_24 rfl ?_
  refine zg_ladd zi_75_25 ?_
  obtain ⟨t7, hw⟩ := hw
  obtain ⟨hb, hw⟩ := hw
  refine zg_lastore (h1 := zuL h r5 a1.toNatClampNeg ((zL h r5 a1.toNatClampNeg) + a2)) zi_75_26 t7 hb rfl ?_
  refine zg_nameH fun h8 eh8 => ?_
  have hw := hw h8 eh8
  exact zg_return zi_75_27 hw
/-- TakeOrPay$Spread.add(IJ)V -/
def w_75 (E : Nat → Nat) (d : Nat) (a0 : Nat) (a1 : Int32) (a2 : Int64) (h : ZH) (Q : Option Value → ZH → Prop) : Prop := ztag h a0 = 7 ∧ ∃ r2 : Nat, zR h a0 1 = r2 + 1 ∧ ztag h r2 = 14 ∧ zin a1 (zlen h r2) = true ∧ ((¬ (zL h r2 a1.toNatClampNeg : Int64) = 0 → (wb_75_19 E d Q a0 a1 a2 h)) ∧ (¬ (¬ (zL h r2 a1.toNatClampNeg : Int64) = 0) → (∃ r9 : Nat, zR h a0 3 = r9 + 1 ∧ ztag h r9 = 13 ∧ zin (zI h a0 5) (zlen h r9) = true ∧ ∀ h11 : ZH, h11 = (zuI h r9 (zI h a0 5 : Int32).toNatClampNeg a1) → ∀ h12 : ZH, h12 = (zuI h11 a0 5 ((zI h11 a0 5) + 1)) → wb_75_19 E d Q a0 a1 a2 h12)))
set_option maxRecDepth 20000 in
theorem ok_75 {E : Nat → Nat} {d : Nat} {a0 : Nat} {a1 : Int32} {a2 : Int64} {h : ZH} {Q : Option Value → ZH → Prop} (hw : w_75 E d a0 a1 a2 h Q) : Ct E (d + 1) 75 [.ref a0, .int a1, .long a2] h Q := by
  unfold w_75 at hw
  show Gx E (d + 1) 75 0 [.ref a0, .int a1, .long a2, .retAddr 0] [] h Q
  refine zg_aload zi_75_0 rfl ?_
  obtain ⟨t1, hw⟩ := hw
  obtain ⟨r2, er2, hw⟩ := hw
  refine zg_getR (v := .ref r2) zi_75_1 t1 (by rfl) (by show zrv (zR h a0 1) = _; rw [er2]; rfl) ?_
  refine zg_iload zi_75_2 rfl ?_
  obtain ⟨t3, hw⟩ := hw
  obtain ⟨hb, hw⟩ := hw
  refine zg_laload (v := .long (zL h r2 a1.toNatClampNeg)) zi_75_3 t3 hb rfl ?_
  refine zg_lconst (v := 0) zi_75_4 (by rfl) ?_
  refine zg_lcmp_ne zi_75_5 zi_75_6 (fun hc => ?_) (fun hc => ?_)
  · have hw := hw.1 hc
    exact okb_75_19 hw
  · have hw := hw.2 hc
    refine zg_aload zi_75_7 rfl ?_
    obtain ⟨r9, er9, hw⟩ := hw
    refine zg_getR (v := .ref r9) zi_75_8 t1 (by rfl) (by show zrv (zR h a0 3) = _; rw [er9]; rfl) ?_
    refine zg_aload zi_75_9 rfl ?_
    refine zg_getI (v := .int (zI h a0 5)) zi_75_10 t1 (by rfl) rfl ?_
    refine zg_iload zi_75_11 rfl ?_
    obtain ⟨t10, hw⟩ := hw
    obtain ⟨hb, hw⟩ := hw
    refine zg_iastore (h1 := zuI h r9 (zI h a0 5 : Int32).toNatClampNeg a1) zi_75_12 t10 hb rfl ?_
    refine zg_nameH fun h11 eh11 => ?_
    have hw := hw h11 eh11
    refine zg_aload zi_75_13 rfl ?_
    refine zg_dup zi_75_14 rfl ?_
    refine zg_getI (v := .int (zI h11 a0 5)) zi_75_15 (by rw [eh11]; exact t1) (by rfl) rfl ?_
    refine zg_const (v := 1) zi_75_16 (by rfl) ?_
    refine zg_iadd zi_75_17 ?_
    refine zg_putI (h1 := zuI h11 a0 5 ((zI h11 a0 5) + 1)) zi_75_18 (by rw [eh11]; exact t1) (by rfl) rfl ?_
    refine zg_nameH fun h12 eh12 => ?_
    have hw := hw h12 eh12
    exact okb_75_19 hw
theorem zq_74 : zQ 74 1 3 7 := by unfold zQ; decide +kernel
theorem zi_74_0 : (zM 74).1[0]? = some (.aload 0) := by rfl
theorem zi_74_1 : (zM 74).1[1]? = some (.getfield 7200) := by rfl
theorem zi_74_2 : (zM 74).1[2]? = some (.astore 1) := by rfl
theorem zi_74_3 : (zM 74).1[3]? = some (.aload 0) := by rfl
theorem zi_74_4 : (zM 74).1[4]? = some (.aload 0) := by rfl
theorem zi_74_5 : (zM 74).1[5]? = some (.getfield 7201) := by rfl
theorem zi_74_6 : (zM 74).1[6]? = some (.putfield 7200) := by rfl
theorem zi_74_7 : (zM 74).1[7]? = some (.aload 0) := by rfl
theorem zi_74_8 : (zM 74).1[8]? = some (.aload 1) := by rfl
theorem zi_74_9 : (zM 74).1[9]? = some (.putfield 7201) := by rfl
theorem zi_74_10 : (zM 74).1[10]? = some (.aload 0) := by rfl
theorem zi_74_11 : (zM 74).1[11]? = some (.getfield 7202) := by rfl
theorem zi_74_12 : (zM 74).1[12]? = some (.astore 2) := by rfl
theorem zi_74_13 : (zM 74).1[13]? = some (.aload 0) := by rfl
theorem zi_74_14 : (zM 74).1[14]? = some (.aload 0) := by rfl
theorem zi_74_15 : (zM 74).1[15]? = some (.getfield 7203) := by rfl
theorem zi_74_16 : (zM 74).1[16]? = some (.putfield 7202) := by rfl
theorem zi_74_17 : (zM 74).1[17]? = some (.aload 0) := by rfl
theorem zi_74_18 : (zM 74).1[18]? = some (.aload 2) := by rfl
theorem zi_74_19 : (zM 74).1[19]? = some (.putfield 7203) := by rfl
theorem zi_74_20 : (zM 74).1[20]? = some (.aload 0) := by rfl
theorem zi_74_21 : (zM 74).1[21]? = some (.aload 0) := by rfl
theorem zi_74_22 : (zM 74).1[22]? = some (.getfield 7005) := by rfl
theorem zi_74_23 : (zM 74).1[23]? = some (.putfield 7004) := by rfl
theorem zi_74_24 : (zM 74).1[24]? = some (.aload 0) := by rfl
theorem zi_74_25 : (zM 74).1[25]? = some (.iconst 0) := by rfl
theorem zi_74_26 : (zM 74).1[26]? = some (.putfield 7005) := by rfl
theorem zi_74_27 : (zM 74).1[27]? = some (.return_) := by rfl
/-- TakeOrPay$Spread.turn()V -/
def w_74 (E : Nat → Nat) (d : Nat) (a0 : Nat) (h : ZH) (Q : Option Value → ZH → Prop) : Prop := ztag h a0 = 7 ∧ ∃ r2 : Nat, zR h a0 0 = r2 + 1 ∧ ∃ r3 : Nat, zR h a0 1 = r3 + 1 ∧ ∀ h4 : ZH, h4 = (zuR h a0 0 (r3 + 1)) → ztag h4 a0 = 7 ∧ ∀ h6 : ZH, h6 = (zuR h4 a0 1 (r2 + 1)) → ztag h6 a0 = 7 ∧ ∃ r8 : Nat, zR h6 a0 2 = r8 + 1 ∧ ∃ r9 : Nat, zR h6 a0 3 = r9 + 1 ∧ ∀ h10 : ZH, h10 = (zuR h6 a0 2 (r9 + 1)) → ztag h10 a0 = 7 ∧ ∀ h12 : ZH, h12 = (zuR h10 a0 3 (r8 + 1)) → ztag h12 a0 = 7 ∧ ∀ h14 : ZH, h14 = (zuI h12 a0 4 (zI h12 a0 5)) → ∀ h15 : ZH, h15 = (zuI h14 a0 5 0) → Q none h15
set_option maxRecDepth 20000 in
theorem ok_74 {E : Nat → Nat} {d : Nat} {a0 : Nat} {h : ZH} {Q : Option Value → ZH → Prop} (hw : w_74 E d a0 h Q) : Ct E (d + 1) 74 [.ref a0] h Q := by
  unfold w_74 at hw
  show Gx E (d + 1) 74 0 [.ref a0, .retAddr 0, .retAddr 0] [] h Q
  refine zg_aload zi_74_0 rfl ?_
  obtain ⟨t1, hw⟩ := hw
  obtain ⟨r2, er2, hw⟩ := hw
  refine zg_getR (v := .ref r2) zi_74_1 t1 (by rfl) (by show zrv (zR h a0 0) = _; rw [er2]; rfl) ?_
  refine zg_astore (ls1 := [.ref a0, .ref r2, .retAddr 0]) zi_74_2 (Nat.le_of_ble_eq_true rfl) rfl ?_
  refine zg_aload zi_74_3 rfl ?_
  refine zg_aload zi_74_4 rfl ?_
  obtain ⟨r3, er3, hw⟩ := hw
  refine zg_getR (v := .ref r3) zi_74_5 t1 (by rfl) (by show zrv (zR h a0 1) = _; rw [er3]; rfl) ?_
  refine zg_putR (h1 := zuR h a0 0 (r3 + 1)) zi_74_6 t1 (by rfl) rfl ?_
  refine zg_nameH fun h4 eh4 => ?_
  have hw := hw h4 eh4
  refine zg_aload zi_74_7 rfl ?_
  refine zg_aload zi_74_8 rfl ?_
  obtain ⟨t5, hw⟩ := hw
  refine zg_putR (h1 := zuR h4 a0 1 (r2 + 1)) zi_74_9 t5 (by rfl) rfl ?_
  refine zg_nameH fun h6 eh6 => ?_
  have hw := hw h6 eh6
  refine zg_aload zi_74_10 rfl ?_
  obtain ⟨t7, hw⟩ := hw
  obtain ⟨r8, er8, hw⟩ := hw
  refine zg_getR (v := .ref r8) zi_74_11 t7 (by rfl) (by show zrv (zR h6 a0 2) = _; rw [er8]; rfl) ?_
  refine zg_astore (ls1 := [.ref a0, .ref r2, .ref r8]) zi_74_12 (Nat.le_of_ble_eq_true rfl) rfl ?_
  refine zg_aload zi_74_13 rfl ?_
  refine zg_aload zi_74_14 rfl ?_
  obtain ⟨r9, er9, hw⟩ := hw
  refine zg_getR (v := .ref r9) zi_74_15 t7 (by rfl) (by show zrv (zR h6 a0 3) = _; rw [er9]; rfl) ?_
  refine zg_putR (h1 := zuR h6 a0 2 (r9 + 1)) zi_74_16 t7 (by rfl) rfl ?_
  refine zg_nameH fun h10 eh10 => ?_
  have hw := hw h10 eh10
  refine zg_aload zi_74_17 rfl ?_
  refine zg_aload zi_74_18 rfl ?_
  obtain ⟨t11, hw⟩ := hw
  refine zg_putR (h1 := zuR h10 a0 3 (r8 + 1)) zi_74_19 t11 (by rfl) rfl ?_
  refine zg_nameH fun h12 eh12 => ?_
  have hw := hw h12 eh12
  refine zg_aload zi_74_20 rfl ?_
  refine zg_aload zi_74_21 rfl ?_
  obtain ⟨t13, hw⟩ := hw
  refine zg_getI (v := .int (zI h12 a0 5)) zi_74_22 t13 (by rfl) rfl ?_
  refine zg_putI (h1 := zuI h12 a0 4 (zI h12 a0 5)) zi_74_23 t13 (by rfl) rfl ?_
  refine zg_nameH fun h14 eh14 => ?_
  have hw := hw h14 eh14
  refine zg_aload zi_74_24 rfl ?_
  refine zg_const (v := 0) zi_74_25 (by rfl) ?_
  refine zg_putI (h1 := zuI h14 a0 5 0) zi_74_26 (by rw [eh14]; exact t13) (by rfl) rfl ?_
  refine zg_nameH fun h15 eh15 => ?_
  have hw := hw h15 eh15
  exact zg_return zi_74_27 hw
