/-! try -/
theorem zq_23 : zQ 23 1 1 2 := by unfold zQ; decide +kernel
theorem zi_23_0 : (zM 23).1[0]? = some (.aload 0) := by rfl
theorem zi_23_1 : (zM 23).1[1]? = some (.invokedynamic 3) := by rfl
theorem zi_23_2 : (zM 23).1[2]? = some (.return_) := by rfl
/-- TakeOrPay$Move.<init>()V -/
def w_23 (E : Nat → Nat) (d : Nat) (a0 : Nat) (h : ZH) (Q : Option Value → ZH → Prop) : Prop := 4 ≤ d ∧ Q none h
set_option maxRecDepth 20000 in
theorem ok_23 {E : Nat → Nat} {d : Nat} {a0 : Nat} {h : ZH} {Q : Option Value → ZH → Prop} (hw : w_23 E d a0 h Q) : Ct E (d + 1) 23 [.ref a0] h Q := by
  unfold w_23 at hw
  show Gx E (d + 1) 23 0 [.ref a0] [] h Q
  refine zg_aload zi_23_0 rfl ?_
  obtain ⟨hd, hw⟩ := hw
  refine zg_object zi_23_1 ⟨by omega, Nat.le_of_ble_eq_true rfl⟩ ?_
  exact zg_return zi_23_2 hw
theorem zq_0 : zQ 0 1 2 0 := by unfold zQ; decide +kernel
theorem zi_0_0 : (zM 0).1[0]? = some (.aload 0) := by rfl
theorem zi_0_1 : (zM 0).1[1]? = some (.invokedynamic 3) := by rfl
theorem zi_0_2 : (zM 0).1[2]? = some (.aload 0) := by rfl
theorem zi_0_3 : (zM 0).1[3]? = some (.iconst 41580) := by rfl
theorem zi_0_4 : (zM 0).1[4]? = some (.newarray .long) := by rfl
theorem zi_0_5 : (zM 0).1[5]? = some (.putfield 200) := by rfl
theorem zi_0_6 : (zM 0).1[6]? = some (.aload 0) := by rfl
theorem zi_0_7 : (zM 0).1[7]? = some (.iconst 13860) := by rfl
theorem zi_0_8 : (zM 0).1[8]? = some (.newarray .int) := by rfl
theorem zi_0_9 : (zM 0).1[9]? = some (.putfield 201) := by rfl
theorem zi_0_10 : (zM 0).1[10]? = some (.aload 0) := by rfl
theorem zi_0_11 : (zM 0).1[11]? = some (.iconst 20) := by rfl
theorem zi_0_12 : (zM 0).1[12]? = some (.anewarray 16) := by rfl
theorem zi_0_13 : (zM 0).1[13]? = some (.putfield 202) := by rfl
theorem zi_0_14 : (zM 0).1[14]? = some (.aload 0) := by rfl
theorem zi_0_15 : (zM 0).1[15]? = some (.iconst 60) := by rfl
theorem zi_0_16 : (zM 0).1[16]? = some (.newarray .int) := by rfl
theorem zi_0_17 : (zM 0).1[17]? = some (.putfield 203) := by rfl
theorem zi_0_18 : (zM 0).1[18]? = some (.aload 0) := by rfl
theorem zi_0_19 : (zM 0).1[19]? = some (.iconst 60) := by rfl
theorem zi_0_20 : (zM 0).1[20]? = some (.newarray .int) := by rfl
theorem zi_0_21 : (zM 0).1[21]? = some (.putfield 204) := by rfl
theorem zi_0_22 : (zM 0).1[22]? = some (.aload 0) := by rfl
theorem zi_0_23 : (zM 0).1[23]? = some (.iconst 21) := by rfl
theorem zi_0_24 : (zM 0).1[24]? = some (.newarray .long) := by rfl
theorem zi_0_25 : (zM 0).1[25]? = some (.putfield 205) := by rfl
theorem zi_0_26 : (zM 0).1[26]? = some (.iconst 0) := by rfl
theorem zi_0_27 : (zM 0).1[27]? = some (.istore 1) := by rfl
theorem zi_0_28 : (zM 0).1[28]? = some (.iload 1) := by rfl
theorem zi_0_29 : (zM 0).1[29]? = some (.iconst 20) := by rfl
theorem zi_0_30 : (zM 0).1[30]? = some (.if_icmp .ge ((40 : Nat) : Int)) := by rfl
theorem zi_0_31 : (zM 0).1[31]? = some (.aload 0) := by rfl
theorem zi_0_32 : (zM 0).1[32]? = some (.getfield 202) := by rfl
theorem zi_0_33 : (zM 0).1[33]? = some (.iload 1) := by rfl
theorem zi_0_34 : (zM 0).1[34]? = some (.new 2) := by rfl
theorem zi_0_35 : (zM 0).1[35]? = some (.dup) := by rfl
theorem zi_0_36 : (zM 0).1[36]? = some (.invokespecial 23) := by rfl
theorem zi_0_37 : (zM 0).1[37]? = some (.aastore) := by rfl
theorem zi_0_38 : (zM 0).1[38]? = some (.iinc 1 1) := by rfl
theorem zi_0_39 : (zM 0).1[39]? = some (.goto ((28 : Nat) : Int)) := by rfl
theorem zi_0_40 : (zM 0).1[40]? = some (.return_) := by rfl
def wl_0_28 (E : Nat → Nat) (d : Nat) (Q : Option Value → ZH → Prop) : Nat → Nat → Int32 → ZH → Prop
  | 0, _, _, _ => False
  | n + 1, a0, a1, h => (20 ≤ a1 → (Q none h)) ∧ (¬ (20 ≤ a1) → (ztag h a0 = 0 ∧ ∃ r19 : Nat, zR h a0 2 = r19 + 1 ∧ ∀ h20 : ZH, h20 = znew h 2 (zN 2) → ∀ r21 : Nat, r21 = zsz h → ztag h20 r21 = 2 ∧ Ct E d 23 [.ref r21] h20 (fun v h22 => v = none ∧ ((ztag h22 r19 = 16 ∧ ztag h22 r21 = 2) ∨ (ztag h22 r19 = 17 ∧ ztag h22 r21 = 6)) ∧ zin a1 (zlen h22 r19) = true ∧ ∀ h23 : ZH, h23 = zuR h22 r19 a1.toNatClampNeg (r21 + 1) → ∀ x24 : Int32, x24 = a1 + 1 → wl_0_28 E d Q n a0 x24 h23)))
set_option maxRecDepth 20000 in
theorem okl_0_28 {E : Nat → Nat} {d : Nat} {Q : Option Value → ZH → Prop} : ∀ (n : Nat) (a0 : Nat) (a1 : Int32) (h : ZH), wl_0_28 E d Q n a0 a1 h → Gx E (d + 1) 0 28 [.ref a0, .int a1] [] h Q := by
  intro n
  induction n with
  | zero => intro a0 a1 h hw; exact hw.elim
  | succ n ih =>
    intro a0 a1 h hw
    rw [wl_0_28] at hw
    refine zg_iload zi_0_28 rfl ?_
    refine zg_const (v := 20) zi_0_29 (by rfl) ?_
    refine zg_icmp_ge zi_0_30 (fun hc => ?_) (fun hc => ?_)
    · have hw := hw.1 hc
      exact zg_return zi_0_40 hw
    · have hw := hw.2 hc
      refine zg_aload zi_0_31 rfl ?_
      obtain ⟨ht, hw⟩ := hw
      obtain ⟨r19, hr, hw⟩ := hw
      refine zg_getR (v := .ref r19) zi_0_32 ht (by rfl) (by show zrv (zR h a0 2) = _; rw [hr]; rfl) ?_
      refine zg_iload zi_0_33 rfl ?_
      refine zg_new zi_0_34 (by decide) ?_
      refine zg_nameH fun h20 eh20 => ?_
      have hw := hw h20 eh20
      refine zg_nameA fun r21 er21 => ?_
      have hw := hw r21 er21
      refine zg_dup zi_0_35 rfl ?_
      obtain ⟨ht, hw⟩ := hw
      refine Gx.call2 (as := [.ref r21]) (rest := [.ref r21, .int a1, .ref r19]) zq_23 zi_0_36 rfl rfl rfl (Nat.le_of_ble_eq_true rfl) (Nat.le_of_ble_eq_true rfl) (zrv_i ht rfl rfl) (Nat.le_of_ble_eq_true rfl) ?_
      refine Ct.mono hw ?_
      rintro v h22 ⟨rfl, hw⟩
      show Gx E (d + 1) 0 37 [.ref a0, .int a1] [.ref r21, .int a1, .ref r19] h22 Q
      obtain ⟨ht, hb, hw⟩ := hw
      refine zg_aastore (h1 := zuR h22 r19 a1.toNatClampNeg (r21 + 1)) zi_0_37 ht hb rfl ?_
      refine zg_nameH fun h23 eh23 => ?_
      have hw := hw h23 eh23
      obtain ⟨x24, ex24⟩ : ∃ x : Int32, x = a1 + 1 := ⟨_, rfl⟩
      have hw := hw x24 ex24
      refine zg_iinc (v := x24) (ls1 := [.ref a0, .int x24]) zi_0_38 rfl (by rw [ex24]; rfl) rfl ?_
      refine zg_goto zi_0_39 ?_
      exact ih a0 x24 h23 hw
/-- TakeOrPay$Best.<init>()V -/
def w_0 (E : Nat → Nat) (d : Nat) (a0 : Nat) (h : ZH) (Q : Option Value → ZH → Prop) : Prop := 4 ≤ d ∧ ∀ h1 : ZH, h1 = znew h 14 41580 → ∀ r2 : Nat, r2 = zsz h → ztag h1 a0 = 0 ∧ ∀ h3 : ZH, h3 = zuR h1 a0 0 (r2 + 1) → ∀ h4 : ZH, h4 = znew h3 13 13860 → ∀ r5 : Nat, r5 = zsz h3 → ztag h4 a0 = 0 ∧ ∀ h6 : ZH, h6 = zuR h4 a0 1 (r5 + 1) → ∀ h7 : ZH, h7 = znew h6 16 20 → ∀ r8 : Nat, r8 = zsz h6 → ztag h7 a0 = 0 ∧ ∀ h9 : ZH, h9 = zuR h7 a0 2 (r8 + 1) → ∀ h10 : ZH, h10 = znew h9 13 60 → ∀ r11 : Nat, r11 = zsz h9 → ztag h10 a0 = 0 ∧ ∀ h12 : ZH, h12 = zuR h10 a0 3 (r11 + 1) → ∀ h13 : ZH, h13 = znew h12 13 60 → ∀ r14 : Nat, r14 = zsz h12 → ztag h13 a0 = 0 ∧ ∀ h15 : ZH, h15 = zuR h13 a0 4 (r14 + 1) → ∀ h16 : ZH, h16 = znew h15 14 21 → ∀ r17 : Nat, r17 = zsz h15 → ztag h16 a0 = 0 ∧ ∀ h18 : ZH, h18 = zuR h16 a0 5 (r17 + 1) → (∃ n : Nat, wl_0_28 E d Q n a0 0 h18)
set_option maxRecDepth 20000 in
theorem ok_0 {E : Nat → Nat} {d : Nat} {a0 : Nat} {h : ZH} {Q : Option Value → ZH → Prop} (hw : w_0 E d a0 h Q) : Ct E (d + 1) 0 [.ref a0] h Q := by
  unfold w_0 at hw
  show Gx E (d + 1) 0 0 [.ref a0, .retAddr 0] [] h Q
  refine zg_aload zi_0_0 rfl ?_
  obtain ⟨hd, hw⟩ := hw
  refine zg_object zi_0_1 ⟨by omega, Nat.le_of_ble_eq_true rfl⟩ ?_
  refine zg_aload zi_0_2 rfl ?_
  refine zg_const (v := 41580) zi_0_3 (by rfl) ?_
  refine zg_newarray_long (N := 41580) zi_0_4 (by decide) (by decide) ?_
  refine zg_nameH fun h1 eh1 => ?_
  have hw := hw h1 eh1
  refine zg_nameA fun r2 er2 => ?_
  have hw := hw r2 er2
  obtain ⟨ht, hw⟩ := hw
  refine zg_putR (h1 := zuR h1 a0 0 (r2 + 1)) zi_0_5 ht (by rfl) rfl ?_
  refine zg_nameH fun h3 eh3 => ?_
  have hw := hw h3 eh3
  refine zg_aload zi_0_6 rfl ?_
  refine zg_const (v := 13860) zi_0_7 (by rfl) ?_
  refine zg_newarray_int (N := 13860) zi_0_8 (by decide) (by decide) ?_
  refine zg_nameH fun h4 eh4 => ?_
  have hw := hw h4 eh4
  refine zg_nameA fun r5 er5 => ?_
  have hw := hw r5 er5
  obtain ⟨ht, hw⟩ := hw
  refine zg_putR (h1 := zuR h4 a0 1 (r5 + 1)) zi_0_9 ht (by rfl) rfl ?_
  refine zg_nameH fun h6 eh6 => ?_
  have hw := hw h6 eh6
  refine zg_aload zi_0_10 rfl ?_
  refine zg_const (v := 20) zi_0_11 (by rfl) ?_
  refine zg_anewarray (N := 20) zi_0_12 (by decide) (by decide) ?_
  refine zg_nameH fun h7 eh7 => ?_
  have hw := hw h7 eh7
  refine zg_nameA fun r8 er8 => ?_
  have hw := hw r8 er8
  obtain ⟨ht, hw⟩ := hw
  refine zg_putR (h1 := zuR h7 a0 2 (r8 + 1)) zi_0_13 ht (by rfl) rfl ?_
  refine zg_nameH fun h9 eh9 => ?_
  have hw := hw h9 eh9
  refine zg_aload zi_0_14 rfl ?_
  refine zg_const (v := 60) zi_0_15 (by rfl) ?_
  refine zg_newarray_int (N := 60) zi_0_16 (by decide) (by decide) ?_
  refine zg_nameH fun h10 eh10 => ?_
  have hw := hw h10 eh10
  refine zg_nameA fun r11 er11 => ?_
  have hw := hw r11 er11
  obtain ⟨ht, hw⟩ := hw
  refine zg_putR (h1 := zuR h10 a0 3 (r11 + 1)) zi_0_17 ht (by rfl) rfl ?_
  refine zg_nameH fun h12 eh12 => ?_
  have hw := hw h12 eh12
  refine zg_aload zi_0_18 rfl ?_
  refine zg_const (v := 60) zi_0_19 (by rfl) ?_
  refine zg_newarray_int (N := 60) zi_0_20 (by decide) (by decide) ?_
  refine zg_nameH fun h13 eh13 => ?_
  have hw := hw h13 eh13
  refine zg_nameA fun r14 er14 => ?_
  have hw := hw r14 er14
  obtain ⟨ht, hw⟩ := hw
  refine zg_putR (h1 := zuR h13 a0 4 (r14 + 1)) zi_0_21 ht (by rfl) rfl ?_
  refine zg_nameH fun h15 eh15 => ?_
  have hw := hw h15 eh15
  refine zg_aload zi_0_22 rfl ?_
  refine zg_const (v := 21) zi_0_23 (by rfl) ?_
  refine zg_newarray_long (N := 21) zi_0_24 (by decide) (by decide) ?_
  refine zg_nameH fun h16 eh16 => ?_
  have hw := hw h16 eh16
  refine zg_nameA fun r17 er17 => ?_
  have hw := hw r17 er17
  obtain ⟨ht, hw⟩ := hw
  refine zg_putR (h1 := zuR h16 a0 5 (r17 + 1)) zi_0_25 ht (by rfl) rfl ?_
  refine zg_nameH fun h18 eh18 => ?_
  have hw := hw h18 eh18
  refine zg_const (v := 0) zi_0_26 (by rfl) ?_
  refine zg_istore (ls1 := [.ref a0, .int 0]) zi_0_27 (Nat.le_of_ble_eq_true rfl) rfl ?_
  obtain ⟨n, hw⟩ := hw
  exact okl_0_28 n a0 0 h18 hw
theorem zq_49 : zQ 49 2 4 3 := by unfold zQ; decide +kernel
theorem zi_49_0 : (zM 49).1[0]? = some (.iconst 0) := by rfl
theorem zi_49_1 : (zM 49).1[1]? = some (.istore 2) := by rfl
theorem zi_49_2 : (zM 49).1[2]? = some (.iconst 0) := by rfl
theorem zi_49_3 : (zM 49).1[3]? = some (.istore 3) := by rfl
theorem zi_49_4 : (zM 49).1[4]? = some (.iload 3) := by rfl
theorem zi_49_5 : (zM 49).1[5]? = some (.iconst 3) := by rfl
theorem zi_49_6 : (zM 49).1[6]? = some (.if_icmp .ge ((23 : Nat) : Int)) := by rfl
theorem zi_49_7 : (zM 49).1[7]? = some (.iload 2) := by rfl
theorem zi_49_8 : (zM 49).1[8]? = some (.aload 0) := by rfl
theorem zi_49_9 : (zM 49).1[9]? = some (.iload 1) := by rfl
theorem zi_49_10 : (zM 49).1[10]? = some (.iload 3) := by rfl
theorem zi_49_11 : (zM 49).1[11]? = some (.invokevirtual 48) := by rfl
theorem zi_49_12 : (zM 49).1[12]? = some (.aload 0) := by rfl
theorem zi_49_13 : (zM 49).1[13]? = some (.getfield 3200) := by rfl
theorem zi_49_14 : (zM 49).1[14]? = some (.iconst 20) := by rfl
theorem zi_49_15 : (zM 49).1[15]? = some (.iload 3) := by rfl
theorem zi_49_16 : (zM 49).1[16]? = some (.iadd) := by rfl
theorem zi_49_17 : (zM 49).1[17]? = some (.iaload) := by rfl
theorem zi_49_18 : (zM 49).1[18]? = some (.imul) := by rfl
theorem zi_49_19 : (zM 49).1[19]? = some (.iadd) := by rfl
theorem zi_49_20 : (zM 49).1[20]? = some (.istore 2) := by rfl
theorem zi_49_21 : (zM 49).1[21]? = some (.iinc 3 1) := by rfl
theorem zi_49_22 : (zM 49).1[22]? = some (.goto ((4 : Nat) : Int)) := by rfl
theorem zi_49_23 : (zM 49).1[23]? = some (.iload 2) := by rfl
theorem zi_49_24 : (zM 49).1[24]? = some (.ireturn) := by rfl
def wb_49_23 (E : Nat → Nat) (d : Nat) (Q : Option Value → ZH → Prop) (a2 : Int32) (h : ZH) : Prop := Q (some (.int a2)) h
set_option maxRecDepth 20000 in
theorem okb_49_23 {E : Nat → Nat} {d : Nat} {Q : Option Value → ZH → Prop} {a2 : Int32} {h : ZH} (hw : wb_49_23 E d Q a2 h) : Gx E (d + 1) 49 23 [.retAddr 0, .retAddr 0, .int a2, .retAddr 0] [] h Q := by
  unfold wb_49_23 at hw
  refine zg_iload zi_49_23 rfl ?_
  exact zg_ireturn zi_49_24 (by decide) hw
def wl_49_4 (E : Nat → Nat) (d : Nat) (Q : Option Value → ZH → Prop) : Nat → Nat → Int32 → Int32 → Int32 → ZH → Prop
  | 0, _, _, _, _, _ => False
  | n + 1, a0, a1, a2, a3, h => (3 ≤ a3 → (wb_49_23 E d Q a2 h)) ∧ (¬ (3 ≤ a3) → (ztag h a0 = 3 ∧ 1 ≤ d ∧ sz_48 E h a0 a1 a3 ∧ ztag h a0 = 3 ∧ ∃ r1 : Nat, zR h a0 0 = r1 + 1 ∧ (ztag h r1 = 13 ∨ ztag h r1 = 19) ∧ zin (20 + a3) (zlen h r1) = true ∧ ∀ x2 : Int32, x2 = a2 + ((fz_48 E h a0 a1 a3) * (zI h r1 (20 + a3 : Int32).toNatClampNeg)) → ∀ x3 : Int32, x3 = a3 + 1 → wl_49_4 E d Q n a0 a1 x2 x3 h))
set_option maxRecDepth 20000 in
theorem okl_49_4 {E : Nat → Nat} {d : Nat} {Q : Option Value → ZH → Prop} : ∀ (n : Nat) (a0 : Nat) (a1 : Int32) (a2 : Int32) (a3 : Int32) (h : ZH), wl_49_4 E d Q n a0 a1 a2 a3 h → Gx E (d + 1) 49 4 [.ref a0, .int a1, .int a2, .int a3] [] h Q := by
  intro n
  induction n with
  | zero => intro a0 a1 a2 a3 h hw; exact hw.elim
  | succ n ih =>
    intro a0 a1 a2 a3 h hw
    rw [wl_49_4] at hw
    refine zg_iload zi_49_4 rfl ?_
    refine zg_const (v := 3) zi_49_5 (by rfl) ?_
    refine zg_icmp_ge zi_49_6 (fun hc => ?_) (fun hc => ?_)
    · have hw := hw.1 hc
      exact Gx.forget (zrd (zrd (zrk (zrd zr0)))) (okb_49_23 hw)
    · have hw := hw.2 hc
      refine zg_iload zi_49_7 rfl ?_
      refine zg_aload zi_49_8 rfl ?_
      refine zg_iload zi_49_9 rfl ?_
      refine zg_iload zi_49_10 rfl ?_
      obtain ⟨ht, hw⟩ := hw
      obtain ⟨hd, hs, hw⟩ := hw
      refine Gx.call2 (as := [.ref a0, .int a1, .int a3]) (rest := [.int a2]) zq_48 zi_49_11 rfl rfl rfl (Nat.le_of_ble_eq_true rfl) (Nat.le_of_ble_eq_true rfl) (zrv_v ht rfl rfl) (Nat.le_of_ble_eq_true rfl) ?_
      refine cz_48 hd hs ?_
      show Gx E (d + 1) 49 12 [.ref a0, .int a1, .int a2, .int a3] [.int (fz_48 E h a0 a1 a3), .int a2] h Q
      refine zg_aload zi_49_12 rfl ?_
      obtain ⟨ht, hw⟩ := hw
      obtain ⟨r1, hr, hw⟩ := hw
      refine zg_getR (v := .ref r1) zi_49_13 ht (by rfl) (by show zrv (zR h a0 0) = _; rw [hr]; rfl) ?_
      refine zg_const (v := 20) zi_49_14 (by rfl) ?_
      refine zg_iload zi_49_15 rfl ?_
      refine zg_iadd zi_49_16 ?_
      obtain ⟨ht, hb, hw⟩ := hw
      refine zg_iaload (v := .int (zI h r1 (20 + a3 : Int32).toNatClampNeg)) zi_49_17 ht hb rfl ?_
      refine zg_imul zi_49_18 ?_
      refine zg_iadd zi_49_19 ?_
      refine zg_nameI fun x2 ex2 => ?_
      have hw := hw x2 ex2
      refine zg_istore (ls1 := [.ref a0, .int a1, .int x2, .int a3]) zi_49_20 (Nat.le_of_ble_eq_true rfl) rfl ?_
      obtain ⟨x3, ex3⟩ : ∃ x : Int32, x = a3 + 1 := ⟨_, rfl⟩
      have hw := hw x3 ex3
      refine zg_iinc (v := x3) (ls1 := [.ref a0, .int a1, .int x2, .int x3]) zi_49_21 rfl (by rw [ex3]; rfl) rfl ?_
      refine zg_goto zi_49_22 ?_
      exact ih a0 a1 x2 x3 h hw
/-- TakeOrPay$Page.fourthsBehind(I)I -/
def w_49 (E : Nat → Nat) (d : Nat) (a0 : Nat) (a1 : Int32) (h : ZH) (Q : Option Value → ZH → Prop) : Prop := ∃ n : Nat, wl_49_4 E d Q n a0 a1 0 0 h
set_option maxRecDepth 20000 in
theorem ok_49 {E : Nat → Nat} {d : Nat} {a0 : Nat} {a1 : Int32} {h : ZH} {Q : Option Value → ZH → Prop} (hw : w_49 E d a0 a1 h Q) : Ct E (d + 1) 49 [.ref a0, .int a1] h Q := by
  unfold w_49 at hw
  show Gx E (d + 1) 49 0 [.ref a0, .int a1, .retAddr 0, .retAddr 0] [] h Q
  refine zg_const (v := 0) zi_49_0 (by rfl) ?_
  refine zg_istore (ls1 := [.ref a0, .int a1, .int 0, .retAddr 0]) zi_49_1 (Nat.le_of_ble_eq_true rfl) rfl ?_
  refine zg_const (v := 0) zi_49_2 (by rfl) ?_
  refine zg_istore (ls1 := [.ref a0, .int a1, .int 0, .int 0]) zi_49_3 (Nat.le_of_ble_eq_true rfl) rfl ?_
  obtain ⟨n, hw⟩ := hw
  exact okl_49_4 n a0 a1 0 0 h hw
theorem zq_47 : zQ 47 3 3 3 := by unfold zQ; decide +kernel
theorem zi_47_0 : (zM 47).1[0]? = some (.iload 2) := by rfl
theorem zi_47_1 : (zM 47).1[1]? = some (.aload 0) := by rfl
theorem zi_47_2 : (zM 47).1[2]? = some (.getfield 3200) := by rfl
theorem zi_47_3 : (zM 47).1[3]? = some (.iconst 6) := by rfl
theorem zi_47_4 : (zM 47).1[4]? = some (.iaload) := by rfl
theorem zi_47_5 : (zM 47).1[5]? = some (.imul) := by rfl
theorem zi_47_6 : (zM 47).1[6]? = some (.iconst 100) := by rfl
theorem zi_47_7 : (zM 47).1[7]? = some (.aload 0) := by rfl
theorem zi_47_8 : (zM 47).1[8]? = some (.getfield 3200) := by rfl
theorem zi_47_9 : (zM 47).1[9]? = some (.iconst 7) := by rfl
theorem zi_47_10 : (zM 47).1[10]? = some (.iaload) := by rfl
theorem zi_47_11 : (zM 47).1[11]? = some (.isub) := by rfl
theorem zi_47_12 : (zM 47).1[12]? = some (.imul) := by rfl
theorem zi_47_13 : (zM 47).1[13]? = some (.iload 1) := by rfl
theorem zi_47_14 : (zM 47).1[14]? = some (.aload 0) := by rfl
theorem zi_47_15 : (zM 47).1[15]? = some (.getfield 3200) := by rfl
theorem zi_47_16 : (zM 47).1[16]? = some (.iconst 7) := by rfl
theorem zi_47_17 : (zM 47).1[17]? = some (.iaload) := by rfl
theorem zi_47_18 : (zM 47).1[18]? = some (.imul) := by rfl
theorem zi_47_19 : (zM 47).1[19]? = some (.iadd) := by rfl
theorem zi_47_20 : (zM 47).1[20]? = some (.ireturn) := by rfl
/-- TakeOrPay$Page.unitPrice(II)I -/
def w_47 (E : Nat → Nat) (d : Nat) (a0 : Nat) (a1 : Int32) (a2 : Int32) (h : ZH) (Q : Option Value → ZH → Prop) : Prop := ztag h a0 = 3 ∧ ∃ r1 : Nat, zR h a0 0 = r1 + 1 ∧ (ztag h r1 = 13 ∨ ztag h r1 = 19) ∧ zin 6 (zlen h r1) = true ∧ ztag h a0 = 3 ∧ ∃ r2 : Nat, zR h a0 0 = r2 + 1 ∧ (ztag h r2 = 13 ∨ ztag h r2 = 19) ∧ zin 7 (zlen h r2) = true ∧ ztag h a0 = 3 ∧ ∃ r3 : Nat, zR h a0 0 = r3 + 1 ∧ (ztag h r3 = 13 ∨ ztag h r3 = 19) ∧ zin 7 (zlen h r3) = true ∧ Q (some (.int (((a2 * (zI h r1 6)) * (100 - (zI h r2 7))) + (a1 * (zI h r3 7))))) h
set_option maxRecDepth 20000 in
theorem ok_47 {E : Nat → Nat} {d : Nat} {a0 : Nat} {a1 : Int32} {a2 : Int32} {h : ZH} {Q : Option Value → ZH → Prop} (hw : w_47 E d a0 a1 a2 h Q) : Ct E (d + 1) 47 [.ref a0, .int a1, .int a2] h Q := by
  unfold w_47 at hw
  show Gx E (d + 1) 47 0 [.ref a0, .int a1, .int a2] [] h Q
  refine zg_iload zi_47_0 rfl ?_
  refine zg_aload zi_47_1 rfl ?_
  obtain ⟨ht, hw⟩ := hw
  obtain ⟨r1, hr, hw⟩ := hw
  refine zg_getR (v := .ref r1) zi_47_2 ht (by rfl) (by show zrv (zR h a0 0) = _; rw [hr]; rfl) ?_
  refine zg_const (v := 6) zi_47_3 (by rfl) ?_
  obtain ⟨ht, hb, hw⟩ := hw
  refine zg_iaload (v := .int (zI h r1 6)) zi_47_4 ht hb rfl ?_
  refine zg_imul zi_47_5 ?_
  refine zg_const (v := 100) zi_47_6 (by rfl) ?_
  refine zg_aload zi_47_7 rfl ?_
  obtain ⟨ht, hw⟩ := hw
  obtain ⟨r2, hr, hw⟩ := hw
  refine zg_getR (v := .ref r2) zi_47_8 ht (by rfl) (by show zrv (zR h a0 0) = _; rw [hr]; rfl) ?_
  refine zg_const (v := 7) zi_47_9 (by rfl) ?_
  obtain ⟨ht, hb, hw⟩ := hw
  refine zg_iaload (v := .int (zI h r2 7)) zi_47_10 ht hb rfl ?_
  refine zg_isub zi_47_11 ?_
  refine zg_imul zi_47_12 ?_
  refine zg_iload zi_47_13 rfl ?_
  refine zg_aload zi_47_14 rfl ?_
  obtain ⟨ht, hw⟩ := hw
  obtain ⟨r3, hr, hw⟩ := hw
  refine zg_getR (v := .ref r3) zi_47_15 ht (by rfl) (by show zrv (zR h a0 0) = _; rw [hr]; rfl) ?_
  refine zg_const (v := 7) zi_47_16 (by rfl) ?_
  obtain ⟨ht, hb, hw⟩ := hw
  refine zg_iaload (v := .int (zI h r3 7)) zi_47_17 ht hb rfl ?_
  refine zg_imul zi_47_18 ?_
  refine zg_iadd zi_47_19 ?_
  exact zg_ireturn zi_47_20 (by decide) hw
def fz_47 (E : Nat → Nat) (h : ZH) (a0 : Nat) (a1 : Int32) (a2 : Int32) : Int32 := (fun r1 : Nat => (fun r2 : Nat => (fun r3 : Nat => ((a2 * (zI h r1 6)) * (100 - (zI h r2 7))) + (a1 * (zI h r3 7))) (zR h a0 0 - 1)) (zR h a0 0 - 1)) (zR h a0 0 - 1)
def sz_47 (E : Nat → Nat) (h : ZH) (a0 : Nat) (a1 : Int32) (a2 : Int32) : Prop := ztag h a0 = 3 ∧ ∃ r1 : Nat, zR h a0 0 = r1 + 1 ∧ (ztag h r1 = 13 ∨ ztag h r1 = 19) ∧ zin 6 (zlen h r1) = true ∧ ztag h a0 = 3 ∧ ∃ r2 : Nat, zR h a0 0 = r2 + 1 ∧ (ztag h r2 = 13 ∨ ztag h r2 = 19) ∧ zin 7 (zlen h r2) = true ∧ ztag h a0 = 3 ∧ ∃ r3 : Nat, zR h a0 0 = r3 + 1 ∧ (ztag h r3 = 13 ∨ ztag h r3 = 19) ∧ zin 7 (zlen h r3) = true ∧ True
set_option maxRecDepth 20000 in
theorem cz_47 {E : Nat → Nat} {d : Nat} {a0 : Nat} {a1 : Int32} {a2 : Int32} {h : ZH} {Q : Option Value → ZH → Prop} (hd : 1 ≤ d) (hs : sz_47 E h a0 a1 a2) (hq : Q (some (.int (fz_47 E h a0 a1 a2))) h) : Ct E d 47 [.ref a0, .int a1, .int a2] h Q := by
  obtain ⟨d, rfl⟩ : ∃ n, d = n + 1 := ⟨d - 1, by omega⟩
  refine ok_47 ?_
  unfold w_47
  unfold sz_47 at hs
  unfold fz_47 at hq
  refine ⟨hs.1, ?_⟩
  have hs := hs.2
  obtain ⟨r1, hr, hs⟩ := hs
  refine ⟨r1, hr, ?_⟩
  rw [hr] at hq
  simp only [Nat.add_sub_cancel] at hq
  refine ⟨hs.1, ?_⟩
  have hs := hs.2
  refine ⟨hs.1, ?_⟩
  have hs := hs.2
  refine ⟨hs.1, ?_⟩
  have hs := hs.2
  obtain ⟨r2, hr, hs⟩ := hs
  refine ⟨r2, hr, ?_⟩
  rw [hr] at hq
  simp only [Nat.add_sub_cancel] at hq
  refine ⟨hs.1, ?_⟩
  have hs := hs.2
  refine ⟨hs.1, ?_⟩
  have hs := hs.2
  refine ⟨hs.1, ?_⟩
  have hs := hs.2
  obtain ⟨r3, hr, hs⟩ := hs
  refine ⟨r3, hr, ?_⟩
  rw [hr] at hq
  simp only [Nat.add_sub_cancel] at hq
  refine ⟨hs.1, ?_⟩
  have hs := hs.2
  refine ⟨hs.1, ?_⟩
  have hs := hs.2
  exact hq
