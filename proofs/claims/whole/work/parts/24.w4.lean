/-! what each method needs and does, printed by wip/whole/dec.py: part 4 -/
theorem zq_147 : zQ 147 1 5 11 := by unfold zQ; decide +kernel
theorem zi_147_0 : (zM 147).1[0]? = some (.aload 0) := by rfl
theorem zi_147_1 : (zM 147).1[1]? = some (.iconst 0) := by rfl
theorem zi_147_2 : (zM 147).1[2]? = some (.iconst 2) := by rfl
theorem zi_147_3 : (zM 147).1[3]? = some (.invokevirtual 142) := by rfl
theorem zi_147_4 : (zM 147).1[4]? = some (.istore 1) := by rfl
theorem zi_147_5 : (zM 147).1[5]? = some (.aload 0) := by rfl
theorem zi_147_6 : (zM 147).1[6]? = some (.getfield 11003) := by rfl
theorem zi_147_7 : (zM 147).1[7]? = some (.ifCond .ne ((19 : Nat) : Int)) := by rfl
theorem zi_147_8 : (zM 147).1[8]? = some (.aload 0) := by rfl
theorem zi_147_9 : (zM 147).1[9]? = some (.getfield 11019) := by rfl
theorem zi_147_10 : (zM 147).1[10]? = some (.iload 1) := by rfl
theorem zi_147_11 : (zM 147).1[11]? = some (.ishr) := by rfl
theorem zi_147_12 : (zM 147).1[12]? = some (.iconst 1) := by rfl
theorem zi_147_13 : (zM 147).1[13]? = some (.iand) := by rfl
theorem zi_147_14 : (zM 147).1[14]? = some (.iconst 1) := by rfl
theorem zi_147_15 : (zM 147).1[15]? = some (.if_icmp .ne ((19 : Nat) : Int)) := by rfl
theorem zi_147_16 : (zM 147).1[16]? = some (.aload 0) := by rfl
theorem zi_147_17 : (zM 147).1[17]? = some (.iconst 4) := by rfl
theorem zi_147_18 : (zM 147).1[18]? = some (.invokevirtual 139) := by rfl
theorem zi_147_19 : (zM 147).1[19]? = some (.aload 0) := by rfl
theorem zi_147_20 : (zM 147).1[20]? = some (.dup) := by rfl
theorem zi_147_21 : (zM 147).1[21]? = some (.getfield 11019) := by rfl
theorem zi_147_22 : (zM 147).1[22]? = some (.iconst 1) := by rfl
theorem zi_147_23 : (zM 147).1[23]? = some (.iload 1) := by rfl
theorem zi_147_24 : (zM 147).1[24]? = some (.ishl) := by rfl
theorem zi_147_25 : (zM 147).1[25]? = some (.ior) := by rfl
theorem zi_147_26 : (zM 147).1[26]? = some (.putfield 11019) := by rfl
theorem zi_147_27 : (zM 147).1[27]? = some (.iconst 0) := by rfl
theorem zi_147_28 : (zM 147).1[28]? = some (.istore 2) := by rfl
theorem zi_147_29 : (zM 147).1[29]? = some (.iconst 0) := by rfl
theorem zi_147_30 : (zM 147).1[30]? = some (.istore 3) := by rfl
theorem zi_147_31 : (zM 147).1[31]? = some (.iload 3) := by rfl
theorem zi_147_32 : (zM 147).1[32]? = some (.iconst 3) := by rfl
theorem zi_147_33 : (zM 147).1[33]? = some (.if_icmp .ge ((70 : Nat) : Int)) := by rfl
theorem zi_147_34 : (zM 147).1[34]? = some (.aload 0) := by rfl
theorem zi_147_35 : (zM 147).1[35]? = some (.invokevirtual 141) := by rfl
theorem zi_147_36 : (zM 147).1[36]? = some (.aload 0) := by rfl
theorem zi_147_37 : (zM 147).1[37]? = some (.iconst 0) := by rfl
theorem zi_147_38 : (zM 147).1[38]? = some (.iconst 4) := by rfl
theorem zi_147_39 : (zM 147).1[39]? = some (.invokevirtual 142) := by rfl
theorem zi_147_40 : (zM 147).1[40]? = some (.istore 4) := by rfl
theorem zi_147_41 : (zM 147).1[41]? = some (.iload 2) := by rfl
theorem zi_147_42 : (zM 147).1[42]? = some (.iload 4) := by rfl
theorem zi_147_43 : (zM 147).1[43]? = some (.iadd) := by rfl
theorem zi_147_44 : (zM 147).1[44]? = some (.istore 2) := by rfl
theorem zi_147_45 : (zM 147).1[45]? = some (.iload 3) := by rfl
theorem zi_147_46 : (zM 147).1[46]? = some (.iconst 2) := by rfl
theorem zi_147_47 : (zM 147).1[47]? = some (.if_icmp .ne ((57 : Nat) : Int)) := by rfl
theorem zi_147_48 : (zM 147).1[48]? = some (.aload 0) := by rfl
theorem zi_147_49 : (zM 147).1[49]? = some (.getfield 11003) := by rfl
theorem zi_147_50 : (zM 147).1[50]? = some (.ifCond .ne ((57 : Nat) : Int)) := by rfl
theorem zi_147_51 : (zM 147).1[51]? = some (.iload 2) := by rfl
theorem zi_147_52 : (zM 147).1[52]? = some (.iconst 4) := by rfl
theorem zi_147_53 : (zM 147).1[53]? = some (.if_icmp .eq ((57 : Nat) : Int)) := by rfl
theorem zi_147_54 : (zM 147).1[54]? = some (.aload 0) := by rfl
theorem zi_147_55 : (zM 147).1[55]? = some (.iconst 3) := by rfl
theorem zi_147_56 : (zM 147).1[56]? = some (.invokevirtual 139) := by rfl
theorem zi_147_57 : (zM 147).1[57]? = some (.aload 0) := by rfl
theorem zi_147_58 : (zM 147).1[58]? = some (.getfield 11216) := by rfl
theorem zi_147_59 : (zM 147).1[59]? = some (.iconst 19) := by rfl
theorem zi_147_60 : (zM 147).1[60]? = some (.iconst 3) := by rfl
theorem zi_147_61 : (zM 147).1[61]? = some (.iload 1) := by rfl
theorem zi_147_62 : (zM 147).1[62]? = some (.imul) := by rfl
theorem zi_147_63 : (zM 147).1[63]? = some (.iadd) := by rfl
theorem zi_147_64 : (zM 147).1[64]? = some (.iload 3) := by rfl
theorem zi_147_65 : (zM 147).1[65]? = some (.iadd) := by rfl
theorem zi_147_66 : (zM 147).1[66]? = some (.iload 4) := by rfl
theorem zi_147_67 : (zM 147).1[67]? = some (.iastore) := by rfl
theorem zi_147_68 : (zM 147).1[68]? = some (.iinc 3 1) := by rfl
theorem zi_147_69 : (zM 147).1[69]? = some (.goto ((31 : Nat) : Int)) := by rfl
theorem zi_147_70 : (zM 147).1[70]? = some (.aload 0) := by rfl
theorem zi_147_71 : (zM 147).1[71]? = some (.invokevirtual 141) := by rfl
theorem zi_147_72 : (zM 147).1[72]? = some (.return_) := by rfl
def wb_147_70 (E : Nat → Nat) (d : Nat) (Q : Option Value → ZH → Prop) (a0 : Nat) (h : ZH) : Prop := ztag h a0 = 11 ∧ Ct E d 141 [.ref a0] h (fun v h8 => v = none ∧ Q none h8)
set_option maxRecDepth 20000 in
theorem okb_147_70 {E : Nat → Nat} {d : Nat} {Q : Option Value → ZH → Prop} {a0 : Nat} {h : ZH} (hw : wb_147_70 E d Q a0 h) : Gx E (d + 1) 147 70 [.ref a0, .retAddr 0, .retAddr 0, .retAddr 0, .retAddr 0] [] h Q := by
  unfold wb_147_70 at hw
  refine zg_aload zi_147_70 rfl ?_
  obtain ⟨t7, hw⟩ := hw
  refine Gx.call2 (as := [.ref a0]) (rest := []) zq_141 zi_147_71 rfl rfl rfl (Nat.le_of_ble_eq_true rfl) (Nat.le_of_ble_eq_true rfl) (zrv_v t7 rfl rfl) (Nat.le_of_ble_eq_true rfl) ?_
  refine Ct.mono hw ?_
  rintro v h8 ⟨rfl, hw⟩
  show Gx E (d + 1) 147 72 [.ref a0, .retAddr 0, .retAddr 0, .retAddr 0, .retAddr 0] [] h8 Q
  exact zg_return zi_147_72 hw
def wb_147_57 (E : Nat → Nat) (d : Nat) (Q : Option Value → ZH → Prop) (L_31 : Nat → Int32 → Int32 → Int32 → ZH → Prop) (a0 : Nat) (a1 : Int32) (a2 : Int32) (a3 : Int32) (a4 : Int32) (h : ZH) : Prop := ztag h a0 = 11 ∧ ∃ r16 : Nat, zR h a0 16 = r16 + 1 ∧ ztag h r16 = 13 ∧ zin ((19 + (3 * a1)) + a3) (zlen h r16) = true ∧ ∀ h18 : ZH, h18 = (zuI h r16 ((19 + (3 * a1)) + a3 : Int32).toNatClampNeg a4) → ∀ x19 : Int32, x19 = (a3 + 1) → L_31 a0 a1 a2 x19 h18
set_option maxRecDepth 20000 in
theorem okb_147_57 {E : Nat → Nat} {d : Nat} {Q : Option Value → ZH → Prop} {L_31 : Nat → Int32 → Int32 → Int32 → ZH → Prop} (hL_31 : ∀ (b0 : Nat) (b1 : Int32) (b2 : Int32) (b3 : Int32) (h : ZH), L_31 b0 b1 b2 b3 h → Gx E (d + 1) 147 31 [.ref b0, .int b1, .int b2, .int b3, .retAddr 0] [] h Q) {a0 : Nat} {a1 : Int32} {a2 : Int32} {a3 : Int32} {a4 : Int32} {h : ZH} (hw : wb_147_57 E d Q L_31 a0 a1 a2 a3 a4 h) : Gx E (d + 1) 147 57 [.ref a0, .int a1, .int a2, .int a3, .int a4] [] h Q := by
  unfold wb_147_57 at hw
  refine zg_aload zi_147_57 rfl ?_
  obtain ⟨t15, hw⟩ := hw
  obtain ⟨r16, er16, hw⟩ := hw
  refine zg_getR (v := .ref r16) zi_147_58 t15 (by rfl) (by show zrv (zR h a0 16) = _; rw [er16]; rfl) ?_
  refine zg_const (v := 19) zi_147_59 (by rfl) ?_
  refine zg_const (v := 3) zi_147_60 (by rfl) ?_
  refine zg_iload zi_147_61 rfl ?_
  refine zg_imul zi_147_62 ?_
  refine zg_iadd zi_147_63 ?_
  refine zg_iload zi_147_64 rfl ?_
  refine zg_iadd zi_147_65 ?_
  refine zg_iload zi_147_66 rfl ?_
  obtain ⟨t17, hw⟩ := hw
  obtain ⟨hb, hw⟩ := hw
  refine zg_iastore (h1 := zuI h r16 ((19 + (3 * a1)) + a3 : Int32).toNatClampNeg a4) zi_147_67 t17 hb rfl ?_
  refine zg_nameH fun h18 eh18 => ?_
  have hw := hw h18 eh18
  obtain ⟨x19, ex19⟩ : ∃ x : Int32, x = a3 + 1 := ⟨_, rfl⟩
  have hw := hw x19 ex19
  refine zg_iinc (v := x19) (ls1 := [.ref a0, .int a1, .int a2, .int x19, .int a4]) zi_147_68 rfl (by rw [ex19]; rfl) rfl ?_
  refine zg_goto zi_147_69 ?_
  exact Gx.forget (zrk (zrk (zrk (zrk (zrd zr0))))) (hL_31 a0 a1 a2 x19 h18 hw)
def wl_147_31 (E : Nat → Nat) (d : Nat) (Q : Option Value → ZH → Prop) : Nat → Nat → Int32 → Int32 → Int32 → ZH → Prop
  | 0, _, _, _, _, _ => False
  | n + 1, a0, a1, a2, a3, h => (3 ≤ a3 → (wb_147_70 E d Q a0 h)) ∧ (¬ (3 ≤ a3) → (ztag h a0 = 11 ∧ Ct E d 141 [.ref a0] h (fun v h10 => v = none ∧ ztag h10 a0 = 11 ∧ Ct E d 142 [.ref a0, .int 0, .int 4] h10 (fun v h12 => ∃ x13 : Int32, v = some (.int x13) ∧ ∀ x14 : Int32, x14 = (a2 + x13) → ((¬ a3 = 2 → (wb_147_57 E d Q (wl_147_31 E d Q n) a0 a1 x14 a3 x13 h12)) ∧ (¬ (¬ a3 = 2) → (ztag h12 a0 = 11 ∧ ((¬ (zI h12 a0 3 : Int32) = 0 → (wb_147_57 E d Q (wl_147_31 E d Q n) a0 a1 x14 a3 x13 h12)) ∧ (¬ (¬ (zI h12 a0 3 : Int32) = 0) → ((x14 = 4 → (wb_147_57 E d Q (wl_147_31 E d Q n) a0 a1 x14 a3 x13 h12)) ∧ (¬ (x14 = 4) → (Ct E d 139 [.ref a0, .int 3] h12 (fun v h21 => v = none ∧ wb_147_57 E d Q (wl_147_31 E d Q n) a0 a1 x14 a3 x13 h21)))))))))))))
set_option maxRecDepth 20000 in
theorem okl_147_31 {E : Nat → Nat} {d : Nat} {Q : Option Value → ZH → Prop} : ∀ (n : Nat) (a0 : Nat) (a1 : Int32) (a2 : Int32) (a3 : Int32) (h : ZH), wl_147_31 E d Q n a0 a1 a2 a3 h → Gx E (d + 1) 147 31 [.ref a0, .int a1, .int a2, .int a3, .retAddr 0] [] h Q := by
  intro n
  induction n with
  | zero => intro a0 a1 a2 a3 h hw; exact hw.elim
  | succ n ih =>
    intro a0 a1 a2 a3 h hw
    rw [wl_147_31] at hw
    refine zg_iload zi_147_31 rfl ?_
    refine zg_const (v := 3) zi_147_32 (by rfl) ?_
    refine zg_icmp_ge zi_147_33 (fun hc => ?_) (fun hc => ?_)
    · have hw := hw.1 hc
      exact Gx.forget (zrk (zrd (zrd (zrd (zrk zr0))))) (okb_147_70 hw)
    · have hw := hw.2 hc
      refine zg_aload zi_147_34 rfl ?_
      obtain ⟨t9, hw⟩ := hw
      refine Gx.call2 (as := [.ref a0]) (rest := []) zq_141 zi_147_35 rfl rfl rfl (Nat.le_of_ble_eq_true rfl) (Nat.le_of_ble_eq_true rfl) (zrv_v t9 rfl rfl) (Nat.le_of_ble_eq_true rfl) ?_
      refine Ct.mono hw ?_
      rintro v h10 ⟨rfl, hw⟩
      show Gx E (d + 1) 147 36 [.ref a0, .int a1, .int a2, .int a3, .retAddr 0] [] h10 Q
      refine zg_aload zi_147_36 rfl ?_
      refine zg_const (v := 0) zi_147_37 (by rfl) ?_
      refine zg_const (v := 4) zi_147_38 (by rfl) ?_
      obtain ⟨t11, hw⟩ := hw
      refine Gx.call2 (as := [.ref a0, .int 0, .int 4]) (rest := []) zq_142 zi_147_39 rfl rfl rfl (Nat.le_of_ble_eq_true rfl) (Nat.le_of_ble_eq_true rfl) (zrv_v t11 rfl rfl) (Nat.le_of_ble_eq_true rfl) ?_
      refine Ct.mono hw ?_
      rintro v h12 ⟨x13, rfl, hw⟩
      show Gx E (d + 1) 147 40 [.ref a0, .int a1, .int a2, .int a3, .retAddr 0] [.int x13] h12 Q
      refine zg_istore (ls1 := [.ref a0, .int a1, .int a2, .int a3, .int x13]) zi_147_40 (Nat.le_of_ble_eq_true rfl) rfl ?_
      refine zg_iload zi_147_41 rfl ?_
      refine zg_iload zi_147_42 rfl ?_
      refine zg_iadd zi_147_43 ?_
      refine zg_nameI fun x14 ex14 => ?_
      have hw := hw x14 ex14
      refine zg_istore (ls1 := [.ref a0, .int a1, .int x14, .int a3, .int x13]) zi_147_44 (Nat.le_of_ble_eq_true rfl) rfl ?_
      refine zg_iload zi_147_45 rfl ?_
      refine zg_const (v := 2) zi_147_46 (by rfl) ?_
      refine zg_icmp_ne zi_147_47 (fun hc => ?_) (fun hc => ?_)
      · have hw := hw.1 hc
        exact okb_147_57 ih hw
      · have hw := hw.2 hc
        refine zg_aload zi_147_48 rfl ?_
        obtain ⟨t20, hw⟩ := hw
        refine zg_getI (v := .int (zI h12 a0 3)) zi_147_49 t20 (by rfl) rfl ?_
        refine zg_if_ne zi_147_50 (fun hc => ?_) (fun hc => ?_)
        · have hw := hw.1 hc
          exact okb_147_57 ih hw
        · have hw := hw.2 hc
          refine zg_iload zi_147_51 rfl ?_
          refine zg_const (v := 4) zi_147_52 (by rfl) ?_
          refine zg_icmp_eq zi_147_53 (fun hc => ?_) (fun hc => ?_)
          · have hw := hw.1 hc
            exact okb_147_57 ih hw
          · have hw := hw.2 hc
            refine zg_aload zi_147_54 rfl ?_
            refine zg_const (v := 3) zi_147_55 (by rfl) ?_
            refine Gx.call2 (as := [.ref a0, .int 3]) (rest := []) zq_139 zi_147_56 rfl rfl rfl (Nat.le_of_ble_eq_true rfl) (Nat.le_of_ble_eq_true rfl) (zrv_v t20 rfl rfl) (Nat.le_of_ble_eq_true rfl) ?_
            refine Ct.mono hw ?_
            rintro v h21 ⟨rfl, hw⟩
            show Gx E (d + 1) 147 57 [.ref a0, .int a1, .int x14, .int a3, .int x13] [] h21 Q
            exact okb_147_57 ih hw
def wb_147_19 (E : Nat → Nat) (d : Nat) (Q : Option Value → ZH → Prop) (a0 : Nat) (a1 : Int32) (h : ZH) : Prop := ztag h a0 = 11 ∧ ∀ h6 : ZH, h6 = (zuI h a0 19 ((zI h a0 19) ||| ((1 : Int32) <<< (a1 &&& 31)))) → (∃ mm : Nat, wl_147_31 E d Q mm a0 a1 0 0 h6)
set_option maxRecDepth 20000 in
theorem okb_147_19 {E : Nat → Nat} {d : Nat} {Q : Option Value → ZH → Prop} {a0 : Nat} {a1 : Int32} {h : ZH} (hw : wb_147_19 E d Q a0 a1 h) : Gx E (d + 1) 147 19 [.ref a0, .int a1, .retAddr 0, .retAddr 0, .retAddr 0] [] h Q := by
  unfold wb_147_19 at hw
  refine zg_aload zi_147_19 rfl ?_
  refine zg_dup zi_147_20 rfl ?_
  obtain ⟨t5, hw⟩ := hw
  refine zg_getI (v := .int (zI h a0 19)) zi_147_21 t5 (by rfl) rfl ?_
  refine zg_const (v := 1) zi_147_22 (by rfl) ?_
  refine zg_iload zi_147_23 rfl ?_
  refine zg_ishl zi_147_24 ?_
  refine zg_ior zi_147_25 ?_
  refine zg_putI (h1 := zuI h a0 19 ((zI h a0 19) ||| ((1 : Int32) <<< (a1 &&& 31)))) zi_147_26 t5 (by rfl) rfl ?_
  refine zg_nameH fun h6 eh6 => ?_
  have hw := hw h6 eh6
  refine zg_const (v := 0) zi_147_27 (by rfl) ?_
  refine zg_istore (ls1 := [.ref a0, .int a1, .int 0, .retAddr 0, .retAddr 0]) zi_147_28 (Nat.le_of_ble_eq_true rfl) rfl ?_
  refine zg_const (v := 0) zi_147_29 (by rfl) ?_
  refine zg_istore (ls1 := [.ref a0, .int a1, .int 0, .int 0, .retAddr 0]) zi_147_30 (Nat.le_of_ble_eq_true rfl) rfl ?_
  obtain ⟨mm, hw⟩ := hw
  exact okl_147_31 mm a0 a1 0 0 h6 hw
/-- TakeOrPayModel.readChance()V -/
def w_147 (E : Nat → Nat) (d : Nat) (a0 : Nat) (h : ZH) (Q : Option Value → ZH → Prop) : Prop := ztag h a0 = 11 ∧ Ct E d 142 [.ref a0, .int 0, .int 2] h (fun v h2 => ∃ x3 : Int32, v = some (.int x3) ∧ ztag h2 a0 = 11 ∧ ((¬ (zI h2 a0 3 : Int32) = 0 → (wb_147_19 E d Q a0 x3 h2)) ∧ (¬ (¬ (zI h2 a0 3 : Int32) = 0) → ((¬ (((zI h2 a0 19) >>> (x3 &&& 31)) &&& 1 : Int32) = 1 → (wb_147_19 E d Q a0 x3 h2)) ∧ (¬ (¬ (((zI h2 a0 19) >>> (x3 &&& 31)) &&& 1 : Int32) = 1) → (Ct E d 139 [.ref a0, .int 4] h2 (fun v h22 => v = none ∧ wb_147_19 E d Q a0 x3 h22)))))))
set_option maxRecDepth 20000 in
theorem ok_147 {E : Nat → Nat} {d : Nat} {a0 : Nat} {h : ZH} {Q : Option Value → ZH → Prop} (hw : w_147 E d a0 h Q) : Ct E (d + 1) 147 [.ref a0] h Q := by
  unfold w_147 at hw
  show Gx E (d + 1) 147 0 [.ref a0, .retAddr 0, .retAddr 0, .retAddr 0, .retAddr 0] [] h Q
  refine zg_aload zi_147_0 rfl ?_
  refine zg_const (v := 0) zi_147_1 (by rfl) ?_
  refine zg_const (v := 2) zi_147_2 (by rfl) ?_
  obtain ⟨t1, hw⟩ := hw
  refine Gx.call2 (as := [.ref a0, .int 0, .int 2]) (rest := []) zq_142 zi_147_3 rfl rfl rfl (Nat.le_of_ble_eq_true rfl) (Nat.le_of_ble_eq_true rfl) (zrv_v t1 rfl rfl) (Nat.le_of_ble_eq_true rfl) ?_
  refine Ct.mono hw ?_
  rintro v h2 ⟨x3, rfl, hw⟩
  show Gx E (d + 1) 147 4 [.ref a0, .retAddr 0, .retAddr 0, .retAddr 0, .retAddr 0] [.int x3] h2 Q
  refine zg_istore (ls1 := [.ref a0, .int x3, .retAddr 0, .retAddr 0, .retAddr 0]) zi_147_4 (Nat.le_of_ble_eq_true rfl) rfl ?_
  refine zg_aload zi_147_5 rfl ?_
  obtain ⟨t4, hw⟩ := hw
  refine zg_getI (v := .int (zI h2 a0 3)) zi_147_6 t4 (by rfl) rfl ?_
  refine zg_if_ne zi_147_7 (fun hc => ?_) (fun hc => ?_)
  · have hw := hw.1 hc
    exact okb_147_19 hw
  · have hw := hw.2 hc
    refine zg_aload zi_147_8 rfl ?_
    refine zg_getI (v := .int (zI h2 a0 19)) zi_147_9 t4 (by rfl) rfl ?_
    refine zg_iload zi_147_10 rfl ?_
    refine zg_ishr zi_147_11 ?_
    refine zg_const (v := 1) zi_147_12 (by rfl) ?_
    refine zg_iand zi_147_13 ?_
    refine zg_const (v := 1) zi_147_14 (by rfl) ?_
    refine zg_icmp_ne zi_147_15 (fun hc => ?_) (fun hc => ?_)
    · have hw := hw.1 hc
      exact okb_147_19 hw
    · have hw := hw.2 hc
      refine zg_aload zi_147_16 rfl ?_
      refine zg_const (v := 4) zi_147_17 (by rfl) ?_
      refine Gx.call2 (as := [.ref a0, .int 4]) (rest := []) zq_139 zi_147_18 rfl rfl rfl (Nat.le_of_ble_eq_true rfl) (Nat.le_of_ble_eq_true rfl) (zrv_v t4 rfl rfl) (Nat.le_of_ble_eq_true rfl) ?_
      refine Ct.mono hw ?_
      rintro v h22 ⟨rfl, hw⟩
      show Gx E (d + 1) 147 19 [.ref a0, .int x3, .retAddr 0, .retAddr 0, .retAddr 0] [] h22 Q
      exact okb_147_19 hw
theorem zq_148 : zQ 148 1 2 11 := by unfold zQ; decide +kernel
theorem zi_148_0 : (zM 148).1[0]? = some (.aload 0) := by rfl
theorem zi_148_1 : (zM 148).1[1]? = some (.getfield 11008) := by rfl
theorem zi_148_2 : (zM 148).1[2]? = some (.istore 1) := by rfl
theorem zi_148_3 : (zM 148).1[3]? = some (.aload 0) := by rfl
theorem zi_148_4 : (zM 148).1[4]? = some (.getfield 11007) := by rfl
theorem zi_148_5 : (zM 148).1[5]? = some (.iconst 1) := by rfl
theorem zi_148_6 : (zM 148).1[6]? = some (.if_icmp .ne ((10 : Nat) : Int)) := by rfl
theorem zi_148_7 : (zM 148).1[7]? = some (.iload 1) := by rfl
theorem zi_148_8 : (zM 148).1[8]? = some (.iconst 16) := by rfl
theorem zi_148_9 : (zM 148).1[9]? = some (.if_icmp .le ((14 : Nat) : Int)) := by rfl
theorem zi_148_10 : (zM 148).1[10]? = some (.aload 0) := by rfl
theorem zi_148_11 : (zM 148).1[11]? = some (.iconst 2) := by rfl
theorem zi_148_12 : (zM 148).1[12]? = some (.invokevirtual 139) := by rfl
theorem zi_148_13 : (zM 148).1[13]? = some (.return_) := by rfl
theorem zi_148_14 : (zM 148).1[14]? = some (.iload 1) := by rfl
theorem zi_148_15 : (zM 148).1[15]? = some (.iconst 12) := by rfl
theorem zi_148_16 : (zM 148).1[16]? = some (.if_icmp .lt ((23 : Nat) : Int)) := by rfl
theorem zi_148_17 : (zM 148).1[17]? = some (.iload 1) := by rfl
theorem zi_148_18 : (zM 148).1[18]? = some (.iconst 13) := by rfl
theorem zi_148_19 : (zM 148).1[19]? = some (.if_icmp .eq ((23 : Nat) : Int)) := by rfl
theorem zi_148_20 : (zM 148).1[20]? = some (.iload 1) := by rfl
theorem zi_148_21 : (zM 148).1[21]? = some (.iconst 16) := by rfl
theorem zi_148_22 : (zM 148).1[22]? = some (.if_icmp .ne ((42 : Nat) : Int)) := by rfl
theorem zi_148_23 : (zM 148).1[23]? = some (.aload 0) := by rfl
theorem zi_148_24 : (zM 148).1[24]? = some (.getfield 11017) := by rfl
theorem zi_148_25 : (zM 148).1[25]? = some (.iload 1) := by rfl
theorem zi_148_26 : (zM 148).1[26]? = some (.ishr) := by rfl
theorem zi_148_27 : (zM 148).1[27]? = some (.iconst 1) := by rfl
theorem zi_148_28 : (zM 148).1[28]? = some (.iand) := by rfl
theorem zi_148_29 : (zM 148).1[29]? = some (.iconst 1) := by rfl
theorem zi_148_30 : (zM 148).1[30]? = some (.if_icmp .ne ((34 : Nat) : Int)) := by rfl
theorem zi_148_31 : (zM 148).1[31]? = some (.aload 0) := by rfl
theorem zi_148_32 : (zM 148).1[32]? = some (.iconst 4) := by rfl
theorem zi_148_33 : (zM 148).1[33]? = some (.invokevirtual 139) := by rfl
theorem zi_148_34 : (zM 148).1[34]? = some (.aload 0) := by rfl
theorem zi_148_35 : (zM 148).1[35]? = some (.dup) := by rfl
theorem zi_148_36 : (zM 148).1[36]? = some (.getfield 11017) := by rfl
theorem zi_148_37 : (zM 148).1[37]? = some (.iconst 1) := by rfl
theorem zi_148_38 : (zM 148).1[38]? = some (.iload 1) := by rfl
theorem zi_148_39 : (zM 148).1[39]? = some (.ishl) := by rfl
theorem zi_148_40 : (zM 148).1[40]? = some (.ior) := by rfl
theorem zi_148_41 : (zM 148).1[41]? = some (.putfield 11017) := by rfl
theorem zi_148_42 : (zM 148).1[42]? = some (.aload 0) := by rfl
theorem zi_148_43 : (zM 148).1[43]? = some (.invokevirtual 141) := by rfl
theorem zi_148_44 : (zM 148).1[44]? = some (.iload 1) := by rfl
theorem zi_148_45 : (zM 148).1[45]? = some (.tableswitch 89 3 15 #[46, 89, 89, 89, 89, 49, 89, 71, 71, 80, 89, 83, 86]) := by rfl
theorem zi_148_46 : (zM 148).1[46]? = some (.aload 0) := by rfl
theorem zi_148_47 : (zM 148).1[47]? = some (.invokevirtual 144) := by rfl
theorem zi_148_48 : (zM 148).1[48]? = some (.goto ((114 : Nat) : Int)) := by rfl
theorem zi_148_49 : (zM 148).1[49]? = some (.aload 0) := by rfl
theorem zi_148_50 : (zM 148).1[50]? = some (.iconst 17) := by rfl
theorem zi_148_51 : (zM 148).1[51]? = some (.iconst 18) := by rfl
theorem zi_148_52 : (zM 148).1[52]? = some (.invokevirtual 143) := by rfl
theorem zi_148_53 : (zM 148).1[53]? = some (.aload 0) := by rfl
theorem zi_148_54 : (zM 148).1[54]? = some (.getfield 11216) := by rfl
theorem zi_148_55 : (zM 148).1[55]? = some (.iconst 9) := by rfl
theorem zi_148_56 : (zM 148).1[56]? = some (.aload 0) := by rfl
theorem zi_148_57 : (zM 148).1[57]? = some (.getfield 11003) := by rfl
theorem zi_148_58 : (zM 148).1[58]? = some (.ifCond .ne ((66 : Nat) : Int)) := by rfl
theorem zi_148_59 : (zM 148).1[59]? = some (.aload 0) := by rfl
theorem zi_148_60 : (zM 148).1[60]? = some (.getfield 11008) := by rfl
theorem zi_148_61 : (zM 148).1[61]? = some (.iconst 17) := by rfl
theorem zi_148_62 : (zM 148).1[62]? = some (.isub) := by rfl
theorem zi_148_63 : (zM 148).1[63]? = some (.iconst 1) := by rfl
theorem zi_148_64 : (zM 148).1[64]? = some (.iadd) := by rfl
theorem zi_148_65 : (zM 148).1[65]? = some (.goto ((67 : Nat) : Int)) := by rfl
theorem zi_148_66 : (zM 148).1[66]? = some (.iconst 0) := by rfl
theorem zi_148_67 : (zM 148).1[67]? = some (.iastore) := by rfl
theorem zi_148_68 : (zM 148).1[68]? = some (.aload 0) := by rfl
theorem zi_148_69 : (zM 148).1[69]? = some (.invokevirtual 141) := by rfl
theorem zi_148_70 : (zM 148).1[70]? = some (.goto ((114 : Nat) : Int)) := by rfl
theorem zi_148_71 : (zM 148).1[71]? = some (.aload 0) := by rfl
theorem zi_148_72 : (zM 148).1[72]? = some (.getfield 11216) := by rfl
theorem zi_148_73 : (zM 148).1[73]? = some (.aload 0) := by rfl
theorem zi_148_74 : (zM 148).1[74]? = some (.getfield 11211) := by rfl
theorem zi_148_75 : (zM 148).1[75]? = some (.iload 1) := by rfl
theorem zi_148_76 : (zM 148).1[76]? = some (.iaload) := by rfl
theorem zi_148_77 : (zM 148).1[77]? = some (.iconst 1) := by rfl
theorem zi_148_78 : (zM 148).1[78]? = some (.iastore) := by rfl
theorem zi_148_79 : (zM 148).1[79]? = some (.goto ((114 : Nat) : Int)) := by rfl
theorem zi_148_80 : (zM 148).1[80]? = some (.aload 0) := by rfl
theorem zi_148_81 : (zM 148).1[81]? = some (.invokevirtual 145) := by rfl
theorem zi_148_82 : (zM 148).1[82]? = some (.goto ((114 : Nat) : Int)) := by rfl
theorem zi_148_83 : (zM 148).1[83]? = some (.aload 0) := by rfl
theorem zi_148_84 : (zM 148).1[84]? = some (.invokevirtual 146) := by rfl
theorem zi_148_85 : (zM 148).1[85]? = some (.goto ((114 : Nat) : Int)) := by rfl
theorem zi_148_86 : (zM 148).1[86]? = some (.aload 0) := by rfl
theorem zi_148_87 : (zM 148).1[87]? = some (.invokevirtual 147) := by rfl
theorem zi_148_88 : (zM 148).1[88]? = some (.goto ((114 : Nat) : Int)) := by rfl
theorem zi_148_89 : (zM 148).1[89]? = some (.aload 0) := by rfl
theorem zi_148_90 : (zM 148).1[90]? = some (.getfield 11216) := by rfl
theorem zi_148_91 : (zM 148).1[91]? = some (.aload 0) := by rfl
theorem zi_148_92 : (zM 148).1[92]? = some (.getfield 11211) := by rfl
theorem zi_148_93 : (zM 148).1[93]? = some (.iload 1) := by rfl
theorem zi_148_94 : (zM 148).1[94]? = some (.iaload) := by rfl
theorem zi_148_95 : (zM 148).1[95]? = some (.aload 0) := by rfl
theorem zi_148_96 : (zM 148).1[96]? = some (.aload 0) := by rfl
theorem zi_148_97 : (zM 148).1[97]? = some (.getfield 11213) := by rfl
theorem zi_148_98 : (zM 148).1[98]? = some (.aload 0) := by rfl
theorem zi_148_99 : (zM 148).1[99]? = some (.getfield 11211) := by rfl
theorem zi_148_100 : (zM 148).1[100]? = some (.iload 1) := by rfl
theorem zi_148_101 : (zM 148).1[101]? = some (.iaload) := by rfl
theorem zi_148_102 : (zM 148).1[102]? = some (.iaload) := by rfl
theorem zi_148_103 : (zM 148).1[103]? = some (.aload 0) := by rfl
theorem zi_148_104 : (zM 148).1[104]? = some (.getfield 11214) := by rfl
theorem zi_148_105 : (zM 148).1[105]? = some (.aload 0) := by rfl
theorem zi_148_106 : (zM 148).1[106]? = some (.getfield 11211) := by rfl
theorem zi_148_107 : (zM 148).1[107]? = some (.iload 1) := by rfl
theorem zi_148_108 : (zM 148).1[108]? = some (.iaload) := by rfl
theorem zi_148_109 : (zM 148).1[109]? = some (.iaload) := by rfl
theorem zi_148_110 : (zM 148).1[110]? = some (.invokevirtual 142) := by rfl
theorem zi_148_111 : (zM 148).1[111]? = some (.iastore) := by rfl
theorem zi_148_112 : (zM 148).1[112]? = some (.aload 0) := by rfl
theorem zi_148_113 : (zM 148).1[113]? = some (.invokevirtual 141) := by rfl
theorem zi_148_114 : (zM 148).1[114]? = some (.aload 0) := by rfl
theorem zi_148_115 : (zM 148).1[115]? = some (.getfield 11003) := by rfl
theorem zi_148_116 : (zM 148).1[116]? = some (.ifCond .ne ((124 : Nat) : Int)) := by rfl
theorem zi_148_117 : (zM 148).1[117]? = some (.aload 0) := by rfl
theorem zi_148_118 : (zM 148).1[118]? = some (.getfield 11007) := by rfl
theorem zi_148_119 : (zM 148).1[119]? = some (.iconst 3) := by rfl
theorem zi_148_120 : (zM 148).1[120]? = some (.if_icmp .eq ((124 : Nat) : Int)) := by rfl
theorem zi_148_121 : (zM 148).1[121]? = some (.aload 0) := by rfl
theorem zi_148_122 : (zM 148).1[122]? = some (.iconst 2) := by rfl
theorem zi_148_123 : (zM 148).1[123]? = some (.invokevirtual 139) := by rfl
theorem zi_148_124 : (zM 148).1[124]? = some (.aload 0) := by rfl
theorem zi_148_125 : (zM 148).1[125]? = some (.invokevirtual 141) := by rfl
theorem zi_148_126 : (zM 148).1[126]? = some (.return_) := by rfl
def wb_148_124 (E : Nat → Nat) (d : Nat) (Q : Option Value → ZH → Prop) (a0 : Nat) (h : ZH) : Prop := ztag h a0 = 11 ∧ Ct E d 141 [.ref a0] h (fun v h24 => v = none ∧ Q none h24)
set_option maxRecDepth 20000 in
theorem okb_148_124 {E : Nat → Nat} {d : Nat} {Q : Option Value → ZH → Prop} {a0 : Nat} {h : ZH} (hw : wb_148_124 E d Q a0 h) : Gx E (d + 1) 148 124 [.ref a0, .retAddr 0] [] h Q := by
  unfold wb_148_124 at hw
  refine zg_aload zi_148_124 rfl ?_
  obtain ⟨t23, hw⟩ := hw
  refine Gx.call2 (as := [.ref a0]) (rest := []) zq_141 zi_148_125 rfl rfl rfl (Nat.le_of_ble_eq_true rfl) (Nat.le_of_ble_eq_true rfl) (zrv_v t23 rfl rfl) (Nat.le_of_ble_eq_true rfl) ?_
  refine Ct.mono hw ?_
  rintro v h24 ⟨rfl, hw⟩
  show Gx E (d + 1) 148 126 [.ref a0, .retAddr 0] [] h24 Q
  exact zg_return zi_148_126 hw
def wb_148_114 (E : Nat → Nat) (d : Nat) (Q : Option Value → ZH → Prop) (a0 : Nat) (h : ZH) : Prop := ztag h a0 = 11 ∧ ((¬ (zI h a0 3 : Int32) = 0 → (wb_148_124 E d Q a0 h)) ∧ (¬ (¬ (zI h a0 3 : Int32) = 0) → (((zI h a0 7 : Int32) = 3 → (wb_148_124 E d Q a0 h)) ∧ (¬ ((zI h a0 7 : Int32) = 3) → (Ct E d 139 [.ref a0, .int 2] h (fun v h25 => v = none ∧ wb_148_124 E d Q a0 h25))))))
set_option maxRecDepth 20000 in
theorem okb_148_114 {E : Nat → Nat} {d : Nat} {Q : Option Value → ZH → Prop} {a0 : Nat} {h : ZH} (hw : wb_148_114 E d Q a0 h) : Gx E (d + 1) 148 114 [.ref a0, .retAddr 0] [] h Q := by
  unfold wb_148_114 at hw
  refine zg_aload zi_148_114 rfl ?_
  obtain ⟨t22, hw⟩ := hw
  refine zg_getI (v := .int (zI h a0 3)) zi_148_115 t22 (by rfl) rfl ?_
  refine zg_if_ne zi_148_116 (fun hc => ?_) (fun hc => ?_)
  · have hw := hw.1 hc
    exact okb_148_124 hw
  · have hw := hw.2 hc
    refine zg_aload zi_148_117 rfl ?_
    refine zg_getI (v := .int (zI h a0 7)) zi_148_118 t22 (by rfl) rfl ?_
    refine zg_const (v := 3) zi_148_119 (by rfl) ?_
    refine zg_icmp_eq zi_148_120 (fun hc => ?_) (fun hc => ?_)
    · have hw := hw.1 hc
      exact okb_148_124 hw
    · have hw := hw.2 hc
      refine zg_aload zi_148_121 rfl ?_
      refine zg_const (v := 2) zi_148_122 (by rfl) ?_
      refine Gx.call2 (as := [.ref a0, .int 2]) (rest := []) zq_139 zi_148_123 rfl rfl rfl (Nat.le_of_ble_eq_true rfl) (Nat.le_of_ble_eq_true rfl) (zrv_v t22 rfl rfl) (Nat.le_of_ble_eq_true rfl) ?_
      refine Ct.mono hw ?_
      rintro v h25 ⟨rfl, hw⟩
      show Gx E (d + 1) 148 124 [.ref a0, .retAddr 0] [] h25 Q
      exact okb_148_124 hw
set_option maxRecDepth 20000 in
theorem zsl_148_45 : ∀ z : Int, ¬ (z < 3 ∨ 15 < z) → ¬ z = 3 → ¬ z = 4 → ¬ z = 5 → ¬ z = 6 → ¬ z = 7 → ¬ z = 8 → ¬ z = 9 → ¬ z = 10 → ¬ z = 11 → ¬ z = 12 → ¬ z = 13 → ¬ z = 14 →  z = 15 := by intros; omega
def wb_148_42 (E : Nat → Nat) (d : Nat) (Q : Option Value → ZH → Prop) (a0 : Nat) (a1 : Int32) (h : ZH) : Prop := ztag h a0 = 11 ∧ Ct E d 141 [.ref a0] h (fun v h7 => v = none ∧ (((a1.toInt < 3 ∨ 15 < a1.toInt) → (ztag h7 a0 = 11 ∧ ∃ r9 : Nat, zR h7 a0 16 = r9 + 1 ∧ ∃ r10 : Nat, zR h7 a0 11 = r10 + 1 ∧ (ztag h7 r10 = 13 ∨ ztag h7 r10 = 19) ∧ zin a1 (zlen h7 r10) = true ∧ ∃ r12 : Nat, zR h7 a0 13 = r12 + 1 ∧ zin a1 (zlen h7 r10) = true ∧ (ztag h7 r12 = 13 ∨ ztag h7 r12 = 19) ∧ zin (zI h7 r10 a1.toNatClampNeg) (zlen h7 r12) = true ∧ ∃ r14 : Nat, zR h7 a0 14 = r14 + 1 ∧ zin a1 (zlen h7 r10) = true ∧ (ztag h7 r14 = 13 ∨ ztag h7 r14 = 19) ∧ zin (zI h7 r10 a1.toNatClampNeg) (zlen h7 r14) = true ∧ Ct E d 142 [.ref a0, .int (zI h7 r12 (zI h7 r10 a1.toNatClampNeg : Int32).toNatClampNeg), .int (zI h7 r14 (zI h7 r10 a1.toNatClampNeg : Int32).toNatClampNeg)] h7 (fun v h16 => ∃ x17 : Int32, v = some (.int x17) ∧ ztag h16 r9 = 13 ∧ zin (zI h7 r10 a1.toNatClampNeg) (zlen h16 r9) = true ∧ ∀ h19 : ZH, h19 = (zuI h16 r9 (zI h7 r10 a1.toNatClampNeg : Int32).toNatClampNeg x17) → ztag h19 a0 = 11 ∧ Ct E d 141 [.ref a0] h19 (fun v h21 => v = none ∧ wb_148_114 E d Q a0 h21)))) ∧ (a1.toInt = 3 → (ztag h7 a0 = 11 ∧ Ct E d 144 [.ref a0] h7 (fun v h27 => v = none ∧ wb_148_114 E d Q a0 h27))) ∧ (a1.toInt = 4 → (ztag h7 a0 = 11 ∧ ∃ r29 : Nat, zR h7 a0 16 = r29 + 1 ∧ ∃ r30 : Nat, zR h7 a0 11 = r30 + 1 ∧ (ztag h7 r30 = 13 ∨ ztag h7 r30 = 19) ∧ zin a1 (zlen h7 r30) = true ∧ ∃ r32 : Nat, zR h7 a0 13 = r32 + 1 ∧ zin a1 (zlen h7 r30) = true ∧ (ztag h7 r32 = 13 ∨ ztag h7 r32 = 19) ∧ zin (zI h7 r30 a1.toNatClampNeg) (zlen h7 r32) = true ∧ ∃ r34 : Nat, zR h7 a0 14 = r34 + 1 ∧ zin a1 (zlen h7 r30) = true ∧ (ztag h7 r34 = 13 ∨ ztag h7 r34 = 19) ∧ zin (zI h7 r30 a1.toNatClampNeg) (zlen h7 r34) = true ∧ Ct E d 142 [.ref a0, .int (zI h7 r32 (zI h7 r30 a1.toNatClampNeg : Int32).toNatClampNeg), .int (zI h7 r34 (zI h7 r30 a1.toNatClampNeg : Int32).toNatClampNeg)] h7 (fun v h36 => ∃ x37 : Int32, v = some (.int x37) ∧ ztag h36 r29 = 13 ∧ zin (zI h7 r30 a1.toNatClampNeg) (zlen h36 r29) = true ∧ ∀ h39 : ZH, h39 = (zuI h36 r29 (zI h7 r30 a1.toNatClampNeg : Int32).toNatClampNeg x37) → ztag h39 a0 = 11 ∧ Ct E d 141 [.ref a0] h39 (fun v h41 => v = none ∧ wb_148_114 E d Q a0 h41)))) ∧ (a1.toInt = 5 → (ztag h7 a0 = 11 ∧ ∃ r43 : Nat, zR h7 a0 16 = r43 + 1 ∧ ∃ r44 : Nat, zR h7 a0 11 = r44 + 1 ∧ (ztag h7 r44 = 13 ∨ ztag h7 r44 = 19) ∧ zin a1 (zlen h7 r44) = true ∧ ∃ r46 : Nat, zR h7 a0 13 = r46 + 1 ∧ zin a1 (zlen h7 r44) = true ∧ (ztag h7 r46 = 13 ∨ ztag h7 r46 = 19) ∧ zin (zI h7 r44 a1.toNatClampNeg) (zlen h7 r46) = true ∧ ∃ r48 : Nat, zR h7 a0 14 = r48 + 1 ∧ zin a1 (zlen h7 r44) = true ∧ (ztag h7 r48 = 13 ∨ ztag h7 r48 = 19) ∧ zin (zI h7 r44 a1.toNatClampNeg) (zlen h7 r48) = true ∧ Ct E d 142 [.ref a0, .int (zI h7 r46 (zI h7 r44 a1.toNatClampNeg : Int32).toNatClampNeg), .int (zI h7 r48 (zI h7 r44 a1.toNatClampNeg : Int32).toNatClampNeg)] h7 (fun v h50 => ∃ x51 : Int32, v = some (.int x51) ∧ ztag h50 r43 = 13 ∧ zin (zI h7 r44 a1.toNatClampNeg) (zlen h50 r43) = true ∧ ∀ h53 : ZH, h53 = (zuI h50 r43 (zI h7 r44 a1.toNatClampNeg : Int32).toNatClampNeg x51) → ztag h53 a0 = 11 ∧ Ct E d 141 [.ref a0] h53 (fun v h55 => v = none ∧ wb_148_114 E d Q a0 h55)))) ∧ (a1.toInt = 6 → (ztag h7 a0 = 11 ∧ ∃ r57 : Nat, zR h7 a0 16 = r57 + 1 ∧ ∃ r58 : Nat, zR h7 a0 11 = r58 + 1 ∧ (ztag h7 r58 = 13 ∨ ztag h7 r58 = 19) ∧ zin a1 (zlen h7 r58) = true ∧ ∃ r60 : Nat, zR h7 a0 13 = r60 + 1 ∧ zin a1 (zlen h7 r58) = true ∧ (ztag h7 r60 = 13 ∨ ztag h7 r60 = 19) ∧ zin (zI h7 r58 a1.toNatClampNeg) (zlen h7 r60) = true ∧ ∃ r62 : Nat, zR h7 a0 14 = r62 + 1 ∧ zin a1 (zlen h7 r58) = true ∧ (ztag h7 r62 = 13 ∨ ztag h7 r62 = 19) ∧ zin (zI h7 r58 a1.toNatClampNeg) (zlen h7 r62) = true ∧ Ct E d 142 [.ref a0, .int (zI h7 r60 (zI h7 r58 a1.toNatClampNeg : Int32).toNatClampNeg), .int (zI h7 r62 (zI h7 r58 a1.toNatClampNeg : Int32).toNatClampNeg)] h7 (fun v h64 => ∃ x65 : Int32, v = some (.int x65) ∧ ztag h64 r57 = 13 ∧ zin (zI h7 r58 a1.toNatClampNeg) (zlen h64 r57) = true ∧ ∀ h67 : ZH, h67 = (zuI h64 r57 (zI h7 r58 a1.toNatClampNeg : Int32).toNatClampNeg x65) → ztag h67 a0 = 11 ∧ Ct E d 141 [.ref a0] h67 (fun v h69 => v = none ∧ wb_148_114 E d Q a0 h69)))) ∧ (a1.toInt = 7 → (ztag h7 a0 = 11 ∧ ∃ r71 : Nat, zR h7 a0 16 = r71 + 1 ∧ ∃ r72 : Nat, zR h7 a0 11 = r72 + 1 ∧ (ztag h7 r72 = 13 ∨ ztag h7 r72 = 19) ∧ zin a1 (zlen h7 r72) = true ∧ ∃ r74 : Nat, zR h7 a0 13 = r74 + 1 ∧ zin a1 (zlen h7 r72) = true ∧ (ztag h7 r74 = 13 ∨ ztag h7 r74 = 19) ∧ zin (zI h7 r72 a1.toNatClampNeg) (zlen h7 r74) = true ∧ ∃ r76 : Nat, zR h7 a0 14 = r76 + 1 ∧ zin a1 (zlen h7 r72) = true ∧ (ztag h7 r76 = 13 ∨ ztag h7 r76 = 19) ∧ zin (zI h7 r72 a1.toNatClampNeg) (zlen h7 r76) = true ∧ Ct E d 142 [.ref a0, .int (zI h7 r74 (zI h7 r72 a1.toNatClampNeg : Int32).toNatClampNeg), .int (zI h7 r76 (zI h7 r72 a1.toNatClampNeg : Int32).toNatClampNeg)] h7 (fun v h78 => ∃ x79 : Int32, v = some (.int x79) ∧ ztag h78 r71 = 13 ∧ zin (zI h7 r72 a1.toNatClampNeg) (zlen h78 r71) = true ∧ ∀ h81 : ZH, h81 = (zuI h78 r71 (zI h7 r72 a1.toNatClampNeg : Int32).toNatClampNeg x79) → ztag h81 a0 = 11 ∧ Ct E d 141 [.ref a0] h81 (fun v h83 => v = none ∧ wb_148_114 E d Q a0 h83)))) ∧ (a1.toInt = 8 → (ztag h7 a0 = 11 ∧ Ct E d 143 [.ref a0, .int 17, .int 18] h7 (fun v h85 => v = none ∧ ztag h85 a0 = 11 ∧ ∃ r87 : Nat, zR h85 a0 16 = r87 + 1 ∧ ztag h85 r87 = 13 ∧ zin 9 (zlen h85 r87) = true ∧ ∀ h89 : ZH, h89 = (zuI h85 r87 9 (if ¬ (zI h85 a0 3 : Int32) = 0 then 0 else ((zI h85 a0 8) - 17) + 1)) → Ct E d 141 [.ref a0] h89 (fun v h90 => v = none ∧ wb_148_114 E d Q a0 h90)))) ∧ (a1.toInt = 9 → (ztag h7 a0 = 11 ∧ ∃ r92 : Nat, zR h7 a0 16 = r92 + 1 ∧ ∃ r93 : Nat, zR h7 a0 11 = r93 + 1 ∧ (ztag h7 r93 = 13 ∨ ztag h7 r93 = 19) ∧ zin a1 (zlen h7 r93) = true ∧ ∃ r95 : Nat, zR h7 a0 13 = r95 + 1 ∧ zin a1 (zlen h7 r93) = true ∧ (ztag h7 r95 = 13 ∨ ztag h7 r95 = 19) ∧ zin (zI h7 r93 a1.toNatClampNeg) (zlen h7 r95) = true ∧ ∃ r97 : Nat, zR h7 a0 14 = r97 + 1 ∧ zin a1 (zlen h7 r93) = true ∧ (ztag h7 r97 = 13 ∨ ztag h7 r97 = 19) ∧ zin (zI h7 r93 a1.toNatClampNeg) (zlen h7 r97) = true ∧ Ct E d 142 [.ref a0, .int (zI h7 r95 (zI h7 r93 a1.toNatClampNeg : Int32).toNatClampNeg), .int (zI h7 r97 (zI h7 r93 a1.toNatClampNeg : Int32).toNatClampNeg)] h7 (fun v h99 => ∃ x100 : Int32, v = some (.int x100) ∧ ztag h99 r92 = 13 ∧ zin (zI h7 r93 a1.toNatClampNeg) (zlen h99 r92) = true ∧ ∀ h102 : ZH, h102 = (zuI h99 r92 (zI h7 r93 a1.toNatClampNeg : Int32).toNatClampNeg x100) → ztag h102 a0 = 11 ∧ Ct E d 141 [.ref a0] h102 (fun v h104 => v = none ∧ wb_148_114 E d Q a0 h104)))) ∧ (a1.toInt = 10 → (ztag h7 a0 = 11 ∧ ∃ r106 : Nat, zR h7 a0 16 = r106 + 1 ∧ ∃ r107 : Nat, zR h7 a0 11 = r107 + 1 ∧ (ztag h7 r107 = 13 ∨ ztag h7 r107 = 19) ∧ zin a1 (zlen h7 r107) = true ∧ ztag h7 r106 = 13 ∧ zin (zI h7 r107 a1.toNatClampNeg) (zlen h7 r106) = true ∧ ∀ h110 : ZH, h110 = (zuI h7 r106 (zI h7 r107 a1.toNatClampNeg : Int32).toNatClampNeg 1) → wb_148_114 E d Q a0 h110)) ∧ (a1.toInt = 11 → (ztag h7 a0 = 11 ∧ ∃ r112 : Nat, zR h7 a0 16 = r112 + 1 ∧ ∃ r113 : Nat, zR h7 a0 11 = r113 + 1 ∧ (ztag h7 r113 = 13 ∨ ztag h7 r113 = 19) ∧ zin a1 (zlen h7 r113) = true ∧ ztag h7 r112 = 13 ∧ zin (zI h7 r113 a1.toNatClampNeg) (zlen h7 r112) = true ∧ ∀ h116 : ZH, h116 = (zuI h7 r112 (zI h7 r113 a1.toNatClampNeg : Int32).toNatClampNeg 1) → wb_148_114 E d Q a0 h116)) ∧ (a1.toInt = 12 → (ztag h7 a0 = 11 ∧ Ct E d 145 [.ref a0] h7 (fun v h118 => v = none ∧ wb_148_114 E d Q a0 h118))) ∧ (a1.toInt = 13 → (ztag h7 a0 = 11 ∧ ∃ r120 : Nat, zR h7 a0 16 = r120 + 1 ∧ ∃ r121 : Nat, zR h7 a0 11 = r121 + 1 ∧ (ztag h7 r121 = 13 ∨ ztag h7 r121 = 19) ∧ zin a1 (zlen h7 r121) = true ∧ ∃ r123 : Nat, zR h7 a0 13 = r123 + 1 ∧ zin a1 (zlen h7 r121) = true ∧ (ztag h7 r123 = 13 ∨ ztag h7 r123 = 19) ∧ zin (zI h7 r121 a1.toNatClampNeg) (zlen h7 r123) = true ∧ ∃ r125 : Nat, zR h7 a0 14 = r125 + 1 ∧ zin a1 (zlen h7 r121) = true ∧ (ztag h7 r125 = 13 ∨ ztag h7 r125 = 19) ∧ zin (zI h7 r121 a1.toNatClampNeg) (zlen h7 r125) = true ∧ Ct E d 142 [.ref a0, .int (zI h7 r123 (zI h7 r121 a1.toNatClampNeg : Int32).toNatClampNeg), .int (zI h7 r125 (zI h7 r121 a1.toNatClampNeg : Int32).toNatClampNeg)] h7 (fun v h127 => ∃ x128 : Int32, v = some (.int x128) ∧ ztag h127 r120 = 13 ∧ zin (zI h7 r121 a1.toNatClampNeg) (zlen h127 r120) = true ∧ ∀ h130 : ZH, h130 = (zuI h127 r120 (zI h7 r121 a1.toNatClampNeg : Int32).toNatClampNeg x128) → ztag h130 a0 = 11 ∧ Ct E d 141 [.ref a0] h130 (fun v h132 => v = none ∧ wb_148_114 E d Q a0 h132)))) ∧ (a1.toInt = 14 → (ztag h7 a0 = 11 ∧ Ct E d 146 [.ref a0] h7 (fun v h134 => v = none ∧ wb_148_114 E d Q a0 h134))) ∧ (a1.toInt = 15 → (ztag h7 a0 = 11 ∧ Ct E d 147 [.ref a0] h7 (fun v h136 => v = none ∧ wb_148_114 E d Q a0 h136)))))
set_option maxRecDepth 20000 in
theorem okb_148_42 {E : Nat → Nat} {d : Nat} {Q : Option Value → ZH → Prop} {a0 : Nat} {a1 : Int32} {h : ZH} (hw : wb_148_42 E d Q a0 a1 h) : Gx E (d + 1) 148 42 [.ref a0, .int a1] [] h Q := by
  unfold wb_148_42 at hw
  refine zg_aload zi_148_42 rfl ?_
  obtain ⟨t6, hw⟩ := hw
  refine Gx.call2 (as := [.ref a0]) (rest := []) zq_141 zi_148_43 rfl rfl rfl (Nat.le_of_ble_eq_true rfl) (Nat.le_of_ble_eq_true rfl) (zrv_v t6 rfl rfl) (Nat.le_of_ble_eq_true rfl) ?_
  refine Ct.mono hw ?_
  rintro v h7 ⟨rfl, hw⟩
  show Gx E (d + 1) 148 44 [.ref a0, .int a1] [] h7 Q
  refine zg_iload zi_148_44 rfl ?_
  by_cases ho : a1.toInt < 3 ∨ 15 < a1.toInt
  · have hw := hw.1 ho
    refine zg_switch (t := 89) zi_148_45 (by unfold zsw; rw [if_pos ho]; rfl) ?_
    refine zg_aload zi_148_89 rfl ?_
    obtain ⟨t8, hw⟩ := hw
    obtain ⟨r9, er9, hw⟩ := hw
    refine zg_getR (v := .ref r9) zi_148_90 t8 (by rfl) (by show zrv (zR h7 a0 16) = _; rw [er9]; rfl) ?_
    refine zg_aload zi_148_91 rfl ?_
    obtain ⟨r10, er10, hw⟩ := hw
    refine zg_getR (v := .ref r10) zi_148_92 t8 (by rfl) (by show zrv (zR h7 a0 11) = _; rw [er10]; rfl) ?_
    refine zg_iload zi_148_93 rfl ?_
    obtain ⟨t11, hw⟩ := hw
    obtain ⟨hb, hw⟩ := hw
    refine zg_iaload (v := .int (zI h7 r10 a1.toNatClampNeg)) zi_148_94 t11 hb rfl ?_
    refine zg_aload zi_148_95 rfl ?_
    refine zg_aload zi_148_96 rfl ?_
    obtain ⟨r12, er12, hw⟩ := hw
    refine zg_getR (v := .ref r12) zi_148_97 t8 (by rfl) (by show zrv (zR h7 a0 13) = _; rw [er12]; rfl) ?_
    refine zg_aload zi_148_98 rfl ?_
    refine zg_getR (v := .ref r10) zi_148_99 t8 (by rfl) (by show zrv (zR h7 a0 11) = _; rw [er10]; rfl) ?_
    refine zg_iload zi_148_100 rfl ?_
    obtain ⟨hb, hw⟩ := hw
    refine zg_iaload (v := .int (zI h7 r10 a1.toNatClampNeg)) zi_148_101 t11 hb rfl ?_
    obtain ⟨t13, hw⟩ := hw
    obtain ⟨hb, hw⟩ := hw
    refine zg_iaload (v := .int (zI h7 r12 (zI h7 r10 a1.toNatClampNeg : Int32).toNatClampNeg)) zi_148_102 t13 hb rfl ?_
    refine zg_aload zi_148_103 rfl ?_
    obtain ⟨r14, er14, hw⟩ := hw
    refine zg_getR (v := .ref r14) zi_148_104 t8 (by rfl) (by show zrv (zR h7 a0 14) = _; rw [er14]; rfl) ?_
    refine zg_aload zi_148_105 rfl ?_
    refine zg_getR (v := .ref r10) zi_148_106 t8 (by rfl) (by show zrv (zR h7 a0 11) = _; rw [er10]; rfl) ?_
    refine zg_iload zi_148_107 rfl ?_
    obtain ⟨hb, hw⟩ := hw
    refine zg_iaload (v := .int (zI h7 r10 a1.toNatClampNeg)) zi_148_108 t11 hb rfl ?_
    obtain ⟨t15, hw⟩ := hw
    obtain ⟨hb, hw⟩ := hw
    refine zg_iaload (v := .int (zI h7 r14 (zI h7 r10 a1.toNatClampNeg : Int32).toNatClampNeg)) zi_148_109 t15 hb rfl ?_
    refine Gx.call2 (as := [.ref a0, .int (zI h7 r12 (zI h7 r10 a1.toNatClampNeg : Int32).toNatClampNeg), .int (zI h7 r14 (zI h7 r10 a1.toNatClampNeg : Int32).toNatClampNeg)]) (rest := [.int (zI h7 r10 a1.toNatClampNeg), .ref r9]) zq_142 zi_148_110 rfl rfl rfl (Nat.le_of_ble_eq_true rfl) (Nat.le_of_ble_eq_true rfl) (zrv_v t8 rfl rfl) (Nat.le_of_ble_eq_true rfl) ?_
    refine Ct.mono hw ?_
    rintro v h16 ⟨x17, rfl, hw⟩
    show Gx E (d + 1) 148 111 [.ref a0, .int a1] [.int x17, .int (zI h7 r10 a1.toNatClampNeg), .ref r9] h16 Q
    obtain ⟨t18, hw⟩ := hw
    obtain ⟨hb, hw⟩ := hw
    refine zg_iastore (h1 := zuI h16 r9 (zI h7 r10 a1.toNatClampNeg : Int32).toNatClampNeg x17) zi_148_111 t18 hb rfl ?_
    refine zg_nameH fun h19 eh19 => ?_
    have hw := hw h19 eh19
    refine zg_aload zi_148_112 rfl ?_
    obtain ⟨t20, hw⟩ := hw
    refine Gx.call2 (as := [.ref a0]) (rest := []) zq_141 zi_148_113 rfl rfl rfl (Nat.le_of_ble_eq_true rfl) (Nat.le_of_ble_eq_true rfl) (zrv_v t20 rfl rfl) (Nat.le_of_ble_eq_true rfl) ?_
    refine Ct.mono hw ?_
    rintro v h21 ⟨rfl, hw⟩
    show Gx E (d + 1) 148 114 [.ref a0, .int a1] [] h21 Q
    exact Gx.forget (zrk (zrd zr0)) (okb_148_114 hw)
  have hw := hw.2
  by_cases hv0 : a1.toInt = 3
  · have hw := hw.1 hv0
    refine zg_switch (t := 46) zi_148_45 (by rw [hv0]; rfl) ?_
    refine zg_aload zi_148_46 rfl ?_
    obtain ⟨t26, hw⟩ := hw
    refine Gx.call2 (as := [.ref a0]) (rest := []) zq_144 zi_148_47 rfl rfl rfl (Nat.le_of_ble_eq_true rfl) (Nat.le_of_ble_eq_true rfl) (zrv_v t26 rfl rfl) (Nat.le_of_ble_eq_true rfl) ?_
    refine Ct.mono hw ?_
    rintro v h27 ⟨rfl, hw⟩
    show Gx E (d + 1) 148 48 [.ref a0, .int a1] [] h27 Q
    refine zg_goto zi_148_48 ?_
    exact Gx.forget (zrk (zrd zr0)) (okb_148_114 hw)
  have hw := hw.2
  by_cases hv1 : a1.toInt = 4
  · have hw := hw.1 hv1
    refine zg_switch (t := 89) zi_148_45 (by rw [hv1]; rfl) ?_
    refine zg_aload zi_148_89 rfl ?_
    obtain ⟨t28, hw⟩ := hw
    obtain ⟨r29, er29, hw⟩ := hw
    refine zg_getR (v := .ref r29) zi_148_90 t28 (by rfl) (by show zrv (zR h7 a0 16) = _; rw [er29]; rfl) ?_
    refine zg_aload zi_148_91 rfl ?_
    obtain ⟨r30, er30, hw⟩ := hw
    refine zg_getR (v := .ref r30) zi_148_92 t28 (by rfl) (by show zrv (zR h7 a0 11) = _; rw [er30]; rfl) ?_
    refine zg_iload zi_148_93 rfl ?_
    obtain ⟨t31, hw⟩ := hw
    obtain ⟨hb, hw⟩ := hw
    refine zg_iaload (v := .int (zI h7 r30 a1.toNatClampNeg)) zi_148_94 t31 hb rfl ?_
    refine zg_aload zi_148_95 rfl ?_
    refine zg_aload zi_148_96 rfl ?_
    obtain ⟨r32, er32, hw⟩ := hw
    refine zg_getR (v := .ref r32) zi_148_97 t28 (by rfl) (by show zrv (zR h7 a0 13) = _; rw [er32]; rfl) ?_
    refine zg_aload zi_148_98 rfl ?_
    refine zg_getR (v := .ref r30) zi_148_99 t28 (by rfl) (by show zrv (zR h7 a0 11) = _; rw [er30]; rfl) ?_
    refine zg_iload zi_148_100 rfl ?_
    obtain ⟨hb, hw⟩ := hw
    refine zg_iaload (v := .int (zI h7 r30 a1.toNatClampNeg)) zi_148_101 t31 hb rfl ?_
    obtain ⟨t33, hw⟩ := hw
    obtain ⟨hb, hw⟩ := hw
    refine zg_iaload (v := .int (zI h7 r32 (zI h7 r30 a1.toNatClampNeg : Int32).toNatClampNeg)) zi_148_102 t33 hb rfl ?_
    refine zg_aload zi_148_103 rfl ?_
    obtain ⟨r34, er34, hw⟩ := hw
    refine zg_getR (v := .ref r34) zi_148_104 t28 (by rfl) (by show zrv (zR h7 a0 14) = _; rw [er34]; rfl) ?_
    refine zg_aload zi_148_105 rfl ?_
    refine zg_getR (v := .ref r30) zi_148_106 t28 (by rfl) (by show zrv (zR h7 a0 11) = _; rw [er30]; rfl) ?_
    refine zg_iload zi_148_107 rfl ?_
    obtain ⟨hb, hw⟩ := hw
    refine zg_iaload (v := .int (zI h7 r30 a1.toNatClampNeg)) zi_148_108 t31 hb rfl ?_
    obtain ⟨t35, hw⟩ := hw
    obtain ⟨hb, hw⟩ := hw
    refine zg_iaload (v := .int (zI h7 r34 (zI h7 r30 a1.toNatClampNeg : Int32).toNatClampNeg)) zi_148_109 t35 hb rfl ?_
    refine Gx.call2 (as := [.ref a0, .int (zI h7 r32 (zI h7 r30 a1.toNatClampNeg : Int32).toNatClampNeg), .int (zI h7 r34 (zI h7 r30 a1.toNatClampNeg : Int32).toNatClampNeg)]) (rest := [.int (zI h7 r30 a1.toNatClampNeg), .ref r29]) zq_142 zi_148_110 rfl rfl rfl (Nat.le_of_ble_eq_true rfl) (Nat.le_of_ble_eq_true rfl) (zrv_v t28 rfl rfl) (Nat.le_of_ble_eq_true rfl) ?_
    refine Ct.mono hw ?_
    rintro v h36 ⟨x37, rfl, hw⟩
    show Gx E (d + 1) 148 111 [.ref a0, .int a1] [.int x37, .int (zI h7 r30 a1.toNatClampNeg), .ref r29] h36 Q
    obtain ⟨t38, hw⟩ := hw
    obtain ⟨hb, hw⟩ := hw
    refine zg_iastore (h1 := zuI h36 r29 (zI h7 r30 a1.toNatClampNeg : Int32).toNatClampNeg x37) zi_148_111 t38 hb rfl ?_
    refine zg_nameH fun h39 eh39 => ?_
    have hw := hw h39 eh39
    refine zg_aload zi_148_112 rfl ?_
    obtain ⟨t40, hw⟩ := hw
    refine Gx.call2 (as := [.ref a0]) (rest := []) zq_141 zi_148_113 rfl rfl rfl (Nat.le_of_ble_eq_true rfl) (Nat.le_of_ble_eq_true rfl) (zrv_v t40 rfl rfl) (Nat.le_of_ble_eq_true rfl) ?_
    refine Ct.mono hw ?_
    rintro v h41 ⟨rfl, hw⟩
    show Gx E (d + 1) 148 114 [.ref a0, .int a1] [] h41 Q
    exact Gx.forget (zrk (zrd zr0)) (okb_148_114 hw)
  have hw := hw.2
  by_cases hv2 : a1.toInt = 5
  · have hw := hw.1 hv2
    refine zg_switch (t := 89) zi_148_45 (by rw [hv2]; rfl) ?_
    refine zg_aload zi_148_89 rfl ?_
    obtain ⟨t42, hw⟩ := hw
    obtain ⟨r43, er43, hw⟩ := hw
    refine zg_getR (v := .ref r43) zi_148_90 t42 (by rfl) (by show zrv (zR h7 a0 16) = _; rw [er43]; rfl) ?_
    refine zg_aload zi_148_91 rfl ?_
    obtain ⟨r44, er44, hw⟩ := hw
    refine zg_getR (v := .ref r44) zi_148_92 t42 (by rfl) (by show zrv (zR h7 a0 11) = _; rw [er44]; rfl) ?_
    refine zg_iload zi_148_93 rfl ?_
    obtain ⟨t45, hw⟩ := hw
    obtain ⟨hb, hw⟩ := hw
    refine zg_iaload (v := .int (zI h7 r44 a1.toNatClampNeg)) zi_148_94 t45 hb rfl ?_
    refine zg_aload zi_148_95 rfl ?_
    refine zg_aload zi_148_96 rfl ?_
    obtain ⟨r46, er46, hw⟩ := hw
    refine zg_getR (v := .ref r46) zi_148_97 t42 (by rfl) (by show zrv (zR h7 a0 13) = _; rw [er46]; rfl) ?_
    refine zg_aload zi_148_98 rfl ?_
    refine zg_getR (v := .ref r44) zi_148_99 t42 (by rfl) (by show zrv (zR h7 a0 11) = _; rw [er44]; rfl) ?_
    refine zg_iload zi_148_100 rfl ?_
    obtain ⟨hb, hw⟩ := hw
    refine zg_iaload (v := .int (zI h7 r44 a1.toNatClampNeg)) zi_148_101 t45 hb rfl ?_
    obtain ⟨t47, hw⟩ := hw
    obtain ⟨hb, hw⟩ := hw
    refine zg_iaload (v := .int (zI h7 r46 (zI h7 r44 a1.toNatClampNeg : Int32).toNatClampNeg)) zi_148_102 t47 hb rfl ?_
    refine zg_aload zi_148_103 rfl ?_
    obtain ⟨r48, er48, hw⟩ := hw
    refine zg_getR (v := .ref r48) zi_148_104 t42 (by rfl) (by show zrv (zR h7 a0 14) = _; rw [er48]; rfl) ?_
    refine zg_aload zi_148_105 rfl ?_
    refine zg_getR (v := .ref r44) zi_148_106 t42 (by rfl) (by show zrv (zR h7 a0 11) = _; rw [er44]; rfl) ?_
    refine zg_iload zi_148_107 rfl ?_
    obtain ⟨hb, hw⟩ := hw
    refine zg_iaload (v := .int (zI h7 r44 a1.toNatClampNeg)) zi_148_108 t45 hb rfl ?_
    obtain ⟨t49, hw⟩ := hw
    obtain ⟨hb, hw⟩ := hw
    refine zg_iaload (v := .int (zI h7 r48 (zI h7 r44 a1.toNatClampNeg : Int32).toNatClampNeg)) zi_148_109 t49 hb rfl ?_
    refine Gx.call2 (as := [.ref a0, .int (zI h7 r46 (zI h7 r44 a1.toNatClampNeg : Int32).toNatClampNeg), .int (zI h7 r48 (zI h7 r44 a1.toNatClampNeg : Int32).toNatClampNeg)]) (rest := [.int (zI h7 r44 a1.toNatClampNeg), .ref r43]) zq_142 zi_148_110 rfl rfl rfl (Nat.le_of_ble_eq_true rfl) (Nat.le_of_ble_eq_true rfl) (zrv_v t42 rfl rfl) (Nat.le_of_ble_eq_true rfl) ?_
    refine Ct.mono hw ?_
    rintro v h50 ⟨x51, rfl, hw⟩
    show Gx E (d + 1) 148 111 [.ref a0, .int a1] [.int x51, .int (zI h7 r44 a1.toNatClampNeg), .ref r43] h50 Q
    obtain ⟨t52, hw⟩ := hw
    obtain ⟨hb, hw⟩ := hw
    refine zg_iastore (h1 := zuI h50 r43 (zI h7 r44 a1.toNatClampNeg : Int32).toNatClampNeg x51) zi_148_111 t52 hb rfl ?_
    refine zg_nameH fun h53 eh53 => ?_
    have hw := hw h53 eh53
    refine zg_aload zi_148_112 rfl ?_
    obtain ⟨t54, hw⟩ := hw
    refine Gx.call2 (as := [.ref a0]) (rest := []) zq_141 zi_148_113 rfl rfl rfl (Nat.le_of_ble_eq_true rfl) (Nat.le_of_ble_eq_true rfl) (zrv_v t54 rfl rfl) (Nat.le_of_ble_eq_true rfl) ?_
    refine Ct.mono hw ?_
    rintro v h55 ⟨rfl, hw⟩
    show Gx E (d + 1) 148 114 [.ref a0, .int a1] [] h55 Q
    exact Gx.forget (zrk (zrd zr0)) (okb_148_114 hw)
  have hw := hw.2
  by_cases hv3 : a1.toInt = 6
  · have hw := hw.1 hv3
    refine zg_switch (t := 89) zi_148_45 (by rw [hv3]; rfl) ?_
    refine zg_aload zi_148_89 rfl ?_
    obtain ⟨t56, hw⟩ := hw
    obtain ⟨r57, er57, hw⟩ := hw
    refine zg_getR (v := .ref r57) zi_148_90 t56 (by rfl) (by show zrv (zR h7 a0 16) = _; rw [er57]; rfl) ?_
    refine zg_aload zi_148_91 rfl ?_
    obtain ⟨r58, er58, hw⟩ := hw
    refine zg_getR (v := .ref r58) zi_148_92 t56 (by rfl) (by show zrv (zR h7 a0 11) = _; rw [er58]; rfl) ?_
    refine zg_iload zi_148_93 rfl ?_
    obtain ⟨t59, hw⟩ := hw
    obtain ⟨hb, hw⟩ := hw
    refine zg_iaload (v := .int (zI h7 r58 a1.toNatClampNeg)) zi_148_94 t59 hb rfl ?_
    refine zg_aload zi_148_95 rfl ?_
    refine zg_aload zi_148_96 rfl ?_
    obtain ⟨r60, er60, hw⟩ := hw
    refine zg_getR (v := .ref r60) zi_148_97 t56 (by rfl) (by show zrv (zR h7 a0 13) = _; rw [er60]; rfl) ?_
    refine zg_aload zi_148_98 rfl ?_
    refine zg_getR (v := .ref r58) zi_148_99 t56 (by rfl) (by show zrv (zR h7 a0 11) = _; rw [er58]; rfl) ?_
    refine zg_iload zi_148_100 rfl ?_
    obtain ⟨hb, hw⟩ := hw
    refine zg_iaload (v := .int (zI h7 r58 a1.toNatClampNeg)) zi_148_101 t59 hb rfl ?_
    obtain ⟨t61, hw⟩ := hw
    obtain ⟨hb, hw⟩ := hw
    refine zg_iaload (v := .int (zI h7 r60 (zI h7 r58 a1.toNatClampNeg : Int32).toNatClampNeg)) zi_148_102 t61 hb rfl ?_
    refine zg_aload zi_148_103 rfl ?_
    obtain ⟨r62, er62, hw⟩ := hw
    refine zg_getR (v := .ref r62) zi_148_104 t56 (by rfl) (by show zrv (zR h7 a0 14) = _; rw [er62]; rfl) ?_
    refine zg_aload zi_148_105 rfl ?_
    refine zg_getR (v := .ref r58) zi_148_106 t56 (by rfl) (by show zrv (zR h7 a0 11) = _; rw [er58]; rfl) ?_
    refine zg_iload zi_148_107 rfl ?_
    obtain ⟨hb, hw⟩ := hw
    refine zg_iaload (v := .int (zI h7 r58 a1.toNatClampNeg)) zi_148_108 t59 hb rfl ?_
    obtain ⟨t63, hw⟩ := hw
    obtain ⟨hb, hw⟩ := hw
    refine zg_iaload (v := .int (zI h7 r62 (zI h7 r58 a1.toNatClampNeg : Int32).toNatClampNeg)) zi_148_109 t63 hb rfl ?_
    refine Gx.call2 (as := [.ref a0, .int (zI h7 r60 (zI h7 r58 a1.toNatClampNeg : Int32).toNatClampNeg), .int (zI h7 r62 (zI h7 r58 a1.toNatClampNeg : Int32).toNatClampNeg)]) (rest := [.int (zI h7 r58 a1.toNatClampNeg), .ref r57]) zq_142 zi_148_110 rfl rfl rfl (Nat.le_of_ble_eq_true rfl) (Nat.le_of_ble_eq_true rfl) (zrv_v t56 rfl rfl) (Nat.le_of_ble_eq_true rfl) ?_
    refine Ct.mono hw ?_
    rintro v h64 ⟨x65, rfl, hw⟩
    show Gx E (d + 1) 148 111 [.ref a0, .int a1] [.int x65, .int (zI h7 r58 a1.toNatClampNeg), .ref r57] h64 Q
    obtain ⟨t66, hw⟩ := hw
    obtain ⟨hb, hw⟩ := hw
    refine zg_iastore (h1 := zuI h64 r57 (zI h7 r58 a1.toNatClampNeg : Int32).toNatClampNeg x65) zi_148_111 t66 hb rfl ?_
    refine zg_nameH fun h67 eh67 => ?_
    have hw := hw h67 eh67
    refine zg_aload zi_148_112 rfl ?_
    obtain ⟨t68, hw⟩ := hw
    refine Gx.call2 (as := [.ref a0]) (rest := []) zq_141 zi_148_113 rfl rfl rfl (Nat.le_of_ble_eq_true rfl) (Nat.le_of_ble_eq_true rfl) (zrv_v t68 rfl rfl) (Nat.le_of_ble_eq_true rfl) ?_
    refine Ct.mono hw ?_
    rintro v h69 ⟨rfl, hw⟩
    show Gx E (d + 1) 148 114 [.ref a0, .int a1] [] h69 Q
    exact Gx.forget (zrk (zrd zr0)) (okb_148_114 hw)
  have hw := hw.2
  by_cases hv4 : a1.toInt = 7
  · have hw := hw.1 hv4
    refine zg_switch (t := 89) zi_148_45 (by rw [hv4]; rfl) ?_
    refine zg_aload zi_148_89 rfl ?_
    obtain ⟨t70, hw⟩ := hw
    obtain ⟨r71, er71, hw⟩ := hw
    refine zg_getR (v := .ref r71) zi_148_90 t70 (by rfl) (by show zrv (zR h7 a0 16) = _; rw [er71]; rfl) ?_
    refine zg_aload zi_148_91 rfl ?_
    obtain ⟨r72, er72, hw⟩ := hw
    refine zg_getR (v := .ref r72) zi_148_92 t70 (by rfl) (by show zrv (zR h7 a0 11) = _; rw [er72]; rfl) ?_
    refine zg_iload zi_148_93 rfl ?_
    obtain ⟨t73, hw⟩ := hw
    obtain ⟨hb, hw⟩ := hw
    refine zg_iaload (v := .int (zI h7 r72 a1.toNatClampNeg)) zi_148_94 t73 hb rfl ?_
    refine zg_aload zi_148_95 rfl ?_
    refine zg_aload zi_148_96 rfl ?_
    obtain ⟨r74, er74, hw⟩ := hw
    refine zg_getR (v := .ref r74) zi_148_97 t70 (by rfl) (by show zrv (zR h7 a0 13) = _; rw [er74]; rfl) ?_
    refine zg_aload zi_148_98 rfl ?_
    refine zg_getR (v := .ref r72) zi_148_99 t70 (by rfl) (by show zrv (zR h7 a0 11) = _; rw [er72]; rfl) ?_
    refine zg_iload zi_148_100 rfl ?_
    obtain ⟨hb, hw⟩ := hw
    refine zg_iaload (v := .int (zI h7 r72 a1.toNatClampNeg)) zi_148_101 t73 hb rfl ?_
    obtain ⟨t75, hw⟩ := hw
    obtain ⟨hb, hw⟩ := hw
    refine zg_iaload (v := .int (zI h7 r74 (zI h7 r72 a1.toNatClampNeg : Int32).toNatClampNeg)) zi_148_102 t75 hb rfl ?_
    refine zg_aload zi_148_103 rfl ?_
    obtain ⟨r76, er76, hw⟩ := hw
    refine zg_getR (v := .ref r76) zi_148_104 t70 (by rfl) (by show zrv (zR h7 a0 14) = _; rw [er76]; rfl) ?_
    refine zg_aload zi_148_105 rfl ?_
    refine zg_getR (v := .ref r72) zi_148_106 t70 (by rfl) (by show zrv (zR h7 a0 11) = _; rw [er72]; rfl) ?_
    refine zg_iload zi_148_107 rfl ?_
    obtain ⟨hb, hw⟩ := hw
    refine zg_iaload (v := .int (zI h7 r72 a1.toNatClampNeg)) zi_148_108 t73 hb rfl ?_
    obtain ⟨t77, hw⟩ := hw
    obtain ⟨hb, hw⟩ := hw
    refine zg_iaload (v := .int (zI h7 r76 (zI h7 r72 a1.toNatClampNeg : Int32).toNatClampNeg)) zi_148_109 t77 hb rfl ?_
    refine Gx.call2 (as := [.ref a0, .int (zI h7 r74 (zI h7 r72 a1.toNatClampNeg : Int32).toNatClampNeg), .int (zI h7 r76 (zI h7 r72 a1.toNatClampNeg : Int32).toNatClampNeg)]) (rest := [.int (zI h7 r72 a1.toNatClampNeg), .ref r71]) zq_142 zi_148_110 rfl rfl rfl (Nat.le_of_ble_eq_true rfl) (Nat.le_of_ble_eq_true rfl) (zrv_v t70 rfl rfl) (Nat.le_of_ble_eq_true rfl) ?_
    refine Ct.mono hw ?_
    rintro v h78 ⟨x79, rfl, hw⟩
    show Gx E (d + 1) 148 111 [.ref a0, .int a1] [.int x79, .int (zI h7 r72 a1.toNatClampNeg), .ref r71] h78 Q
    obtain ⟨t80, hw⟩ := hw
    obtain ⟨hb, hw⟩ := hw
    refine zg_iastore (h1 := zuI h78 r71 (zI h7 r72 a1.toNatClampNeg : Int32).toNatClampNeg x79) zi_148_111 t80 hb rfl ?_
    refine zg_nameH fun h81 eh81 => ?_
    have hw := hw h81 eh81
    refine zg_aload zi_148_112 rfl ?_
    obtain ⟨t82, hw⟩ := hw
    refine Gx.call2 (as := [.ref a0]) (rest := []) zq_141 zi_148_113 rfl rfl rfl (Nat.le_of_ble_eq_true rfl) (Nat.le_of_ble_eq_true rfl) (zrv_v t82 rfl rfl) (Nat.le_of_ble_eq_true rfl) ?_
    refine Ct.mono hw ?_
    rintro v h83 ⟨rfl, hw⟩
    show Gx E (d + 1) 148 114 [.ref a0, .int a1] [] h83 Q
    exact Gx.forget (zrk (zrd zr0)) (okb_148_114 hw)
  have hw := hw.2
  by_cases hv5 : a1.toInt = 8
  · have hw := hw.1 hv5
    refine zg_switch (t := 49) zi_148_45 (by rw [hv5]; rfl) ?_
    refine zg_aload zi_148_49 rfl ?_
    refine zg_const (v := 17) zi_148_50 (by rfl) ?_
    refine zg_const (v := 18) zi_148_51 (by rfl) ?_
    obtain ⟨t84, hw⟩ := hw
    refine Gx.call2 (as := [.ref a0, .int 17, .int 18]) (rest := []) zq_143 zi_148_52 rfl rfl rfl (Nat.le_of_ble_eq_true rfl) (Nat.le_of_ble_eq_true rfl) (zrv_v t84 rfl rfl) (Nat.le_of_ble_eq_true rfl) ?_
    refine Ct.mono hw ?_
    rintro v h85 ⟨rfl, hw⟩
    show Gx E (d + 1) 148 53 [.ref a0, .int a1] [] h85 Q
    refine zg_aload zi_148_53 rfl ?_
    obtain ⟨t86, hw⟩ := hw
    obtain ⟨r87, er87, hw⟩ := hw
    refine zg_getR (v := .ref r87) zi_148_54 t86 (by rfl) (by show zrv (zR h85 a0 16) = _; rw [er87]; rfl) ?_
    refine zg_const (v := 9) zi_148_55 (by rfl) ?_
    refine zg_aload zi_148_56 rfl ?_
    refine zg_getI (v := .int (zI h85 a0 3)) zi_148_57 t86 (by rfl) rfl ?_
    have g58 : Gx E (d + 1) 148 67 [.ref a0, .int a1] [.int (if ¬ (zI h85 a0 3 : Int32) = 0 then 0 else ((zI h85 a0 8) - 17) + 1), .int 9, .ref r87] h85 Q := by
      obtain ⟨t88, hw⟩ := hw
      obtain ⟨hb, hw⟩ := hw
      refine zg_iastore (h1 := zuI h85 r87 9 (if ¬ (zI h85 a0 3 : Int32) = 0 then 0 else ((zI h85 a0 8) - 17) + 1)) zi_148_67 t88 hb rfl ?_
      refine zg_nameH fun h89 eh89 => ?_
      have hw := hw h89 eh89
      refine zg_aload zi_148_68 rfl ?_
      refine Gx.call2 (as := [.ref a0]) (rest := []) zq_141 zi_148_69 rfl rfl rfl (Nat.le_of_ble_eq_true rfl) (Nat.le_of_ble_eq_true rfl) (zrv_v (by rw [eh89]; exact t86) rfl rfl) (Nat.le_of_ble_eq_true rfl) ?_
      refine Ct.mono hw ?_
      rintro v h90 ⟨rfl, hw⟩
      show Gx E (d + 1) 148 70 [.ref a0, .int a1] [] h90 Q
      refine zg_goto zi_148_70 ?_
      exact Gx.forget (zrk (zrd zr0)) (okb_148_114 hw)
    refine zg_if_ne zi_148_58 (fun hc58 => ?_) (fun hc58 => ?_)
    · skip
      refine zg_const (v := 0) zi_148_66 (by rfl) ?_
      have hg := g58
      simp only [if_pos hc58] at hg
      exact hg
    · skip
      refine zg_aload zi_148_59 rfl ?_
      refine zg_getI (v := .int (zI h85 a0 8)) zi_148_60 t86 (by rfl) rfl ?_
      refine zg_const (v := 17) zi_148_61 (by rfl) ?_
      refine zg_isub zi_148_62 ?_
      refine zg_const (v := 1) zi_148_63 (by rfl) ?_
      refine zg_iadd zi_148_64 ?_
      refine zg_goto zi_148_65 ?_
      have hg := g58
      simp only [if_neg hc58] at hg
      exact hg
  have hw := hw.2
  by_cases hv6 : a1.toInt = 9
  · have hw := hw.1 hv6
    refine zg_switch (t := 89) zi_148_45 (by rw [hv6]; rfl) ?_
    refine zg_aload zi_148_89 rfl ?_
    obtain ⟨t91, hw⟩ := hw
    obtain ⟨r92, er92, hw⟩ := hw
    refine zg_getR (v := .ref r92) zi_148_90 t91 (by rfl) (by show zrv (zR h7 a0 16) = _; rw [er92]; rfl) ?_
    refine zg_aload zi_148_91 rfl ?_
    obtain ⟨r93, er93, hw⟩ := hw
    refine zg_getR (v := .ref r93) zi_148_92 t91 (by rfl) (by show zrv (zR h7 a0 11) = _; rw [er93]; rfl) ?_
    refine zg_iload zi_148_93 rfl ?_
    obtain ⟨t94, hw⟩ := hw
    obtain ⟨hb, hw⟩ := hw
    refine zg_iaload (v := .int (zI h7 r93 a1.toNatClampNeg)) zi_148_94 t94 hb rfl ?_
    refine zg_aload zi_148_95 rfl ?_
    refine zg_aload zi_148_96 rfl ?_
    obtain ⟨r95, er95, hw⟩ := hw
    refine zg_getR (v := .ref r95) zi_148_97 t91 (by rfl) (by show zrv (zR h7 a0 13) = _; rw [er95]; rfl) ?_
    refine zg_aload zi_148_98 rfl ?_
    refine zg_getR (v := .ref r93) zi_148_99 t91 (by rfl) (by show zrv (zR h7 a0 11) = _; rw [er93]; rfl) ?_
    refine zg_iload zi_148_100 rfl ?_
    obtain ⟨hb, hw⟩ := hw
    refine zg_iaload (v := .int (zI h7 r93 a1.toNatClampNeg)) zi_148_101 t94 hb rfl ?_
    obtain ⟨t96, hw⟩ := hw
    obtain ⟨hb, hw⟩ := hw
    refine zg_iaload (v := .int (zI h7 r95 (zI h7 r93 a1.toNatClampNeg : Int32).toNatClampNeg)) zi_148_102 t96 hb rfl ?_
    refine zg_aload zi_148_103 rfl ?_
    obtain ⟨r97, er97, hw⟩ := hw
    refine zg_getR (v := .ref r97) zi_148_104 t91 (by rfl) (by show zrv (zR h7 a0 14) = _; rw [er97]; rfl) ?_
    refine zg_aload zi_148_105 rfl ?_
    refine zg_getR (v := .ref r93) zi_148_106 t91 (by rfl) (by show zrv (zR h7 a0 11) = _; rw [er93]; rfl) ?_
    refine zg_iload zi_148_107 rfl ?_
    obtain ⟨hb, hw⟩ := hw
    refine zg_iaload (v := .int (zI h7 r93 a1.toNatClampNeg)) zi_148_108 t94 hb rfl ?_
    obtain ⟨t98, hw⟩ := hw
    obtain ⟨hb, hw⟩ := hw
    refine zg_iaload (v := .int (zI h7 r97 (zI h7 r93 a1.toNatClampNeg : Int32).toNatClampNeg)) zi_148_109 t98 hb rfl ?_
    refine Gx.call2 (as := [.ref a0, .int (zI h7 r95 (zI h7 r93 a1.toNatClampNeg : Int32).toNatClampNeg), .int (zI h7 r97 (zI h7 r93 a1.toNatClampNeg : Int32).toNatClampNeg)]) (rest := [.int (zI h7 r93 a1.toNatClampNeg), .ref r92]) zq_142 zi_148_110 rfl rfl rfl (Nat.le_of_ble_eq_true rfl) (Nat.le_of_ble_eq_true rfl) (zrv_v t91 rfl rfl) (Nat.le_of_ble_eq_true rfl) ?_
    refine Ct.mono hw ?_
    rintro v h99 ⟨x100, rfl, hw⟩
    show Gx E (d + 1) 148 111 [.ref a0, .int a1] [.int x100, .int (zI h7 r93 a1.toNatClampNeg), .ref r92] h99 Q
    obtain ⟨t101, hw⟩ := hw
    obtain ⟨hb, hw⟩ := hw
    refine zg_iastore (h1 := zuI h99 r92 (zI h7 r93 a1.toNatClampNeg : Int32).toNatClampNeg x100) zi_148_111 t101 hb rfl ?_
    refine zg_nameH fun h102 eh102 => ?_
    have hw := hw h102 eh102
    refine zg_aload zi_148_112 rfl ?_
    obtain ⟨t103, hw⟩ := hw
    refine Gx.call2 (as := [.ref a0]) (rest := []) zq_141 zi_148_113 rfl rfl rfl (Nat.le_of_ble_eq_true rfl) (Nat.le_of_ble_eq_true rfl) (zrv_v t103 rfl rfl) (Nat.le_of_ble_eq_true rfl) ?_
    refine Ct.mono hw ?_
    rintro v h104 ⟨rfl, hw⟩
    show Gx E (d + 1) 148 114 [.ref a0, .int a1] [] h104 Q
    exact Gx.forget (zrk (zrd zr0)) (okb_148_114 hw)
  have hw := hw.2
  by_cases hv7 : a1.toInt = 10
  · have hw := hw.1 hv7
    refine zg_switch (t := 71) zi_148_45 (by rw [hv7]; rfl) ?_
    refine zg_aload zi_148_71 rfl ?_
    obtain ⟨t105, hw⟩ := hw
    obtain ⟨r106, er106, hw⟩ := hw
    refine zg_getR (v := .ref r106) zi_148_72 t105 (by rfl) (by show zrv (zR h7 a0 16) = _; rw [er106]; rfl) ?_
    refine zg_aload zi_148_73 rfl ?_
    obtain ⟨r107, er107, hw⟩ := hw
    refine zg_getR (v := .ref r107) zi_148_74 t105 (by rfl) (by show zrv (zR h7 a0 11) = _; rw [er107]; rfl) ?_
    refine zg_iload zi_148_75 rfl ?_
    obtain ⟨t108, hw⟩ := hw
    obtain ⟨hb, hw⟩ := hw
    refine zg_iaload (v := .int (zI h7 r107 a1.toNatClampNeg)) zi_148_76 t108 hb rfl ?_
    refine zg_const (v := 1) zi_148_77 (by rfl) ?_
    obtain ⟨t109, hw⟩ := hw
    obtain ⟨hb, hw⟩ := hw
    refine zg_iastore (h1 := zuI h7 r106 (zI h7 r107 a1.toNatClampNeg : Int32).toNatClampNeg 1) zi_148_78 t109 hb rfl ?_
    refine zg_nameH fun h110 eh110 => ?_
    have hw := hw h110 eh110
    refine zg_goto zi_148_79 ?_
    exact Gx.forget (zrk (zrd zr0)) (okb_148_114 hw)
  have hw := hw.2
  by_cases hv8 : a1.toInt = 11
  · have hw := hw.1 hv8
    refine zg_switch (t := 71) zi_148_45 (by rw [hv8]; rfl) ?_
    refine zg_aload zi_148_71 rfl ?_
    obtain ⟨t111, hw⟩ := hw
    obtain ⟨r112, er112, hw⟩ := hw
    refine zg_getR (v := .ref r112) zi_148_72 t111 (by rfl) (by show zrv (zR h7 a0 16) = _; rw [er112]; rfl) ?_
    refine zg_aload zi_148_73 rfl ?_
    obtain ⟨r113, er113, hw⟩ := hw
    refine zg_getR (v := .ref r113) zi_148_74 t111 (by rfl) (by show zrv (zR h7 a0 11) = _; rw [er113]; rfl) ?_
    refine zg_iload zi_148_75 rfl ?_
    obtain ⟨t114, hw⟩ := hw
    obtain ⟨hb, hw⟩ := hw
    refine zg_iaload (v := .int (zI h7 r113 a1.toNatClampNeg)) zi_148_76 t114 hb rfl ?_
    refine zg_const (v := 1) zi_148_77 (by rfl) ?_
    obtain ⟨t115, hw⟩ := hw
    obtain ⟨hb, hw⟩ := hw
    refine zg_iastore (h1 := zuI h7 r112 (zI h7 r113 a1.toNatClampNeg : Int32).toNatClampNeg 1) zi_148_78 t115 hb rfl ?_
    refine zg_nameH fun h116 eh116 => ?_
    have hw := hw h116 eh116
    refine zg_goto zi_148_79 ?_
    exact Gx.forget (zrk (zrd zr0)) (okb_148_114 hw)
  have hw := hw.2
  by_cases hv9 : a1.toInt = 12
  · have hw := hw.1 hv9
    refine zg_switch (t := 80) zi_148_45 (by rw [hv9]; rfl) ?_
    refine zg_aload zi_148_80 rfl ?_
    obtain ⟨t117, hw⟩ := hw
    refine Gx.call2 (as := [.ref a0]) (rest := []) zq_145 zi_148_81 rfl rfl rfl (Nat.le_of_ble_eq_true rfl) (Nat.le_of_ble_eq_true rfl) (zrv_v t117 rfl rfl) (Nat.le_of_ble_eq_true rfl) ?_
    refine Ct.mono hw ?_
    rintro v h118 ⟨rfl, hw⟩
    show Gx E (d + 1) 148 82 [.ref a0, .int a1] [] h118 Q
    refine zg_goto zi_148_82 ?_
    exact Gx.forget (zrk (zrd zr0)) (okb_148_114 hw)
  have hw := hw.2
  by_cases hv10 : a1.toInt = 13
  · have hw := hw.1 hv10
    refine zg_switch (t := 89) zi_148_45 (by rw [hv10]; rfl) ?_
    refine zg_aload zi_148_89 rfl ?_
    obtain ⟨t119, hw⟩ := hw
    obtain ⟨r120, er120, hw⟩ := hw
    refine zg_getR (v := .ref r120) zi_148_90 t119 (by rfl) (by show zrv (zR h7 a0 16) = _; rw [er120]; rfl) ?_
    refine zg_aload zi_148_91 rfl ?_
    obtain ⟨r121, er121, hw⟩ := hw
    refine zg_getR (v := .ref r121) zi_148_92 t119 (by rfl) (by show zrv (zR h7 a0 11) = _; rw [er121]; rfl) ?_
    refine zg_iload zi_148_93 rfl ?_
    obtain ⟨t122, hw⟩ := hw
    obtain ⟨hb, hw⟩ := hw
    refine zg_iaload (v := .int (zI h7 r121 a1.toNatClampNeg)) zi_148_94 t122 hb rfl ?_
    refine zg_aload zi_148_95 rfl ?_
    refine zg_aload zi_148_96 rfl ?_
    obtain ⟨r123, er123, hw⟩ := hw
    refine zg_getR (v := .ref r123) zi_148_97 t119 (by rfl) (by show zrv (zR h7 a0 13) = _; rw [er123]; rfl) ?_
    refine zg_aload zi_148_98 rfl ?_
    refine zg_getR (v := .ref r121) zi_148_99 t119 (by rfl) (by show zrv (zR h7 a0 11) = _; rw [er121]; rfl) ?_
    refine zg_iload zi_148_100 rfl ?_
    obtain ⟨hb, hw⟩ := hw
    refine zg_iaload (v := .int (zI h7 r121 a1.toNatClampNeg)) zi_148_101 t122 hb rfl ?_
    obtain ⟨t124, hw⟩ := hw
    obtain ⟨hb, hw⟩ := hw
    refine zg_iaload (v := .int (zI h7 r123 (zI h7 r121 a1.toNatClampNeg : Int32).toNatClampNeg)) zi_148_102 t124 hb rfl ?_
    refine zg_aload zi_148_103 rfl ?_
    obtain ⟨r125, er125, hw⟩ := hw
    refine zg_getR (v := .ref r125) zi_148_104 t119 (by rfl) (by show zrv (zR h7 a0 14) = _; rw [er125]; rfl) ?_
    refine zg_aload zi_148_105 rfl ?_
    refine zg_getR (v := .ref r121) zi_148_106 t119 (by rfl) (by show zrv (zR h7 a0 11) = _; rw [er121]; rfl) ?_
    refine zg_iload zi_148_107 rfl ?_
    obtain ⟨hb, hw⟩ := hw
    refine zg_iaload (v := .int (zI h7 r121 a1.toNatClampNeg)) zi_148_108 t122 hb rfl ?_
    obtain ⟨t126, hw⟩ := hw
    obtain ⟨hb, hw⟩ := hw
    refine zg_iaload (v := .int (zI h7 r125 (zI h7 r121 a1.toNatClampNeg : Int32).toNatClampNeg)) zi_148_109 t126 hb rfl ?_
    refine Gx.call2 (as := [.ref a0, .int (zI h7 r123 (zI h7 r121 a1.toNatClampNeg : Int32).toNatClampNeg), .int (zI h7 r125 (zI h7 r121 a1.toNatClampNeg : Int32).toNatClampNeg)]) (rest := [.int (zI h7 r121 a1.toNatClampNeg), .ref r120]) zq_142 zi_148_110 rfl rfl rfl (Nat.le_of_ble_eq_true rfl) (Nat.le_of_ble_eq_true rfl) (zrv_v t119 rfl rfl) (Nat.le_of_ble_eq_true rfl) ?_
    refine Ct.mono hw ?_
    rintro v h127 ⟨x128, rfl, hw⟩
    show Gx E (d + 1) 148 111 [.ref a0, .int a1] [.int x128, .int (zI h7 r121 a1.toNatClampNeg), .ref r120] h127 Q
    obtain ⟨t129, hw⟩ := hw
    obtain ⟨hb, hw⟩ := hw
    refine zg_iastore (h1 := zuI h127 r120 (zI h7 r121 a1.toNatClampNeg : Int32).toNatClampNeg x128) zi_148_111 t129 hb rfl ?_
    refine zg_nameH fun h130 eh130 => ?_
    have hw := hw h130 eh130
    refine zg_aload zi_148_112 rfl ?_
    obtain ⟨t131, hw⟩ := hw
    refine Gx.call2 (as := [.ref a0]) (rest := []) zq_141 zi_148_113 rfl rfl rfl (Nat.le_of_ble_eq_true rfl) (Nat.le_of_ble_eq_true rfl) (zrv_v t131 rfl rfl) (Nat.le_of_ble_eq_true rfl) ?_
    refine Ct.mono hw ?_
    rintro v h132 ⟨rfl, hw⟩
    show Gx E (d + 1) 148 114 [.ref a0, .int a1] [] h132 Q
    exact Gx.forget (zrk (zrd zr0)) (okb_148_114 hw)
  have hw := hw.2
  by_cases hv11 : a1.toInt = 14
  · have hw := hw.1 hv11
    refine zg_switch (t := 83) zi_148_45 (by rw [hv11]; rfl) ?_
    refine zg_aload zi_148_83 rfl ?_
    obtain ⟨t133, hw⟩ := hw
    refine Gx.call2 (as := [.ref a0]) (rest := []) zq_146 zi_148_84 rfl rfl rfl (Nat.le_of_ble_eq_true rfl) (Nat.le_of_ble_eq_true rfl) (zrv_v t133 rfl rfl) (Nat.le_of_ble_eq_true rfl) ?_
    refine Ct.mono hw ?_
    rintro v h134 ⟨rfl, hw⟩
    show Gx E (d + 1) 148 85 [.ref a0, .int a1] [] h134 Q
    refine zg_goto zi_148_85 ?_
    exact Gx.forget (zrk (zrd zr0)) (okb_148_114 hw)
  have hw := hw.2
  have hv12 : a1.toInt = 15 := zsl_148_45 _ ho hv0 hv1 hv2 hv3 hv4 hv5 hv6 hv7 hv8 hv9 hv10 hv11
  have hw := hw hv12
  refine zg_switch (t := 86) zi_148_45 (by rw [hv12]; rfl) ?_
  refine zg_aload zi_148_86 rfl ?_
  obtain ⟨t135, hw⟩ := hw
  refine Gx.call2 (as := [.ref a0]) (rest := []) zq_147 zi_148_87 rfl rfl rfl (Nat.le_of_ble_eq_true rfl) (Nat.le_of_ble_eq_true rfl) (zrv_v t135 rfl rfl) (Nat.le_of_ble_eq_true rfl) ?_
  refine Ct.mono hw ?_
  rintro v h136 ⟨rfl, hw⟩
  show Gx E (d + 1) 148 88 [.ref a0, .int a1] [] h136 Q
  refine zg_goto zi_148_88 ?_
  exact Gx.forget (zrk (zrd zr0)) (okb_148_114 hw)
def wb_148_34 (E : Nat → Nat) (d : Nat) (Q : Option Value → ZH → Prop) (a0 : Nat) (a1 : Int32) (h : ZH) : Prop := ztag h a0 = 11 ∧ ∀ h5 : ZH, h5 = (zuI h a0 17 ((zI h a0 17) ||| ((1 : Int32) <<< (a1 &&& 31)))) → wb_148_42 E d Q a0 a1 h5
set_option maxRecDepth 20000 in
theorem okb_148_34 {E : Nat → Nat} {d : Nat} {Q : Option Value → ZH → Prop} {a0 : Nat} {a1 : Int32} {h : ZH} (hw : wb_148_34 E d Q a0 a1 h) : Gx E (d + 1) 148 34 [.ref a0, .int a1] [] h Q := by
  unfold wb_148_34 at hw
  refine zg_aload zi_148_34 rfl ?_
  refine zg_dup zi_148_35 rfl ?_
  obtain ⟨t4, hw⟩ := hw
  refine zg_getI (v := .int (zI h a0 17)) zi_148_36 t4 (by rfl) rfl ?_
  refine zg_const (v := 1) zi_148_37 (by rfl) ?_
  refine zg_iload zi_148_38 rfl ?_
  refine zg_ishl zi_148_39 ?_
  refine zg_ior zi_148_40 ?_
  refine zg_putI (h1 := zuI h a0 17 ((zI h a0 17) ||| ((1 : Int32) <<< (a1 &&& 31)))) zi_148_41 t4 (by rfl) rfl ?_
  refine zg_nameH fun h5 eh5 => ?_
  have hw := hw h5 eh5
  exact okb_148_42 hw
/-- TakeOrPayModel.readLine()V -/
def w_148 (E : Nat → Nat) (d : Nat) (a0 : Nat) (h : ZH) (Q : Option Value → ZH → Prop) : Prop := ztag h a0 = 11 ∧ ∀ x2 : Int32, x2 = (zI h a0 8) → ((¬ (zI h a0 7 : Int32) = 1 → (Ct E d 139 [.ref a0, .int 2] h (fun v h3 => v = none ∧ Q none h3))) ∧ (¬ (¬ (zI h a0 7 : Int32) = 1) → ((x2 ≤ 16 → ((x2 < 12 → ((¬ (((zI h a0 17) >>> (x2 &&& 31)) &&& 1 : Int32) = 1 → (wb_148_34 E d Q a0 x2 h)) ∧ (¬ (¬ (((zI h a0 17) >>> (x2 &&& 31)) &&& 1 : Int32) = 1) → (Ct E d 139 [.ref a0, .int 4] h (fun v h137 => v = none ∧ wb_148_34 E d Q a0 x2 h137))))) ∧ (¬ (x2 < 12) → ((x2 = 13 → ((¬ (((zI h a0 17) >>> (x2 &&& 31)) &&& 1 : Int32) = 1 → (wb_148_34 E d Q a0 x2 h)) ∧ (¬ (¬ (((zI h a0 17) >>> (x2 &&& 31)) &&& 1 : Int32) = 1) → (Ct E d 139 [.ref a0, .int 4] h (fun v h138 => v = none ∧ wb_148_34 E d Q a0 x2 h138))))) ∧ (¬ (x2 = 13) → ((¬ x2 = 16 → (wb_148_42 E d Q a0 x2 h)) ∧ (¬ (¬ x2 = 16) → ((¬ (((zI h a0 17) >>> (x2 &&& 31)) &&& 1 : Int32) = 1 → (wb_148_34 E d Q a0 x2 h)) ∧ (¬ (¬ (((zI h a0 17) >>> (x2 &&& 31)) &&& 1 : Int32) = 1) → (Ct E d 139 [.ref a0, .int 4] h (fun v h139 => v = none ∧ wb_148_34 E d Q a0 x2 h139))))))))))) ∧ (¬ (x2 ≤ 16) → (Ct E d 139 [.ref a0, .int 2] h (fun v h140 => v = none ∧ Q none h140))))))
set_option maxRecDepth 20000 in
theorem ok_148 {E : Nat → Nat} {d : Nat} {a0 : Nat} {h : ZH} {Q : Option Value → ZH → Prop} (hw : w_148 E d a0 h Q) : Ct E (d + 1) 148 [.ref a0] h Q := by
  unfold w_148 at hw
  show Gx E (d + 1) 148 0 [.ref a0, .retAddr 0] [] h Q
  refine zg_aload zi_148_0 rfl ?_
  obtain ⟨t1, hw⟩ := hw
  refine zg_getI (v := .int (zI h a0 8)) zi_148_1 t1 (by rfl) rfl ?_
  refine zg_nameI fun x2 ex2 => ?_
  have hw := hw x2 ex2
  refine zg_istore (ls1 := [.ref a0, .int x2]) zi_148_2 (Nat.le_of_ble_eq_true rfl) rfl ?_
  refine zg_aload zi_148_3 rfl ?_
  refine zg_getI (v := .int (zI h a0 7)) zi_148_4 t1 (by rfl) rfl ?_
  refine zg_const (v := 1) zi_148_5 (by rfl) ?_
  refine zg_icmp_ne zi_148_6 (fun hc => ?_) (fun hc => ?_)
  · have hw := hw.1 hc
    refine zg_aload zi_148_10 rfl ?_
    refine zg_const (v := 2) zi_148_11 (by rfl) ?_
    refine Gx.call2 (as := [.ref a0, .int 2]) (rest := []) zq_139 zi_148_12 rfl rfl rfl (Nat.le_of_ble_eq_true rfl) (Nat.le_of_ble_eq_true rfl) (zrv_v t1 rfl rfl) (Nat.le_of_ble_eq_true rfl) ?_
    refine Ct.mono hw ?_
    rintro v h3 ⟨rfl, hw⟩
    show Gx E (d + 1) 148 13 [.ref a0, .int x2] [] h3 Q
    exact zg_return zi_148_13 hw
  · have hw := hw.2 hc
    refine zg_iload zi_148_7 rfl ?_
    refine zg_const (v := 16) zi_148_8 (by rfl) ?_
    refine zg_icmp_le zi_148_9 (fun hc => ?_) (fun hc => ?_)
    · have hw := hw.1 hc
      refine zg_iload zi_148_14 rfl ?_
      refine zg_const (v := 12) zi_148_15 (by rfl) ?_
      refine zg_icmp_lt zi_148_16 (fun hc => ?_) (fun hc => ?_)
      · have hw := hw.1 hc
        refine zg_aload zi_148_23 rfl ?_
        refine zg_getI (v := .int (zI h a0 17)) zi_148_24 t1 (by rfl) rfl ?_
        refine zg_iload zi_148_25 rfl ?_
        refine zg_ishr zi_148_26 ?_
        refine zg_const (v := 1) zi_148_27 (by rfl) ?_
        refine zg_iand zi_148_28 ?_
        refine zg_const (v := 1) zi_148_29 (by rfl) ?_
        refine zg_icmp_ne zi_148_30 (fun hc => ?_) (fun hc => ?_)
        · have hw := hw.1 hc
          exact okb_148_34 hw
        · have hw := hw.2 hc
          refine zg_aload zi_148_31 rfl ?_
          refine zg_const (v := 4) zi_148_32 (by rfl) ?_
          refine Gx.call2 (as := [.ref a0, .int 4]) (rest := []) zq_139 zi_148_33 rfl rfl rfl (Nat.le_of_ble_eq_true rfl) (Nat.le_of_ble_eq_true rfl) (zrv_v t1 rfl rfl) (Nat.le_of_ble_eq_true rfl) ?_
          refine Ct.mono hw ?_
          rintro v h137 ⟨rfl, hw⟩
          show Gx E (d + 1) 148 34 [.ref a0, .int x2] [] h137 Q
          exact okb_148_34 hw
      · have hw := hw.2 hc
        refine zg_iload zi_148_17 rfl ?_
        refine zg_const (v := 13) zi_148_18 (by rfl) ?_
        refine zg_icmp_eq zi_148_19 (fun hc => ?_) (fun hc => ?_)
        · have hw := hw.1 hc
          refine zg_aload zi_148_23 rfl ?_
          refine zg_getI (v := .int (zI h a0 17)) zi_148_24 t1 (by rfl) rfl ?_
          refine zg_iload zi_148_25 rfl ?_
          refine zg_ishr zi_148_26 ?_
          refine zg_const (v := 1) zi_148_27 (by rfl) ?_
          refine zg_iand zi_148_28 ?_
          refine zg_const (v := 1) zi_148_29 (by rfl) ?_
          refine zg_icmp_ne zi_148_30 (fun hc => ?_) (fun hc => ?_)
          · have hw := hw.1 hc
            exact okb_148_34 hw
          · have hw := hw.2 hc
            refine zg_aload zi_148_31 rfl ?_
            refine zg_const (v := 4) zi_148_32 (by rfl) ?_
            refine Gx.call2 (as := [.ref a0, .int 4]) (rest := []) zq_139 zi_148_33 rfl rfl rfl (Nat.le_of_ble_eq_true rfl) (Nat.le_of_ble_eq_true rfl) (zrv_v t1 rfl rfl) (Nat.le_of_ble_eq_true rfl) ?_
            refine Ct.mono hw ?_
            rintro v h138 ⟨rfl, hw⟩
            show Gx E (d + 1) 148 34 [.ref a0, .int x2] [] h138 Q
            exact okb_148_34 hw
        · have hw := hw.2 hc
          refine zg_iload zi_148_20 rfl ?_
          refine zg_const (v := 16) zi_148_21 (by rfl) ?_
          refine zg_icmp_ne zi_148_22 (fun hc => ?_) (fun hc => ?_)
          · have hw := hw.1 hc
            exact okb_148_42 hw
          · have hw := hw.2 hc
            refine zg_aload zi_148_23 rfl ?_
            refine zg_getI (v := .int (zI h a0 17)) zi_148_24 t1 (by rfl) rfl ?_
            refine zg_iload zi_148_25 rfl ?_
            refine zg_ishr zi_148_26 ?_
            refine zg_const (v := 1) zi_148_27 (by rfl) ?_
            refine zg_iand zi_148_28 ?_
            refine zg_const (v := 1) zi_148_29 (by rfl) ?_
            refine zg_icmp_ne zi_148_30 (fun hc => ?_) (fun hc => ?_)
            · have hw := hw.1 hc
              exact okb_148_34 hw
            · have hw := hw.2 hc
              refine zg_aload zi_148_31 rfl ?_
              refine zg_const (v := 4) zi_148_32 (by rfl) ?_
              refine Gx.call2 (as := [.ref a0, .int 4]) (rest := []) zq_139 zi_148_33 rfl rfl rfl (Nat.le_of_ble_eq_true rfl) (Nat.le_of_ble_eq_true rfl) (zrv_v t1 rfl rfl) (Nat.le_of_ble_eq_true rfl) ?_
              refine Ct.mono hw ?_
              rintro v h139 ⟨rfl, hw⟩
              show Gx E (d + 1) 148 34 [.ref a0, .int x2] [] h139 Q
              exact okb_148_34 hw
    · have hw := hw.2 hc
      refine zg_aload zi_148_10 rfl ?_
      refine zg_const (v := 2) zi_148_11 (by rfl) ?_
      refine Gx.call2 (as := [.ref a0, .int 2]) (rest := []) zq_139 zi_148_12 rfl rfl rfl (Nat.le_of_ble_eq_true rfl) (Nat.le_of_ble_eq_true rfl) (zrv_v t1 rfl rfl) (Nat.le_of_ble_eq_true rfl) ?_
      refine Ct.mono hw ?_
      rintro v h140 ⟨rfl, hw⟩
      show Gx E (d + 1) 148 13 [.ref a0, .int x2] [] h140 Q
      exact zg_return zi_148_13 hw
theorem zq_149 : zQ 149 1 3 11 := by unfold zQ; decide +kernel
theorem zi_149_0 : (zM 149).1[0]? = some (.aload 0) := by rfl
theorem zi_149_1 : (zM 149).1[1]? = some (.iconst 0) := by rfl
theorem zi_149_2 : (zM 149).1[2]? = some (.putfield 11003) := by rfl
theorem zi_149_3 : (zM 149).1[3]? = some (.aload 0) := by rfl
theorem zi_149_4 : (zM 149).1[4]? = some (.iconst 0) := by rfl
theorem zi_149_5 : (zM 149).1[5]? = some (.putfield 11005) := by rfl
theorem zi_149_6 : (zM 149).1[6]? = some (.aload 0) := by rfl
theorem zi_149_7 : (zM 149).1[7]? = some (.iconst 0) := by rfl
theorem zi_149_8 : (zM 149).1[8]? = some (.putfield 11017) := by rfl
theorem zi_149_9 : (zM 149).1[9]? = some (.aload 0) := by rfl
theorem zi_149_10 : (zM 149).1[10]? = some (.iconst 0) := by rfl
theorem zi_149_11 : (zM 149).1[11]? = some (.putfield 11018) := by rfl
theorem zi_149_12 : (zM 149).1[12]? = some (.aload 0) := by rfl
theorem zi_149_13 : (zM 149).1[13]? = some (.iconst 0) := by rfl
theorem zi_149_14 : (zM 149).1[14]? = some (.putfield 11019) := by rfl
theorem zi_149_15 : (zM 149).1[15]? = some (.iconst 0) := by rfl
theorem zi_149_16 : (zM 149).1[16]? = some (.istore 1) := by rfl
theorem zi_149_17 : (zM 149).1[17]? = some (.iconst 0) := by rfl
theorem zi_149_18 : (zM 149).1[18]? = some (.istore 2) := by rfl
theorem zi_149_19 : (zM 149).1[19]? = some (.iload 2) := by rfl
theorem zi_149_20 : (zM 149).1[20]? = some (.iconst 28) := by rfl
theorem zi_149_21 : (zM 149).1[21]? = some (.if_icmp .ge ((32 : Nat) : Int)) := by rfl
theorem zi_149_22 : (zM 149).1[22]? = some (.aload 0) := by rfl
theorem zi_149_23 : (zM 149).1[23]? = some (.getfield 11216) := by rfl
theorem zi_149_24 : (zM 149).1[24]? = some (.iload 2) := by rfl
theorem zi_149_25 : (zM 149).1[25]? = some (.aload 0) := by rfl
theorem zi_149_26 : (zM 149).1[26]? = some (.getfield 11212) := by rfl
theorem zi_149_27 : (zM 149).1[27]? = some (.iload 2) := by rfl
theorem zi_149_28 : (zM 149).1[28]? = some (.iaload) := by rfl
theorem zi_149_29 : (zM 149).1[29]? = some (.iastore) := by rfl
theorem zi_149_30 : (zM 149).1[30]? = some (.iinc 2 1) := by rfl
theorem zi_149_31 : (zM 149).1[31]? = some (.goto ((19 : Nat) : Int)) := by rfl
theorem zi_149_32 : (zM 149).1[32]? = some (.aload 0) := by rfl
theorem zi_149_33 : (zM 149).1[33]? = some (.invokevirtual 141) := by rfl
theorem zi_149_34 : (zM 149).1[34]? = some (.aload 0) := by rfl
theorem zi_149_35 : (zM 149).1[35]? = some (.getfield 11003) := by rfl
theorem zi_149_36 : (zM 149).1[36]? = some (.ifCond .ne ((44 : Nat) : Int)) := by rfl
theorem zi_149_37 : (zM 149).1[37]? = some (.aload 0) := by rfl
theorem zi_149_38 : (zM 149).1[38]? = some (.getfield 11007) := by rfl
theorem zi_149_39 : (zM 149).1[39]? = some (.ifCond .eq ((44 : Nat) : Int)) := by rfl
theorem zi_149_40 : (zM 149).1[40]? = some (.aload 0) := by rfl
theorem zi_149_41 : (zM 149).1[41]? = some (.invokevirtual 148) := by rfl
theorem zi_149_42 : (zM 149).1[42]? = some (.iinc 1 1) := by rfl
theorem zi_149_43 : (zM 149).1[43]? = some (.goto ((34 : Nat) : Int)) := by rfl
theorem zi_149_44 : (zM 149).1[44]? = some (.aload 0) := by rfl
theorem zi_149_45 : (zM 149).1[45]? = some (.iconst 0) := by rfl
theorem zi_149_46 : (zM 149).1[46]? = some (.putfield 11001) := by rfl
theorem zi_149_47 : (zM 149).1[47]? = some (.aload 0) := by rfl
theorem zi_149_48 : (zM 149).1[48]? = some (.aload 0) := by rfl
theorem zi_149_49 : (zM 149).1[49]? = some (.getfield 11003) := by rfl
theorem zi_149_50 : (zM 149).1[50]? = some (.putfield 11002) := by rfl
theorem zi_149_51 : (zM 149).1[51]? = some (.aload 0) := by rfl
theorem zi_149_52 : (zM 149).1[52]? = some (.getfield 11003) := by rfl
theorem zi_149_53 : (zM 149).1[53]? = some (.ifCond .le ((59 : Nat) : Int)) := by rfl
theorem zi_149_54 : (zM 149).1[54]? = some (.iconst (-10)) := by rfl
theorem zi_149_55 : (zM 149).1[55]? = some (.aload 0) := by rfl
theorem zi_149_56 : (zM 149).1[56]? = some (.getfield 11004) := by rfl
theorem zi_149_57 : (zM 149).1[57]? = some (.isub) := by rfl
theorem zi_149_58 : (zM 149).1[58]? = some (.ireturn) := by rfl
theorem zi_149_59 : (zM 149).1[59]? = some (.iconst 0) := by rfl
theorem zi_149_60 : (zM 149).1[60]? = some (.istore 2) := by rfl
theorem zi_149_61 : (zM 149).1[61]? = some (.iload 2) := by rfl
theorem zi_149_62 : (zM 149).1[62]? = some (.iconst 28) := by rfl
theorem zi_149_63 : (zM 149).1[63]? = some (.if_icmp .ge ((74 : Nat) : Int)) := by rfl
theorem zi_149_64 : (zM 149).1[64]? = some (.aload 0) := by rfl
theorem zi_149_65 : (zM 149).1[65]? = some (.getfield 11215) := by rfl
theorem zi_149_66 : (zM 149).1[66]? = some (.iload 2) := by rfl
theorem zi_149_67 : (zM 149).1[67]? = some (.aload 0) := by rfl
theorem zi_149_68 : (zM 149).1[68]? = some (.getfield 11216) := by rfl
theorem zi_149_69 : (zM 149).1[69]? = some (.iload 2) := by rfl
theorem zi_149_70 : (zM 149).1[70]? = some (.iaload) := by rfl
theorem zi_149_71 : (zM 149).1[71]? = some (.iastore) := by rfl
theorem zi_149_72 : (zM 149).1[72]? = some (.iinc 2 1) := by rfl
theorem zi_149_73 : (zM 149).1[73]? = some (.goto ((61 : Nat) : Int)) := by rfl
theorem zi_149_74 : (zM 149).1[74]? = some (.iconst 0) := by rfl
theorem zi_149_75 : (zM 149).1[75]? = some (.istore 2) := by rfl
theorem zi_149_76 : (zM 149).1[76]? = some (.iload 2) := by rfl
theorem zi_149_77 : (zM 149).1[77]? = some (.iconst 20) := by rfl
theorem zi_149_78 : (zM 149).1[78]? = some (.if_icmp .ge ((86 : Nat) : Int)) := by rfl
theorem zi_149_79 : (zM 149).1[79]? = some (.aload 0) := by rfl
theorem zi_149_80 : (zM 149).1[80]? = some (.getfield 11220) := by rfl
theorem zi_149_81 : (zM 149).1[81]? = some (.iload 2) := by rfl
theorem zi_149_82 : (zM 149).1[82]? = some (.iconst (-4)) := by rfl
theorem zi_149_83 : (zM 149).1[83]? = some (.iastore) := by rfl
theorem zi_149_84 : (zM 149).1[84]? = some (.iinc 2 1) := by rfl
theorem zi_149_85 : (zM 149).1[85]? = some (.goto ((76 : Nat) : Int)) := by rfl
theorem zi_149_86 : (zM 149).1[86]? = some (.aload 0) := by rfl
theorem zi_149_87 : (zM 149).1[87]? = some (.iconst 0) := by rfl
theorem zi_149_88 : (zM 149).1[88]? = some (.putfield 11036) := by rfl
theorem zi_149_89 : (zM 149).1[89]? = some (.aload 0) := by rfl
theorem zi_149_90 : (zM 149).1[90]? = some (.iconst 0) := by rfl
theorem zi_149_91 : (zM 149).1[91]? = some (.putfield 11329) := by rfl
theorem zi_149_92 : (zM 149).1[92]? = some (.iload 1) := by rfl
theorem zi_149_93 : (zM 149).1[93]? = some (.ireturn) := by rfl
def wb_149_86 (E : Nat → Nat) (d : Nat) (Q : Option Value → ZH → Prop) (a0 : Nat) (a1 : Int32) (h : ZH) : Prop := ztag h a0 = 11 ∧ ∀ h14 : ZH, h14 = (zuI h a0 36 0) → ∀ h15 : ZH, h15 = (zuI h14 a0 29 0) → Q (some (.int a1)) h15
set_option maxRecDepth 20000 in
theorem okb_149_86 {E : Nat → Nat} {d : Nat} {Q : Option Value → ZH → Prop} {a0 : Nat} {a1 : Int32} {h : ZH} (hw : wb_149_86 E d Q a0 a1 h) : Gx E (d + 1) 149 86 [.ref a0, .int a1, .retAddr 0] [] h Q := by
  unfold wb_149_86 at hw
  refine zg_aload zi_149_86 rfl ?_
  refine zg_const (v := 0) zi_149_87 (by rfl) ?_
  obtain ⟨t13, hw⟩ := hw
  refine zg_putI (h1 := zuI h a0 36 0) zi_149_88 t13 (by rfl) rfl ?_
  refine zg_nameH fun h14 eh14 => ?_
  have hw := hw h14 eh14
  refine zg_aload zi_149_89 rfl ?_
  refine zg_const (v := 0) zi_149_90 (by rfl) ?_
  refine zg_putZ (h1 := zuI h14 a0 29 0) zi_149_91 (by rw [eh14]; exact t13) (by rfl) (by decide) rfl ?_
  refine zg_nameH fun h15 eh15 => ?_
  have hw := hw h15 eh15
  refine zg_iload zi_149_92 rfl ?_
  exact zg_ireturn zi_149_93 (by decide) hw
def wl_149_76 (E : Nat → Nat) (d : Nat) (Q : Option Value → ZH → Prop) : Nat → Nat → Int32 → Int32 → ZH → Prop
  | 0, _, _, _, _ => False
  | n + 1, a0, a1, a2, h => (20 ≤ a2 → (wb_149_86 E d Q a0 a1 h)) ∧ (¬ (20 ≤ a2) → (ztag h a0 = 11 ∧ ∃ r17 : Nat, zR h a0 20 = r17 + 1 ∧ ztag h r17 = 13 ∧ zin a2 (zlen h r17) = true ∧ ∀ h19 : ZH, h19 = (zuI h r17 a2.toNatClampNeg ((-4))) → ∀ x20 : Int32, x20 = (a2 + 1) → wl_149_76 E d Q n a0 a1 x20 h19))
set_option maxRecDepth 20000 in
theorem okl_149_76 {E : Nat → Nat} {d : Nat} {Q : Option Value → ZH → Prop} : ∀ (n : Nat) (a0 : Nat) (a1 : Int32) (a2 : Int32) (h : ZH), wl_149_76 E d Q n a0 a1 a2 h → Gx E (d + 1) 149 76 [.ref a0, .int a1, .int a2] [] h Q := by
  intro n
  induction n with
  | zero => intro a0 a1 a2 h hw; exact hw.elim
  | succ n ih =>
    intro a0 a1 a2 h hw
    rw [wl_149_76] at hw
    refine zg_iload zi_149_76 rfl ?_
    refine zg_const (v := 20) zi_149_77 (by rfl) ?_
    refine zg_icmp_ge zi_149_78 (fun hc => ?_) (fun hc => ?_)
    · have hw := hw.1 hc
      exact Gx.forget (zrk (zrk (zrd zr0))) (okb_149_86 hw)
    · have hw := hw.2 hc
      refine zg_aload zi_149_79 rfl ?_
      obtain ⟨t16, hw⟩ := hw
      obtain ⟨r17, er17, hw⟩ := hw
      refine zg_getR (v := .ref r17) zi_149_80 t16 (by rfl) (by show zrv (zR h a0 20) = _; rw [er17]; rfl) ?_
      refine zg_iload zi_149_81 rfl ?_
      refine zg_const (v := (-4)) zi_149_82 (by rfl) ?_
      obtain ⟨t18, hw⟩ := hw
      obtain ⟨hb, hw⟩ := hw
      refine zg_iastore (h1 := zuI h r17 a2.toNatClampNeg ((-4))) zi_149_83 t18 hb rfl ?_
      refine zg_nameH fun h19 eh19 => ?_
      have hw := hw h19 eh19
      obtain ⟨x20, ex20⟩ : ∃ x : Int32, x = a2 + 1 := ⟨_, rfl⟩
      have hw := hw x20 ex20
      refine zg_iinc (v := x20) (ls1 := [.ref a0, .int a1, .int x20]) zi_149_84 rfl (by rw [ex20]; rfl) rfl ?_
      refine zg_goto zi_149_85 ?_
      exact ih a0 a1 x20 h19 hw
def wb_149_74 (E : Nat → Nat) (d : Nat) (Q : Option Value → ZH → Prop) (a0 : Nat) (a1 : Int32) (h : ZH) : Prop := ∃ mm : Nat, wl_149_76 E d Q mm a0 a1 0 h
set_option maxRecDepth 20000 in
theorem okb_149_74 {E : Nat → Nat} {d : Nat} {Q : Option Value → ZH → Prop} {a0 : Nat} {a1 : Int32} {h : ZH} (hw : wb_149_74 E d Q a0 a1 h) : Gx E (d + 1) 149 74 [.ref a0, .int a1, .retAddr 0] [] h Q := by
  unfold wb_149_74 at hw
  refine zg_const (v := 0) zi_149_74 (by rfl) ?_
  refine zg_istore (ls1 := [.ref a0, .int a1, .int 0]) zi_149_75 (Nat.le_of_ble_eq_true rfl) rfl ?_
  obtain ⟨mm, hw⟩ := hw
  exact okl_149_76 mm a0 a1 0 h hw
def wl_149_61 (E : Nat → Nat) (d : Nat) (Q : Option Value → ZH → Prop) : Nat → Nat → Int32 → Int32 → ZH → Prop
  | 0, _, _, _, _ => False
  | n + 1, a0, a1, a2, h => (28 ≤ a2 → (wb_149_74 E d Q a0 a1 h)) ∧ (¬ (28 ≤ a2) → (ztag h a0 = 11 ∧ ∃ r22 : Nat, zR h a0 15 = r22 + 1 ∧ ∃ r23 : Nat, zR h a0 16 = r23 + 1 ∧ (ztag h r23 = 13 ∨ ztag h r23 = 19) ∧ zin a2 (zlen h r23) = true ∧ ztag h r22 = 13 ∧ zin a2 (zlen h r22) = true ∧ ∀ h26 : ZH, h26 = (zuI h r22 a2.toNatClampNeg (zI h r23 a2.toNatClampNeg)) → ∀ x27 : Int32, x27 = (a2 + 1) → wl_149_61 E d Q n a0 a1 x27 h26))
set_option maxRecDepth 20000 in
theorem okl_149_61 {E : Nat → Nat} {d : Nat} {Q : Option Value → ZH → Prop} : ∀ (n : Nat) (a0 : Nat) (a1 : Int32) (a2 : Int32) (h : ZH), wl_149_61 E d Q n a0 a1 a2 h → Gx E (d + 1) 149 61 [.ref a0, .int a1, .int a2] [] h Q := by
  intro n
  induction n with
  | zero => intro a0 a1 a2 h hw; exact hw.elim
  | succ n ih =>
    intro a0 a1 a2 h hw
    rw [wl_149_61] at hw
    refine zg_iload zi_149_61 rfl ?_
    refine zg_const (v := 28) zi_149_62 (by rfl) ?_
    refine zg_icmp_ge zi_149_63 (fun hc => ?_) (fun hc => ?_)
    · have hw := hw.1 hc
      exact Gx.forget (zrk (zrk (zrd zr0))) (okb_149_74 hw)
    · have hw := hw.2 hc
      refine zg_aload zi_149_64 rfl ?_
      obtain ⟨t21, hw⟩ := hw
      obtain ⟨r22, er22, hw⟩ := hw
      refine zg_getR (v := .ref r22) zi_149_65 t21 (by rfl) (by show zrv (zR h a0 15) = _; rw [er22]; rfl) ?_
      refine zg_iload zi_149_66 rfl ?_
      refine zg_aload zi_149_67 rfl ?_
      obtain ⟨r23, er23, hw⟩ := hw
      refine zg_getR (v := .ref r23) zi_149_68 t21 (by rfl) (by show zrv (zR h a0 16) = _; rw [er23]; rfl) ?_
      refine zg_iload zi_149_69 rfl ?_
      obtain ⟨t24, hw⟩ := hw
      obtain ⟨hb, hw⟩ := hw
      refine zg_iaload (v := .int (zI h r23 a2.toNatClampNeg)) zi_149_70 t24 hb rfl ?_
      obtain ⟨t25, hw⟩ := hw
      obtain ⟨hb, hw⟩ := hw
      refine zg_iastore (h1 := zuI h r22 a2.toNatClampNeg (zI h r23 a2.toNatClampNeg)) zi_149_71 t25 hb rfl ?_
      refine zg_nameH fun h26 eh26 => ?_
      have hw := hw h26 eh26
      obtain ⟨x27, ex27⟩ : ∃ x : Int32, x = a2 + 1 := ⟨_, rfl⟩
      have hw := hw x27 ex27
      refine zg_iinc (v := x27) (ls1 := [.ref a0, .int a1, .int x27]) zi_149_72 rfl (by rw [ex27]; rfl) rfl ?_
      refine zg_goto zi_149_73 ?_
      exact ih a0 a1 x27 h26 hw
def wb_149_44 (E : Nat → Nat) (d : Nat) (Q : Option Value → ZH → Prop) (a0 : Nat) (a1 : Int32) (h : ZH) : Prop := ztag h a0 = 11 ∧ ∀ h11 : ZH, h11 = (zuI h a0 1 0) → ∀ h12 : ZH, h12 = (zuI h11 a0 2 (zI h11 a0 3)) → (((zI h12 a0 3 : Int32) ≤ 0 → (∃ mm : Nat, wl_149_61 E d Q mm a0 a1 0 h12)) ∧ (¬ ((zI h12 a0 3 : Int32) ≤ 0) → (Q (some (.int (((-10)) - (zI h12 a0 4)))) h12)))
set_option maxRecDepth 20000 in
theorem okb_149_44 {E : Nat → Nat} {d : Nat} {Q : Option Value → ZH → Prop} {a0 : Nat} {a1 : Int32} {h : ZH} (hw : wb_149_44 E d Q a0 a1 h) : Gx E (d + 1) 149 44 [.ref a0, .int a1, .retAddr 0] [] h Q := by
  unfold wb_149_44 at hw
  refine zg_aload zi_149_44 rfl ?_
  refine zg_const (v := 0) zi_149_45 (by rfl) ?_
  obtain ⟨t10, hw⟩ := hw
  refine zg_putI (h1 := zuI h a0 1 0) zi_149_46 t10 (by rfl) rfl ?_
  refine zg_nameH fun h11 eh11 => ?_
  have hw := hw h11 eh11
  refine zg_aload zi_149_47 rfl ?_
  refine zg_aload zi_149_48 rfl ?_
  refine zg_getI (v := .int (zI h11 a0 3)) zi_149_49 (by rw [eh11]; exact t10) (by rfl) rfl ?_
  refine zg_putI (h1 := zuI h11 a0 2 (zI h11 a0 3)) zi_149_50 (by rw [eh11]; exact t10) (by rfl) rfl ?_
  refine zg_nameH fun h12 eh12 => ?_
  have hw := hw h12 eh12
  refine zg_aload zi_149_51 rfl ?_
  refine zg_getI (v := .int (zI h12 a0 3)) zi_149_52 (by rw [eh12, eh11]; exact t10) (by rfl) rfl ?_
  refine zg_if_le zi_149_53 (fun hc => ?_) (fun hc => ?_)
  · have hw := hw.1 hc
    refine zg_const (v := 0) zi_149_59 (by rfl) ?_
    refine zg_istore (ls1 := [.ref a0, .int a1, .int 0]) zi_149_60 (Nat.le_of_ble_eq_true rfl) rfl ?_
    obtain ⟨mm, hw⟩ := hw
    exact okl_149_61 mm a0 a1 0 h12 hw
  · have hw := hw.2 hc
    refine zg_const (v := (-10)) zi_149_54 (by rfl) ?_
    refine zg_aload zi_149_55 rfl ?_
    refine zg_getI (v := .int (zI h12 a0 4)) zi_149_56 (by rw [eh12, eh11]; exact t10) (by rfl) rfl ?_
    refine zg_isub zi_149_57 ?_
    exact zg_ireturn zi_149_58 (by decide) hw
def wl_149_34 (E : Nat → Nat) (d : Nat) (Q : Option Value → ZH → Prop) : Nat → Nat → Int32 → ZH → Prop
  | 0, _, _, _ => False
  | n + 1, a0, a1, h => ztag h a0 = 11 ∧ ((¬ (zI h a0 3 : Int32) = 0 → (wb_149_44 E d Q a0 a1 h)) ∧ (¬ (¬ (zI h a0 3 : Int32) = 0) → (((zI h a0 7 : Int32) = 0 → (wb_149_44 E d Q a0 a1 h)) ∧ (¬ ((zI h a0 7 : Int32) = 0) → (Ct E d 148 [.ref a0] h (fun v h28 => v = none ∧ ∀ x29 : Int32, x29 = (a1 + 1) → wl_149_34 E d Q n a0 x29 h28))))))
set_option maxRecDepth 20000 in
theorem okl_149_34 {E : Nat → Nat} {d : Nat} {Q : Option Value → ZH → Prop} : ∀ (n : Nat) (a0 : Nat) (a1 : Int32) (h : ZH), wl_149_34 E d Q n a0 a1 h → Gx E (d + 1) 149 34 [.ref a0, .int a1, .retAddr 0] [] h Q := by
  intro n
  induction n with
  | zero => intro a0 a1 h hw; exact hw.elim
  | succ n ih =>
    intro a0 a1 h hw
    rw [wl_149_34] at hw
    refine zg_aload zi_149_34 rfl ?_
    obtain ⟨t9, hw⟩ := hw
    refine zg_getI (v := .int (zI h a0 3)) zi_149_35 t9 (by rfl) rfl ?_
    refine zg_if_ne zi_149_36 (fun hc => ?_) (fun hc => ?_)
    · have hw := hw.1 hc
      exact okb_149_44 hw
    · have hw := hw.2 hc
      refine zg_aload zi_149_37 rfl ?_
      refine zg_getI (v := .int (zI h a0 7)) zi_149_38 t9 (by rfl) rfl ?_
      refine zg_if_eq zi_149_39 (fun hc => ?_) (fun hc => ?_)
      · have hw := hw.1 hc
        exact okb_149_44 hw
      · have hw := hw.2 hc
        refine zg_aload zi_149_40 rfl ?_
        refine Gx.call2 (as := [.ref a0]) (rest := []) zq_148 zi_149_41 rfl rfl rfl (Nat.le_of_ble_eq_true rfl) (Nat.le_of_ble_eq_true rfl) (zrv_v t9 rfl rfl) (Nat.le_of_ble_eq_true rfl) ?_
        refine Ct.mono hw ?_
        rintro v h28 ⟨rfl, hw⟩
        show Gx E (d + 1) 149 42 [.ref a0, .int a1, .retAddr 0] [] h28 Q
        obtain ⟨x29, ex29⟩ : ∃ x : Int32, x = a1 + 1 := ⟨_, rfl⟩
        have hw := hw x29 ex29
        refine zg_iinc (v := x29) (ls1 := [.ref a0, .int x29, .retAddr 0]) zi_149_42 rfl (by rw [ex29]; rfl) rfl ?_
        refine zg_goto zi_149_43 ?_
        exact ih a0 x29 h28 hw
def wb_149_32 (E : Nat → Nat) (d : Nat) (Q : Option Value → ZH → Prop) (a0 : Nat) (a1 : Int32) (h : ZH) : Prop := ztag h a0 = 11 ∧ Ct E d 141 [.ref a0] h (fun v h8 => v = none ∧ (∃ mm : Nat, wl_149_34 E d Q mm a0 a1 h8))
set_option maxRecDepth 20000 in
theorem okb_149_32 {E : Nat → Nat} {d : Nat} {Q : Option Value → ZH → Prop} {a0 : Nat} {a1 : Int32} {h : ZH} (hw : wb_149_32 E d Q a0 a1 h) : Gx E (d + 1) 149 32 [.ref a0, .int a1, .retAddr 0] [] h Q := by
  unfold wb_149_32 at hw
  refine zg_aload zi_149_32 rfl ?_
  obtain ⟨t7, hw⟩ := hw
  refine Gx.call2 (as := [.ref a0]) (rest := []) zq_141 zi_149_33 rfl rfl rfl (Nat.le_of_ble_eq_true rfl) (Nat.le_of_ble_eq_true rfl) (zrv_v t7 rfl rfl) (Nat.le_of_ble_eq_true rfl) ?_
  refine Ct.mono hw ?_
  rintro v h8 ⟨rfl, hw⟩
  show Gx E (d + 1) 149 34 [.ref a0, .int a1, .retAddr 0] [] h8 Q
  obtain ⟨mm, hw⟩ := hw
  exact okl_149_34 mm a0 a1 h8 hw
def wl_149_19 (E : Nat → Nat) (d : Nat) (Q : Option Value → ZH → Prop) : Nat → Nat → Int32 → Int32 → ZH → Prop
  | 0, _, _, _, _ => False
  | n + 1, a0, a1, a2, h => (28 ≤ a2 → (wb_149_32 E d Q a0 a1 h)) ∧ (¬ (28 ≤ a2) → (ztag h a0 = 11 ∧ ∃ r31 : Nat, zR h a0 16 = r31 + 1 ∧ ∃ r32 : Nat, zR h a0 12 = r32 + 1 ∧ (ztag h r32 = 13 ∨ ztag h r32 = 19) ∧ zin a2 (zlen h r32) = true ∧ ztag h r31 = 13 ∧ zin a2 (zlen h r31) = true ∧ ∀ h35 : ZH, h35 = (zuI h r31 a2.toNatClampNeg (zI h r32 a2.toNatClampNeg)) → ∀ x36 : Int32, x36 = (a2 + 1) → wl_149_19 E d Q n a0 a1 x36 h35))
set_option maxRecDepth 20000 in
theorem okl_149_19 {E : Nat → Nat} {d : Nat} {Q : Option Value → ZH → Prop} : ∀ (n : Nat) (a0 : Nat) (a1 : Int32) (a2 : Int32) (h : ZH), wl_149_19 E d Q n a0 a1 a2 h → Gx E (d + 1) 149 19 [.ref a0, .int a1, .int a2] [] h Q := by
  intro n
  induction n with
  | zero => intro a0 a1 a2 h hw; exact hw.elim
  | succ n ih =>
    intro a0 a1 a2 h hw
    rw [wl_149_19] at hw
    refine zg_iload zi_149_19 rfl ?_
    refine zg_const (v := 28) zi_149_20 (by rfl) ?_
    refine zg_icmp_ge zi_149_21 (fun hc => ?_) (fun hc => ?_)
    · have hw := hw.1 hc
      exact Gx.forget (zrk (zrk (zrd zr0))) (okb_149_32 hw)
    · have hw := hw.2 hc
      refine zg_aload zi_149_22 rfl ?_
      obtain ⟨t30, hw⟩ := hw
      obtain ⟨r31, er31, hw⟩ := hw
      refine zg_getR (v := .ref r31) zi_149_23 t30 (by rfl) (by show zrv (zR h a0 16) = _; rw [er31]; rfl) ?_
      refine zg_iload zi_149_24 rfl ?_
      refine zg_aload zi_149_25 rfl ?_
      obtain ⟨r32, er32, hw⟩ := hw
      refine zg_getR (v := .ref r32) zi_149_26 t30 (by rfl) (by show zrv (zR h a0 12) = _; rw [er32]; rfl) ?_
      refine zg_iload zi_149_27 rfl ?_
      obtain ⟨t33, hw⟩ := hw
      obtain ⟨hb, hw⟩ := hw
      refine zg_iaload (v := .int (zI h r32 a2.toNatClampNeg)) zi_149_28 t33 hb rfl ?_
      obtain ⟨t34, hw⟩ := hw
      obtain ⟨hb, hw⟩ := hw
      refine zg_iastore (h1 := zuI h r31 a2.toNatClampNeg (zI h r32 a2.toNatClampNeg)) zi_149_29 t34 hb rfl ?_
      refine zg_nameH fun h35 eh35 => ?_
      have hw := hw h35 eh35
      obtain ⟨x36, ex36⟩ : ∃ x : Int32, x = a2 + 1 := ⟨_, rfl⟩
      have hw := hw x36 ex36
      refine zg_iinc (v := x36) (ls1 := [.ref a0, .int a1, .int x36]) zi_149_30 rfl (by rw [ex36]; rfl) rfl ?_
      refine zg_goto zi_149_31 ?_
      exact ih a0 a1 x36 h35 hw
/-- TakeOrPayModel.page()I -/
def w_149 (E : Nat → Nat) (d : Nat) (a0 : Nat) (h : ZH) (Q : Option Value → ZH → Prop) : Prop := ztag h a0 = 11 ∧ ∀ h2 : ZH, h2 = (zuI h a0 3 0) → ∀ h3 : ZH, h3 = (zuI h2 a0 5 0) → ∀ h4 : ZH, h4 = (zuI h3 a0 17 0) → ∀ h5 : ZH, h5 = (zuI h4 a0 18 0) → ∀ h6 : ZH, h6 = (zuI h5 a0 19 0) → (∃ mm : Nat, wl_149_19 E d Q mm a0 0 0 h6)
set_option maxRecDepth 20000 in
theorem ok_149 {E : Nat → Nat} {d : Nat} {a0 : Nat} {h : ZH} {Q : Option Value → ZH → Prop} (hw : w_149 E d a0 h Q) : Ct E (d + 1) 149 [.ref a0] h Q := by
  unfold w_149 at hw
  show Gx E (d + 1) 149 0 [.ref a0, .retAddr 0, .retAddr 0] [] h Q
  refine zg_aload zi_149_0 rfl ?_
  refine zg_const (v := 0) zi_149_1 (by rfl) ?_
  obtain ⟨t1, hw⟩ := hw
  refine zg_putI (h1 := zuI h a0 3 0) zi_149_2 t1 (by rfl) rfl ?_
  refine zg_nameH fun h2 eh2 => ?_
  have hw := hw h2 eh2
  refine zg_aload zi_149_3 rfl ?_
  refine zg_const (v := 0) zi_149_4 (by rfl) ?_
  refine zg_putI (h1 := zuI h2 a0 5 0) zi_149_5 (by rw [eh2]; exact t1) (by rfl) rfl ?_
  refine zg_nameH fun h3 eh3 => ?_
  have hw := hw h3 eh3
  refine zg_aload zi_149_6 rfl ?_
  refine zg_const (v := 0) zi_149_7 (by rfl) ?_
  refine zg_putI (h1 := zuI h3 a0 17 0) zi_149_8 (by rw [eh3, eh2]; exact t1) (by rfl) rfl ?_
  refine zg_nameH fun h4 eh4 => ?_
  have hw := hw h4 eh4
  refine zg_aload zi_149_9 rfl ?_
  refine zg_const (v := 0) zi_149_10 (by rfl) ?_
  refine zg_putI (h1 := zuI h4 a0 18 0) zi_149_11 (by rw [eh4, eh3, eh2]; exact t1) (by rfl) rfl ?_
  refine zg_nameH fun h5 eh5 => ?_
  have hw := hw h5 eh5
  refine zg_aload zi_149_12 rfl ?_
  refine zg_const (v := 0) zi_149_13 (by rfl) ?_
  refine zg_putI (h1 := zuI h5 a0 19 0) zi_149_14 (by rw [eh5, eh4, eh3, eh2]; exact t1) (by rfl) rfl ?_
  refine zg_nameH fun h6 eh6 => ?_
  have hw := hw h6 eh6
  refine zg_const (v := 0) zi_149_15 (by rfl) ?_
  refine zg_istore (ls1 := [.ref a0, .int 0, .retAddr 0]) zi_149_16 (Nat.le_of_ble_eq_true rfl) rfl ?_
  refine zg_const (v := 0) zi_149_17 (by rfl) ?_
  refine zg_istore (ls1 := [.ref a0, .int 0, .int 0]) zi_149_18 (Nat.le_of_ble_eq_true rfl) rfl ?_
  obtain ⟨mm, hw⟩ := hw
  exact okl_149_19 mm a0 0 0 h6 hw
theorem zq_150 : zQ 150 1 1 11 := by unfold zQ; decide +kernel
theorem zi_150_0 : (zM 150).1[0]? = some (.aload 0) := by rfl
theorem zi_150_1 : (zM 150).1[1]? = some (.getfield 11002) := by rfl
theorem zi_150_2 : (zM 150).1[2]? = some (.ireturn) := by rfl
/-- TakeOrPayModel.fault()I -/
def w_150 (E : Nat → Nat) (d : Nat) (a0 : Nat) (h : ZH) (Q : Option Value → ZH → Prop) : Prop := ztag h a0 = 11 ∧ Q (some (.int (zI h a0 2))) h
set_option maxRecDepth 20000 in
theorem ok_150 {E : Nat → Nat} {d : Nat} {a0 : Nat} {h : ZH} {Q : Option Value → ZH → Prop} (hw : w_150 E d a0 h Q) : Ct E (d + 1) 150 [.ref a0] h Q := by
  unfold w_150 at hw
  show Gx E (d + 1) 150 0 [.ref a0] [] h Q
  refine zg_aload zi_150_0 rfl ?_
  obtain ⟨t1, hw⟩ := hw
  refine zg_getI (v := .int (zI h a0 2)) zi_150_1 t1 (by rfl) rfl ?_
  exact zg_ireturn zi_150_2 (by decide) hw
def fz_150 (E : Nat → Nat) (h : ZH) (a0 : Nat) : Int32 := zI h a0 2
def sz_150 (E : Nat → Nat) (h : ZH) (a0 : Nat) : Prop := ztag h a0 = 11 ∧ True
set_option maxRecDepth 20000 in
theorem cz_150 {E : Nat → Nat} {d : Nat} {a0 : Nat} {h : ZH} {Q : Option Value → ZH → Prop} (hd : 1 ≤ d) (hs : sz_150 E h a0) (hq : Q (some (.int (fz_150 E h a0))) h) : Ct E d 150 [.ref a0] h Q := by
  obtain ⟨d, rfl⟩ : ∃ n, d = n + 1 := ⟨d - 1, by omega⟩
  refine ok_150 ?_
  unfold w_150
  unfold sz_150 at hs
  unfold fz_150 at hq
  refine ⟨hs.1, ?_⟩
  have hs := hs.2
  exact hq
theorem zq_151 : zQ 151 2 2 11 := by unfold zQ; decide +kernel
theorem zi_151_0 : (zM 151).1[0]? = some (.iload 1) := by rfl
theorem zi_151_1 : (zM 151).1[1]? = some (.i2l) := by rfl
theorem zi_151_2 : (zM 151).1[2]? = some (.jsr_w 0) := by rfl
theorem zi_151_3 : (zM 151).1[3]? = some (.jsr_w 15) := by rfl
theorem zi_151_4 : (zM 151).1[4]? = some (.invokestatic 135) := by rfl
theorem zi_151_5 : (zM 151).1[5]? = some (.ifCond .eq ((11 : Nat) : Int)) := by rfl
theorem zi_151_6 : (zM 151).1[6]? = some (.aload 0) := by rfl
theorem zi_151_7 : (zM 151).1[7]? = some (.getfield 11215) := by rfl
theorem zi_151_8 : (zM 151).1[8]? = some (.iload 1) := by rfl
theorem zi_151_9 : (zM 151).1[9]? = some (.iaload) := by rfl
theorem zi_151_10 : (zM 151).1[10]? = some (.ireturn) := by rfl
theorem zi_151_11 : (zM 151).1[11]? = some (.iload 1) := by rfl
theorem zi_151_12 : (zM 151).1[12]? = some (.i2l) := by rfl
theorem zi_151_13 : (zM 151).1[13]? = some (.jsr_w 20) := by rfl
theorem zi_151_14 : (zM 151).1[14]? = some (.jsr_w 22) := by rfl
theorem zi_151_15 : (zM 151).1[15]? = some (.invokestatic 135) := by rfl
theorem zi_151_16 : (zM 151).1[16]? = some (.ifCond .eq ((26 : Nat) : Int)) := by rfl
theorem zi_151_17 : (zM 151).1[17]? = some (.aload 0) := by rfl
theorem zi_151_18 : (zM 151).1[18]? = some (.getfield 11215) := by rfl
theorem zi_151_19 : (zM 151).1[19]? = some (.iconst 16) := by rfl
theorem zi_151_20 : (zM 151).1[20]? = some (.iload 1) := by rfl
theorem zi_151_21 : (zM 151).1[21]? = some (.iadd) := by rfl
theorem zi_151_22 : (zM 151).1[22]? = some (.iconst 20) := by rfl
theorem zi_151_23 : (zM 151).1[23]? = some (.isub) := by rfl
theorem zi_151_24 : (zM 151).1[24]? = some (.iaload) := by rfl
theorem zi_151_25 : (zM 151).1[25]? = some (.goto ((42 : Nat) : Int)) := by rfl
theorem zi_151_26 : (zM 151).1[26]? = some (.iload 1) := by rfl
theorem zi_151_27 : (zM 151).1[27]? = some (.i2l) := by rfl
theorem zi_151_28 : (zM 151).1[28]? = some (.jsr_w 30) := by rfl
theorem zi_151_29 : (zM 151).1[29]? = some (.jsr_w 38) := by rfl
theorem zi_151_30 : (zM 151).1[30]? = some (.invokestatic 135) := by rfl
theorem zi_151_31 : (zM 151).1[31]? = some (.ifCond .eq ((41 : Nat) : Int)) := by rfl
theorem zi_151_32 : (zM 151).1[32]? = some (.aload 0) := by rfl
theorem zi_151_33 : (zM 151).1[33]? = some (.getfield 11215) := by rfl
theorem zi_151_34 : (zM 151).1[34]? = some (.iconst 19) := by rfl
theorem zi_151_35 : (zM 151).1[35]? = some (.iload 1) := by rfl
theorem zi_151_36 : (zM 151).1[36]? = some (.iadd) := by rfl
theorem zi_151_37 : (zM 151).1[37]? = some (.iconst 30) := by rfl
theorem zi_151_38 : (zM 151).1[38]? = some (.isub) := by rfl
theorem zi_151_39 : (zM 151).1[39]? = some (.iaload) := by rfl
theorem zi_151_40 : (zM 151).1[40]? = some (.goto ((42 : Nat) : Int)) := by rfl
theorem zi_151_41 : (zM 151).1[41]? = some (.iconst (-1)) := by rfl
theorem zi_151_42 : (zM 151).1[42]? = some (.ireturn) := by rfl
/-- TakeOrPayModel.told(I)I -/
def w_151 (E : Nat → Nat) (d : Nat) (a0 : Nat) (a1 : Int32) (h : ZH) (Q : Option Value → ZH → Prop) : Prop := 1 ≤ d ∧ sz_135 E h a1.toInt64 0 15 ∧ (((fz_135 E h a1.toInt64 0 15 : Int32) = 0 → (1 ≤ d ∧ sz_135 E h a1.toInt64 20 22 ∧ ((((fz_135 E h a1.toInt64 20 22 : Int32) = 0 → (1 ≤ d ∧ sz_135 E h a1.toInt64 30 38 ∧ ((((fz_135 E h a1.toInt64 30 38 : Int32) = 0 → (True)) ∧ (¬ ((fz_135 E h a1.toInt64 30 38 : Int32) = 0) → (ztag h a0 = 11 ∧ ¬ zR h a0 15 = 0 ∧ (ztag h (zR h a0 15 - 1) = 13 ∨ ztag h (zR h a0 15 - 1) = 19) ∧ zin ((19 + a1) - 30) (zlen h (zR h a0 15 - 1)) = true ∧ True))) ∧ True))) ∧ (¬ ((fz_135 E h a1.toInt64 20 22 : Int32) = 0) → (ztag h a0 = 11 ∧ ¬ zR h a0 15 = 0 ∧ (ztag h (zR h a0 15 - 1) = 13 ∨ ztag h (zR h a0 15 - 1) = 19) ∧ zin ((16 + a1) - 20) (zlen h (zR h a0 15 - 1)) = true ∧ True))) ∧ Q (some (.int (if (fz_135 E h a1.toInt64 20 22 : Int32) = 0 then if (fz_135 E h a1.toInt64 30 38 : Int32) = 0 then (-1) else zI h (zR h a0 15 - 1) ((19 + a1) - 30 : Int32).toNatClampNeg else zI h (zR h a0 15 - 1) ((16 + a1) - 20 : Int32).toNatClampNeg))) h))) ∧ (¬ ((fz_135 E h a1.toInt64 0 15 : Int32) = 0) → (ztag h a0 = 11 ∧ ∃ r6 : Nat, zR h a0 15 = r6 + 1 ∧ (ztag h r6 = 13 ∨ ztag h r6 = 19) ∧ zin a1 (zlen h r6) = true ∧ Q (some (.int (zI h r6 a1.toNatClampNeg))) h)))
set_option maxRecDepth 20000 in
theorem ok_151 {E : Nat → Nat} {d : Nat} {a0 : Nat} {a1 : Int32} {h : ZH} {Q : Option Value → ZH → Prop} (hw : w_151 E d a0 a1 h Q) : Ct E (d + 1) 151 [.ref a0, .int a1] h Q := by
  unfold w_151 at hw
  show Gx E (d + 1) 151 0 [.ref a0, .int a1] [] h Q
  refine zg_iload zi_151_0 rfl ?_
  refine zg_i2l zi_151_1 ?_
  refine zg_lconst (v := 0) zi_151_2 (by rfl) ?_
  refine zg_lconst (v := 15) zi_151_3 (by rfl) ?_
  obtain ⟨hd, hs, hw⟩ := hw
  refine Gx.call2 (as := [.long a1.toInt64, .long 0, .long 15]) (rest := []) zq_135 zi_151_4 rfl rfl rfl (Nat.le_of_ble_eq_true rfl) (Nat.le_of_ble_eq_true rfl) (rfl) (Nat.le_of_ble_eq_true rfl) ?_
  refine cz_135 hd hs ?_
  show Gx E (d + 1) 151 5 [.ref a0, .int a1] [.int (fz_135 E h a1.toInt64 0 15)] h Q
  refine zg_if_eq zi_151_5 (fun hc => ?_) (fun hc => ?_)
  · have hw := hw.1 hc
    refine zg_iload zi_151_11 rfl ?_
    refine zg_i2l zi_151_12 ?_
    refine zg_lconst (v := 20) zi_151_13 (by rfl) ?_
    refine zg_lconst (v := 22) zi_151_14 (by rfl) ?_
    obtain ⟨hd, hs, hw⟩ := hw
    refine Gx.call2 (as := [.long a1.toInt64, .long 20, .long 22]) (rest := []) zq_135 zi_151_15 rfl rfl rfl (Nat.le_of_ble_eq_true rfl) (Nat.le_of_ble_eq_true rfl) (rfl) (Nat.le_of_ble_eq_true rfl) ?_
    refine cz_135 hd hs ?_
    show Gx E (d + 1) 151 16 [.ref a0, .int a1] [.int (fz_135 E h a1.toInt64 20 22)] h Q
    obtain ⟨hsd16, hw⟩ := hw
    have g16 : Gx E (d + 1) 151 42 [.ref a0, .int a1] [.int (if (fz_135 E h a1.toInt64 20 22 : Int32) = 0 then if (fz_135 E h a1.toInt64 30 38 : Int32) = 0 then (-1) else zI h (zR h a0 15 - 1) ((19 + a1) - 30 : Int32).toNatClampNeg else zI h (zR h a0 15 - 1) ((16 + a1) - 20 : Int32).toNatClampNeg)] h Q := by
      exact zg_ireturn zi_151_42 (by decide) hw
    refine zg_if_eq zi_151_16 (fun hc16 => ?_) (fun hc16 => ?_)
    · have hw := hsd16.1 hc16
      refine zg_iload zi_151_26 rfl ?_
      refine zg_i2l zi_151_27 ?_
      refine zg_lconst (v := 30) zi_151_28 (by rfl) ?_
      refine zg_lconst (v := 38) zi_151_29 (by rfl) ?_
      obtain ⟨hd, hs, hw⟩ := hw
      refine Gx.call2 (as := [.long a1.toInt64, .long 30, .long 38]) (rest := []) zq_135 zi_151_30 rfl rfl rfl (Nat.le_of_ble_eq_true rfl) (Nat.le_of_ble_eq_true rfl) (rfl) (Nat.le_of_ble_eq_true rfl) ?_
      refine cz_135 hd hs ?_
      show Gx E (d + 1) 151 31 [.ref a0, .int a1] [.int (fz_135 E h a1.toInt64 30 38)] h Q
      obtain ⟨hsd31, hw⟩ := hw
      have g31 : Gx E (d + 1) 151 42 [.ref a0, .int a1] [.int (if (fz_135 E h a1.toInt64 30 38 : Int32) = 0 then (-1) else zI h (zR h a0 15 - 1) ((19 + a1) - 30 : Int32).toNatClampNeg)] h Q := by
        have hg := g16
        simp only [if_pos hc16] at hg
        exact hg
      refine zg_if_eq zi_151_31 (fun hc31 => ?_) (fun hc31 => ?_)
      · have hw := hsd31.1 hc31
        refine zg_const (v := (-1)) zi_151_41 (by rfl) ?_
        have hg := g31
        simp only [if_pos hc31] at hg
        exact hg
      · have hw := hsd31.2 hc31
        refine zg_aload zi_151_32 rfl ?_
        obtain ⟨t1, hw⟩ := hw
        obtain ⟨hr, hw⟩ := hw
        refine zg_getR (v := .ref (zR h a0 15 - 1)) zi_151_33 t1 (by rfl) (zrv_p hr) ?_
        refine zg_const (v := 19) zi_151_34 (by rfl) ?_
        refine zg_iload zi_151_35 rfl ?_
        refine zg_iadd zi_151_36 ?_
        refine zg_const (v := 30) zi_151_37 (by rfl) ?_
        refine zg_isub zi_151_38 ?_
        obtain ⟨t2, hw⟩ := hw
        obtain ⟨hb, hw⟩ := hw
        refine zg_iaload (v := .int (zI h (zR h a0 15 - 1) ((19 + a1) - 30 : Int32).toNatClampNeg)) zi_151_39 t2 hb rfl ?_
        refine zg_goto zi_151_40 ?_
        have hg := g31
        simp only [if_neg hc31] at hg
        exact hg
    · have hw := hsd16.2 hc16
      refine zg_aload zi_151_17 rfl ?_
      obtain ⟨t3, hw⟩ := hw
      obtain ⟨hr, hw⟩ := hw
      refine zg_getR (v := .ref (zR h a0 15 - 1)) zi_151_18 t3 (by rfl) (zrv_p hr) ?_
      refine zg_const (v := 16) zi_151_19 (by rfl) ?_
      refine zg_iload zi_151_20 rfl ?_
      refine zg_iadd zi_151_21 ?_
      refine zg_const (v := 20) zi_151_22 (by rfl) ?_
      refine zg_isub zi_151_23 ?_
      obtain ⟨t4, hw⟩ := hw
      obtain ⟨hb, hw⟩ := hw
      refine zg_iaload (v := .int (zI h (zR h a0 15 - 1) ((16 + a1) - 20 : Int32).toNatClampNeg)) zi_151_24 t4 hb rfl ?_
      refine zg_goto zi_151_25 ?_
      have hg := g16
      simp only [if_neg hc16] at hg
      exact hg
  · have hw := hw.2 hc
    refine zg_aload zi_151_6 rfl ?_
    obtain ⟨t5, hw⟩ := hw
    obtain ⟨r6, er6, hw⟩ := hw
    refine zg_getR (v := .ref r6) zi_151_7 t5 (by rfl) (by show zrv (zR h a0 15) = _; rw [er6]; rfl) ?_
    refine zg_iload zi_151_8 rfl ?_
    obtain ⟨t7, hw⟩ := hw
    obtain ⟨hb, hw⟩ := hw
    refine zg_iaload (v := .int (zI h r6 a1.toNatClampNeg)) zi_151_9 t7 hb rfl ?_
    exact zg_ireturn zi_151_10 (by decide) hw
def fz_151 (E : Nat → Nat) (h : ZH) (a0 : Nat) (a1 : Int32) : Int32 := if (fz_135 E h a1.toInt64 0 15 : Int32) = 0 then (if (fz_135 E h a1.toInt64 20 22 : Int32) = 0 then if (fz_135 E h a1.toInt64 30 38 : Int32) = 0 then (-1) else zI h (zR h a0 15 - 1) ((19 + a1) - 30 : Int32).toNatClampNeg else zI h (zR h a0 15 - 1) ((16 + a1) - 20 : Int32).toNatClampNeg) else ((fun r6 : Nat => zI h r6 a1.toNatClampNeg) (zR h a0 15 - 1))
def sz_151 (E : Nat → Nat) (h : ZH) (a0 : Nat) (a1 : Int32) : Prop := sz_135 E h a1.toInt64 0 15 ∧ (((fz_135 E h a1.toInt64 0 15 : Int32) = 0 → (sz_135 E h a1.toInt64 20 22 ∧ ((((fz_135 E h a1.toInt64 20 22 : Int32) = 0 → (sz_135 E h a1.toInt64 30 38 ∧ ((((fz_135 E h a1.toInt64 30 38 : Int32) = 0 → (True)) ∧ (¬ ((fz_135 E h a1.toInt64 30 38 : Int32) = 0) → (ztag h a0 = 11 ∧ ¬ zR h a0 15 = 0 ∧ (ztag h (zR h a0 15 - 1) = 13 ∨ ztag h (zR h a0 15 - 1) = 19) ∧ zin ((19 + a1) - 30) (zlen h (zR h a0 15 - 1)) = true ∧ True))) ∧ True))) ∧ (¬ ((fz_135 E h a1.toInt64 20 22 : Int32) = 0) → (ztag h a0 = 11 ∧ ¬ zR h a0 15 = 0 ∧ (ztag h (zR h a0 15 - 1) = 13 ∨ ztag h (zR h a0 15 - 1) = 19) ∧ zin ((16 + a1) - 20) (zlen h (zR h a0 15 - 1)) = true ∧ True))) ∧ True))) ∧ (¬ ((fz_135 E h a1.toInt64 0 15 : Int32) = 0) → (ztag h a0 = 11 ∧ ∃ r6 : Nat, zR h a0 15 = r6 + 1 ∧ (ztag h r6 = 13 ∨ ztag h r6 = 19) ∧ zin a1 (zlen h r6) = true ∧ True)))
set_option maxRecDepth 20000 in
theorem cz_151 {E : Nat → Nat} {d : Nat} {a0 : Nat} {a1 : Int32} {h : ZH} {Q : Option Value → ZH → Prop} (hd : 2 ≤ d) (hs : sz_151 E h a0 a1) (hq : Q (some (.int (fz_151 E h a0 a1))) h) : Ct E d 151 [.ref a0, .int a1] h Q := by
  obtain ⟨d, rfl⟩ : ∃ n, d = n + 1 := ⟨d - 1, by omega⟩
  refine ok_151 ?_
  unfold w_151
  unfold sz_151 at hs
  unfold fz_151 at hq
  refine ⟨by omega, ?_⟩
  refine ⟨hs.1, ?_⟩
  have hs := hs.2
  refine ⟨fun hc => ?_, fun hc => ?_⟩
  · have hs := hs.1 hc
    rw [if_pos hc] at hq
    refine ⟨by omega, ?_⟩
    refine ⟨hs.1, ?_⟩
    have hs := hs.2
    refine ⟨⟨fun hc => ?_, fun hc => ?_⟩, ?_⟩
    · have hs := hs.1.1 hc
      refine ⟨by omega, ?_⟩
      refine ⟨hs.1, ?_⟩
      have hs := hs.2
      refine ⟨⟨fun hc => ?_, fun hc => ?_⟩, ?_⟩
      · have hs := hs.1.1 hc
        trivial
      · have hs := hs.1.2 hc
        refine ⟨hs.1, ?_⟩
        have hs := hs.2
        refine ⟨hs.1, ?_⟩
        have hs := hs.2
        refine ⟨hs.1, ?_⟩
        have hs := hs.2
        refine ⟨hs.1, ?_⟩
        have hs := hs.2
        trivial
      have hs := hs.2
      trivial
    · have hs := hs.1.2 hc
      refine ⟨hs.1, ?_⟩
      have hs := hs.2
      refine ⟨hs.1, ?_⟩
      have hs := hs.2
      refine ⟨hs.1, ?_⟩
      have hs := hs.2
      refine ⟨hs.1, ?_⟩
      have hs := hs.2
      trivial
    have hs := hs.2
    exact hq
  · have hs := hs.2 hc
    rw [if_neg hc] at hq
    refine ⟨hs.1, ?_⟩
    have hs := hs.2
    obtain ⟨r6, hr, hs⟩ := hs
    refine ⟨r6, hr, ?_⟩
    rw [hr] at hq
    simp only [Nat.add_sub_cancel] at hq
    refine ⟨hs.1, ?_⟩
    have hs := hs.2
    refine ⟨hs.1, ?_⟩
    have hs := hs.2
    exact hq
theorem zq_152 : zQ 152 1 1 11 := by unfold zQ; decide +kernel
theorem zi_152_0 : (zM 152).1[0]? = some (.aload 0) := by rfl
theorem zi_152_1 : (zM 152).1[1]? = some (.getfield 11215) := by rfl
theorem zi_152_2 : (zM 152).1[2]? = some (.iconst 0) := by rfl
theorem zi_152_3 : (zM 152).1[3]? = some (.iaload) := by rfl
theorem zi_152_4 : (zM 152).1[4]? = some (.aload 0) := by rfl
theorem zi_152_5 : (zM 152).1[5]? = some (.getfield 11215) := by rfl
theorem zi_152_6 : (zM 152).1[6]? = some (.iconst 1) := by rfl
theorem zi_152_7 : (zM 152).1[7]? = some (.iaload) := by rfl
theorem zi_152_8 : (zM 152).1[8]? = some (.imul) := by rfl
theorem zi_152_9 : (zM 152).1[9]? = some (.ireturn) := by rfl
/-- TakeOrPayModel.days()I -/
def w_152 (E : Nat → Nat) (d : Nat) (a0 : Nat) (h : ZH) (Q : Option Value → ZH → Prop) : Prop := ztag h a0 = 11 ∧ ∃ r2 : Nat, zR h a0 15 = r2 + 1 ∧ (ztag h r2 = 13 ∨ ztag h r2 = 19) ∧ zin 0 (zlen h r2) = true ∧ zin 1 (zlen h r2) = true ∧ Q (some (.int ((zI h r2 0) * (zI h r2 1)))) h
set_option maxRecDepth 20000 in
theorem ok_152 {E : Nat → Nat} {d : Nat} {a0 : Nat} {h : ZH} {Q : Option Value → ZH → Prop} (hw : w_152 E d a0 h Q) : Ct E (d + 1) 152 [.ref a0] h Q := by
  unfold w_152 at hw
  show Gx E (d + 1) 152 0 [.ref a0] [] h Q
  refine zg_aload zi_152_0 rfl ?_
  obtain ⟨t1, hw⟩ := hw
  obtain ⟨r2, er2, hw⟩ := hw
  refine zg_getR (v := .ref r2) zi_152_1 t1 (by rfl) (by show zrv (zR h a0 15) = _; rw [er2]; rfl) ?_
  refine zg_const (v := 0) zi_152_2 (by rfl) ?_
  obtain ⟨t3, hw⟩ := hw
  obtain ⟨hb, hw⟩ := hw
  refine zg_iaload (v := .int (zI h r2 0)) zi_152_3 t3 hb rfl ?_
  refine zg_aload zi_152_4 rfl ?_
  refine zg_getR (v := .ref r2) zi_152_5 t1 (by rfl) (by show zrv (zR h a0 15) = _; rw [er2]; rfl) ?_
  refine zg_const (v := 1) zi_152_6 (by rfl) ?_
  obtain ⟨hb, hw⟩ := hw
  refine zg_iaload (v := .int (zI h r2 1)) zi_152_7 t3 hb rfl ?_
  refine zg_imul zi_152_8 ?_
  exact zg_ireturn zi_152_9 (by decide) hw
def fz_152 (E : Nat → Nat) (h : ZH) (a0 : Nat) : Int32 := (fun r2 : Nat => (zI h r2 0) * (zI h r2 1)) (zR h a0 15 - 1)
def sz_152 (E : Nat → Nat) (h : ZH) (a0 : Nat) : Prop := ztag h a0 = 11 ∧ ∃ r2 : Nat, zR h a0 15 = r2 + 1 ∧ (ztag h r2 = 13 ∨ ztag h r2 = 19) ∧ zin 0 (zlen h r2) = true ∧ zin 1 (zlen h r2) = true ∧ True
set_option maxRecDepth 20000 in
theorem cz_152 {E : Nat → Nat} {d : Nat} {a0 : Nat} {h : ZH} {Q : Option Value → ZH → Prop} (hd : 1 ≤ d) (hs : sz_152 E h a0) (hq : Q (some (.int (fz_152 E h a0))) h) : Ct E d 152 [.ref a0] h Q := by
  obtain ⟨d, rfl⟩ : ∃ n, d = n + 1 := ⟨d - 1, by omega⟩
  refine ok_152 ?_
  unfold w_152
  unfold sz_152 at hs
  unfold fz_152 at hq
  refine ⟨hs.1, ?_⟩
  have hs := hs.2
  obtain ⟨r2, hr, hs⟩ := hs
  refine ⟨r2, hr, ?_⟩
  rw [hr] at hq
  simp only [Nat.add_sub_cancel] at hq
  refine ⟨hs.1, ?_⟩
  have hs := hs.2
  refine ⟨hs.1, ?_⟩
  have hs := hs.2
  refine ⟨hs.1, ?_⟩
  have hs := hs.2
  exact hq
theorem zq_153 : zQ 153 2 2 11 := by unfold zQ; decide +kernel
theorem zi_153_0 : (zM 153).1[0]? = some (.iload 1) := by rfl
theorem zi_153_1 : (zM 153).1[1]? = some (.i2l) := by rfl
theorem zi_153_2 : (zM 153).1[2]? = some (.jsr_w 0) := by rfl
theorem zi_153_3 : (zM 153).1[3]? = some (.aload 0) := by rfl
theorem zi_153_4 : (zM 153).1[4]? = some (.invokevirtual 152) := by rfl
theorem zi_153_5 : (zM 153).1[5]? = some (.iconst 1) := by rfl
theorem zi_153_6 : (zM 153).1[6]? = some (.isub) := by rfl
theorem zi_153_7 : (zM 153).1[7]? = some (.i2l) := by rfl
theorem zi_153_8 : (zM 153).1[8]? = some (.invokestatic 135) := by rfl
theorem zi_153_9 : (zM 153).1[9]? = some (.ireturn) := by rfl
/-- TakeOrPayModel.isDay(I)Z -/
def w_153 (E : Nat → Nat) (d : Nat) (a0 : Nat) (a1 : Int32) (h : ZH) (Q : Option Value → ZH → Prop) : Prop := ztag h a0 = 11 ∧ 1 ≤ d ∧ sz_152 E h a0 ∧ 1 ≤ d ∧ sz_135 E h a1.toInt64 0 (((fz_152 E h a0) - 1 : Int32).toInt64) ∧ Q (some (.int (fz_135 E h a1.toInt64 0 (((fz_152 E h a0) - 1 : Int32).toInt64)))) h
set_option maxRecDepth 20000 in
theorem ok_153 {E : Nat → Nat} {d : Nat} {a0 : Nat} {a1 : Int32} {h : ZH} {Q : Option Value → ZH → Prop} (hw : w_153 E d a0 a1 h Q) : Ct E (d + 1) 153 [.ref a0, .int a1] h Q := by
  unfold w_153 at hw
  show Gx E (d + 1) 153 0 [.ref a0, .int a1] [] h Q
  refine zg_iload zi_153_0 rfl ?_
  refine zg_i2l zi_153_1 ?_
  refine zg_lconst (v := 0) zi_153_2 (by rfl) ?_
  refine zg_aload zi_153_3 rfl ?_
  obtain ⟨t1, hw⟩ := hw
  obtain ⟨hd, hs, hw⟩ := hw
  refine Gx.call2 (as := [.ref a0]) (rest := [.long 0, .long a1.toInt64]) zq_152 zi_153_4 rfl rfl rfl (Nat.le_of_ble_eq_true rfl) (Nat.le_of_ble_eq_true rfl) (zrv_v t1 rfl rfl) (Nat.le_of_ble_eq_true rfl) ?_
  refine cz_152 hd hs ?_
  show Gx E (d + 1) 153 5 [.ref a0, .int a1] [.int (fz_152 E h a0), .long 0, .long a1.toInt64] h Q
  refine zg_const (v := 1) zi_153_5 (by rfl) ?_
  refine zg_isub zi_153_6 ?_
  refine zg_i2l zi_153_7 ?_
  obtain ⟨hd, hs, hw⟩ := hw
  refine Gx.call2 (as := [.long a1.toInt64, .long 0, .long (((fz_152 E h a0) - 1 : Int32).toInt64)]) (rest := []) zq_135 zi_153_8 rfl rfl rfl (Nat.le_of_ble_eq_true rfl) (Nat.le_of_ble_eq_true rfl) (rfl) (Nat.le_of_ble_eq_true rfl) ?_
  refine cz_135 hd hs ?_
  show Gx E (d + 1) 153 9 [.ref a0, .int a1] [.int (fz_135 E h a1.toInt64 0 (((fz_152 E h a0) - 1 : Int32).toInt64))] h Q
  exact zg_zreturn zi_153_9 (by (repeat' split) <;> first | (left; rfl) | (right; rfl) | exact fb_135) hw
def fz_153 (E : Nat → Nat) (h : ZH) (a0 : Nat) (a1 : Int32) : Int32 := fz_135 E h a1.toInt64 0 (((fz_152 E h a0) - 1 : Int32).toInt64)
def sz_153 (E : Nat → Nat) (h : ZH) (a0 : Nat) (a1 : Int32) : Prop := ztag h a0 = 11 ∧ sz_152 E h a0 ∧ sz_135 E h a1.toInt64 0 (((fz_152 E h a0) - 1 : Int32).toInt64) ∧ True
set_option maxRecDepth 20000 in
theorem fb_153 {E : Nat → Nat} {h : ZH} {a0 : Nat} {a1 : Int32} : fz_153 E h a0 a1 = 0 ∨ fz_153 E h a0 a1 = 1 := by
  unfold fz_153
  (try dsimp only)
  (repeat' split) <;> first | (left; rfl) | (right; rfl) | exact fb_135
set_option maxRecDepth 20000 in
theorem cz_153 {E : Nat → Nat} {d : Nat} {a0 : Nat} {a1 : Int32} {h : ZH} {Q : Option Value → ZH → Prop} (hd : 2 ≤ d) (hs : sz_153 E h a0 a1) (hq : Q (some (.int (fz_153 E h a0 a1))) h) : Ct E d 153 [.ref a0, .int a1] h Q := by
  obtain ⟨d, rfl⟩ : ∃ n, d = n + 1 := ⟨d - 1, by omega⟩
  refine ok_153 ?_
  unfold w_153
  unfold sz_153 at hs
  unfold fz_153 at hq
  refine ⟨hs.1, ?_⟩
  have hs := hs.2
  refine ⟨by omega, ?_⟩
  refine ⟨hs.1, ?_⟩
  have hs := hs.2
  refine ⟨by omega, ?_⟩
  refine ⟨hs.1, ?_⟩
  have hs := hs.2
  exact hq
theorem zq_154 : zQ 154 3 4 11 := by unfold zQ; decide +kernel
theorem zi_154_0 : (zM 154).1[0]? = some (.aload 0) := by rfl
theorem zi_154_1 : (zM 154).1[1]? = some (.iload 1) := by rfl
theorem zi_154_2 : (zM 154).1[2]? = some (.invokevirtual 153) := by rfl
theorem zi_154_3 : (zM 154).1[3]? = some (.ifCond .eq ((13 : Nat) : Int)) := by rfl
theorem zi_154_4 : (zM 154).1[4]? = some (.iload 2) := by rfl
theorem zi_154_5 : (zM 154).1[5]? = some (.i2l) := by rfl
theorem zi_154_6 : (zM 154).1[6]? = some (.jsr_w 0) := by rfl
theorem zi_154_7 : (zM 154).1[7]? = some (.jsr_w 2) := by rfl
theorem zi_154_8 : (zM 154).1[8]? = some (.invokestatic 135) := by rfl
theorem zi_154_9 : (zM 154).1[9]? = some (.ifCond .ne ((15 : Nat) : Int)) := by rfl
theorem zi_154_10 : (zM 154).1[10]? = some (.iload 2) := by rfl
theorem zi_154_11 : (zM 154).1[11]? = some (.iconst (-4)) := by rfl
theorem zi_154_12 : (zM 154).1[12]? = some (.if_icmp .eq ((15 : Nat) : Int)) := by rfl
theorem zi_154_13 : (zM 154).1[13]? = some (.iconst (-1)) := by rfl
theorem zi_154_14 : (zM 154).1[14]? = some (.ireturn) := by rfl
theorem zi_154_15 : (zM 154).1[15]? = some (.aload 0) := by rfl
theorem zi_154_16 : (zM 154).1[16]? = some (.getfield 11220) := by rfl
theorem zi_154_17 : (zM 154).1[17]? = some (.iload 1) := by rfl
theorem zi_154_18 : (zM 154).1[18]? = some (.iaload) := by rfl
theorem zi_154_19 : (zM 154).1[19]? = some (.istore 3) := by rfl
theorem zi_154_20 : (zM 154).1[20]? = some (.aload 0) := by rfl
theorem zi_154_21 : (zM 154).1[21]? = some (.getfield 11220) := by rfl
theorem zi_154_22 : (zM 154).1[22]? = some (.iload 1) := by rfl
theorem zi_154_23 : (zM 154).1[23]? = some (.iload 2) := by rfl
theorem zi_154_24 : (zM 154).1[24]? = some (.iastore) := by rfl
theorem zi_154_25 : (zM 154).1[25]? = some (.aload 0) := by rfl
theorem zi_154_26 : (zM 154).1[26]? = some (.iconst 0) := by rfl
theorem zi_154_27 : (zM 154).1[27]? = some (.putfield 11329) := by rfl
theorem zi_154_28 : (zM 154).1[28]? = some (.iload 3) := by rfl
theorem zi_154_29 : (zM 154).1[29]? = some (.ireturn) := by rfl
/-- TakeOrPayModel.shut(II)I -/
def w_154 (E : Nat → Nat) (d : Nat) (a0 : Nat) (a1 : Int32) (a2 : Int32) (h : ZH) (Q : Option Value → ZH → Prop) : Prop := ztag h a0 = 11 ∧ 2 ≤ d ∧ sz_153 E h a0 a1 ∧ (((fz_153 E h a0 a1 : Int32) = 0 → (Q (some (.int ((-1)))) h)) ∧ (¬ ((fz_153 E h a0 a1 : Int32) = 0) → (1 ≤ d ∧ sz_135 E h a2.toInt64 0 2 ∧ ((¬ (fz_135 E h a2.toInt64 0 2 : Int32) = 0 → (∃ r2 : Nat, zR h a0 20 = r2 + 1 ∧ (ztag h r2 = 13 ∨ ztag h r2 = 19) ∧ zin a1 (zlen h r2) = true ∧ ∀ x4 : Int32, x4 = (zI h r2 a1.toNatClampNeg) → ztag h r2 = 13 ∧ zin a1 (zlen h r2) = true ∧ ∀ h6 : ZH, h6 = (zuI h r2 a1.toNatClampNeg a2) → ∀ h7 : ZH, h7 = (zuI h6 a0 29 0) → Q (some (.int x4)) h7)) ∧ (¬ (¬ (fz_135 E h a2.toInt64 0 2 : Int32) = 0) → ((a2 = ((-4) : Int32) → (∃ r8 : Nat, zR h a0 20 = r8 + 1 ∧ (ztag h r8 = 13 ∨ ztag h r8 = 19) ∧ zin a1 (zlen h r8) = true ∧ ∀ x10 : Int32, x10 = (zI h r8 a1.toNatClampNeg) → ztag h r8 = 13 ∧ zin a1 (zlen h r8) = true ∧ ∀ h12 : ZH, h12 = (zuI h r8 a1.toNatClampNeg a2) → ∀ h13 : ZH, h13 = (zuI h12 a0 29 0) → Q (some (.int x10)) h13)) ∧ (¬ (a2 = ((-4) : Int32)) → (Q (some (.int ((-1)))) h))))))))
set_option maxRecDepth 20000 in
theorem ok_154 {E : Nat → Nat} {d : Nat} {a0 : Nat} {a1 : Int32} {a2 : Int32} {h : ZH} {Q : Option Value → ZH → Prop} (hw : w_154 E d a0 a1 a2 h Q) : Ct E (d + 1) 154 [.ref a0, .int a1, .int a2] h Q := by
  unfold w_154 at hw
  show Gx E (d + 1) 154 0 [.ref a0, .int a1, .int a2, .retAddr 0] [] h Q
  refine zg_aload zi_154_0 rfl ?_
  refine zg_iload zi_154_1 rfl ?_
  obtain ⟨t1, hw⟩ := hw
  obtain ⟨hd, hs, hw⟩ := hw
  refine Gx.call2 (as := [.ref a0, .int a1]) (rest := []) zq_153 zi_154_2 rfl rfl rfl (Nat.le_of_ble_eq_true rfl) (Nat.le_of_ble_eq_true rfl) (zrv_v t1 rfl rfl) (Nat.le_of_ble_eq_true rfl) ?_
  refine cz_153 hd hs ?_
  show Gx E (d + 1) 154 3 [.ref a0, .int a1, .int a2, .retAddr 0] [.int (fz_153 E h a0 a1)] h Q
  refine zg_if_eq zi_154_3 (fun hc => ?_) (fun hc => ?_)
  · have hw := hw.1 hc
    refine zg_const (v := (-1)) zi_154_13 (by rfl) ?_
    exact zg_ireturn zi_154_14 (by decide) hw
  · have hw := hw.2 hc
    refine zg_iload zi_154_4 rfl ?_
    refine zg_i2l zi_154_5 ?_
    refine zg_lconst (v := 0) zi_154_6 (by rfl) ?_
    refine zg_lconst (v := 2) zi_154_7 (by rfl) ?_
    obtain ⟨hd, hs, hw⟩ := hw
    refine Gx.call2 (as := [.long a2.toInt64, .long 0, .long 2]) (rest := []) zq_135 zi_154_8 rfl rfl rfl (Nat.le_of_ble_eq_true rfl) (Nat.le_of_ble_eq_true rfl) (rfl) (Nat.le_of_ble_eq_true rfl) ?_
    refine cz_135 hd hs ?_
    show Gx E (d + 1) 154 9 [.ref a0, .int a1, .int a2, .retAddr 0] [.int (fz_135 E h a2.toInt64 0 2)] h Q
    refine zg_if_ne zi_154_9 (fun hc => ?_) (fun hc => ?_)
    · have hw := hw.1 hc
      refine zg_aload zi_154_15 rfl ?_
      obtain ⟨r2, er2, hw⟩ := hw
      refine zg_getR (v := .ref r2) zi_154_16 t1 (by rfl) (by show zrv (zR h a0 20) = _; rw [er2]; rfl) ?_
      refine zg_iload zi_154_17 rfl ?_
      obtain ⟨t3, hw⟩ := hw
      obtain ⟨hb, hw⟩ := hw
      refine zg_iaload (v := .int (zI h r2 a1.toNatClampNeg)) zi_154_18 t3 hb rfl ?_
      refine zg_nameI fun x4 ex4 => ?_
      have hw := hw x4 ex4
      refine zg_istore (ls1 := [.ref a0, .int a1, .int a2, .int x4]) zi_154_19 (Nat.le_of_ble_eq_true rfl) rfl ?_
      refine zg_aload zi_154_20 rfl ?_
      refine zg_getR (v := .ref r2) zi_154_21 t1 (by rfl) (by show zrv (zR h a0 20) = _; rw [er2]; rfl) ?_
      refine zg_iload zi_154_22 rfl ?_
      refine zg_iload zi_154_23 rfl ?_
      obtain ⟨t5, hw⟩ := hw
      obtain ⟨hb, hw⟩ := hw
      refine zg_iastore (h1 := zuI h r2 a1.toNatClampNeg a2) zi_154_24 t5 hb rfl ?_
      refine zg_nameH fun h6 eh6 => ?_
      have hw := hw h6 eh6
      refine zg_aload zi_154_25 rfl ?_
      refine zg_const (v := 0) zi_154_26 (by rfl) ?_
      refine zg_putZ (h1 := zuI h6 a0 29 0) zi_154_27 (by rw [eh6]; exact t1) (by rfl) (by decide) rfl ?_
      refine zg_nameH fun h7 eh7 => ?_
      have hw := hw h7 eh7
      refine zg_iload zi_154_28 rfl ?_
      exact zg_ireturn zi_154_29 (by decide) hw
    · have hw := hw.2 hc
      refine zg_iload zi_154_10 rfl ?_
      refine zg_const (v := (-4)) zi_154_11 (by rfl) ?_
      refine zg_icmp_eq zi_154_12 (fun hc => ?_) (fun hc => ?_)
      · have hw := hw.1 hc
        refine zg_aload zi_154_15 rfl ?_
        obtain ⟨r8, er8, hw⟩ := hw
        refine zg_getR (v := .ref r8) zi_154_16 t1 (by rfl) (by show zrv (zR h a0 20) = _; rw [er8]; rfl) ?_
        refine zg_iload zi_154_17 rfl ?_
        obtain ⟨t9, hw⟩ := hw
        obtain ⟨hb, hw⟩ := hw
        refine zg_iaload (v := .int (zI h r8 a1.toNatClampNeg)) zi_154_18 t9 hb rfl ?_
        refine zg_nameI fun x10 ex10 => ?_
        have hw := hw x10 ex10
        refine zg_istore (ls1 := [.ref a0, .int a1, .int a2, .int x10]) zi_154_19 (Nat.le_of_ble_eq_true rfl) rfl ?_
        refine zg_aload zi_154_20 rfl ?_
        refine zg_getR (v := .ref r8) zi_154_21 t1 (by rfl) (by show zrv (zR h a0 20) = _; rw [er8]; rfl) ?_
        refine zg_iload zi_154_22 rfl ?_
        refine zg_iload zi_154_23 rfl ?_
        obtain ⟨t11, hw⟩ := hw
        obtain ⟨hb, hw⟩ := hw
        refine zg_iastore (h1 := zuI h r8 a1.toNatClampNeg a2) zi_154_24 t11 hb rfl ?_
        refine zg_nameH fun h12 eh12 => ?_
        have hw := hw h12 eh12
        refine zg_aload zi_154_25 rfl ?_
        refine zg_const (v := 0) zi_154_26 (by rfl) ?_
        refine zg_putZ (h1 := zuI h12 a0 29 0) zi_154_27 (by rw [eh12]; exact t1) (by rfl) (by decide) rfl ?_
        refine zg_nameH fun h13 eh13 => ?_
        have hw := hw h13 eh13
        refine zg_iload zi_154_28 rfl ?_
        exact zg_ireturn zi_154_29 (by decide) hw
      · have hw := hw.2 hc
        refine zg_const (v := (-1)) zi_154_13 (by rfl) ?_
        exact zg_ireturn zi_154_14 (by decide) hw
theorem zq_155 : zQ 155 2 5 11 := by unfold zQ; decide +kernel
theorem zi_155_0 : (zM 155).1[0]? = some (.iconst 0) := by rfl
theorem zi_155_1 : (zM 155).1[1]? = some (.istore 2) := by rfl
theorem zi_155_2 : (zM 155).1[2]? = some (.iconst 0) := by rfl
theorem zi_155_3 : (zM 155).1[3]? = some (.istore 3) := by rfl
theorem zi_155_4 : (zM 155).1[4]? = some (.iload 3) := by rfl
theorem zi_155_5 : (zM 155).1[5]? = some (.aload 0) := by rfl
theorem zi_155_6 : (zM 155).1[6]? = some (.getfield 11215) := by rfl
theorem zi_155_7 : (zM 155).1[7]? = some (.iconst 1) := by rfl
theorem zi_155_8 : (zM 155).1[8]? = some (.iaload) := by rfl
theorem zi_155_9 : (zM 155).1[9]? = some (.if_icmp .ge ((43 : Nat) : Int)) := by rfl
theorem zi_155_10 : (zM 155).1[10]? = some (.aload 0) := by rfl
theorem zi_155_11 : (zM 155).1[11]? = some (.getfield 11220) := by rfl
theorem zi_155_12 : (zM 155).1[12]? = some (.iload 1) := by rfl
theorem zi_155_13 : (zM 155).1[13]? = some (.aload 0) := by rfl
theorem zi_155_14 : (zM 155).1[14]? = some (.getfield 11215) := by rfl
theorem zi_155_15 : (zM 155).1[15]? = some (.iconst 1) := by rfl
theorem zi_155_16 : (zM 155).1[16]? = some (.iaload) := by rfl
theorem zi_155_17 : (zM 155).1[17]? = some (.imul) := by rfl
theorem zi_155_18 : (zM 155).1[18]? = some (.iload 3) := by rfl
theorem zi_155_19 : (zM 155).1[19]? = some (.iadd) := by rfl
theorem zi_155_20 : (zM 155).1[20]? = some (.iaload) := by rfl
theorem zi_155_21 : (zM 155).1[21]? = some (.istore 4) := by rfl
theorem zi_155_22 : (zM 155).1[22]? = some (.iload 2) := by rfl
theorem zi_155_23 : (zM 155).1[23]? = some (.iload 4) := by rfl
theorem zi_155_24 : (zM 155).1[24]? = some (.iconst (-4)) := by rfl
theorem zi_155_25 : (zM 155).1[25]? = some (.if_icmp .eq ((38 : Nat) : Int)) := by rfl
theorem zi_155_26 : (zM 155).1[26]? = some (.aload 0) := by rfl
theorem zi_155_27 : (zM 155).1[27]? = some (.getfield 11215) := by rfl
theorem zi_155_28 : (zM 155).1[28]? = some (.iconst 13) := by rfl
theorem zi_155_29 : (zM 155).1[29]? = some (.iaload) := by rfl
theorem zi_155_30 : (zM 155).1[30]? = some (.iload 4) := by rfl
theorem zi_155_31 : (zM 155).1[31]? = some (.ishr) := by rfl
theorem zi_155_32 : (zM 155).1[32]? = some (.iconst 1) := by rfl
theorem zi_155_33 : (zM 155).1[33]? = some (.iand) := by rfl
theorem zi_155_34 : (zM 155).1[34]? = some (.iconst 1) := by rfl
theorem zi_155_35 : (zM 155).1[35]? = some (.if_icmp .ne ((38 : Nat) : Int)) := by rfl
theorem zi_155_36 : (zM 155).1[36]? = some (.iconst 1) := by rfl
theorem zi_155_37 : (zM 155).1[37]? = some (.goto ((39 : Nat) : Int)) := by rfl
theorem zi_155_38 : (zM 155).1[38]? = some (.iconst 0) := by rfl
theorem zi_155_39 : (zM 155).1[39]? = some (.iadd) := by rfl
theorem zi_155_40 : (zM 155).1[40]? = some (.istore 2) := by rfl
theorem zi_155_41 : (zM 155).1[41]? = some (.iinc 3 1) := by rfl
theorem zi_155_42 : (zM 155).1[42]? = some (.goto ((4 : Nat) : Int)) := by rfl
theorem zi_155_43 : (zM 155).1[43]? = some (.iload 2) := by rfl
theorem zi_155_44 : (zM 155).1[44]? = some (.ireturn) := by rfl
def wb_155_43 (E : Nat → Nat) (d : Nat) (Q : Option Value → ZH → Prop) (a2 : Int32) (h : ZH) : Prop := Q (some (.int a2)) h
set_option maxRecDepth 20000 in
theorem okb_155_43 {E : Nat → Nat} {d : Nat} {Q : Option Value → ZH → Prop} {a2 : Int32} {h : ZH} (hw : wb_155_43 E d Q a2 h) : Gx E (d + 1) 155 43 [.retAddr 0, .retAddr 0, .int a2, .retAddr 0, .retAddr 0] [] h Q := by
  unfold wb_155_43 at hw
  refine zg_iload zi_155_43 rfl ?_
  exact zg_ireturn zi_155_44 (by decide) hw
def wl_155_4 (E : Nat → Nat) (d : Nat) (Q : Option Value → ZH → Prop) : Nat → Nat → Int32 → Int32 → Int32 → ZH → Prop
  | 0, _, _, _, _, _ => False
  | n + 1, a0, a1, a2, a3, h => ztag h a0 = 11 ∧ ∃ r2 : Nat, zR h a0 15 = r2 + 1 ∧ (ztag h r2 = 13 ∨ ztag h r2 = 19) ∧ zin 1 (zlen h r2) = true ∧ (((zI h r2 1 : Int32) ≤ a3 → (wb_155_43 E d Q a2 h)) ∧ (¬ ((zI h r2 1 : Int32) ≤ a3) → (∃ r4 : Nat, zR h a0 20 = r4 + 1 ∧ zin 1 (zlen h r2) = true ∧ (ztag h r4 = 13 ∨ ztag h r4 = 19) ∧ zin ((a1 * (zI h r2 1)) + a3) (zlen h r4) = true ∧ ∀ x6 : Int32, x6 = (zI h r4 ((a1 * (zI h r2 1)) + a3 : Int32).toNatClampNeg) → (((x6 = ((-4) : Int32) → (True)) ∧ (¬ (x6 = ((-4) : Int32)) → (zin 13 (zlen h r2) = true ∧ True))) ∧ ∀ x7 : Int32, x7 = (a2 + (if x6 = ((-4) : Int32) then 0 else if ¬ (((zI h r2 13) >>> (x6 &&& 31)) &&& 1 : Int32) = 1 then 0 else 1)) → ∀ x8 : Int32, x8 = (a3 + 1) → wl_155_4 E d Q n a0 a1 x7 x8 h))))
set_option maxRecDepth 20000 in
theorem okl_155_4 {E : Nat → Nat} {d : Nat} {Q : Option Value → ZH → Prop} : ∀ (n : Nat) (a0 : Nat) (a1 : Int32) (a2 : Int32) (a3 : Int32) (h : ZH), wl_155_4 E d Q n a0 a1 a2 a3 h → Gx E (d + 1) 155 4 [.ref a0, .int a1, .int a2, .int a3, .retAddr 0] [] h Q := by
  intro n
  induction n with
  | zero => intro a0 a1 a2 a3 h hw; exact hw.elim
  | succ n ih =>
    intro a0 a1 a2 a3 h hw
    rw [wl_155_4] at hw
    refine zg_iload zi_155_4 rfl ?_
    refine zg_aload zi_155_5 rfl ?_
    obtain ⟨t1, hw⟩ := hw
    obtain ⟨r2, er2, hw⟩ := hw
    refine zg_getR (v := .ref r2) zi_155_6 t1 (by rfl) (by show zrv (zR h a0 15) = _; rw [er2]; rfl) ?_
    refine zg_const (v := 1) zi_155_7 (by rfl) ?_
    obtain ⟨t3, hw⟩ := hw
    obtain ⟨hb, hw⟩ := hw
    refine zg_iaload (v := .int (zI h r2 1)) zi_155_8 t3 hb rfl ?_
    refine zg_icmp_ge zi_155_9 (fun hc => ?_) (fun hc => ?_)
    · have hw := hw.1 hc
      exact Gx.forget (zrd (zrd (zrk (zrd (zrk zr0))))) (okb_155_43 hw)
    · have hw := hw.2 hc
      refine zg_aload zi_155_10 rfl ?_
      obtain ⟨r4, er4, hw⟩ := hw
      refine zg_getR (v := .ref r4) zi_155_11 t1 (by rfl) (by show zrv (zR h a0 20) = _; rw [er4]; rfl) ?_
      refine zg_iload zi_155_12 rfl ?_
      refine zg_aload zi_155_13 rfl ?_
      refine zg_getR (v := .ref r2) zi_155_14 t1 (by rfl) (by show zrv (zR h a0 15) = _; rw [er2]; rfl) ?_
      refine zg_const (v := 1) zi_155_15 (by rfl) ?_
      obtain ⟨hb, hw⟩ := hw
      refine zg_iaload (v := .int (zI h r2 1)) zi_155_16 t3 hb rfl ?_
      refine zg_imul zi_155_17 ?_
      refine zg_iload zi_155_18 rfl ?_
      refine zg_iadd zi_155_19 ?_
      obtain ⟨t5, hw⟩ := hw
      obtain ⟨hb, hw⟩ := hw
      refine zg_iaload (v := .int (zI h r4 ((a1 * (zI h r2 1)) + a3 : Int32).toNatClampNeg)) zi_155_20 t5 hb rfl ?_
      refine zg_nameI fun x6 ex6 => ?_
      have hw := hw x6 ex6
      refine zg_istore (ls1 := [.ref a0, .int a1, .int a2, .int a3, .int x6]) zi_155_21 (Nat.le_of_ble_eq_true rfl) rfl ?_
      refine zg_iload zi_155_22 rfl ?_
      refine zg_iload zi_155_23 rfl ?_
      refine zg_const (v := (-4)) zi_155_24 (by rfl) ?_
      obtain ⟨hsd25, hw⟩ := hw
      have g25 : Gx E (d + 1) 155 39 [.ref a0, .int a1, .int a2, .int a3, .int x6] [.int (if x6 = ((-4) : Int32) then 0 else if ¬ (((zI h r2 13) >>> (x6 &&& 31)) &&& 1 : Int32) = 1 then 0 else 1), .int a2] h Q := by
        refine zg_iadd zi_155_39 ?_
        refine zg_nameI fun x7 ex7 => ?_
        have hw := hw x7 ex7
        refine zg_istore (ls1 := [.ref a0, .int a1, .int x7, .int a3, .int x6]) zi_155_40 (Nat.le_of_ble_eq_true rfl) rfl ?_
        obtain ⟨x8, ex8⟩ : ∃ x : Int32, x = a3 + 1 := ⟨_, rfl⟩
        have hw := hw x8 ex8
        refine zg_iinc (v := x8) (ls1 := [.ref a0, .int a1, .int x7, .int x8, .int x6]) zi_155_41 rfl (by rw [ex8]; rfl) rfl ?_
        refine zg_goto zi_155_42 ?_
        exact Gx.forget (zrk (zrk (zrk (zrk (zrd zr0))))) (ih a0 a1 x7 x8 h hw)
      refine zg_icmp_eq zi_155_25 (fun hc25 => ?_) (fun hc25 => ?_)
      · have hw := hsd25.1 hc25
        refine zg_const (v := 0) zi_155_38 (by rfl) ?_
        have hg := g25
        simp only [if_pos hc25] at hg
        exact hg
      · have hw := hsd25.2 hc25
        refine zg_aload zi_155_26 rfl ?_
        refine zg_getR (v := .ref r2) zi_155_27 t1 (by rfl) (by show zrv (zR h a0 15) = _; rw [er2]; rfl) ?_
        refine zg_const (v := 13) zi_155_28 (by rfl) ?_
        obtain ⟨hb, hw⟩ := hw
        refine zg_iaload (v := .int (zI h r2 13)) zi_155_29 t3 hb rfl ?_
        refine zg_iload zi_155_30 rfl ?_
        refine zg_ishr zi_155_31 ?_
        refine zg_const (v := 1) zi_155_32 (by rfl) ?_
        refine zg_iand zi_155_33 ?_
        refine zg_const (v := 1) zi_155_34 (by rfl) ?_
        have g35 : Gx E (d + 1) 155 39 [.ref a0, .int a1, .int a2, .int a3, .int x6] [.int (if ¬ (((zI h r2 13) >>> (x6 &&& 31)) &&& 1 : Int32) = 1 then 0 else 1), .int a2] h Q := by
          have hg := g25
          simp only [if_neg hc25] at hg
          exact hg
        refine zg_icmp_ne zi_155_35 (fun hc35 => ?_) (fun hc35 => ?_)
        · skip
          refine zg_const (v := 0) zi_155_38 (by rfl) ?_
          have hg := g35
          simp only [if_pos hc35] at hg
          exact hg
        · skip
          refine zg_const (v := 1) zi_155_36 (by rfl) ?_
          refine zg_goto zi_155_37 ?_
          have hg := g35
          simp only [if_neg hc35] at hg
          exact hg
/-- TakeOrPayModel.freeOf(I)I -/
def w_155 (E : Nat → Nat) (d : Nat) (a0 : Nat) (a1 : Int32) (h : ZH) (Q : Option Value → ZH → Prop) : Prop := ∃ mm : Nat, wl_155_4 E d Q mm a0 a1 0 0 h
set_option maxRecDepth 20000 in
theorem ok_155 {E : Nat → Nat} {d : Nat} {a0 : Nat} {a1 : Int32} {h : ZH} {Q : Option Value → ZH → Prop} (hw : w_155 E d a0 a1 h Q) : Ct E (d + 1) 155 [.ref a0, .int a1] h Q := by
  unfold w_155 at hw
  show Gx E (d + 1) 155 0 [.ref a0, .int a1, .retAddr 0, .retAddr 0, .retAddr 0] [] h Q
  refine zg_const (v := 0) zi_155_0 (by rfl) ?_
  refine zg_istore (ls1 := [.ref a0, .int a1, .int 0, .retAddr 0, .retAddr 0]) zi_155_1 (Nat.le_of_ble_eq_true rfl) rfl ?_
  refine zg_const (v := 0) zi_155_2 (by rfl) ?_
  refine zg_istore (ls1 := [.ref a0, .int a1, .int 0, .int 0, .retAddr 0]) zi_155_3 (Nat.le_of_ble_eq_true rfl) rfl ?_
  obtain ⟨mm, hw⟩ := hw
  exact okl_155_4 mm a0 a1 0 0 h hw
theorem zq_156 : zQ 156 3 3 11 := by unfold zQ; decide +kernel
theorem zi_156_0 : (zM 156).1[0]? = some (.iload 1) := by rfl
theorem zi_156_1 : (zM 156).1[1]? = some (.iload 1) := by rfl
theorem zi_156_2 : (zM 156).1[2]? = some (.iload 2) := by rfl
theorem zi_156_3 : (zM 156).1[3]? = some (.imul) := by rfl
theorem zi_156_4 : (zM 156).1[4]? = some (.aload 0) := by rfl
theorem zi_156_5 : (zM 156).1[5]? = some (.getfield 11215) := by rfl
theorem zi_156_6 : (zM 156).1[6]? = some (.iconst 1) := by rfl
theorem zi_156_7 : (zM 156).1[7]? = some (.iaload) := by rfl
theorem zi_156_8 : (zM 156).1[8]? = some (.idiv) := by rfl
theorem zi_156_9 : (zM 156).1[9]? = some (.isub) := by rfl
theorem zi_156_10 : (zM 156).1[10]? = some (.ireturn) := by rfl
/-- TakeOrPayModel.lessFree(II)I -/
def w_156 (E : Nat → Nat) (d : Nat) (a0 : Nat) (a1 : Int32) (a2 : Int32) (h : ZH) (Q : Option Value → ZH → Prop) : Prop := ztag h a0 = 11 ∧ ∃ r2 : Nat, zR h a0 15 = r2 + 1 ∧ (ztag h r2 = 13 ∨ ztag h r2 = 19) ∧ zin 1 (zlen h r2) = true ∧ ¬ (zI h r2 1) = 0 ∧ Q (some (.int (a1 - ((a1 * a2) / (zI h r2 1))))) h
set_option maxRecDepth 20000 in
theorem ok_156 {E : Nat → Nat} {d : Nat} {a0 : Nat} {a1 : Int32} {a2 : Int32} {h : ZH} {Q : Option Value → ZH → Prop} (hw : w_156 E d a0 a1 a2 h Q) : Ct E (d + 1) 156 [.ref a0, .int a1, .int a2] h Q := by
  unfold w_156 at hw
  show Gx E (d + 1) 156 0 [.ref a0, .int a1, .int a2] [] h Q
  refine zg_iload zi_156_0 rfl ?_
  refine zg_iload zi_156_1 rfl ?_
  refine zg_iload zi_156_2 rfl ?_
  refine zg_imul zi_156_3 ?_
  refine zg_aload zi_156_4 rfl ?_
  obtain ⟨t1, hw⟩ := hw
  obtain ⟨r2, er2, hw⟩ := hw
  refine zg_getR (v := .ref r2) zi_156_5 t1 (by rfl) (by show zrv (zR h a0 15) = _; rw [er2]; rfl) ?_
  refine zg_const (v := 1) zi_156_6 (by rfl) ?_
  obtain ⟨t3, hw⟩ := hw
  obtain ⟨hb, hw⟩ := hw
  refine zg_iaload (v := .int (zI h r2 1)) zi_156_7 t3 hb rfl ?_
  obtain ⟨hc, hw⟩ := hw
  refine zg_idiv zi_156_8 hc ?_
  refine zg_isub zi_156_9 ?_
  exact zg_ireturn zi_156_10 (by decide) hw
def fz_156 (E : Nat → Nat) (h : ZH) (a0 : Nat) (a1 : Int32) (a2 : Int32) : Int32 := (fun r2 : Nat => a1 - ((a1 * a2) / (zI h r2 1))) (zR h a0 15 - 1)
def sz_156 (E : Nat → Nat) (h : ZH) (a0 : Nat) (a1 : Int32) (a2 : Int32) : Prop := ztag h a0 = 11 ∧ ∃ r2 : Nat, zR h a0 15 = r2 + 1 ∧ (ztag h r2 = 13 ∨ ztag h r2 = 19) ∧ zin 1 (zlen h r2) = true ∧ ¬ (zI h r2 1) = 0 ∧ True
set_option maxRecDepth 20000 in
theorem cz_156 {E : Nat → Nat} {d : Nat} {a0 : Nat} {a1 : Int32} {a2 : Int32} {h : ZH} {Q : Option Value → ZH → Prop} (hd : 1 ≤ d) (hs : sz_156 E h a0 a1 a2) (hq : Q (some (.int (fz_156 E h a0 a1 a2))) h) : Ct E d 156 [.ref a0, .int a1, .int a2] h Q := by
  obtain ⟨d, rfl⟩ : ∃ n, d = n + 1 := ⟨d - 1, by omega⟩
  refine ok_156 ?_
  unfold w_156
  unfold sz_156 at hs
  unfold fz_156 at hq
  refine ⟨hs.1, ?_⟩
  have hs := hs.2
  obtain ⟨r2, hr, hs⟩ := hs
  refine ⟨r2, hr, ?_⟩
  rw [hr] at hq
  simp only [Nat.add_sub_cancel] at hq
  refine ⟨hs.1, ?_⟩
  have hs := hs.2
  refine ⟨hs.1, ?_⟩
  have hs := hs.2
  refine ⟨hs.1, ?_⟩
  have hs := hs.2
  exact hq
theorem zq_157 : zQ 157 1 2 11 := by unfold zQ; decide +kernel
theorem zi_157_0 : (zM 157).1[0]? = some (.aload 0) := by rfl
theorem zi_157_1 : (zM 157).1[1]? = some (.getfield 11215) := by rfl
theorem zi_157_2 : (zM 157).1[2]? = some (.iconst 2) := by rfl
theorem zi_157_3 : (zM 157).1[3]? = some (.iaload) := by rfl
theorem zi_157_4 : (zM 157).1[4]? = some (.aload 0) := by rfl
theorem zi_157_5 : (zM 157).1[5]? = some (.getfield 11215) := by rfl
theorem zi_157_6 : (zM 157).1[6]? = some (.iconst 5) := by rfl
theorem zi_157_7 : (zM 157).1[7]? = some (.iaload) := by rfl
theorem zi_157_8 : (zM 157).1[8]? = some (.imul) := by rfl
theorem zi_157_9 : (zM 157).1[9]? = some (.iconst 100) := by rfl
theorem zi_157_10 : (zM 157).1[10]? = some (.idiv) := by rfl
theorem zi_157_11 : (zM 157).1[11]? = some (.istore 1) := by rfl
theorem zi_157_12 : (zM 157).1[12]? = some (.iload 1) := by rfl
theorem zi_157_13 : (zM 157).1[13]? = some (.iconst 12) := by rfl
theorem zi_157_14 : (zM 157).1[14]? = some (.if_icmp .le ((17 : Nat) : Int)) := by rfl
theorem zi_157_15 : (zM 157).1[15]? = some (.iconst 12) := by rfl
theorem zi_157_16 : (zM 157).1[16]? = some (.goto ((18 : Nat) : Int)) := by rfl
theorem zi_157_17 : (zM 157).1[17]? = some (.iload 1) := by rfl
theorem zi_157_18 : (zM 157).1[18]? = some (.ireturn) := by rfl
/-- TakeOrPayModel.wholeTop()I -/
def w_157 (E : Nat → Nat) (d : Nat) (a0 : Nat) (h : ZH) (Q : Option Value → ZH → Prop) : Prop := ztag h a0 = 11 ∧ ∃ r2 : Nat, zR h a0 15 = r2 + 1 ∧ (ztag h r2 = 13 ∨ ztag h r2 = 19) ∧ zin 2 (zlen h r2) = true ∧ zin 5 (zlen h r2) = true ∧ ∀ x4 : Int32, x4 = (((zI h r2 2) * (zI h r2 5)) / 100) → Q (some (.int (if x4 ≤ 12 then x4 else 12))) h
set_option maxRecDepth 20000 in
theorem ok_157 {E : Nat → Nat} {d : Nat} {a0 : Nat} {h : ZH} {Q : Option Value → ZH → Prop} (hw : w_157 E d a0 h Q) : Ct E (d + 1) 157 [.ref a0] h Q := by
  unfold w_157 at hw
  show Gx E (d + 1) 157 0 [.ref a0, .retAddr 0] [] h Q
  refine zg_aload zi_157_0 rfl ?_
  obtain ⟨t1, hw⟩ := hw
  obtain ⟨r2, er2, hw⟩ := hw
  refine zg_getR (v := .ref r2) zi_157_1 t1 (by rfl) (by show zrv (zR h a0 15) = _; rw [er2]; rfl) ?_
  refine zg_const (v := 2) zi_157_2 (by rfl) ?_
  obtain ⟨t3, hw⟩ := hw
  obtain ⟨hb, hw⟩ := hw
  refine zg_iaload (v := .int (zI h r2 2)) zi_157_3 t3 hb rfl ?_
  refine zg_aload zi_157_4 rfl ?_
  refine zg_getR (v := .ref r2) zi_157_5 t1 (by rfl) (by show zrv (zR h a0 15) = _; rw [er2]; rfl) ?_
  refine zg_const (v := 5) zi_157_6 (by rfl) ?_
  obtain ⟨hb, hw⟩ := hw
  refine zg_iaload (v := .int (zI h r2 5)) zi_157_7 t3 hb rfl ?_
  refine zg_imul zi_157_8 ?_
  refine zg_const (v := 100) zi_157_9 (by rfl) ?_
  refine zg_idiv zi_157_10 (by decide) ?_
  refine zg_nameI fun x4 ex4 => ?_
  have hw := hw x4 ex4
  refine zg_istore (ls1 := [.ref a0, .int x4]) zi_157_11 (Nat.le_of_ble_eq_true rfl) rfl ?_
  refine zg_iload zi_157_12 rfl ?_
  refine zg_const (v := 12) zi_157_13 (by rfl) ?_
  have g14 : Gx E (d + 1) 157 18 [.ref a0, .int x4] [.int (if x4 ≤ 12 then x4 else 12)] h Q := by
    exact zg_ireturn zi_157_18 (by decide) hw
  refine zg_icmp_le zi_157_14 (fun hc14 => ?_) (fun hc14 => ?_)
  · skip
    refine zg_iload zi_157_17 rfl ?_
    have hg := g14
    simp only [if_pos hc14] at hg
    exact hg
  · skip
    refine zg_const (v := 12) zi_157_15 (by rfl) ?_
    refine zg_goto zi_157_16 ?_
    have hg := g14
    simp only [if_neg hc14] at hg
    exact hg
def fz_157 (E : Nat → Nat) (h : ZH) (a0 : Nat) : Int32 := (fun r2 : Nat => let x4 : Int32 := (((zI h r2 2) * (zI h r2 5)) / 100); if x4 ≤ 12 then x4 else 12) (zR h a0 15 - 1)
def sz_157 (E : Nat → Nat) (h : ZH) (a0 : Nat) : Prop := ztag h a0 = 11 ∧ ∃ r2 : Nat, zR h a0 15 = r2 + 1 ∧ (ztag h r2 = 13 ∨ ztag h r2 = 19) ∧ zin 2 (zlen h r2) = true ∧ zin 5 (zlen h r2) = true ∧ ∀ x4 : Int32, x4 = (((zI h r2 2) * (zI h r2 5)) / 100) → True
set_option maxRecDepth 20000 in
theorem cz_157 {E : Nat → Nat} {d : Nat} {a0 : Nat} {h : ZH} {Q : Option Value → ZH → Prop} (hd : 1 ≤ d) (hs : sz_157 E h a0) (hq : Q (some (.int (fz_157 E h a0))) h) : Ct E d 157 [.ref a0] h Q := by
  obtain ⟨d, rfl⟩ : ∃ n, d = n + 1 := ⟨d - 1, by omega⟩
  refine ok_157 ?_
  unfold w_157
  unfold sz_157 at hs
  unfold fz_157 at hq
  refine ⟨hs.1, ?_⟩
  have hs := hs.2
  obtain ⟨r2, hr, hs⟩ := hs
  refine ⟨r2, hr, ?_⟩
  rw [hr] at hq
  simp only [Nat.add_sub_cancel] at hq
  refine ⟨hs.1, ?_⟩
  have hs := hs.2
  refine ⟨hs.1, ?_⟩
  have hs := hs.2
  refine ⟨hs.1, ?_⟩
  have hs := hs.2
  intro x4 ex4
  have hs := hs x4 ex4
  subst ex4
  exact hq
theorem zq_158 : zQ 158 2 2 11 := by unfold zQ; decide +kernel
theorem zi_158_0 : (zM 158).1[0]? = some (.aload 0) := by rfl
theorem zi_158_1 : (zM 158).1[1]? = some (.aload 0) := by rfl
theorem zi_158_2 : (zM 158).1[2]? = some (.getfield 11215) := by rfl
theorem zi_158_3 : (zM 158).1[3]? = some (.iconst 2) := by rfl
theorem zi_158_4 : (zM 158).1[4]? = some (.iaload) := by rfl
theorem zi_158_5 : (zM 158).1[5]? = some (.aload 0) := by rfl
theorem zi_158_6 : (zM 158).1[6]? = some (.iload 1) := by rfl
theorem zi_158_7 : (zM 158).1[7]? = some (.invokevirtual 155) := by rfl
theorem zi_158_8 : (zM 158).1[8]? = some (.invokevirtual 156) := by rfl
theorem zi_158_9 : (zM 158).1[9]? = some (.ireturn) := by rfl
/-- TakeOrPayModel.quantityOf(I)I -/
def w_158 (E : Nat → Nat) (d : Nat) (a0 : Nat) (a1 : Int32) (h : ZH) (Q : Option Value → ZH → Prop) : Prop := ztag h a0 = 11 ∧ ∃ r2 : Nat, zR h a0 15 = r2 + 1 ∧ (ztag h r2 = 13 ∨ ztag h r2 = 19) ∧ zin 2 (zlen h r2) = true ∧ Ct E d 155 [.ref a0, .int a1] h (fun v h4 => ∃ x5 : Int32, v = some (.int x5) ∧ ztag h4 a0 = 11 ∧ 1 ≤ d ∧ sz_156 E h4 a0 (zI h r2 2) x5 ∧ Q (some (.int (fz_156 E h4 a0 (zI h r2 2) x5))) h4)
set_option maxRecDepth 20000 in
theorem ok_158 {E : Nat → Nat} {d : Nat} {a0 : Nat} {a1 : Int32} {h : ZH} {Q : Option Value → ZH → Prop} (hw : w_158 E d a0 a1 h Q) : Ct E (d + 1) 158 [.ref a0, .int a1] h Q := by
  unfold w_158 at hw
  show Gx E (d + 1) 158 0 [.ref a0, .int a1] [] h Q
  refine zg_aload zi_158_0 rfl ?_
  refine zg_aload zi_158_1 rfl ?_
  obtain ⟨t1, hw⟩ := hw
  obtain ⟨r2, er2, hw⟩ := hw
  refine zg_getR (v := .ref r2) zi_158_2 t1 (by rfl) (by show zrv (zR h a0 15) = _; rw [er2]; rfl) ?_
  refine zg_const (v := 2) zi_158_3 (by rfl) ?_
  obtain ⟨t3, hw⟩ := hw
  obtain ⟨hb, hw⟩ := hw
  refine zg_iaload (v := .int (zI h r2 2)) zi_158_4 t3 hb rfl ?_
  refine zg_aload zi_158_5 rfl ?_
  refine zg_iload zi_158_6 rfl ?_
  refine Gx.call2 (as := [.ref a0, .int a1]) (rest := [.int (zI h r2 2), .ref a0]) zq_155 zi_158_7 rfl rfl rfl (Nat.le_of_ble_eq_true rfl) (Nat.le_of_ble_eq_true rfl) (zrv_v t1 rfl rfl) (Nat.le_of_ble_eq_true rfl) ?_
  refine Ct.mono hw ?_
  rintro v h4 ⟨x5, rfl, hw⟩
  show Gx E (d + 1) 158 8 [.ref a0, .int a1] [.int x5, .int (zI h r2 2), .ref a0] h4 Q
  obtain ⟨t6, hw⟩ := hw
  obtain ⟨hd, hs, hw⟩ := hw
  refine Gx.call2 (as := [.ref a0, .int (zI h r2 2), .int x5]) (rest := []) zq_156 zi_158_8 rfl rfl rfl (Nat.le_of_ble_eq_true rfl) (Nat.le_of_ble_eq_true rfl) (zrv_v t6 rfl rfl) (Nat.le_of_ble_eq_true rfl) ?_
  refine cz_156 hd hs ?_
  show Gx E (d + 1) 158 9 [.ref a0, .int a1] [.int (fz_156 E h4 a0 (zI h r2 2) x5)] h4 Q
  exact zg_ireturn zi_158_9 (by decide) hw
theorem zq_159 : zQ 159 2 2 11 := by unfold zQ; decide +kernel
theorem zi_159_0 : (zM 159).1[0]? = some (.aload 0) := by rfl
theorem zi_159_1 : (zM 159).1[1]? = some (.aload 0) := by rfl
theorem zi_159_2 : (zM 159).1[2]? = some (.invokevirtual 157) := by rfl
theorem zi_159_3 : (zM 159).1[3]? = some (.aload 0) := by rfl
theorem zi_159_4 : (zM 159).1[4]? = some (.iload 1) := by rfl
theorem zi_159_5 : (zM 159).1[5]? = some (.invokevirtual 155) := by rfl
theorem zi_159_6 : (zM 159).1[6]? = some (.invokevirtual 156) := by rfl
theorem zi_159_7 : (zM 159).1[7]? = some (.ireturn) := by rfl
/-- TakeOrPayModel.topOf(I)I -/
def w_159 (E : Nat → Nat) (d : Nat) (a0 : Nat) (a1 : Int32) (h : ZH) (Q : Option Value → ZH → Prop) : Prop := ztag h a0 = 11 ∧ 1 ≤ d ∧ sz_157 E h a0 ∧ Ct E d 155 [.ref a0, .int a1] h (fun v h2 => ∃ x3 : Int32, v = some (.int x3) ∧ ztag h2 a0 = 11 ∧ 1 ≤ d ∧ sz_156 E h2 a0 (fz_157 E h a0) x3 ∧ Q (some (.int (fz_156 E h2 a0 (fz_157 E h a0) x3))) h2)
set_option maxRecDepth 20000 in
theorem ok_159 {E : Nat → Nat} {d : Nat} {a0 : Nat} {a1 : Int32} {h : ZH} {Q : Option Value → ZH → Prop} (hw : w_159 E d a0 a1 h Q) : Ct E (d + 1) 159 [.ref a0, .int a1] h Q := by
  unfold w_159 at hw
  show Gx E (d + 1) 159 0 [.ref a0, .int a1] [] h Q
  refine zg_aload zi_159_0 rfl ?_
  refine zg_aload zi_159_1 rfl ?_
  obtain ⟨t1, hw⟩ := hw
  obtain ⟨hd, hs, hw⟩ := hw
  refine Gx.call2 (as := [.ref a0]) (rest := [.ref a0]) zq_157 zi_159_2 rfl rfl rfl (Nat.le_of_ble_eq_true rfl) (Nat.le_of_ble_eq_true rfl) (zrv_v t1 rfl rfl) (Nat.le_of_ble_eq_true rfl) ?_
  refine cz_157 hd hs ?_
  show Gx E (d + 1) 159 3 [.ref a0, .int a1] [.int (fz_157 E h a0), .ref a0] h Q
  refine zg_aload zi_159_3 rfl ?_
  refine zg_iload zi_159_4 rfl ?_
  refine Gx.call2 (as := [.ref a0, .int a1]) (rest := [.int (fz_157 E h a0), .ref a0]) zq_155 zi_159_5 rfl rfl rfl (Nat.le_of_ble_eq_true rfl) (Nat.le_of_ble_eq_true rfl) (zrv_v t1 rfl rfl) (Nat.le_of_ble_eq_true rfl) ?_
  refine Ct.mono hw ?_
  rintro v h2 ⟨x3, rfl, hw⟩
  show Gx E (d + 1) 159 6 [.ref a0, .int a1] [.int x3, .int (fz_157 E h a0), .ref a0] h2 Q
  obtain ⟨t4, hw⟩ := hw
  obtain ⟨hd, hs, hw⟩ := hw
  refine Gx.call2 (as := [.ref a0, .int (fz_157 E h a0), .int x3]) (rest := []) zq_156 zi_159_6 rfl rfl rfl (Nat.le_of_ble_eq_true rfl) (Nat.le_of_ble_eq_true rfl) (zrv_v t4 rfl rfl) (Nat.le_of_ble_eq_true rfl) ?_
  refine cz_156 hd hs ?_
  show Gx E (d + 1) 159 7 [.ref a0, .int a1] [.int (fz_156 E h2 a0 (fz_157 E h a0) x3)] h2 Q
  exact zg_ireturn zi_159_7 (by decide) hw
theorem zq_160 : zQ 160 2 2 11 := by unfold zQ; decide +kernel
theorem zi_160_0 : (zM 160).1[0]? = some (.iload 1) := by rfl
theorem zi_160_1 : (zM 160).1[1]? = some (.i2l) := by rfl
theorem zi_160_2 : (zM 160).1[2]? = some (.jsr_w 0) := by rfl
theorem zi_160_3 : (zM 160).1[3]? = some (.aload 0) := by rfl
theorem zi_160_4 : (zM 160).1[4]? = some (.getfield 11215) := by rfl
theorem zi_160_5 : (zM 160).1[5]? = some (.iconst 0) := by rfl
theorem zi_160_6 : (zM 160).1[6]? = some (.iaload) := by rfl
theorem zi_160_7 : (zM 160).1[7]? = some (.iconst 1) := by rfl
theorem zi_160_8 : (zM 160).1[8]? = some (.isub) := by rfl
theorem zi_160_9 : (zM 160).1[9]? = some (.i2l) := by rfl
theorem zi_160_10 : (zM 160).1[10]? = some (.invokestatic 135) := by rfl
theorem zi_160_11 : (zM 160).1[11]? = some (.ireturn) := by rfl
/-- TakeOrPayModel.isYear(I)Z -/
def w_160 (E : Nat → Nat) (d : Nat) (a0 : Nat) (a1 : Int32) (h : ZH) (Q : Option Value → ZH → Prop) : Prop := ztag h a0 = 11 ∧ ∃ r2 : Nat, zR h a0 15 = r2 + 1 ∧ (ztag h r2 = 13 ∨ ztag h r2 = 19) ∧ zin 0 (zlen h r2) = true ∧ 1 ≤ d ∧ sz_135 E h a1.toInt64 0 (((zI h r2 0) - 1 : Int32).toInt64) ∧ Q (some (.int (fz_135 E h a1.toInt64 0 (((zI h r2 0) - 1 : Int32).toInt64)))) h
set_option maxRecDepth 20000 in
theorem ok_160 {E : Nat → Nat} {d : Nat} {a0 : Nat} {a1 : Int32} {h : ZH} {Q : Option Value → ZH → Prop} (hw : w_160 E d a0 a1 h Q) : Ct E (d + 1) 160 [.ref a0, .int a1] h Q := by
  unfold w_160 at hw
  show Gx E (d + 1) 160 0 [.ref a0, .int a1] [] h Q
  refine zg_iload zi_160_0 rfl ?_
  refine zg_i2l zi_160_1 ?_
  refine zg_lconst (v := 0) zi_160_2 (by rfl) ?_
  refine zg_aload zi_160_3 rfl ?_
  obtain ⟨t1, hw⟩ := hw
  obtain ⟨r2, er2, hw⟩ := hw
  refine zg_getR (v := .ref r2) zi_160_4 t1 (by rfl) (by show zrv (zR h a0 15) = _; rw [er2]; rfl) ?_
  refine zg_const (v := 0) zi_160_5 (by rfl) ?_
  obtain ⟨t3, hw⟩ := hw
  obtain ⟨hb, hw⟩ := hw
  refine zg_iaload (v := .int (zI h r2 0)) zi_160_6 t3 hb rfl ?_
  refine zg_const (v := 1) zi_160_7 (by rfl) ?_
  refine zg_isub zi_160_8 ?_
  refine zg_i2l zi_160_9 ?_
  obtain ⟨hd, hs, hw⟩ := hw
  refine Gx.call2 (as := [.long a1.toInt64, .long 0, .long (((zI h r2 0) - 1 : Int32).toInt64)]) (rest := []) zq_135 zi_160_10 rfl rfl rfl (Nat.le_of_ble_eq_true rfl) (Nat.le_of_ble_eq_true rfl) (rfl) (Nat.le_of_ble_eq_true rfl) ?_
  refine cz_135 hd hs ?_
  show Gx E (d + 1) 160 11 [.ref a0, .int a1] [.int (fz_135 E h a1.toInt64 0 (((zI h r2 0) - 1 : Int32).toInt64))] h Q
  exact zg_zreturn zi_160_11 (by (repeat' split) <;> first | (left; rfl) | (right; rfl) | exact fb_135) hw
def fz_160 (E : Nat → Nat) (h : ZH) (a0 : Nat) (a1 : Int32) : Int32 := (fun r2 : Nat => fz_135 E h a1.toInt64 0 (((zI h r2 0) - 1 : Int32).toInt64)) (zR h a0 15 - 1)
def sz_160 (E : Nat → Nat) (h : ZH) (a0 : Nat) (a1 : Int32) : Prop := ztag h a0 = 11 ∧ ∃ r2 : Nat, zR h a0 15 = r2 + 1 ∧ (ztag h r2 = 13 ∨ ztag h r2 = 19) ∧ zin 0 (zlen h r2) = true ∧ sz_135 E h a1.toInt64 0 (((zI h r2 0) - 1 : Int32).toInt64) ∧ True
set_option maxRecDepth 20000 in
theorem fb_160 {E : Nat → Nat} {h : ZH} {a0 : Nat} {a1 : Int32} : fz_160 E h a0 a1 = 0 ∨ fz_160 E h a0 a1 = 1 := by
  unfold fz_160
  (try dsimp only)
  (repeat' split) <;> first | (left; rfl) | (right; rfl) | exact fb_135
set_option maxRecDepth 20000 in
theorem cz_160 {E : Nat → Nat} {d : Nat} {a0 : Nat} {a1 : Int32} {h : ZH} {Q : Option Value → ZH → Prop} (hd : 2 ≤ d) (hs : sz_160 E h a0 a1) (hq : Q (some (.int (fz_160 E h a0 a1))) h) : Ct E d 160 [.ref a0, .int a1] h Q := by
  obtain ⟨d, rfl⟩ : ∃ n, d = n + 1 := ⟨d - 1, by omega⟩
  refine ok_160 ?_
  unfold w_160
  unfold sz_160 at hs
  unfold fz_160 at hq
  refine ⟨hs.1, ?_⟩
  have hs := hs.2
  obtain ⟨r2, hr, hs⟩ := hs
  refine ⟨r2, hr, ?_⟩
  rw [hr] at hq
  simp only [Nat.add_sub_cancel] at hq
  refine ⟨hs.1, ?_⟩
  have hs := hs.2
  refine ⟨hs.1, ?_⟩
  have hs := hs.2
  refine ⟨by omega, ?_⟩
  refine ⟨hs.1, ?_⟩
  have hs := hs.2
  exact hq
theorem zq_161 : zQ 161 3 3 11 := by unfold zQ; decide +kernel
theorem zi_161_0 : (zM 161).1[0]? = some (.aload 0) := by rfl
theorem zi_161_1 : (zM 161).1[1]? = some (.iload 1) := by rfl
theorem zi_161_2 : (zM 161).1[2]? = some (.invokevirtual 160) := by rfl
theorem zi_161_3 : (zM 161).1[3]? = some (.ifCond .eq ((10 : Nat) : Int)) := by rfl
theorem zi_161_4 : (zM 161).1[4]? = some (.iload 2) := by rfl
theorem zi_161_5 : (zM 161).1[5]? = some (.i2l) := by rfl
theorem zi_161_6 : (zM 161).1[6]? = some (.jsr_w 0) := by rfl
theorem zi_161_7 : (zM 161).1[7]? = some (.jsr_w 2) := by rfl
theorem zi_161_8 : (zM 161).1[8]? = some (.invokestatic 135) := by rfl
theorem zi_161_9 : (zM 161).1[9]? = some (.ifCond .ne ((12 : Nat) : Int)) := by rfl
theorem zi_161_10 : (zM 161).1[10]? = some (.iconst (-1)) := by rfl
theorem zi_161_11 : (zM 161).1[11]? = some (.ireturn) := by rfl
theorem zi_161_12 : (zM 161).1[12]? = some (.iload 2) := by rfl
theorem zi_161_13 : (zM 161).1[13]? = some (.ifCond .ne ((18 : Nat) : Int)) := by rfl
theorem zi_161_14 : (zM 161).1[14]? = some (.aload 0) := by rfl
theorem zi_161_15 : (zM 161).1[15]? = some (.iload 1) := by rfl
theorem zi_161_16 : (zM 161).1[16]? = some (.invokevirtual 158) := by rfl
theorem zi_161_17 : (zM 161).1[17]? = some (.goto ((28 : Nat) : Int)) := by rfl
theorem zi_161_18 : (zM 161).1[18]? = some (.iload 2) := by rfl
theorem zi_161_19 : (zM 161).1[19]? = some (.iconst 1) := by rfl
theorem zi_161_20 : (zM 161).1[20]? = some (.if_icmp .ne ((25 : Nat) : Int)) := by rfl
theorem zi_161_21 : (zM 161).1[21]? = some (.aload 0) := by rfl
theorem zi_161_22 : (zM 161).1[22]? = some (.iload 1) := by rfl
theorem zi_161_23 : (zM 161).1[23]? = some (.invokevirtual 159) := by rfl
theorem zi_161_24 : (zM 161).1[24]? = some (.goto ((28 : Nat) : Int)) := by rfl
theorem zi_161_25 : (zM 161).1[25]? = some (.aload 0) := by rfl
theorem zi_161_26 : (zM 161).1[26]? = some (.iload 1) := by rfl
theorem zi_161_27 : (zM 161).1[27]? = some (.invokevirtual 155) := by rfl
theorem zi_161_28 : (zM 161).1[28]? = some (.ireturn) := by rfl
/-- TakeOrPayModel.year(II)I -/
def w_161 (E : Nat → Nat) (d : Nat) (a0 : Nat) (a1 : Int32) (a2 : Int32) (h : ZH) (Q : Option Value → ZH → Prop) : Prop := ztag h a0 = 11 ∧ 2 ≤ d ∧ sz_160 E h a0 a1 ∧ (((fz_160 E h a0 a1 : Int32) = 0 → (Q (some (.int ((-1)))) h)) ∧ (¬ ((fz_160 E h a0 a1 : Int32) = 0) → (1 ≤ d ∧ sz_135 E h a2.toInt64 0 2 ∧ ((¬ (fz_135 E h a2.toInt64 0 2 : Int32) = 0 → ((¬ a2 = 0 → ((¬ a2 = 1 → (Ct E d 155 [.ref a0, .int a1] h (fun v h2 => ∃ x3 : Int32, v = some (.int x3) ∧ Q (some (.int x3)) h2))) ∧ (¬ (¬ a2 = 1) → (Ct E d 159 [.ref a0, .int a1] h (fun v h4 => ∃ x5 : Int32, v = some (.int x5) ∧ Q (some (.int x5)) h4))))) ∧ (¬ (¬ a2 = 0) → (Ct E d 158 [.ref a0, .int a1] h (fun v h6 => ∃ x7 : Int32, v = some (.int x7) ∧ Q (some (.int x7)) h6))))) ∧ (¬ (¬ (fz_135 E h a2.toInt64 0 2 : Int32) = 0) → (Q (some (.int ((-1)))) h))))))
set_option maxRecDepth 20000 in
theorem ok_161 {E : Nat → Nat} {d : Nat} {a0 : Nat} {a1 : Int32} {a2 : Int32} {h : ZH} {Q : Option Value → ZH → Prop} (hw : w_161 E d a0 a1 a2 h Q) : Ct E (d + 1) 161 [.ref a0, .int a1, .int a2] h Q := by
  unfold w_161 at hw
  show Gx E (d + 1) 161 0 [.ref a0, .int a1, .int a2] [] h Q
  refine zg_aload zi_161_0 rfl ?_
  refine zg_iload zi_161_1 rfl ?_
  obtain ⟨t1, hw⟩ := hw
  obtain ⟨hd, hs, hw⟩ := hw
  refine Gx.call2 (as := [.ref a0, .int a1]) (rest := []) zq_160 zi_161_2 rfl rfl rfl (Nat.le_of_ble_eq_true rfl) (Nat.le_of_ble_eq_true rfl) (zrv_v t1 rfl rfl) (Nat.le_of_ble_eq_true rfl) ?_
  refine cz_160 hd hs ?_
  show Gx E (d + 1) 161 3 [.ref a0, .int a1, .int a2] [.int (fz_160 E h a0 a1)] h Q
  refine zg_if_eq zi_161_3 (fun hc => ?_) (fun hc => ?_)
  · have hw := hw.1 hc
    refine zg_const (v := (-1)) zi_161_10 (by rfl) ?_
    exact zg_ireturn zi_161_11 (by decide) hw
  · have hw := hw.2 hc
    refine zg_iload zi_161_4 rfl ?_
    refine zg_i2l zi_161_5 ?_
    refine zg_lconst (v := 0) zi_161_6 (by rfl) ?_
    refine zg_lconst (v := 2) zi_161_7 (by rfl) ?_
    obtain ⟨hd, hs, hw⟩ := hw
    refine Gx.call2 (as := [.long a2.toInt64, .long 0, .long 2]) (rest := []) zq_135 zi_161_8 rfl rfl rfl (Nat.le_of_ble_eq_true rfl) (Nat.le_of_ble_eq_true rfl) (rfl) (Nat.le_of_ble_eq_true rfl) ?_
    refine cz_135 hd hs ?_
    show Gx E (d + 1) 161 9 [.ref a0, .int a1, .int a2] [.int (fz_135 E h a2.toInt64 0 2)] h Q
    refine zg_if_ne zi_161_9 (fun hc => ?_) (fun hc => ?_)
    · have hw := hw.1 hc
      refine zg_iload zi_161_12 rfl ?_
      refine zg_if_ne zi_161_13 (fun hc => ?_) (fun hc => ?_)
      · have hw := hw.1 hc
        refine zg_iload zi_161_18 rfl ?_
        refine zg_const (v := 1) zi_161_19 (by rfl) ?_
        refine zg_icmp_ne zi_161_20 (fun hc => ?_) (fun hc => ?_)
        · have hw := hw.1 hc
          refine zg_aload zi_161_25 rfl ?_
          refine zg_iload zi_161_26 rfl ?_
          refine Gx.call2 (as := [.ref a0, .int a1]) (rest := []) zq_155 zi_161_27 rfl rfl rfl (Nat.le_of_ble_eq_true rfl) (Nat.le_of_ble_eq_true rfl) (zrv_v t1 rfl rfl) (Nat.le_of_ble_eq_true rfl) ?_
          refine Ct.mono hw ?_
          rintro v h2 ⟨x3, rfl, hw⟩
          show Gx E (d + 1) 161 28 [.ref a0, .int a1, .int a2] [.int x3] h2 Q
          exact zg_ireturn zi_161_28 (by decide) hw
        · have hw := hw.2 hc
          refine zg_aload zi_161_21 rfl ?_
          refine zg_iload zi_161_22 rfl ?_
          refine Gx.call2 (as := [.ref a0, .int a1]) (rest := []) zq_159 zi_161_23 rfl rfl rfl (Nat.le_of_ble_eq_true rfl) (Nat.le_of_ble_eq_true rfl) (zrv_v t1 rfl rfl) (Nat.le_of_ble_eq_true rfl) ?_
          refine Ct.mono hw ?_
          rintro v h4 ⟨x5, rfl, hw⟩
          show Gx E (d + 1) 161 24 [.ref a0, .int a1, .int a2] [.int x5] h4 Q
          refine zg_goto zi_161_24 ?_
          exact zg_ireturn zi_161_28 (by decide) hw
      · have hw := hw.2 hc
        refine zg_aload zi_161_14 rfl ?_
        refine zg_iload zi_161_15 rfl ?_
        refine Gx.call2 (as := [.ref a0, .int a1]) (rest := []) zq_158 zi_161_16 rfl rfl rfl (Nat.le_of_ble_eq_true rfl) (Nat.le_of_ble_eq_true rfl) (zrv_v t1 rfl rfl) (Nat.le_of_ble_eq_true rfl) ?_
        refine Ct.mono hw ?_
        rintro v h6 ⟨x7, rfl, hw⟩
        show Gx E (d + 1) 161 17 [.ref a0, .int a1, .int a2] [.int x7] h6 Q
        refine zg_goto zi_161_17 ?_
        exact zg_ireturn zi_161_28 (by decide) hw
    · have hw := hw.2 hc
      refine zg_const (v := (-1)) zi_161_10 (by rfl) ?_
      exact zg_ireturn zi_161_11 (by decide) hw
theorem zq_162 : zQ 162 3 5 11 := by unfold zQ; decide +kernel
theorem zi_162_0 : (zM 162).1[0]? = some (.aload 0) := by rfl
theorem zi_162_1 : (zM 162).1[1]? = some (.iload 1) := by rfl
theorem zi_162_2 : (zM 162).1[2]? = some (.invokevirtual 160) := by rfl
theorem zi_162_3 : (zM 162).1[3]? = some (.ifCond .eq ((10 : Nat) : Int)) := by rfl
theorem zi_162_4 : (zM 162).1[4]? = some (.iload 2) := by rfl
theorem zi_162_5 : (zM 162).1[5]? = some (.i2l) := by rfl
theorem zi_162_6 : (zM 162).1[6]? = some (.jsr_w 0) := by rfl
theorem zi_162_7 : (zM 162).1[7]? = some (.jsr_w 2) := by rfl
theorem zi_162_8 : (zM 162).1[8]? = some (.invokestatic 135) := by rfl
theorem zi_162_9 : (zM 162).1[9]? = some (.ifCond .ne ((12 : Nat) : Int)) := by rfl
theorem zi_162_10 : (zM 162).1[10]? = some (.iconst (-1)) := by rfl
theorem zi_162_11 : (zM 162).1[11]? = some (.ireturn) := by rfl
theorem zi_162_12 : (zM 162).1[12]? = some (.iconst 0) := by rfl
theorem zi_162_13 : (zM 162).1[13]? = some (.istore 3) := by rfl
theorem zi_162_14 : (zM 162).1[14]? = some (.iconst 0) := by rfl
theorem zi_162_15 : (zM 162).1[15]? = some (.istore 4) := by rfl
theorem zi_162_16 : (zM 162).1[16]? = some (.iload 4) := by rfl
theorem zi_162_17 : (zM 162).1[17]? = some (.aload 0) := by rfl
theorem zi_162_18 : (zM 162).1[18]? = some (.getfield 11215) := by rfl
theorem zi_162_19 : (zM 162).1[19]? = some (.iconst 1) := by rfl
theorem zi_162_20 : (zM 162).1[20]? = some (.iaload) := by rfl
theorem zi_162_21 : (zM 162).1[21]? = some (.if_icmp .ge ((43 : Nat) : Int)) := by rfl
theorem zi_162_22 : (zM 162).1[22]? = some (.iload 3) := by rfl
theorem zi_162_23 : (zM 162).1[23]? = some (.aload 0) := by rfl
theorem zi_162_24 : (zM 162).1[24]? = some (.getfield 11220) := by rfl
theorem zi_162_25 : (zM 162).1[25]? = some (.iload 1) := by rfl
theorem zi_162_26 : (zM 162).1[26]? = some (.aload 0) := by rfl
theorem zi_162_27 : (zM 162).1[27]? = some (.getfield 11215) := by rfl
theorem zi_162_28 : (zM 162).1[28]? = some (.iconst 1) := by rfl
theorem zi_162_29 : (zM 162).1[29]? = some (.iaload) := by rfl
theorem zi_162_30 : (zM 162).1[30]? = some (.imul) := by rfl
theorem zi_162_31 : (zM 162).1[31]? = some (.iload 4) := by rfl
theorem zi_162_32 : (zM 162).1[32]? = some (.iadd) := by rfl
theorem zi_162_33 : (zM 162).1[33]? = some (.iaload) := by rfl
theorem zi_162_34 : (zM 162).1[34]? = some (.iconst (-4)) := by rfl
theorem zi_162_35 : (zM 162).1[35]? = some (.if_icmp .ne ((38 : Nat) : Int)) := by rfl
theorem zi_162_36 : (zM 162).1[36]? = some (.iconst 0) := by rfl
theorem zi_162_37 : (zM 162).1[37]? = some (.goto ((39 : Nat) : Int)) := by rfl
theorem zi_162_38 : (zM 162).1[38]? = some (.iconst 1) := by rfl
theorem zi_162_39 : (zM 162).1[39]? = some (.iadd) := by rfl
theorem zi_162_40 : (zM 162).1[40]? = some (.istore 3) := by rfl
theorem zi_162_41 : (zM 162).1[41]? = some (.iinc 4 1) := by rfl
theorem zi_162_42 : (zM 162).1[42]? = some (.goto ((16 : Nat) : Int)) := by rfl
theorem zi_162_43 : (zM 162).1[43]? = some (.iload 2) := by rfl
theorem zi_162_44 : (zM 162).1[44]? = some (.iconst 2) := by rfl
theorem zi_162_45 : (zM 162).1[45]? = some (.if_icmp .ne ((48 : Nat) : Int)) := by rfl
theorem zi_162_46 : (zM 162).1[46]? = some (.iconst 0) := by rfl
theorem zi_162_47 : (zM 162).1[47]? = some (.goto ((51 : Nat) : Int)) := by rfl
theorem zi_162_48 : (zM 162).1[48]? = some (.iload 2) := by rfl
theorem zi_162_49 : (zM 162).1[49]? = some (.iconst 1) := by rfl
theorem zi_162_50 : (zM 162).1[50]? = some (.iadd) := by rfl
theorem zi_162_51 : (zM 162).1[51]? = some (.istore 4) := by rfl
theorem zi_162_52 : (zM 162).1[52]? = some (.aload 0) := by rfl
theorem zi_162_53 : (zM 162).1[53]? = some (.aload 0) := by rfl
theorem zi_162_54 : (zM 162).1[54]? = some (.invokevirtual 157) := by rfl
theorem zi_162_55 : (zM 162).1[55]? = some (.aload 0) := by rfl
theorem zi_162_56 : (zM 162).1[56]? = some (.getfield 11215) := by rfl
theorem zi_162_57 : (zM 162).1[57]? = some (.iconst 13) := by rfl
theorem zi_162_58 : (zM 162).1[58]? = some (.iaload) := by rfl
theorem zi_162_59 : (zM 162).1[59]? = some (.iload 4) := by rfl
theorem zi_162_60 : (zM 162).1[60]? = some (.ishr) := by rfl
theorem zi_162_61 : (zM 162).1[61]? = some (.iconst 1) := by rfl
theorem zi_162_62 : (zM 162).1[62]? = some (.iand) := by rfl
theorem zi_162_63 : (zM 162).1[63]? = some (.iconst 1) := by rfl
theorem zi_162_64 : (zM 162).1[64]? = some (.if_icmp .ne ((67 : Nat) : Int)) := by rfl
theorem zi_162_65 : (zM 162).1[65]? = some (.iload 3) := by rfl
theorem zi_162_66 : (zM 162).1[66]? = some (.goto ((68 : Nat) : Int)) := by rfl
theorem zi_162_67 : (zM 162).1[67]? = some (.iconst 0) := by rfl
theorem zi_162_68 : (zM 162).1[68]? = some (.invokevirtual 156) := by rfl
theorem zi_162_69 : (zM 162).1[69]? = some (.ireturn) := by rfl
def wb_162_43 (E : Nat → Nat) (d : Nat) (Q : Option Value → ZH → Prop) (a0 : Nat) (a2 : Int32) (a3 : Int32) (h : ZH) : Prop := ∀ x5 : Int32, x5 = (if ¬ a2 = 2 then a2 + 1 else 0) → ztag h a0 = 11 ∧ 1 ≤ d ∧ sz_157 E h a0 ∧ ∃ r7 : Nat, zR h a0 15 = r7 + 1 ∧ (ztag h r7 = 13 ∨ ztag h r7 = 19) ∧ zin 13 (zlen h r7) = true ∧ 1 ≤ d ∧ sz_156 E h a0 (fz_157 E h a0) (if ¬ (((zI h r7 13) >>> (x5 &&& 31)) &&& 1 : Int32) = 1 then 0 else a3) ∧ Q (some (.int (fz_156 E h a0 (fz_157 E h a0) (if ¬ (((zI h r7 13) >>> (x5 &&& 31)) &&& 1 : Int32) = 1 then 0 else a3)))) h
set_option maxRecDepth 20000 in
theorem okb_162_43 {E : Nat → Nat} {d : Nat} {Q : Option Value → ZH → Prop} {a0 : Nat} {a2 : Int32} {a3 : Int32} {h : ZH} (hw : wb_162_43 E d Q a0 a2 a3 h) : Gx E (d + 1) 162 43 [.ref a0, .retAddr 0, .int a2, .int a3, .retAddr 0] [] h Q := by
  unfold wb_162_43 at hw
  refine zg_iload zi_162_43 rfl ?_
  refine zg_const (v := 2) zi_162_44 (by rfl) ?_
  have g45 : Gx E (d + 1) 162 51 [.ref a0, .retAddr 0, .int a2, .int a3, .retAddr 0] [.int (if ¬ a2 = 2 then a2 + 1 else 0)] h Q := by
    refine zg_nameI fun x5 ex5 => ?_
    have hw := hw x5 ex5
    refine zg_istore (ls1 := [.ref a0, .retAddr 0, .int a2, .int a3, .int x5]) zi_162_51 (Nat.le_of_ble_eq_true rfl) rfl ?_
    refine zg_aload zi_162_52 rfl ?_
    refine zg_aload zi_162_53 rfl ?_
    obtain ⟨t6, hw⟩ := hw
    obtain ⟨hd, hs, hw⟩ := hw
    refine Gx.call2 (as := [.ref a0]) (rest := [.ref a0]) zq_157 zi_162_54 rfl rfl rfl (Nat.le_of_ble_eq_true rfl) (Nat.le_of_ble_eq_true rfl) (zrv_v t6 rfl rfl) (Nat.le_of_ble_eq_true rfl) ?_
    refine cz_157 hd hs ?_
    show Gx E (d + 1) 162 55 [.ref a0, .retAddr 0, .int a2, .int a3, .int x5] [.int (fz_157 E h a0), .ref a0] h Q
    refine zg_aload zi_162_55 rfl ?_
    obtain ⟨r7, er7, hw⟩ := hw
    refine zg_getR (v := .ref r7) zi_162_56 t6 (by rfl) (by show zrv (zR h a0 15) = _; rw [er7]; rfl) ?_
    refine zg_const (v := 13) zi_162_57 (by rfl) ?_
    obtain ⟨t8, hw⟩ := hw
    obtain ⟨hb, hw⟩ := hw
    refine zg_iaload (v := .int (zI h r7 13)) zi_162_58 t8 hb rfl ?_
    refine zg_iload zi_162_59 rfl ?_
    refine zg_ishr zi_162_60 ?_
    refine zg_const (v := 1) zi_162_61 (by rfl) ?_
    refine zg_iand zi_162_62 ?_
    refine zg_const (v := 1) zi_162_63 (by rfl) ?_
    have g64 : Gx E (d + 1) 162 68 [.ref a0, .retAddr 0, .int a2, .int a3, .int x5] [.int (if ¬ (((zI h r7 13) >>> (x5 &&& 31)) &&& 1 : Int32) = 1 then 0 else a3), .int (fz_157 E h a0), .ref a0] h Q := by
      obtain ⟨hd, hs, hw⟩ := hw
      refine Gx.call2 (as := [.ref a0, .int (fz_157 E h a0), .int (if ¬ (((zI h r7 13) >>> (x5 &&& 31)) &&& 1 : Int32) = 1 then 0 else a3)]) (rest := []) zq_156 zi_162_68 rfl rfl rfl (Nat.le_of_ble_eq_true rfl) (Nat.le_of_ble_eq_true rfl) (zrv_v t6 rfl rfl) (Nat.le_of_ble_eq_true rfl) ?_
      refine cz_156 hd hs ?_
      show Gx E (d + 1) 162 69 [.ref a0, .retAddr 0, .int a2, .int a3, .int x5] [.int (fz_156 E h a0 (fz_157 E h a0) (if ¬ (((zI h r7 13) >>> (x5 &&& 31)) &&& 1 : Int32) = 1 then 0 else a3))] h Q
      exact zg_ireturn zi_162_69 (by decide) hw
    refine zg_icmp_ne zi_162_64 (fun hc64 => ?_) (fun hc64 => ?_)
    · skip
      refine zg_const (v := 0) zi_162_67 (by rfl) ?_
      have hg := g64
      simp only [if_pos hc64] at hg
      exact hg
    · skip
      refine zg_iload zi_162_65 rfl ?_
      refine zg_goto zi_162_66 ?_
      have hg := g64
      simp only [if_neg hc64] at hg
      exact hg
  refine zg_icmp_ne zi_162_45 (fun hc45 => ?_) (fun hc45 => ?_)
  · skip
    refine zg_iload zi_162_48 rfl ?_
    refine zg_const (v := 1) zi_162_49 (by rfl) ?_
    refine zg_iadd zi_162_50 ?_
    have hg := g45
    simp only [if_pos hc45] at hg
    exact hg
  · skip
    refine zg_const (v := 0) zi_162_46 (by rfl) ?_
    refine zg_goto zi_162_47 ?_
    have hg := g45
    simp only [if_neg hc45] at hg
    exact hg
def wl_162_16 (E : Nat → Nat) (d : Nat) (Q : Option Value → ZH → Prop) : Nat → Nat → Int32 → Int32 → Int32 → Int32 → ZH → Prop
  | 0, _, _, _, _, _, _ => False
  | n + 1, a0, a1, a2, a3, a4, h => ztag h a0 = 11 ∧ ∃ r3 : Nat, zR h a0 15 = r3 + 1 ∧ (ztag h r3 = 13 ∨ ztag h r3 = 19) ∧ zin 1 (zlen h r3) = true ∧ (((zI h r3 1 : Int32) ≤ a4 → (wb_162_43 E d Q a0 a2 a3 h)) ∧ (¬ ((zI h r3 1 : Int32) ≤ a4) → (∃ r9 : Nat, zR h a0 20 = r9 + 1 ∧ zin 1 (zlen h r3) = true ∧ (ztag h r9 = 13 ∨ ztag h r9 = 19) ∧ zin ((a1 * (zI h r3 1)) + a4) (zlen h r9) = true ∧ ∀ x11 : Int32, x11 = (a3 + (if ¬ (zI h r9 ((a1 * (zI h r3 1)) + a4 : Int32).toNatClampNeg : Int32) = ((-4) : Int32) then 1 else 0)) → ∀ x12 : Int32, x12 = (a4 + 1) → wl_162_16 E d Q n a0 a1 a2 x11 x12 h)))
set_option maxRecDepth 20000 in
theorem okl_162_16 {E : Nat → Nat} {d : Nat} {Q : Option Value → ZH → Prop} : ∀ (n : Nat) (a0 : Nat) (a1 : Int32) (a2 : Int32) (a3 : Int32) (a4 : Int32) (h : ZH), wl_162_16 E d Q n a0 a1 a2 a3 a4 h → Gx E (d + 1) 162 16 [.ref a0, .int a1, .int a2, .int a3, .int a4] [] h Q := by
  intro n
  induction n with
  | zero => intro a0 a1 a2 a3 a4 h hw; exact hw.elim
  | succ n ih =>
    intro a0 a1 a2 a3 a4 h hw
    rw [wl_162_16] at hw
    refine zg_iload zi_162_16 rfl ?_
    refine zg_aload zi_162_17 rfl ?_
    obtain ⟨t2, hw⟩ := hw
    obtain ⟨r3, er3, hw⟩ := hw
    refine zg_getR (v := .ref r3) zi_162_18 t2 (by rfl) (by show zrv (zR h a0 15) = _; rw [er3]; rfl) ?_
    refine zg_const (v := 1) zi_162_19 (by rfl) ?_
    obtain ⟨t4, hw⟩ := hw
    obtain ⟨hb, hw⟩ := hw
    refine zg_iaload (v := .int (zI h r3 1)) zi_162_20 t4 hb rfl ?_
    refine zg_icmp_ge zi_162_21 (fun hc => ?_) (fun hc => ?_)
    · have hw := hw.1 hc
      exact Gx.forget (zrk (zrd (zrk (zrk (zrd zr0))))) (okb_162_43 hw)
    · have hw := hw.2 hc
      refine zg_iload zi_162_22 rfl ?_
      refine zg_aload zi_162_23 rfl ?_
      obtain ⟨r9, er9, hw⟩ := hw
      refine zg_getR (v := .ref r9) zi_162_24 t2 (by rfl) (by show zrv (zR h a0 20) = _; rw [er9]; rfl) ?_
      refine zg_iload zi_162_25 rfl ?_
      refine zg_aload zi_162_26 rfl ?_
      refine zg_getR (v := .ref r3) zi_162_27 t2 (by rfl) (by show zrv (zR h a0 15) = _; rw [er3]; rfl) ?_
      refine zg_const (v := 1) zi_162_28 (by rfl) ?_
      obtain ⟨hb, hw⟩ := hw
      refine zg_iaload (v := .int (zI h r3 1)) zi_162_29 t4 hb rfl ?_
      refine zg_imul zi_162_30 ?_
      refine zg_iload zi_162_31 rfl ?_
      refine zg_iadd zi_162_32 ?_
      obtain ⟨t10, hw⟩ := hw
      obtain ⟨hb, hw⟩ := hw
      refine zg_iaload (v := .int (zI h r9 ((a1 * (zI h r3 1)) + a4 : Int32).toNatClampNeg)) zi_162_33 t10 hb rfl ?_
      refine zg_const (v := (-4)) zi_162_34 (by rfl) ?_
      have g35 : Gx E (d + 1) 162 39 [.ref a0, .int a1, .int a2, .int a3, .int a4] [.int (if ¬ (zI h r9 ((a1 * (zI h r3 1)) + a4 : Int32).toNatClampNeg : Int32) = ((-4) : Int32) then 1 else 0), .int a3] h Q := by
        refine zg_iadd zi_162_39 ?_
        refine zg_nameI fun x11 ex11 => ?_
        have hw := hw x11 ex11
        refine zg_istore (ls1 := [.ref a0, .int a1, .int a2, .int x11, .int a4]) zi_162_40 (Nat.le_of_ble_eq_true rfl) rfl ?_
        obtain ⟨x12, ex12⟩ : ∃ x : Int32, x = a4 + 1 := ⟨_, rfl⟩
        have hw := hw x12 ex12
        refine zg_iinc (v := x12) (ls1 := [.ref a0, .int a1, .int a2, .int x11, .int x12]) zi_162_41 rfl (by rw [ex12]; rfl) rfl ?_
        refine zg_goto zi_162_42 ?_
        exact ih a0 a1 a2 x11 x12 h hw
      refine zg_icmp_ne zi_162_35 (fun hc35 => ?_) (fun hc35 => ?_)
      · skip
        refine zg_const (v := 1) zi_162_38 (by rfl) ?_
        have hg := g35
        simp only [if_pos hc35] at hg
        exact hg
      · skip
        refine zg_const (v := 0) zi_162_36 (by rfl) ?_
        refine zg_goto zi_162_37 ?_
        have hg := g35
        simp only [if_neg hc35] at hg
        exact hg
/-- TakeOrPayModel.whose(II)I -/
def w_162 (E : Nat → Nat) (d : Nat) (a0 : Nat) (a1 : Int32) (a2 : Int32) (h : ZH) (Q : Option Value → ZH → Prop) : Prop := ztag h a0 = 11 ∧ 2 ≤ d ∧ sz_160 E h a0 a1 ∧ (((fz_160 E h a0 a1 : Int32) = 0 → (Q (some (.int ((-1)))) h)) ∧ (¬ ((fz_160 E h a0 a1 : Int32) = 0) → (1 ≤ d ∧ sz_135 E h a2.toInt64 0 2 ∧ ((¬ (fz_135 E h a2.toInt64 0 2 : Int32) = 0 → (∃ mm : Nat, wl_162_16 E d Q mm a0 a1 a2 0 0 h)) ∧ (¬ (¬ (fz_135 E h a2.toInt64 0 2 : Int32) = 0) → (Q (some (.int ((-1)))) h))))))
set_option maxRecDepth 20000 in
theorem ok_162 {E : Nat → Nat} {d : Nat} {a0 : Nat} {a1 : Int32} {a2 : Int32} {h : ZH} {Q : Option Value → ZH → Prop} (hw : w_162 E d a0 a1 a2 h Q) : Ct E (d + 1) 162 [.ref a0, .int a1, .int a2] h Q := by
  unfold w_162 at hw
  show Gx E (d + 1) 162 0 [.ref a0, .int a1, .int a2, .retAddr 0, .retAddr 0] [] h Q
  refine zg_aload zi_162_0 rfl ?_
  refine zg_iload zi_162_1 rfl ?_
  obtain ⟨t1, hw⟩ := hw
  obtain ⟨hd, hs, hw⟩ := hw
  refine Gx.call2 (as := [.ref a0, .int a1]) (rest := []) zq_160 zi_162_2 rfl rfl rfl (Nat.le_of_ble_eq_true rfl) (Nat.le_of_ble_eq_true rfl) (zrv_v t1 rfl rfl) (Nat.le_of_ble_eq_true rfl) ?_
  refine cz_160 hd hs ?_
  show Gx E (d + 1) 162 3 [.ref a0, .int a1, .int a2, .retAddr 0, .retAddr 0] [.int (fz_160 E h a0 a1)] h Q
  refine zg_if_eq zi_162_3 (fun hc => ?_) (fun hc => ?_)
  · have hw := hw.1 hc
    refine zg_const (v := (-1)) zi_162_10 (by rfl) ?_
    exact zg_ireturn zi_162_11 (by decide) hw
  · have hw := hw.2 hc
    refine zg_iload zi_162_4 rfl ?_
    refine zg_i2l zi_162_5 ?_
    refine zg_lconst (v := 0) zi_162_6 (by rfl) ?_
    refine zg_lconst (v := 2) zi_162_7 (by rfl) ?_
    obtain ⟨hd, hs, hw⟩ := hw
    refine Gx.call2 (as := [.long a2.toInt64, .long 0, .long 2]) (rest := []) zq_135 zi_162_8 rfl rfl rfl (Nat.le_of_ble_eq_true rfl) (Nat.le_of_ble_eq_true rfl) (rfl) (Nat.le_of_ble_eq_true rfl) ?_
    refine cz_135 hd hs ?_
    show Gx E (d + 1) 162 9 [.ref a0, .int a1, .int a2, .retAddr 0, .retAddr 0] [.int (fz_135 E h a2.toInt64 0 2)] h Q
    refine zg_if_ne zi_162_9 (fun hc => ?_) (fun hc => ?_)
    · have hw := hw.1 hc
      refine zg_const (v := 0) zi_162_12 (by rfl) ?_
      refine zg_istore (ls1 := [.ref a0, .int a1, .int a2, .int 0, .retAddr 0]) zi_162_13 (Nat.le_of_ble_eq_true rfl) rfl ?_
      refine zg_const (v := 0) zi_162_14 (by rfl) ?_
      refine zg_istore (ls1 := [.ref a0, .int a1, .int a2, .int 0, .int 0]) zi_162_15 (Nat.le_of_ble_eq_true rfl) rfl ?_
      obtain ⟨mm, hw⟩ := hw
      exact okl_162_16 mm a0 a1 a2 0 0 h hw
    · have hw := hw.2 hc
      refine zg_const (v := (-1)) zi_162_10 (by rfl) ?_
      exact zg_ireturn zi_162_11 (by decide) hw
theorem zq_163 : zQ 163 3 3 11 := by unfold zQ; decide +kernel
theorem zi_163_0 : (zM 163).1[0]? = some (.aload 0) := by rfl
theorem zi_163_1 : (zM 163).1[1]? = some (.getfield 11220) := by rfl
theorem zi_163_2 : (zM 163).1[2]? = some (.iload 1) := by rfl
theorem zi_163_3 : (zM 163).1[3]? = some (.iaload) := by rfl
theorem zi_163_4 : (zM 163).1[4]? = some (.iconst (-4)) := by rfl
theorem zi_163_5 : (zM 163).1[5]? = some (.if_icmp .ne ((20 : Nat) : Int)) := by rfl
theorem zi_163_6 : (zM 163).1[6]? = some (.iload 2) := by rfl
theorem zi_163_7 : (zM 163).1[7]? = some (.i2l) := by rfl
theorem zi_163_8 : (zM 163).1[8]? = some (.aload 0) := by rfl
theorem zi_163_9 : (zM 163).1[9]? = some (.getfield 11215) := by rfl
theorem zi_163_10 : (zM 163).1[10]? = some (.iconst 3) := by rfl
theorem zi_163_11 : (zM 163).1[11]? = some (.iaload) := by rfl
theorem zi_163_12 : (zM 163).1[12]? = some (.i2l) := by rfl
theorem zi_163_13 : (zM 163).1[13]? = some (.aload 0) := by rfl
theorem zi_163_14 : (zM 163).1[14]? = some (.getfield 11215) := by rfl
theorem zi_163_15 : (zM 163).1[15]? = some (.iconst 4) := by rfl
theorem zi_163_16 : (zM 163).1[16]? = some (.iaload) := by rfl
theorem zi_163_17 : (zM 163).1[17]? = some (.i2l) := by rfl
theorem zi_163_18 : (zM 163).1[18]? = some (.invokestatic 135) := by rfl
theorem zi_163_19 : (zM 163).1[19]? = some (.goto ((25 : Nat) : Int)) := by rfl
theorem zi_163_20 : (zM 163).1[20]? = some (.iload 2) := by rfl
theorem zi_163_21 : (zM 163).1[21]? = some (.ifCond .ne ((24 : Nat) : Int)) := by rfl
theorem zi_163_22 : (zM 163).1[22]? = some (.iconst 1) := by rfl
theorem zi_163_23 : (zM 163).1[23]? = some (.goto ((25 : Nat) : Int)) := by rfl
theorem zi_163_24 : (zM 163).1[24]? = some (.iconst 0) := by rfl
theorem zi_163_25 : (zM 163).1[25]? = some (.ireturn) := by rfl
/-- TakeOrPayModel.mayBe(II)Z -/
def w_163 (E : Nat → Nat) (d : Nat) (a0 : Nat) (a1 : Int32) (a2 : Int32) (h : ZH) (Q : Option Value → ZH → Prop) : Prop := ztag h a0 = 11 ∧ ∃ r2 : Nat, zR h a0 20 = r2 + 1 ∧ (ztag h r2 = 13 ∨ ztag h r2 = 19) ∧ zin a1 (zlen h r2) = true ∧ (((¬ (zI h r2 a1.toNatClampNeg : Int32) = ((-4) : Int32) → (True)) ∧ (¬ (¬ (zI h r2 a1.toNatClampNeg : Int32) = ((-4) : Int32)) → (¬ zR h a0 15 = 0 ∧ (ztag h (zR h a0 15 - 1) = 13 ∨ ztag h (zR h a0 15 - 1) = 19) ∧ zin 3 (zlen h (zR h a0 15 - 1)) = true ∧ ¬ zR h a0 15 = 0 ∧ zin 4 (zlen h (zR h a0 15 - 1)) = true ∧ 1 ≤ d ∧ sz_135 E h a2.toInt64 ((zI h (zR h a0 15 - 1) 3 : Int32).toInt64) ((zI h (zR h a0 15 - 1) 4 : Int32).toInt64) ∧ True))) ∧ Q (some (.int (if ¬ (zI h r2 a1.toNatClampNeg : Int32) = ((-4) : Int32) then if ¬ a2 = 0 then 0 else 1 else fz_135 E h a2.toInt64 ((zI h (zR h a0 15 - 1) 3 : Int32).toInt64) ((zI h (zR h a0 15 - 1) 4 : Int32).toInt64)))) h)
set_option maxRecDepth 20000 in
theorem ok_163 {E : Nat → Nat} {d : Nat} {a0 : Nat} {a1 : Int32} {a2 : Int32} {h : ZH} {Q : Option Value → ZH → Prop} (hw : w_163 E d a0 a1 a2 h Q) : Ct E (d + 1) 163 [.ref a0, .int a1, .int a2] h Q := by
  unfold w_163 at hw
  show Gx E (d + 1) 163 0 [.ref a0, .int a1, .int a2] [] h Q
  refine zg_aload zi_163_0 rfl ?_
  obtain ⟨t1, hw⟩ := hw
  obtain ⟨r2, er2, hw⟩ := hw
  refine zg_getR (v := .ref r2) zi_163_1 t1 (by rfl) (by show zrv (zR h a0 20) = _; rw [er2]; rfl) ?_
  refine zg_iload zi_163_2 rfl ?_
  obtain ⟨t3, hw⟩ := hw
  obtain ⟨hb, hw⟩ := hw
  refine zg_iaload (v := .int (zI h r2 a1.toNatClampNeg)) zi_163_3 t3 hb rfl ?_
  refine zg_const (v := (-4)) zi_163_4 (by rfl) ?_
  obtain ⟨hsd5, hw⟩ := hw
  have g5 : Gx E (d + 1) 163 25 [.ref a0, .int a1, .int a2] [.int (if ¬ (zI h r2 a1.toNatClampNeg : Int32) = ((-4) : Int32) then if ¬ a2 = 0 then 0 else 1 else fz_135 E h a2.toInt64 ((zI h (zR h a0 15 - 1) 3 : Int32).toInt64) ((zI h (zR h a0 15 - 1) 4 : Int32).toInt64))] h Q := by
    exact zg_zreturn zi_163_25 (by (repeat' split) <;> first | (left; rfl) | (right; rfl) | exact fb_135) hw
  refine zg_icmp_ne zi_163_5 (fun hc5 => ?_) (fun hc5 => ?_)
  · have hw := hsd5.1 hc5
    refine zg_iload zi_163_20 rfl ?_
    have g21 : Gx E (d + 1) 163 25 [.ref a0, .int a1, .int a2] [.int (if ¬ a2 = 0 then 0 else 1)] h Q := by
      have hg := g5
      simp only [if_pos hc5] at hg
      exact hg
    refine zg_if_ne zi_163_21 (fun hc21 => ?_) (fun hc21 => ?_)
    · skip
      refine zg_const (v := 0) zi_163_24 (by rfl) ?_
      have hg := g21
      simp only [if_pos hc21] at hg
      exact hg
    · skip
      refine zg_const (v := 1) zi_163_22 (by rfl) ?_
      refine zg_goto zi_163_23 ?_
      have hg := g21
      simp only [if_neg hc21] at hg
      exact hg
  · have hw := hsd5.2 hc5
    refine zg_iload zi_163_6 rfl ?_
    refine zg_i2l zi_163_7 ?_
    refine zg_aload zi_163_8 rfl ?_
    obtain ⟨hr, hw⟩ := hw
    refine zg_getR (v := .ref (zR h a0 15 - 1)) zi_163_9 t1 (by rfl) (zrv_p hr) ?_
    refine zg_const (v := 3) zi_163_10 (by rfl) ?_
    obtain ⟨t4, hw⟩ := hw
    obtain ⟨hb, hw⟩ := hw
    refine zg_iaload (v := .int (zI h (zR h a0 15 - 1) 3)) zi_163_11 t4 hb rfl ?_
    refine zg_i2l zi_163_12 ?_
    refine zg_aload zi_163_13 rfl ?_
    obtain ⟨hr, hw⟩ := hw
    refine zg_getR (v := .ref (zR h a0 15 - 1)) zi_163_14 t1 (by rfl) (zrv_p hr) ?_
    refine zg_const (v := 4) zi_163_15 (by rfl) ?_
    obtain ⟨hb, hw⟩ := hw
    refine zg_iaload (v := .int (zI h (zR h a0 15 - 1) 4)) zi_163_16 t4 hb rfl ?_
    refine zg_i2l zi_163_17 ?_
    obtain ⟨hd, hs, hw⟩ := hw
    refine Gx.call2 (as := [.long a2.toInt64, .long ((zI h (zR h a0 15 - 1) 3 : Int32).toInt64), .long ((zI h (zR h a0 15 - 1) 4 : Int32).toInt64)]) (rest := []) zq_135 zi_163_18 rfl rfl rfl (Nat.le_of_ble_eq_true rfl) (Nat.le_of_ble_eq_true rfl) (rfl) (Nat.le_of_ble_eq_true rfl) ?_
    refine cz_135 hd hs ?_
    show Gx E (d + 1) 163 19 [.ref a0, .int a1, .int a2] [.int (fz_135 E h a2.toInt64 ((zI h (zR h a0 15 - 1) 3 : Int32).toInt64) ((zI h (zR h a0 15 - 1) 4 : Int32).toInt64))] h Q
    refine zg_goto zi_163_19 ?_
    have hg := g5
    simp only [if_neg hc5] at hg
    exact hg
def fz_163 (E : Nat → Nat) (h : ZH) (a0 : Nat) (a1 : Int32) (a2 : Int32) : Int32 := (fun r2 : Nat => if ¬ (zI h r2 a1.toNatClampNeg : Int32) = ((-4) : Int32) then if ¬ a2 = 0 then 0 else 1 else fz_135 E h a2.toInt64 ((zI h (zR h a0 15 - 1) 3 : Int32).toInt64) ((zI h (zR h a0 15 - 1) 4 : Int32).toInt64)) (zR h a0 20 - 1)
def sz_163 (E : Nat → Nat) (h : ZH) (a0 : Nat) (a1 : Int32) (a2 : Int32) : Prop := ztag h a0 = 11 ∧ ∃ r2 : Nat, zR h a0 20 = r2 + 1 ∧ (ztag h r2 = 13 ∨ ztag h r2 = 19) ∧ zin a1 (zlen h r2) = true ∧ (((¬ (zI h r2 a1.toNatClampNeg : Int32) = ((-4) : Int32) → (True)) ∧ (¬ (¬ (zI h r2 a1.toNatClampNeg : Int32) = ((-4) : Int32)) → (¬ zR h a0 15 = 0 ∧ (ztag h (zR h a0 15 - 1) = 13 ∨ ztag h (zR h a0 15 - 1) = 19) ∧ zin 3 (zlen h (zR h a0 15 - 1)) = true ∧ ¬ zR h a0 15 = 0 ∧ zin 4 (zlen h (zR h a0 15 - 1)) = true ∧ sz_135 E h a2.toInt64 ((zI h (zR h a0 15 - 1) 3 : Int32).toInt64) ((zI h (zR h a0 15 - 1) 4 : Int32).toInt64) ∧ True))) ∧ True)
set_option maxRecDepth 20000 in
theorem fb_163 {E : Nat → Nat} {h : ZH} {a0 : Nat} {a1 : Int32} {a2 : Int32} : fz_163 E h a0 a1 a2 = 0 ∨ fz_163 E h a0 a1 a2 = 1 := by
  unfold fz_163
  (try dsimp only)
  (repeat' split) <;> first | (left; rfl) | (right; rfl) | exact fb_135
set_option maxRecDepth 20000 in
theorem cz_163 {E : Nat → Nat} {d : Nat} {a0 : Nat} {a1 : Int32} {a2 : Int32} {h : ZH} {Q : Option Value → ZH → Prop} (hd : 2 ≤ d) (hs : sz_163 E h a0 a1 a2) (hq : Q (some (.int (fz_163 E h a0 a1 a2))) h) : Ct E d 163 [.ref a0, .int a1, .int a2] h Q := by
  obtain ⟨d, rfl⟩ : ∃ n, d = n + 1 := ⟨d - 1, by omega⟩
  refine ok_163 ?_
  unfold w_163
  unfold sz_163 at hs
  unfold fz_163 at hq
  refine ⟨hs.1, ?_⟩
  have hs := hs.2
  obtain ⟨r2, hr, hs⟩ := hs
  refine ⟨r2, hr, ?_⟩
  rw [hr] at hq
  simp only [Nat.add_sub_cancel] at hq
  refine ⟨hs.1, ?_⟩
  have hs := hs.2
  refine ⟨hs.1, ?_⟩
  have hs := hs.2
  refine ⟨⟨fun hc => ?_, fun hc => ?_⟩, ?_⟩
  · have hs := hs.1.1 hc
    trivial
  · have hs := hs.1.2 hc
    refine ⟨hs.1, ?_⟩
    have hs := hs.2
    refine ⟨hs.1, ?_⟩
    have hs := hs.2
    refine ⟨hs.1, ?_⟩
    have hs := hs.2
    refine ⟨hs.1, ?_⟩
    have hs := hs.2
    refine ⟨hs.1, ?_⟩
    have hs := hs.2
    refine ⟨by omega, ?_⟩
    refine ⟨hs.1, ?_⟩
    have hs := hs.2
    trivial
  have hs := hs.2
  exact hq
theorem zq_164 : zQ 164 2 2 11 := by unfold zQ; decide +kernel
theorem zi_164_0 : (zM 164).1[0]? = some (.iload 0) := by rfl
theorem zi_164_1 : (zM 164).1[1]? = some (.iload 1) := by rfl
theorem zi_164_2 : (zM 164).1[2]? = some (.if_icmp .ge ((5 : Nat) : Int)) := by rfl
theorem zi_164_3 : (zM 164).1[3]? = some (.iload 0) := by rfl
theorem zi_164_4 : (zM 164).1[4]? = some (.goto ((6 : Nat) : Int)) := by rfl
theorem zi_164_5 : (zM 164).1[5]? = some (.iload 1) := by rfl
theorem zi_164_6 : (zM 164).1[6]? = some (.ireturn) := by rfl
/-- TakeOrPayModel.less(II)I -/
def w_164 (E : Nat → Nat) (d : Nat) (a0 : Int32) (a1 : Int32) (h : ZH) (Q : Option Value → ZH → Prop) : Prop := Q (some (.int (if a1 ≤ a0 then a1 else a0))) h
set_option maxRecDepth 20000 in
theorem ok_164 {E : Nat → Nat} {d : Nat} {a0 : Int32} {a1 : Int32} {h : ZH} {Q : Option Value → ZH → Prop} (hw : w_164 E d a0 a1 h Q) : Ct E (d + 1) 164 [.int a0, .int a1] h Q := by
  unfold w_164 at hw
  show Gx E (d + 1) 164 0 [.int a0, .int a1] [] h Q
  refine zg_iload zi_164_0 rfl ?_
  refine zg_iload zi_164_1 rfl ?_
  have g2 : Gx E (d + 1) 164 6 [.int a0, .int a1] [.int (if a1 ≤ a0 then a1 else a0)] h Q := by
    exact zg_ireturn zi_164_6 (by decide) hw
  refine zg_icmp_ge zi_164_2 (fun hc2 => ?_) (fun hc2 => ?_)
  · skip
    refine zg_iload zi_164_5 rfl ?_
    have hg := g2
    simp only [if_pos hc2] at hg
    exact hg
  · skip
    refine zg_iload zi_164_3 rfl ?_
    refine zg_goto zi_164_4 ?_
    have hg := g2
    simp only [if_neg hc2] at hg
    exact hg
def fz_164 (E : Nat → Nat) (h : ZH) (a0 : Int32) (a1 : Int32) : Int32 := if a1 ≤ a0 then a1 else a0
def sz_164 (E : Nat → Nat) (h : ZH) (a0 : Int32) (a1 : Int32) : Prop := True
set_option maxRecDepth 20000 in
theorem cz_164 {E : Nat → Nat} {d : Nat} {a0 : Int32} {a1 : Int32} {h : ZH} {Q : Option Value → ZH → Prop} (hd : 1 ≤ d) (hs : sz_164 E h a0 a1) (hq : Q (some (.int (fz_164 E h a0 a1))) h) : Ct E d 164 [.int a0, .int a1] h Q := by
  obtain ⟨d, rfl⟩ : ∃ n, d = n + 1 := ⟨d - 1, by omega⟩
  refine ok_164 ?_
  unfold w_164
  unfold sz_164 at hs
  unfold fz_164 at hq
  exact hq
theorem zq_165 : zQ 165 3 4 11 := by unfold zQ; decide +kernel
theorem zi_165_0 : (zM 165).1[0]? = some (.aload 0) := by rfl
theorem zi_165_1 : (zM 165).1[1]? = some (.iload 1) := by rfl
theorem zi_165_2 : (zM 165).1[2]? = some (.invokevirtual 159) := by rfl
theorem zi_165_3 : (zM 165).1[3]? = some (.iload 2) := by rfl
theorem zi_165_4 : (zM 165).1[4]? = some (.isub) := by rfl
theorem zi_165_5 : (zM 165).1[5]? = some (.istore 3) := by rfl
theorem zi_165_6 : (zM 165).1[6]? = some (.iload 3) := by rfl
theorem zi_165_7 : (zM 165).1[7]? = some (.ifCond .ge ((10 : Nat) : Int)) := by rfl
theorem zi_165_8 : (zM 165).1[8]? = some (.iconst 0) := by rfl
theorem zi_165_9 : (zM 165).1[9]? = some (.goto ((11 : Nat) : Int)) := by rfl
theorem zi_165_10 : (zM 165).1[10]? = some (.iload 3) := by rfl
theorem zi_165_11 : (zM 165).1[11]? = some (.ireturn) := by rfl
/-- TakeOrPayModel.due(II)I -/
def w_165 (E : Nat → Nat) (d : Nat) (a0 : Nat) (a1 : Int32) (a2 : Int32) (h : ZH) (Q : Option Value → ZH → Prop) : Prop := ztag h a0 = 11 ∧ Ct E d 159 [.ref a0, .int a1] h (fun v h2 => ∃ x3 : Int32, v = some (.int x3) ∧ ∀ x4 : Int32, x4 = (x3 - a2) → Q (some (.int (if 0 ≤ x4 then x4 else 0))) h2)
set_option maxRecDepth 20000 in
theorem ok_165 {E : Nat → Nat} {d : Nat} {a0 : Nat} {a1 : Int32} {a2 : Int32} {h : ZH} {Q : Option Value → ZH → Prop} (hw : w_165 E d a0 a1 a2 h Q) : Ct E (d + 1) 165 [.ref a0, .int a1, .int a2] h Q := by
  unfold w_165 at hw
  show Gx E (d + 1) 165 0 [.ref a0, .int a1, .int a2, .retAddr 0] [] h Q
  refine zg_aload zi_165_0 rfl ?_
  refine zg_iload zi_165_1 rfl ?_
  obtain ⟨t1, hw⟩ := hw
  refine Gx.call2 (as := [.ref a0, .int a1]) (rest := []) zq_159 zi_165_2 rfl rfl rfl (Nat.le_of_ble_eq_true rfl) (Nat.le_of_ble_eq_true rfl) (zrv_v t1 rfl rfl) (Nat.le_of_ble_eq_true rfl) ?_
  refine Ct.mono hw ?_
  rintro v h2 ⟨x3, rfl, hw⟩
  show Gx E (d + 1) 165 3 [.ref a0, .int a1, .int a2, .retAddr 0] [.int x3] h2 Q
  refine zg_iload zi_165_3 rfl ?_
  refine zg_isub zi_165_4 ?_
  refine zg_nameI fun x4 ex4 => ?_
  have hw := hw x4 ex4
  refine zg_istore (ls1 := [.ref a0, .int a1, .int a2, .int x4]) zi_165_5 (Nat.le_of_ble_eq_true rfl) rfl ?_
  refine zg_iload zi_165_6 rfl ?_
  have g7 : Gx E (d + 1) 165 11 [.ref a0, .int a1, .int a2, .int x4] [.int (if 0 ≤ x4 then x4 else 0)] h2 Q := by
    exact zg_ireturn zi_165_11 (by decide) hw
  refine zg_if_ge zi_165_7 (fun hc7 => ?_) (fun hc7 => ?_)
  · skip
    refine zg_iload zi_165_10 rfl ?_
    have hg := g7
    simp only [if_pos hc7] at hg
    exact hg
  · skip
    refine zg_const (v := 0) zi_165_8 (by rfl) ?_
    refine zg_goto zi_165_9 ?_
    have hg := g7
    simp only [if_neg hc7] at hg
    exact hg
theorem zq_166 : zQ 166 2 2 11 := by unfold zQ; decide +kernel
theorem zi_166_0 : (zM 166).1[0]? = some (.aload 0) := by rfl
theorem zi_166_1 : (zM 166).1[1]? = some (.getfield 11215) := by rfl
theorem zi_166_2 : (zM 166).1[2]? = some (.iconst 16) := by rfl
theorem zi_166_3 : (zM 166).1[3]? = some (.iload 1) := by rfl
theorem zi_166_4 : (zM 166).1[4]? = some (.iadd) := by rfl
theorem zi_166_5 : (zM 166).1[5]? = some (.iaload) := by rfl
theorem zi_166_6 : (zM 166).1[6]? = some (.ireturn) := by rfl
/-- TakeOrPayModel.price(I)I -/
def w_166 (E : Nat → Nat) (d : Nat) (a0 : Nat) (a1 : Int32) (h : ZH) (Q : Option Value → ZH → Prop) : Prop := ztag h a0 = 11 ∧ ∃ r2 : Nat, zR h a0 15 = r2 + 1 ∧ (ztag h r2 = 13 ∨ ztag h r2 = 19) ∧ zin (16 + a1) (zlen h r2) = true ∧ Q (some (.int (zI h r2 (16 + a1 : Int32).toNatClampNeg))) h
set_option maxRecDepth 20000 in
theorem ok_166 {E : Nat → Nat} {d : Nat} {a0 : Nat} {a1 : Int32} {h : ZH} {Q : Option Value → ZH → Prop} (hw : w_166 E d a0 a1 h Q) : Ct E (d + 1) 166 [.ref a0, .int a1] h Q := by
  unfold w_166 at hw
  show Gx E (d + 1) 166 0 [.ref a0, .int a1] [] h Q
  refine zg_aload zi_166_0 rfl ?_
  obtain ⟨t1, hw⟩ := hw
  obtain ⟨r2, er2, hw⟩ := hw
  refine zg_getR (v := .ref r2) zi_166_1 t1 (by rfl) (by show zrv (zR h a0 15) = _; rw [er2]; rfl) ?_
  refine zg_const (v := 16) zi_166_2 (by rfl) ?_
  refine zg_iload zi_166_3 rfl ?_
  refine zg_iadd zi_166_4 ?_
  obtain ⟨t3, hw⟩ := hw
  obtain ⟨hb, hw⟩ := hw
  refine zg_iaload (v := .int (zI h r2 (16 + a1 : Int32).toNatClampNeg)) zi_166_5 t3 hb rfl ?_
  exact zg_ireturn zi_166_6 (by decide) hw
def fz_166 (E : Nat → Nat) (h : ZH) (a0 : Nat) (a1 : Int32) : Int32 := (fun r2 : Nat => zI h r2 (16 + a1 : Int32).toNatClampNeg) (zR h a0 15 - 1)
def sz_166 (E : Nat → Nat) (h : ZH) (a0 : Nat) (a1 : Int32) : Prop := ztag h a0 = 11 ∧ ∃ r2 : Nat, zR h a0 15 = r2 + 1 ∧ (ztag h r2 = 13 ∨ ztag h r2 = 19) ∧ zin (16 + a1) (zlen h r2) = true ∧ True
set_option maxRecDepth 20000 in
theorem cz_166 {E : Nat → Nat} {d : Nat} {a0 : Nat} {a1 : Int32} {h : ZH} {Q : Option Value → ZH → Prop} (hd : 1 ≤ d) (hs : sz_166 E h a0 a1) (hq : Q (some (.int (fz_166 E h a0 a1))) h) : Ct E d 166 [.ref a0, .int a1] h Q := by
  obtain ⟨d, rfl⟩ : ∃ n, d = n + 1 := ⟨d - 1, by omega⟩
  refine ok_166 ?_
  unfold w_166
  unfold sz_166 at hs
  unfold fz_166 at hq
  refine ⟨hs.1, ?_⟩
  have hs := hs.2
  obtain ⟨r2, hr, hs⟩ := hs
  refine ⟨r2, hr, ?_⟩
  rw [hr] at hq
  simp only [Nat.add_sub_cancel] at hq
  refine ⟨hs.1, ?_⟩
  have hs := hs.2
  refine ⟨hs.1, ?_⟩
  have hs := hs.2
  exact hq
theorem zq_167 : zQ 167 7 13 11 := by unfold zQ; decide +kernel
theorem zi_167_0 : (zM 167).1[0]? = some (.iload 1) := by rfl
theorem zi_167_1 : (zM 167).1[1]? = some (.aload 0) := by rfl
theorem zi_167_2 : (zM 167).1[2]? = some (.getfield 11215) := by rfl
theorem zi_167_3 : (zM 167).1[3]? = some (.iconst 1) := by rfl
theorem zi_167_4 : (zM 167).1[4]? = some (.iaload) := by rfl
theorem zi_167_5 : (zM 167).1[5]? = some (.idiv) := by rfl
theorem zi_167_6 : (zM 167).1[6]? = some (.istore 7) := by rfl
theorem zi_167_7 : (zM 167).1[7]? = some (.aload 0) := by rfl
theorem zi_167_8 : (zM 167).1[8]? = some (.iload 7) := by rfl
theorem zi_167_9 : (zM 167).1[9]? = some (.iload 4) := by rfl
theorem zi_167_10 : (zM 167).1[10]? = some (.invokevirtual 165) := by rfl
theorem zi_167_11 : (zM 167).1[11]? = some (.iload 2) := by rfl
theorem zi_167_12 : (zM 167).1[12]? = some (.isub) := by rfl
theorem zi_167_13 : (zM 167).1[13]? = some (.istore 8) := by rfl
theorem zi_167_14 : (zM 167).1[14]? = some (.aload 0) := by rfl
theorem zi_167_15 : (zM 167).1[15]? = some (.getfield 11215) := by rfl
theorem zi_167_16 : (zM 167).1[16]? = some (.iconst 9) := by rfl
theorem zi_167_17 : (zM 167).1[17]? = some (.iaload) := by rfl
theorem zi_167_18 : (zM 167).1[18]? = some (.iconst 2) := by rfl
theorem zi_167_19 : (zM 167).1[19]? = some (.if_icmp .ne ((28 : Nat) : Int)) := by rfl
theorem zi_167_20 : (zM 167).1[20]? = some (.iload 8) := by rfl
theorem zi_167_21 : (zM 167).1[21]? = some (.ifCond .le ((28 : Nat) : Int)) := by rfl
theorem zi_167_22 : (zM 167).1[22]? = some (.iload 6) := by rfl
theorem zi_167_23 : (zM 167).1[23]? = some (.iload 6) := by rfl
theorem zi_167_24 : (zM 167).1[24]? = some (.iload 8) := by rfl
theorem zi_167_25 : (zM 167).1[25]? = some (.invokestatic 164) := by rfl
theorem zi_167_26 : (zM 167).1[26]? = some (.isub) := by rfl
theorem zi_167_27 : (zM 167).1[27]? = some (.goto ((29 : Nat) : Int)) := by rfl
theorem zi_167_28 : (zM 167).1[28]? = some (.iload 6) := by rfl
theorem zi_167_29 : (zM 167).1[29]? = some (.istore 9) := by rfl
theorem zi_167_30 : (zM 167).1[30]? = some (.aload 0) := by rfl
theorem zi_167_31 : (zM 167).1[31]? = some (.aload 0) := by rfl
theorem zi_167_32 : (zM 167).1[32]? = some (.getfield 11215) := by rfl
theorem zi_167_33 : (zM 167).1[33]? = some (.iconst 9) := by rfl
theorem zi_167_34 : (zM 167).1[34]? = some (.iaload) := by rfl
theorem zi_167_35 : (zM 167).1[35]? = some (.ifCond .ne ((38 : Nat) : Int)) := by rfl
theorem zi_167_36 : (zM 167).1[36]? = some (.iconst 0) := by rfl
theorem zi_167_37 : (zM 167).1[37]? = some (.goto ((41 : Nat) : Int)) := by rfl
theorem zi_167_38 : (zM 167).1[38]? = some (.iload 9) := by rfl
theorem zi_167_39 : (zM 167).1[39]? = some (.iload 3) := by rfl
theorem zi_167_40 : (zM 167).1[40]? = some (.invokestatic 164) := by rfl
theorem zi_167_41 : (zM 167).1[41]? = some (.putfield 11024) := by rfl
theorem zi_167_42 : (zM 167).1[42]? = some (.iload 6) := by rfl
theorem zi_167_43 : (zM 167).1[43]? = some (.aload 0) := by rfl
theorem zi_167_44 : (zM 167).1[44]? = some (.getfield 11024) := by rfl
theorem zi_167_45 : (zM 167).1[45]? = some (.isub) := by rfl
theorem zi_167_46 : (zM 167).1[46]? = some (.istore 10) := by rfl
theorem zi_167_47 : (zM 167).1[47]? = some (.aload 0) := by rfl
theorem zi_167_48 : (zM 167).1[48]? = some (.iload 2) := by rfl
theorem zi_167_49 : (zM 167).1[49]? = some (.iload 10) := by rfl
theorem zi_167_50 : (zM 167).1[50]? = some (.iadd) := by rfl
theorem zi_167_51 : (zM 167).1[51]? = some (.putfield 11021) := by rfl
theorem zi_167_52 : (zM 167).1[52]? = some (.aload 0) := by rfl
theorem zi_167_53 : (zM 167).1[53]? = some (.iload 3) := by rfl
theorem zi_167_54 : (zM 167).1[54]? = some (.aload 0) := by rfl
theorem zi_167_55 : (zM 167).1[55]? = some (.getfield 11024) := by rfl
theorem zi_167_56 : (zM 167).1[56]? = some (.isub) := by rfl
theorem zi_167_57 : (zM 167).1[57]? = some (.putfield 11022) := by rfl
theorem zi_167_58 : (zM 167).1[58]? = some (.aload 0) := by rfl
theorem zi_167_59 : (zM 167).1[59]? = some (.iload 7) := by rfl
theorem zi_167_60 : (zM 167).1[60]? = some (.invokevirtual 158) := by rfl
theorem zi_167_61 : (zM 167).1[61]? = some (.istore 11) := by rfl
theorem zi_167_62 : (zM 167).1[62]? = some (.aload 0) := by rfl
theorem zi_167_63 : (zM 167).1[63]? = some (.getfield 11021) := by rfl
theorem zi_167_64 : (zM 167).1[64]? = some (.iload 2) := by rfl
theorem zi_167_65 : (zM 167).1[65]? = some (.iload 11) := by rfl
theorem zi_167_66 : (zM 167).1[66]? = some (.if_icmp .le ((69 : Nat) : Int)) := by rfl
theorem zi_167_67 : (zM 167).1[67]? = some (.iload 2) := by rfl
theorem zi_167_68 : (zM 167).1[68]? = some (.goto ((70 : Nat) : Int)) := by rfl
theorem zi_167_69 : (zM 167).1[69]? = some (.iload 11) := by rfl
theorem zi_167_70 : (zM 167).1[70]? = some (.isub) := by rfl
theorem zi_167_71 : (zM 167).1[71]? = some (.istore 12) := by rfl
theorem zi_167_72 : (zM 167).1[72]? = some (.iload 12) := by rfl
theorem zi_167_73 : (zM 167).1[73]? = some (.ifCond .ge ((76 : Nat) : Int)) := by rfl
theorem zi_167_74 : (zM 167).1[74]? = some (.iconst 0) := by rfl
theorem zi_167_75 : (zM 167).1[75]? = some (.goto ((77 : Nat) : Int)) := by rfl
theorem zi_167_76 : (zM 167).1[76]? = some (.iload 12) := by rfl
theorem zi_167_77 : (zM 167).1[77]? = some (.istore 12) := by rfl
theorem zi_167_78 : (zM 167).1[78]? = some (.aload 0) := by rfl
theorem zi_167_79 : (zM 167).1[79]? = some (.iload 10) := by rfl
theorem zi_167_80 : (zM 167).1[80]? = some (.aload 0) := by rfl
theorem zi_167_81 : (zM 167).1[81]? = some (.getfield 11215) := by rfl
theorem zi_167_82 : (zM 167).1[82]? = some (.iconst 6) := by rfl
theorem zi_167_83 : (zM 167).1[83]? = some (.iaload) := by rfl
theorem zi_167_84 : (zM 167).1[84]? = some (.iconst 100) := by rfl
theorem zi_167_85 : (zM 167).1[85]? = some (.aload 0) := by rfl
theorem zi_167_86 : (zM 167).1[86]? = some (.getfield 11215) := by rfl
theorem zi_167_87 : (zM 167).1[87]? = some (.iconst 7) := by rfl
theorem zi_167_88 : (zM 167).1[88]? = some (.iaload) := by rfl
theorem zi_167_89 : (zM 167).1[89]? = some (.isub) := by rfl
theorem zi_167_90 : (zM 167).1[90]? = some (.imul) := by rfl
theorem zi_167_91 : (zM 167).1[91]? = some (.aload 0) := by rfl
theorem zi_167_92 : (zM 167).1[92]? = some (.iload 5) := by rfl
theorem zi_167_93 : (zM 167).1[93]? = some (.invokevirtual 166) := by rfl
theorem zi_167_94 : (zM 167).1[94]? = some (.aload 0) := by rfl
theorem zi_167_95 : (zM 167).1[95]? = some (.getfield 11215) := by rfl
theorem zi_167_96 : (zM 167).1[96]? = some (.iconst 7) := by rfl
theorem zi_167_97 : (zM 167).1[97]? = some (.iaload) := by rfl
theorem zi_167_98 : (zM 167).1[98]? = some (.imul) := by rfl
theorem zi_167_99 : (zM 167).1[99]? = some (.iadd) := by rfl
theorem zi_167_100 : (zM 167).1[100]? = some (.imul) := by rfl
theorem zi_167_101 : (zM 167).1[101]? = some (.iconst 100) := by rfl
theorem zi_167_102 : (zM 167).1[102]? = some (.aload 0) := by rfl
theorem zi_167_103 : (zM 167).1[103]? = some (.getfield 11215) := by rfl
theorem zi_167_104 : (zM 167).1[104]? = some (.iconst 8) := by rfl
theorem zi_167_105 : (zM 167).1[105]? = some (.iaload) := by rfl
theorem zi_167_106 : (zM 167).1[106]? = some (.imul) := by rfl
theorem zi_167_107 : (zM 167).1[107]? = some (.iload 12) := by rfl
theorem zi_167_108 : (zM 167).1[108]? = some (.imul) := by rfl
theorem zi_167_109 : (zM 167).1[109]? = some (.iadd) := by rfl
theorem zi_167_110 : (zM 167).1[110]? = some (.iconst 100) := by rfl
theorem zi_167_111 : (zM 167).1[111]? = some (.aload 0) := by rfl
theorem zi_167_112 : (zM 167).1[112]? = some (.getfield 11215) := by rfl
theorem zi_167_113 : (zM 167).1[113]? = some (.iconst 10) := by rfl
theorem zi_167_114 : (zM 167).1[114]? = some (.iaload) := by rfl
theorem zi_167_115 : (zM 167).1[115]? = some (.imul) := by rfl
theorem zi_167_116 : (zM 167).1[116]? = some (.aload 0) := by rfl
theorem zi_167_117 : (zM 167).1[117]? = some (.getfield 11024) := by rfl
theorem zi_167_118 : (zM 167).1[118]? = some (.imul) := by rfl
theorem zi_167_119 : (zM 167).1[119]? = some (.iadd) := by rfl
theorem zi_167_120 : (zM 167).1[120]? = some (.putfield 11023) := by rfl
theorem zi_167_121 : (zM 167).1[121]? = some (.return_) := by rfl
/-- TakeOrPayModel.take(IIIIII)V -/
def w_167 (E : Nat → Nat) (d : Nat) (a0 : Nat) (a1 : Int32) (a2 : Int32) (a3 : Int32) (a4 : Int32) (a5 : Int32) (a6 : Int32) (h : ZH) (Q : Option Value → ZH → Prop) : Prop := ztag h a0 = 11 ∧ ∃ r2 : Nat, zR h a0 15 = r2 + 1 ∧ (ztag h r2 = 13 ∨ ztag h r2 = 19) ∧ zin 1 (zlen h r2) = true ∧ ¬ (zI h r2 1) = 0 ∧ ∀ x4 : Int32, x4 = (a1 / (zI h r2 1)) → Ct E d 165 [.ref a0, .int x4, .int a4] h (fun v h5 => ∃ x6 : Int32, v = some (.int x6) ∧ ∀ x7 : Int32, x7 = (x6 - a2) → ztag h5 a0 = 11 ∧ ∃ r9 : Nat, zR h5 a0 15 = r9 + 1 ∧ (ztag h5 r9 = 13 ∨ ztag h5 r9 = 19) ∧ zin 9 (zlen h5 r9) = true ∧ (((¬ (zI h5 r9 9 : Int32) = 2 → (True)) ∧ (¬ (¬ (zI h5 r9 9 : Int32) = 2) → (((x7 ≤ 0 → (True)) ∧ (¬ (x7 ≤ 0) → (1 ≤ d ∧ sz_164 E h5 a6 x7 ∧ True))) ∧ True))) ∧ ∀ x11 : Int32, x11 = (if ¬ (zI h5 r9 9 : Int32) = 2 then a6 else if x7 ≤ 0 then a6 else a6 - (fz_164 E h5 a6 x7)) → zin 9 (zlen h5 r9) = true ∧ (((¬ (zI h5 r9 9 : Int32) = 0 → (1 ≤ d ∧ sz_164 E h5 x11 a3 ∧ True)) ∧ (¬ (¬ (zI h5 r9 9 : Int32) = 0) → (True))) ∧ ∀ h12 : ZH, h12 = (zuI h5 a0 24 (if ¬ (zI h5 r9 9 : Int32) = 0 then fz_164 E h5 x11 a3 else 0)) → ∀ x13 : Int32, x13 = (a6 - (zI h12 a0 24)) → ∀ h14 : ZH, h14 = (zuI h12 a0 21 (a2 + x13)) → ∀ h15 : ZH, h15 = (zuI h14 a0 22 (a3 - (zI h14 a0 24))) → Ct E d 158 [.ref a0, .int x4] h15 (fun v h16 => ∃ x17 : Int32, v = some (.int x17) ∧ ztag h16 a0 = 11 ∧ ∀ x19 : Int32, x19 = ((zI h16 a0 21) - (if a2 ≤ x17 then x17 else a2)) → ∀ x20 : Int32, x20 = (if 0 ≤ x19 then x19 else 0) → ∃ r21 : Nat, zR h16 a0 15 = r21 + 1 ∧ (ztag h16 r21 = 13 ∨ ztag h16 r21 = 19) ∧ zin 6 (zlen h16 r21) = true ∧ zin 7 (zlen h16 r21) = true ∧ 1 ≤ d ∧ sz_166 E h16 a0 a5 ∧ zin 7 (zlen h16 r21) = true ∧ zin 8 (zlen h16 r21) = true ∧ zin 10 (zlen h16 r21) = true ∧ ∀ h23 : ZH, h23 = (zuI h16 a0 23 (((x13 * (((zI h16 r21 6) * (100 - (zI h16 r21 7))) + ((fz_166 E h16 a0 a5) * (zI h16 r21 7)))) + ((100 * (zI h16 r21 8)) * x20)) + ((100 * (zI h16 r21 10)) * (zI h16 a0 24)))) → Q none h23))))
set_option maxRecDepth 20000 in
theorem ok_167 {E : Nat → Nat} {d : Nat} {a0 : Nat} {a1 : Int32} {a2 : Int32} {a3 : Int32} {a4 : Int32} {a5 : Int32} {a6 : Int32} {h : ZH} {Q : Option Value → ZH → Prop} (hw : w_167 E d a0 a1 a2 a3 a4 a5 a6 h Q) : Ct E (d + 1) 167 [.ref a0, .int a1, .int a2, .int a3, .int a4, .int a5, .int a6] h Q := by
  unfold w_167 at hw
  show Gx E (d + 1) 167 0 [.ref a0, .int a1, .int a2, .int a3, .int a4, .int a5, .int a6, .retAddr 0, .retAddr 0, .retAddr 0, .retAddr 0, .retAddr 0, .retAddr 0] [] h Q
  refine zg_iload zi_167_0 rfl ?_
  refine zg_aload zi_167_1 rfl ?_
  obtain ⟨t1, hw⟩ := hw
  obtain ⟨r2, er2, hw⟩ := hw
  refine zg_getR (v := .ref r2) zi_167_2 t1 (by rfl) (by show zrv (zR h a0 15) = _; rw [er2]; rfl) ?_
  refine zg_const (v := 1) zi_167_3 (by rfl) ?_
  obtain ⟨t3, hw⟩ := hw
  obtain ⟨hb, hw⟩ := hw
  refine zg_iaload (v := .int (zI h r2 1)) zi_167_4 t3 hb rfl ?_
  obtain ⟨hc, hw⟩ := hw
  refine zg_idiv zi_167_5 hc ?_
  refine zg_nameI fun x4 ex4 => ?_
  have hw := hw x4 ex4
  refine zg_istore (ls1 := [.ref a0, .int a1, .int a2, .int a3, .int a4, .int a5, .int a6, .int x4, .retAddr 0, .retAddr 0, .retAddr 0, .retAddr 0, .retAddr 0]) zi_167_6 (Nat.le_of_ble_eq_true rfl) rfl ?_
  refine zg_aload zi_167_7 rfl ?_
  refine zg_iload zi_167_8 rfl ?_
  refine zg_iload zi_167_9 rfl ?_
  refine Gx.call2 (as := [.ref a0, .int x4, .int a4]) (rest := []) zq_165 zi_167_10 rfl rfl rfl (Nat.le_of_ble_eq_true rfl) (Nat.le_of_ble_eq_true rfl) (zrv_v t1 rfl rfl) (Nat.le_of_ble_eq_true rfl) ?_
  refine Ct.mono hw ?_
  rintro v h5 ⟨x6, rfl, hw⟩
  show Gx E (d + 1) 167 11 [.ref a0, .int a1, .int a2, .int a3, .int a4, .int a5, .int a6, .int x4, .retAddr 0, .retAddr 0, .retAddr 0, .retAddr 0, .retAddr 0] [.int x6] h5 Q
  refine zg_iload zi_167_11 rfl ?_
  refine zg_isub zi_167_12 ?_
  refine zg_nameI fun x7 ex7 => ?_
  have hw := hw x7 ex7
  refine zg_istore (ls1 := [.ref a0, .int a1, .int a2, .int a3, .int a4, .int a5, .int a6, .int x4, .int x7, .retAddr 0, .retAddr 0, .retAddr 0, .retAddr 0]) zi_167_13 (Nat.le_of_ble_eq_true rfl) rfl ?_
  refine zg_aload zi_167_14 rfl ?_
  obtain ⟨t8, hw⟩ := hw
  obtain ⟨r9, er9, hw⟩ := hw
  refine zg_getR (v := .ref r9) zi_167_15 t8 (by rfl) (by show zrv (zR h5 a0 15) = _; rw [er9]; rfl) ?_
  refine zg_const (v := 9) zi_167_16 (by rfl) ?_
  obtain ⟨t10, hw⟩ := hw
  obtain ⟨hb, hw⟩ := hw
  refine zg_iaload (v := .int (zI h5 r9 9)) zi_167_17 t10 hb rfl ?_
  refine zg_const (v := 2) zi_167_18 (by rfl) ?_
  obtain ⟨hsd19, hw⟩ := hw
  have g19 : Gx E (d + 1) 167 29 [.ref a0, .int a1, .int a2, .int a3, .int a4, .int a5, .int a6, .int x4, .int x7, .retAddr 0, .retAddr 0, .retAddr 0, .retAddr 0] [.int (if ¬ (zI h5 r9 9 : Int32) = 2 then a6 else if x7 ≤ 0 then a6 else a6 - (fz_164 E h5 a6 x7))] h5 Q := by
    refine zg_nameI fun x11 ex11 => ?_
    have hw := hw x11 ex11
    refine zg_istore (ls1 := [.ref a0, .int a1, .int a2, .int a3, .int a4, .int a5, .int a6, .int x4, .int x7, .int x11, .retAddr 0, .retAddr 0, .retAddr 0]) zi_167_29 (Nat.le_of_ble_eq_true rfl) rfl ?_
    refine zg_aload zi_167_30 rfl ?_
    refine zg_aload zi_167_31 rfl ?_
    refine zg_getR (v := .ref r9) zi_167_32 t8 (by rfl) (by show zrv (zR h5 a0 15) = _; rw [er9]; rfl) ?_
    refine zg_const (v := 9) zi_167_33 (by rfl) ?_
    obtain ⟨hb, hw⟩ := hw
    refine zg_iaload (v := .int (zI h5 r9 9)) zi_167_34 t10 hb rfl ?_
    obtain ⟨hsd35, hw⟩ := hw
    have g35 : Gx E (d + 1) 167 41 [.ref a0, .int a1, .int a2, .int a3, .int a4, .int a5, .int a6, .int x4, .int x7, .int x11, .retAddr 0, .retAddr 0, .retAddr 0] [.int (if ¬ (zI h5 r9 9 : Int32) = 0 then fz_164 E h5 x11 a3 else 0), .ref a0] h5 Q := by
      refine zg_putI (h1 := zuI h5 a0 24 (if ¬ (zI h5 r9 9 : Int32) = 0 then fz_164 E h5 x11 a3 else 0)) zi_167_41 t8 (by rfl) rfl ?_
      refine zg_nameH fun h12 eh12 => ?_
      have hw := hw h12 eh12
      refine zg_iload zi_167_42 rfl ?_
      refine zg_aload zi_167_43 rfl ?_
      refine zg_getI (v := .int (zI h12 a0 24)) zi_167_44 (by rw [eh12]; exact t8) (by rfl) rfl ?_
      refine zg_isub zi_167_45 ?_
      refine zg_nameI fun x13 ex13 => ?_
      have hw := hw x13 ex13
      refine zg_istore (ls1 := [.ref a0, .int a1, .int a2, .int a3, .int a4, .int a5, .int a6, .int x4, .int x7, .int x11, .int x13, .retAddr 0, .retAddr 0]) zi_167_46 (Nat.le_of_ble_eq_true rfl) rfl ?_
      refine zg_aload zi_167_47 rfl ?_
      refine zg_iload zi_167_48 rfl ?_
      refine zg_iload zi_167_49 rfl ?_
      refine zg_iadd zi_167_50 ?_
      refine zg_putI (h1 := zuI h12 a0 21 (a2 + x13)) zi_167_51 (by rw [eh12]; exact t8) (by rfl) rfl ?_
      refine zg_nameH fun h14 eh14 => ?_
      have hw := hw h14 eh14
      refine zg_aload zi_167_52 rfl ?_
      refine zg_iload zi_167_53 rfl ?_
      refine zg_aload zi_167_54 rfl ?_
      refine zg_getI (v := .int (zI h14 a0 24)) zi_167_55 (by rw [eh14, eh12]; exact t8) (by rfl) rfl ?_
      refine zg_isub zi_167_56 ?_
      refine zg_putI (h1 := zuI h14 a0 22 (a3 - (zI h14 a0 24))) zi_167_57 (by rw [eh14, eh12]; exact t8) (by rfl) rfl ?_
      refine zg_nameH fun h15 eh15 => ?_
      have hw := hw h15 eh15
      refine zg_aload zi_167_58 rfl ?_
      refine zg_iload zi_167_59 rfl ?_
      refine Gx.call2 (as := [.ref a0, .int x4]) (rest := []) zq_158 zi_167_60 rfl rfl rfl (Nat.le_of_ble_eq_true rfl) (Nat.le_of_ble_eq_true rfl) (zrv_v (by rw [eh15, eh14, eh12]; exact t8) rfl rfl) (Nat.le_of_ble_eq_true rfl) ?_
      refine Ct.mono hw ?_
      rintro v h16 ⟨x17, rfl, hw⟩
      show Gx E (d + 1) 167 61 [.ref a0, .int a1, .int a2, .int a3, .int a4, .int a5, .int a6, .int x4, .int x7, .int x11, .int x13, .retAddr 0, .retAddr 0] [.int x17] h16 Q
      refine zg_istore (ls1 := [.ref a0, .int a1, .int a2, .int a3, .int a4, .int a5, .int a6, .int x4, .int x7, .int x11, .int x13, .int x17, .retAddr 0]) zi_167_61 (Nat.le_of_ble_eq_true rfl) rfl ?_
      refine zg_aload zi_167_62 rfl ?_
      obtain ⟨t18, hw⟩ := hw
      refine zg_getI (v := .int (zI h16 a0 21)) zi_167_63 t18 (by rfl) rfl ?_
      refine zg_iload zi_167_64 rfl ?_
      refine zg_iload zi_167_65 rfl ?_
      have g66 : Gx E (d + 1) 167 70 [.ref a0, .int a1, .int a2, .int a3, .int a4, .int a5, .int a6, .int x4, .int x7, .int x11, .int x13, .int x17, .retAddr 0] [.int (if a2 ≤ x17 then x17 else a2), .int (zI h16 a0 21)] h16 Q := by
        refine zg_isub zi_167_70 ?_
        refine zg_nameI fun x19 ex19 => ?_
        have hw := hw x19 ex19
        refine zg_istore (ls1 := [.ref a0, .int a1, .int a2, .int a3, .int a4, .int a5, .int a6, .int x4, .int x7, .int x11, .int x13, .int x17, .int x19]) zi_167_71 (Nat.le_of_ble_eq_true rfl) rfl ?_
        refine zg_iload zi_167_72 rfl ?_
        have g73 : Gx E (d + 1) 167 77 [.ref a0, .int a1, .int a2, .int a3, .int a4, .int a5, .int a6, .int x4, .int x7, .int x11, .int x13, .int x17, .int x19] [.int (if 0 ≤ x19 then x19 else 0)] h16 Q := by
          refine zg_nameI fun x20 ex20 => ?_
          have hw := hw x20 ex20
          refine zg_istore (ls1 := [.ref a0, .int a1, .int a2, .int a3, .int a4, .int a5, .int a6, .int x4, .int x7, .int x11, .int x13, .int x17, .int x20]) zi_167_77 (Nat.le_of_ble_eq_true rfl) rfl ?_
          refine zg_aload zi_167_78 rfl ?_
          refine zg_iload zi_167_79 rfl ?_
          refine zg_aload zi_167_80 rfl ?_
          obtain ⟨r21, er21, hw⟩ := hw
          refine zg_getR (v := .ref r21) zi_167_81 t18 (by rfl) (by show zrv (zR h16 a0 15) = _; rw [er21]; rfl) ?_
          refine zg_const (v := 6) zi_167_82 (by rfl) ?_
          obtain ⟨t22, hw⟩ := hw
          obtain ⟨hb, hw⟩ := hw
          refine zg_iaload (v := .int (zI h16 r21 6)) zi_167_83 t22 hb rfl ?_
          refine zg_const (v := 100) zi_167_84 (by rfl) ?_
          refine zg_aload zi_167_85 rfl ?_
          refine zg_getR (v := .ref r21) zi_167_86 t18 (by rfl) (by show zrv (zR h16 a0 15) = _; rw [er21]; rfl) ?_
          refine zg_const (v := 7) zi_167_87 (by rfl) ?_
          obtain ⟨hb, hw⟩ := hw
          refine zg_iaload (v := .int (zI h16 r21 7)) zi_167_88 t22 hb rfl ?_
          refine zg_isub zi_167_89 ?_
          refine zg_imul zi_167_90 ?_
          refine zg_aload zi_167_91 rfl ?_
          refine zg_iload zi_167_92 rfl ?_
          obtain ⟨hd, hs, hw⟩ := hw
          refine Gx.call2 (as := [.ref a0, .int a5]) (rest := [.int ((zI h16 r21 6) * (100 - (zI h16 r21 7))), .int x13, .ref a0]) zq_166 zi_167_93 rfl rfl rfl (Nat.le_of_ble_eq_true rfl) (Nat.le_of_ble_eq_true rfl) (zrv_v t18 rfl rfl) (Nat.le_of_ble_eq_true rfl) ?_
          refine cz_166 hd hs ?_
          show Gx E (d + 1) 167 94 [.ref a0, .int a1, .int a2, .int a3, .int a4, .int a5, .int a6, .int x4, .int x7, .int x11, .int x13, .int x17, .int x20] [.int (fz_166 E h16 a0 a5), .int ((zI h16 r21 6) * (100 - (zI h16 r21 7))), .int x13, .ref a0] h16 Q
          refine zg_aload zi_167_94 rfl ?_
          refine zg_getR (v := .ref r21) zi_167_95 t18 (by rfl) (by show zrv (zR h16 a0 15) = _; rw [er21]; rfl) ?_
          refine zg_const (v := 7) zi_167_96 (by rfl) ?_
          obtain ⟨hb, hw⟩ := hw
          refine zg_iaload (v := .int (zI h16 r21 7)) zi_167_97 t22 hb rfl ?_
          refine zg_imul zi_167_98 ?_
          refine zg_iadd zi_167_99 ?_
          refine zg_imul zi_167_100 ?_
          refine zg_const (v := 100) zi_167_101 (by rfl) ?_
          refine zg_aload zi_167_102 rfl ?_
          refine zg_getR (v := .ref r21) zi_167_103 t18 (by rfl) (by show zrv (zR h16 a0 15) = _; rw [er21]; rfl) ?_
          refine zg_const (v := 8) zi_167_104 (by rfl) ?_
          obtain ⟨hb, hw⟩ := hw
          refine zg_iaload (v := .int (zI h16 r21 8)) zi_167_105 t22 hb rfl ?_
          refine zg_imul zi_167_106 ?_
          refine zg_iload zi_167_107 rfl ?_
          refine zg_imul zi_167_108 ?_
          refine zg_iadd zi_167_109 ?_
          refine zg_const (v := 100) zi_167_110 (by rfl) ?_
          refine zg_aload zi_167_111 rfl ?_
          refine zg_getR (v := .ref r21) zi_167_112 t18 (by rfl) (by show zrv (zR h16 a0 15) = _; rw [er21]; rfl) ?_
          refine zg_const (v := 10) zi_167_113 (by rfl) ?_
          obtain ⟨hb, hw⟩ := hw
          refine zg_iaload (v := .int (zI h16 r21 10)) zi_167_114 t22 hb rfl ?_
          refine zg_imul zi_167_115 ?_
          refine zg_aload zi_167_116 rfl ?_
          refine zg_getI (v := .int (zI h16 a0 24)) zi_167_117 t18 (by rfl) rfl ?_
          refine zg_imul zi_167_118 ?_
          refine zg_iadd zi_167_119 ?_
          refine zg_putI (h1 := zuI h16 a0 23 (((x13 * (((zI h16 r21 6) * (100 - (zI h16 r21 7))) + ((fz_166 E h16 a0 a5) * (zI h16 r21 7)))) + ((100 * (zI h16 r21 8)) * x20)) + ((100 * (zI h16 r21 10)) * (zI h16 a0 24)))) zi_167_120 t18 (by rfl) rfl ?_
          refine zg_nameH fun h23 eh23 => ?_
          have hw := hw h23 eh23
          exact zg_return zi_167_121 hw
        refine zg_if_ge zi_167_73 (fun hc73 => ?_) (fun hc73 => ?_)
        · skip
          refine zg_iload zi_167_76 rfl ?_
          have hg := g73
          simp only [if_pos hc73] at hg
          exact hg
        · skip
          refine zg_const (v := 0) zi_167_74 (by rfl) ?_
          refine zg_goto zi_167_75 ?_
          have hg := g73
          simp only [if_neg hc73] at hg
          exact hg
      refine zg_icmp_le zi_167_66 (fun hc66 => ?_) (fun hc66 => ?_)
      · skip
        refine zg_iload zi_167_69 rfl ?_
        have hg := g66
        simp only [if_pos hc66] at hg
        exact hg
      · skip
        refine zg_iload zi_167_67 rfl ?_
        refine zg_goto zi_167_68 ?_
        have hg := g66
        simp only [if_neg hc66] at hg
        exact hg
    refine zg_if_ne zi_167_35 (fun hc35 => ?_) (fun hc35 => ?_)
    · have hw := hsd35.1 hc35
      refine zg_iload zi_167_38 rfl ?_
      refine zg_iload zi_167_39 rfl ?_
      obtain ⟨hd, hs, hw⟩ := hw
      refine Gx.call2 (as := [.int x11, .int a3]) (rest := [.ref a0]) zq_164 zi_167_40 rfl rfl rfl (Nat.le_of_ble_eq_true rfl) (Nat.le_of_ble_eq_true rfl) (rfl) (Nat.le_of_ble_eq_true rfl) ?_
      refine cz_164 hd hs ?_
      show Gx E (d + 1) 167 41 [.ref a0, .int a1, .int a2, .int a3, .int a4, .int a5, .int a6, .int x4, .int x7, .int x11, .retAddr 0, .retAddr 0, .retAddr 0] [.int (fz_164 E h5 x11 a3), .ref a0] h5 Q
      have hg := g35
      simp only [if_pos hc35] at hg
      exact hg
    · have hw := hsd35.2 hc35
      refine zg_const (v := 0) zi_167_36 (by rfl) ?_
      refine zg_goto zi_167_37 ?_
      have hg := g35
      simp only [if_neg hc35] at hg
      exact hg
  refine zg_icmp_ne zi_167_19 (fun hc19 => ?_) (fun hc19 => ?_)
  · have hw := hsd19.1 hc19
    refine zg_iload zi_167_28 rfl ?_
    have hg := g19
    simp only [if_pos hc19] at hg
    exact hg
  · have hw := hsd19.2 hc19
    refine zg_iload zi_167_20 rfl ?_
    obtain ⟨hsd21, hw⟩ := hw
    have g21 : Gx E (d + 1) 167 29 [.ref a0, .int a1, .int a2, .int a3, .int a4, .int a5, .int a6, .int x4, .int x7, .retAddr 0, .retAddr 0, .retAddr 0, .retAddr 0] [.int (if x7 ≤ 0 then a6 else a6 - (fz_164 E h5 a6 x7))] h5 Q := by
      have hg := g19
      simp only [if_neg hc19] at hg
      exact hg
    refine zg_if_le zi_167_21 (fun hc21 => ?_) (fun hc21 => ?_)
    · have hw := hsd21.1 hc21
      refine zg_iload zi_167_28 rfl ?_
      have hg := g21
      simp only [if_pos hc21] at hg
      exact hg
    · have hw := hsd21.2 hc21
      refine zg_iload zi_167_22 rfl ?_
      refine zg_iload zi_167_23 rfl ?_
      refine zg_iload zi_167_24 rfl ?_
      obtain ⟨hd, hs, hw⟩ := hw
      refine Gx.call2 (as := [.int a6, .int x7]) (rest := [.int a6]) zq_164 zi_167_25 rfl rfl rfl (Nat.le_of_ble_eq_true rfl) (Nat.le_of_ble_eq_true rfl) (rfl) (Nat.le_of_ble_eq_true rfl) ?_
      refine cz_164 hd hs ?_
      show Gx E (d + 1) 167 26 [.ref a0, .int a1, .int a2, .int a3, .int a4, .int a5, .int a6, .int x4, .int x7, .retAddr 0, .retAddr 0, .retAddr 0, .retAddr 0] [.int (fz_164 E h5 a6 x7), .int a6] h5 Q
      refine zg_isub zi_167_26 ?_
      refine zg_goto zi_167_27 ?_
      have hg := g21
      simp only [if_neg hc21] at hg
      exact hg
theorem zq_168 : zQ 168 3 3 11 := by unfold zQ; decide +kernel
theorem zi_168_0 : (zM 168).1[0]? = some (.iconst 100) := by rfl
theorem zi_168_1 : (zM 168).1[1]? = some (.aload 0) := by rfl
theorem zi_168_2 : (zM 168).1[2]? = some (.iload 1) := by rfl
theorem zi_168_3 : (zM 168).1[3]? = some (.invokevirtual 166) := by rfl
theorem zi_168_4 : (zM 168).1[4]? = some (.imul) := by rfl
theorem zi_168_5 : (zM 168).1[5]? = some (.iload 2) := by rfl
theorem zi_168_6 : (zM 168).1[6]? = some (.imul) := by rfl
theorem zi_168_7 : (zM 168).1[7]? = some (.aload 0) := by rfl
theorem zi_168_8 : (zM 168).1[8]? = some (.getfield 11023) := by rfl
theorem zi_168_9 : (zM 168).1[9]? = some (.isub) := by rfl
theorem zi_168_10 : (zM 168).1[10]? = some (.ireturn) := by rfl
/-- TakeOrPayModel.gainOf(II)I -/
def w_168 (E : Nat → Nat) (d : Nat) (a0 : Nat) (a1 : Int32) (a2 : Int32) (h : ZH) (Q : Option Value → ZH → Prop) : Prop := ztag h a0 = 11 ∧ 1 ≤ d ∧ sz_166 E h a0 a1 ∧ Q (some (.int (((100 * (fz_166 E h a0 a1)) * a2) - (zI h a0 23)))) h
set_option maxRecDepth 20000 in
theorem ok_168 {E : Nat → Nat} {d : Nat} {a0 : Nat} {a1 : Int32} {a2 : Int32} {h : ZH} {Q : Option Value → ZH → Prop} (hw : w_168 E d a0 a1 a2 h Q) : Ct E (d + 1) 168 [.ref a0, .int a1, .int a2] h Q := by
  unfold w_168 at hw
  show Gx E (d + 1) 168 0 [.ref a0, .int a1, .int a2] [] h Q
  refine zg_const (v := 100) zi_168_0 (by rfl) ?_
  refine zg_aload zi_168_1 rfl ?_
  refine zg_iload zi_168_2 rfl ?_
  obtain ⟨t1, hw⟩ := hw
  obtain ⟨hd, hs, hw⟩ := hw
  refine Gx.call2 (as := [.ref a0, .int a1]) (rest := [.int 100]) zq_166 zi_168_3 rfl rfl rfl (Nat.le_of_ble_eq_true rfl) (Nat.le_of_ble_eq_true rfl) (zrv_v t1 rfl rfl) (Nat.le_of_ble_eq_true rfl) ?_
  refine cz_166 hd hs ?_
  show Gx E (d + 1) 168 4 [.ref a0, .int a1, .int a2] [.int (fz_166 E h a0 a1), .int 100] h Q
  refine zg_imul zi_168_4 ?_
  refine zg_iload zi_168_5 rfl ?_
  refine zg_imul zi_168_6 ?_
  refine zg_aload zi_168_7 rfl ?_
  refine zg_getI (v := .int (zI h a0 23)) zi_168_8 t1 (by rfl) rfl ?_
  refine zg_isub zi_168_9 ?_
  exact zg_ireturn zi_168_10 (by decide) hw
def fz_168 (E : Nat → Nat) (h : ZH) (a0 : Nat) (a1 : Int32) (a2 : Int32) : Int32 := ((100 * (fz_166 E h a0 a1)) * a2) - (zI h a0 23)
def sz_168 (E : Nat → Nat) (h : ZH) (a0 : Nat) (a1 : Int32) (a2 : Int32) : Prop := ztag h a0 = 11 ∧ sz_166 E h a0 a1 ∧ True
set_option maxRecDepth 20000 in
theorem cz_168 {E : Nat → Nat} {d : Nat} {a0 : Nat} {a1 : Int32} {a2 : Int32} {h : ZH} {Q : Option Value → ZH → Prop} (hd : 2 ≤ d) (hs : sz_168 E h a0 a1 a2) (hq : Q (some (.int (fz_168 E h a0 a1 a2))) h) : Ct E d 168 [.ref a0, .int a1, .int a2] h Q := by
  obtain ⟨d, rfl⟩ : ∃ n, d = n + 1 := ⟨d - 1, by omega⟩
  refine ok_168 ?_
  unfold w_168
  unfold sz_168 at hs
  unfold fz_168 at hq
  refine ⟨hs.1, ?_⟩
  have hs := hs.2
  refine ⟨by omega, ?_⟩
  refine ⟨hs.1, ?_⟩
  have hs := hs.2
  exact hq
theorem zq_169 : zQ 169 6 6 11 := by unfold zQ; decide +kernel
theorem zi_169_0 : (zM 169).1[0]? = some (.aload 0) := by rfl
theorem zi_169_1 : (zM 169).1[1]? = some (.iload 1) := by rfl
theorem zi_169_2 : (zM 169).1[2]? = some (.invokevirtual 153) := by rfl
theorem zi_169_3 : (zM 169).1[3]? = some (.ifCond .eq ((30 : Nat) : Int)) := by rfl
theorem zi_169_4 : (zM 169).1[4]? = some (.iload 2) := by rfl
theorem zi_169_5 : (zM 169).1[5]? = some (.i2l) := by rfl
theorem zi_169_6 : (zM 169).1[6]? = some (.jsr_w 0) := by rfl
theorem zi_169_7 : (zM 169).1[7]? = some (.jsr_w 20) := by rfl
theorem zi_169_8 : (zM 169).1[8]? = some (.invokestatic 135) := by rfl
theorem zi_169_9 : (zM 169).1[9]? = some (.ifCond .eq ((30 : Nat) : Int)) := by rfl
theorem zi_169_10 : (zM 169).1[10]? = some (.iload 3) := by rfl
theorem zi_169_11 : (zM 169).1[11]? = some (.i2l) := by rfl
theorem zi_169_12 : (zM 169).1[12]? = some (.jsr_w 0) := by rfl
theorem zi_169_13 : (zM 169).1[13]? = some (.jsr_w 12) := by rfl
theorem zi_169_14 : (zM 169).1[14]? = some (.invokestatic 135) := by rfl
theorem zi_169_15 : (zM 169).1[15]? = some (.ifCond .eq ((30 : Nat) : Int)) := by rfl
theorem zi_169_16 : (zM 169).1[16]? = some (.iload 4) := by rfl
theorem zi_169_17 : (zM 169).1[17]? = some (.i2l) := by rfl
theorem zi_169_18 : (zM 169).1[18]? = some (.jsr_w 0) := by rfl
theorem zi_169_19 : (zM 169).1[19]? = some (.jsr_w 8) := by rfl
theorem zi_169_20 : (zM 169).1[20]? = some (.invokestatic 135) := by rfl
theorem zi_169_21 : (zM 169).1[21]? = some (.ifCond .eq ((30 : Nat) : Int)) := by rfl
theorem zi_169_22 : (zM 169).1[22]? = some (.iload 5) := by rfl
theorem zi_169_23 : (zM 169).1[23]? = some (.i2l) := by rfl
theorem zi_169_24 : (zM 169).1[24]? = some (.jsr_w 0) := by rfl
theorem zi_169_25 : (zM 169).1[25]? = some (.jsr_w 2) := by rfl
theorem zi_169_26 : (zM 169).1[26]? = some (.invokestatic 135) := by rfl
theorem zi_169_27 : (zM 169).1[27]? = some (.ifCond .eq ((30 : Nat) : Int)) := by rfl
theorem zi_169_28 : (zM 169).1[28]? = some (.iconst 1) := by rfl
theorem zi_169_29 : (zM 169).1[29]? = some (.goto ((31 : Nat) : Int)) := by rfl
theorem zi_169_30 : (zM 169).1[30]? = some (.iconst 0) := by rfl
theorem zi_169_31 : (zM 169).1[31]? = some (.ireturn) := by rfl
/-- TakeOrPayModel.isPlace(IIIII)Z -/
def w_169 (E : Nat → Nat) (d : Nat) (a0 : Nat) (a1 : Int32) (a2 : Int32) (a3 : Int32) (a4 : Int32) (a5 : Int32) (h : ZH) (Q : Option Value → ZH → Prop) : Prop := ztag h a0 = 11 ∧ 2 ≤ d ∧ sz_153 E h a0 a1 ∧ ((((fz_153 E h a0 a1 : Int32) = 0 → (True)) ∧ (¬ ((fz_153 E h a0 a1 : Int32) = 0) → (1 ≤ d ∧ sz_135 E h a2.toInt64 0 20 ∧ ((((fz_135 E h a2.toInt64 0 20 : Int32) = 0 → (True)) ∧ (¬ ((fz_135 E h a2.toInt64 0 20 : Int32) = 0) → (1 ≤ d ∧ sz_135 E h a3.toInt64 0 12 ∧ ((((fz_135 E h a3.toInt64 0 12 : Int32) = 0 → (True)) ∧ (¬ ((fz_135 E h a3.toInt64 0 12 : Int32) = 0) → (1 ≤ d ∧ sz_135 E h a4.toInt64 0 8 ∧ ((((fz_135 E h a4.toInt64 0 8 : Int32) = 0 → (True)) ∧ (¬ ((fz_135 E h a4.toInt64 0 8 : Int32) = 0) → (1 ≤ d ∧ sz_135 E h a5.toInt64 0 2 ∧ True))) ∧ True)))) ∧ True)))) ∧ True)))) ∧ Q (some (.int (if (fz_153 E h a0 a1 : Int32) = 0 then 0 else if (fz_135 E h a2.toInt64 0 20 : Int32) = 0 then 0 else if (fz_135 E h a3.toInt64 0 12 : Int32) = 0 then 0 else if (fz_135 E h a4.toInt64 0 8 : Int32) = 0 then 0 else if (fz_135 E h a5.toInt64 0 2 : Int32) = 0 then 0 else 1))) h)
set_option maxRecDepth 20000 in
theorem ok_169 {E : Nat → Nat} {d : Nat} {a0 : Nat} {a1 : Int32} {a2 : Int32} {a3 : Int32} {a4 : Int32} {a5 : Int32} {h : ZH} {Q : Option Value → ZH → Prop} (hw : w_169 E d a0 a1 a2 a3 a4 a5 h Q) : Ct E (d + 1) 169 [.ref a0, .int a1, .int a2, .int a3, .int a4, .int a5] h Q := by
  unfold w_169 at hw
  show Gx E (d + 1) 169 0 [.ref a0, .int a1, .int a2, .int a3, .int a4, .int a5] [] h Q
  refine zg_aload zi_169_0 rfl ?_
  refine zg_iload zi_169_1 rfl ?_
  obtain ⟨t1, hw⟩ := hw
  obtain ⟨hd, hs, hw⟩ := hw
  refine Gx.call2 (as := [.ref a0, .int a1]) (rest := []) zq_153 zi_169_2 rfl rfl rfl (Nat.le_of_ble_eq_true rfl) (Nat.le_of_ble_eq_true rfl) (zrv_v t1 rfl rfl) (Nat.le_of_ble_eq_true rfl) ?_
  refine cz_153 hd hs ?_
  show Gx E (d + 1) 169 3 [.ref a0, .int a1, .int a2, .int a3, .int a4, .int a5] [.int (fz_153 E h a0 a1)] h Q
  obtain ⟨hsd3, hw⟩ := hw
  have g3 : Gx E (d + 1) 169 31 [.ref a0, .int a1, .int a2, .int a3, .int a4, .int a5] [.int (if (fz_153 E h a0 a1 : Int32) = 0 then 0 else if (fz_135 E h a2.toInt64 0 20 : Int32) = 0 then 0 else if (fz_135 E h a3.toInt64 0 12 : Int32) = 0 then 0 else if (fz_135 E h a4.toInt64 0 8 : Int32) = 0 then 0 else if (fz_135 E h a5.toInt64 0 2 : Int32) = 0 then 0 else 1)] h Q := by
    exact zg_zreturn zi_169_31 (by (repeat' split) <;> first | (left; rfl) | (right; rfl) | exact fb_135 | exact fb_153) hw
  refine zg_if_eq zi_169_3 (fun hc3 => ?_) (fun hc3 => ?_)
  · have hw := hsd3.1 hc3
    refine zg_const (v := 0) zi_169_30 (by rfl) ?_
    have hg := g3
    simp only [if_pos hc3] at hg
    exact hg
  · have hw := hsd3.2 hc3
    refine zg_iload zi_169_4 rfl ?_
    refine zg_i2l zi_169_5 ?_
    refine zg_lconst (v := 0) zi_169_6 (by rfl) ?_
    refine zg_lconst (v := 20) zi_169_7 (by rfl) ?_
    obtain ⟨hd, hs, hw⟩ := hw
    refine Gx.call2 (as := [.long a2.toInt64, .long 0, .long 20]) (rest := []) zq_135 zi_169_8 rfl rfl rfl (Nat.le_of_ble_eq_true rfl) (Nat.le_of_ble_eq_true rfl) (rfl) (Nat.le_of_ble_eq_true rfl) ?_
    refine cz_135 hd hs ?_
    show Gx E (d + 1) 169 9 [.ref a0, .int a1, .int a2, .int a3, .int a4, .int a5] [.int (fz_135 E h a2.toInt64 0 20)] h Q
    obtain ⟨hsd9, hw⟩ := hw
    have g9 : Gx E (d + 1) 169 31 [.ref a0, .int a1, .int a2, .int a3, .int a4, .int a5] [.int (if (fz_135 E h a2.toInt64 0 20 : Int32) = 0 then 0 else if (fz_135 E h a3.toInt64 0 12 : Int32) = 0 then 0 else if (fz_135 E h a4.toInt64 0 8 : Int32) = 0 then 0 else if (fz_135 E h a5.toInt64 0 2 : Int32) = 0 then 0 else 1)] h Q := by
      have hg := g3
      simp only [if_neg hc3] at hg
      exact hg
    refine zg_if_eq zi_169_9 (fun hc9 => ?_) (fun hc9 => ?_)
    · have hw := hsd9.1 hc9
      refine zg_const (v := 0) zi_169_30 (by rfl) ?_
      have hg := g9
      simp only [if_pos hc9] at hg
      exact hg
    · have hw := hsd9.2 hc9
      refine zg_iload zi_169_10 rfl ?_
      refine zg_i2l zi_169_11 ?_
      refine zg_lconst (v := 0) zi_169_12 (by rfl) ?_
      refine zg_lconst (v := 12) zi_169_13 (by rfl) ?_
      obtain ⟨hd, hs, hw⟩ := hw
      refine Gx.call2 (as := [.long a3.toInt64, .long 0, .long 12]) (rest := []) zq_135 zi_169_14 rfl rfl rfl (Nat.le_of_ble_eq_true rfl) (Nat.le_of_ble_eq_true rfl) (rfl) (Nat.le_of_ble_eq_true rfl) ?_
      refine cz_135 hd hs ?_
      show Gx E (d + 1) 169 15 [.ref a0, .int a1, .int a2, .int a3, .int a4, .int a5] [.int (fz_135 E h a3.toInt64 0 12)] h Q
      obtain ⟨hsd15, hw⟩ := hw
      have g15 : Gx E (d + 1) 169 31 [.ref a0, .int a1, .int a2, .int a3, .int a4, .int a5] [.int (if (fz_135 E h a3.toInt64 0 12 : Int32) = 0 then 0 else if (fz_135 E h a4.toInt64 0 8 : Int32) = 0 then 0 else if (fz_135 E h a5.toInt64 0 2 : Int32) = 0 then 0 else 1)] h Q := by
        have hg := g9
        simp only [if_neg hc9] at hg
        exact hg
      refine zg_if_eq zi_169_15 (fun hc15 => ?_) (fun hc15 => ?_)
      · have hw := hsd15.1 hc15
        refine zg_const (v := 0) zi_169_30 (by rfl) ?_
        have hg := g15
        simp only [if_pos hc15] at hg
        exact hg
      · have hw := hsd15.2 hc15
        refine zg_iload zi_169_16 rfl ?_
        refine zg_i2l zi_169_17 ?_
        refine zg_lconst (v := 0) zi_169_18 (by rfl) ?_
        refine zg_lconst (v := 8) zi_169_19 (by rfl) ?_
        obtain ⟨hd, hs, hw⟩ := hw
        refine Gx.call2 (as := [.long a4.toInt64, .long 0, .long 8]) (rest := []) zq_135 zi_169_20 rfl rfl rfl (Nat.le_of_ble_eq_true rfl) (Nat.le_of_ble_eq_true rfl) (rfl) (Nat.le_of_ble_eq_true rfl) ?_
        refine cz_135 hd hs ?_
        show Gx E (d + 1) 169 21 [.ref a0, .int a1, .int a2, .int a3, .int a4, .int a5] [.int (fz_135 E h a4.toInt64 0 8)] h Q
        obtain ⟨hsd21, hw⟩ := hw
        have g21 : Gx E (d + 1) 169 31 [.ref a0, .int a1, .int a2, .int a3, .int a4, .int a5] [.int (if (fz_135 E h a4.toInt64 0 8 : Int32) = 0 then 0 else if (fz_135 E h a5.toInt64 0 2 : Int32) = 0 then 0 else 1)] h Q := by
          have hg := g15
          simp only [if_neg hc15] at hg
          exact hg
        refine zg_if_eq zi_169_21 (fun hc21 => ?_) (fun hc21 => ?_)
        · have hw := hsd21.1 hc21
          refine zg_const (v := 0) zi_169_30 (by rfl) ?_
          have hg := g21
          simp only [if_pos hc21] at hg
          exact hg
        · have hw := hsd21.2 hc21
          refine zg_iload zi_169_22 rfl ?_
          refine zg_i2l zi_169_23 ?_
          refine zg_lconst (v := 0) zi_169_24 (by rfl) ?_
          refine zg_lconst (v := 2) zi_169_25 (by rfl) ?_
          obtain ⟨hd, hs, hw⟩ := hw
          refine Gx.call2 (as := [.long a5.toInt64, .long 0, .long 2]) (rest := []) zq_135 zi_169_26 rfl rfl rfl (Nat.le_of_ble_eq_true rfl) (Nat.le_of_ble_eq_true rfl) (rfl) (Nat.le_of_ble_eq_true rfl) ?_
          refine cz_135 hd hs ?_
          show Gx E (d + 1) 169 27 [.ref a0, .int a1, .int a2, .int a3, .int a4, .int a5] [.int (fz_135 E h a5.toInt64 0 2)] h Q
          have g27 : Gx E (d + 1) 169 31 [.ref a0, .int a1, .int a2, .int a3, .int a4, .int a5] [.int (if (fz_135 E h a5.toInt64 0 2 : Int32) = 0 then 0 else 1)] h Q := by
            have hg := g21
            simp only [if_neg hc21] at hg
            exact hg
          refine zg_if_eq zi_169_27 (fun hc27 => ?_) (fun hc27 => ?_)
          · skip
            refine zg_const (v := 0) zi_169_30 (by rfl) ?_
            have hg := g27
            simp only [if_pos hc27] at hg
            exact hg
          · skip
            refine zg_const (v := 1) zi_169_28 (by rfl) ?_
            refine zg_goto zi_169_29 ?_
            have hg := g27
            simp only [if_neg hc27] at hg
            exact hg
def fz_169 (E : Nat → Nat) (h : ZH) (a0 : Nat) (a1 : Int32) (a2 : Int32) (a3 : Int32) (a4 : Int32) (a5 : Int32) : Int32 := if (fz_153 E h a0 a1 : Int32) = 0 then 0 else if (fz_135 E h a2.toInt64 0 20 : Int32) = 0 then 0 else if (fz_135 E h a3.toInt64 0 12 : Int32) = 0 then 0 else if (fz_135 E h a4.toInt64 0 8 : Int32) = 0 then 0 else if (fz_135 E h a5.toInt64 0 2 : Int32) = 0 then 0 else 1
def sz_169 (E : Nat → Nat) (h : ZH) (a0 : Nat) (a1 : Int32) (a2 : Int32) (a3 : Int32) (a4 : Int32) (a5 : Int32) : Prop := ztag h a0 = 11 ∧ sz_153 E h a0 a1 ∧ ((((fz_153 E h a0 a1 : Int32) = 0 → (True)) ∧ (¬ ((fz_153 E h a0 a1 : Int32) = 0) → (sz_135 E h a2.toInt64 0 20 ∧ ((((fz_135 E h a2.toInt64 0 20 : Int32) = 0 → (True)) ∧ (¬ ((fz_135 E h a2.toInt64 0 20 : Int32) = 0) → (sz_135 E h a3.toInt64 0 12 ∧ ((((fz_135 E h a3.toInt64 0 12 : Int32) = 0 → (True)) ∧ (¬ ((fz_135 E h a3.toInt64 0 12 : Int32) = 0) → (sz_135 E h a4.toInt64 0 8 ∧ ((((fz_135 E h a4.toInt64 0 8 : Int32) = 0 → (True)) ∧ (¬ ((fz_135 E h a4.toInt64 0 8 : Int32) = 0) → (sz_135 E h a5.toInt64 0 2 ∧ True))) ∧ True)))) ∧ True)))) ∧ True)))) ∧ True)
set_option maxRecDepth 20000 in
theorem fb_169 {E : Nat → Nat} {h : ZH} {a0 : Nat} {a1 : Int32} {a2 : Int32} {a3 : Int32} {a4 : Int32} {a5 : Int32} : fz_169 E h a0 a1 a2 a3 a4 a5 = 0 ∨ fz_169 E h a0 a1 a2 a3 a4 a5 = 1 := by
  unfold fz_169
  (try dsimp only)
  (repeat' split) <;> first | (left; rfl) | (right; rfl) | exact fb_135 | exact fb_153
set_option maxRecDepth 20000 in
theorem cz_169 {E : Nat → Nat} {d : Nat} {a0 : Nat} {a1 : Int32} {a2 : Int32} {a3 : Int32} {a4 : Int32} {a5 : Int32} {h : ZH} {Q : Option Value → ZH → Prop} (hd : 3 ≤ d) (hs : sz_169 E h a0 a1 a2 a3 a4 a5) (hq : Q (some (.int (fz_169 E h a0 a1 a2 a3 a4 a5))) h) : Ct E d 169 [.ref a0, .int a1, .int a2, .int a3, .int a4, .int a5] h Q := by
  obtain ⟨d, rfl⟩ : ∃ n, d = n + 1 := ⟨d - 1, by omega⟩
  refine ok_169 ?_
  unfold w_169
  unfold sz_169 at hs
  unfold fz_169 at hq
  refine ⟨hs.1, ?_⟩
  have hs := hs.2
  refine ⟨by omega, ?_⟩
  refine ⟨hs.1, ?_⟩
  have hs := hs.2
  refine ⟨⟨fun hc => ?_, fun hc => ?_⟩, ?_⟩
  · have hs := hs.1.1 hc
    trivial
  · have hs := hs.1.2 hc
    refine ⟨by omega, ?_⟩
    refine ⟨hs.1, ?_⟩
    have hs := hs.2
    refine ⟨⟨fun hc => ?_, fun hc => ?_⟩, ?_⟩
    · have hs := hs.1.1 hc
      trivial
    · have hs := hs.1.2 hc
      refine ⟨by omega, ?_⟩
      refine ⟨hs.1, ?_⟩
      have hs := hs.2
      refine ⟨⟨fun hc => ?_, fun hc => ?_⟩, ?_⟩
      · have hs := hs.1.1 hc
        trivial
      · have hs := hs.1.2 hc
        refine ⟨by omega, ?_⟩
        refine ⟨hs.1, ?_⟩
        have hs := hs.2
        refine ⟨⟨fun hc => ?_, fun hc => ?_⟩, ?_⟩
        · have hs := hs.1.1 hc
          trivial
        · have hs := hs.1.2 hc
          refine ⟨by omega, ?_⟩
          refine ⟨hs.1, ?_⟩
          have hs := hs.2
          trivial
        have hs := hs.2
        trivial
      have hs := hs.2
      trivial
    have hs := hs.2
    trivial
  have hs := hs.2
  exact hq
theorem zq_170 : zQ 170 8 8 11 := by unfold zQ; decide +kernel
theorem zi_170_0 : (zM 170).1[0]? = some (.aload 0) := by rfl
theorem zi_170_1 : (zM 170).1[1]? = some (.iload 1) := by rfl
theorem zi_170_2 : (zM 170).1[2]? = some (.iload 2) := by rfl
theorem zi_170_3 : (zM 170).1[3]? = some (.iload 3) := by rfl
theorem zi_170_4 : (zM 170).1[4]? = some (.iload 4) := by rfl
theorem zi_170_5 : (zM 170).1[5]? = some (.iload 5) := by rfl
theorem zi_170_6 : (zM 170).1[6]? = some (.invokevirtual 169) := by rfl
theorem zi_170_7 : (zM 170).1[7]? = some (.ifCond .eq ((20 : Nat) : Int)) := by rfl
theorem zi_170_8 : (zM 170).1[8]? = some (.iload 6) := by rfl
theorem zi_170_9 : (zM 170).1[9]? = some (.i2l) := by rfl
theorem zi_170_10 : (zM 170).1[10]? = some (.jsr_w 0) := by rfl
theorem zi_170_11 : (zM 170).1[11]? = some (.jsr_w 4) := by rfl
theorem zi_170_12 : (zM 170).1[12]? = some (.invokestatic 135) := by rfl
theorem zi_170_13 : (zM 170).1[13]? = some (.ifCond .eq ((20 : Nat) : Int)) := by rfl
theorem zi_170_14 : (zM 170).1[14]? = some (.iload 7) := by rfl
theorem zi_170_15 : (zM 170).1[15]? = some (.i2l) := by rfl
theorem zi_170_16 : (zM 170).1[16]? = some (.jsr_w 0) := by rfl
theorem zi_170_17 : (zM 170).1[17]? = some (.jsr_w 3) := by rfl
theorem zi_170_18 : (zM 170).1[18]? = some (.invokestatic 135) := by rfl
theorem zi_170_19 : (zM 170).1[19]? = some (.ifCond .ne ((22 : Nat) : Int)) := by rfl
theorem zi_170_20 : (zM 170).1[20]? = some (.iconst (-1000000)) := by rfl
theorem zi_170_21 : (zM 170).1[21]? = some (.ireturn) := by rfl
theorem zi_170_22 : (zM 170).1[22]? = some (.aload 0) := by rfl
theorem zi_170_23 : (zM 170).1[23]? = some (.iload 1) := by rfl
theorem zi_170_24 : (zM 170).1[24]? = some (.iload 6) := by rfl
theorem zi_170_25 : (zM 170).1[25]? = some (.invokevirtual 163) := by rfl
theorem zi_170_26 : (zM 170).1[26]? = some (.ifCond .ne ((29 : Nat) : Int)) := by rfl
theorem zi_170_27 : (zM 170).1[27]? = some (.iconst (-1000002)) := by rfl
theorem zi_170_28 : (zM 170).1[28]? = some (.ireturn) := by rfl
theorem zi_170_29 : (zM 170).1[29]? = some (.aload 0) := by rfl
theorem zi_170_30 : (zM 170).1[30]? = some (.iload 1) := by rfl
theorem zi_170_31 : (zM 170).1[31]? = some (.iload 2) := by rfl
theorem zi_170_32 : (zM 170).1[32]? = some (.iload 3) := by rfl
theorem zi_170_33 : (zM 170).1[33]? = some (.iload 4) := by rfl
theorem zi_170_34 : (zM 170).1[34]? = some (.iload 5) := by rfl
theorem zi_170_35 : (zM 170).1[35]? = some (.iload 6) := by rfl
theorem zi_170_36 : (zM 170).1[36]? = some (.invokevirtual 167) := by rfl
theorem zi_170_37 : (zM 170).1[37]? = some (.iload 7) := by rfl
theorem zi_170_38 : (zM 170).1[38]? = some (.ifCond .ne ((44 : Nat) : Int)) := by rfl
theorem zi_170_39 : (zM 170).1[39]? = some (.aload 0) := by rfl
theorem zi_170_40 : (zM 170).1[40]? = some (.getfield 11021) := by rfl
theorem zi_170_41 : (zM 170).1[41]? = some (.iconst 20) := by rfl
theorem zi_170_42 : (zM 170).1[42]? = some (.invokestatic 164) := by rfl
theorem zi_170_43 : (zM 170).1[43]? = some (.goto ((60 : Nat) : Int)) := by rfl
theorem zi_170_44 : (zM 170).1[44]? = some (.iload 7) := by rfl
theorem zi_170_45 : (zM 170).1[45]? = some (.iconst 1) := by rfl
theorem zi_170_46 : (zM 170).1[46]? = some (.if_icmp .ne ((50 : Nat) : Int)) := by rfl
theorem zi_170_47 : (zM 170).1[47]? = some (.aload 0) := by rfl
theorem zi_170_48 : (zM 170).1[48]? = some (.getfield 11022) := by rfl
theorem zi_170_49 : (zM 170).1[49]? = some (.goto ((60 : Nat) : Int)) := by rfl
theorem zi_170_50 : (zM 170).1[50]? = some (.iload 7) := by rfl
theorem zi_170_51 : (zM 170).1[51]? = some (.iconst 2) := by rfl
theorem zi_170_52 : (zM 170).1[52]? = some (.if_icmp .ne ((56 : Nat) : Int)) := by rfl
theorem zi_170_53 : (zM 170).1[53]? = some (.aload 0) := by rfl
theorem zi_170_54 : (zM 170).1[54]? = some (.getfield 11023) := by rfl
theorem zi_170_55 : (zM 170).1[55]? = some (.goto ((60 : Nat) : Int)) := by rfl
theorem zi_170_56 : (zM 170).1[56]? = some (.aload 0) := by rfl
theorem zi_170_57 : (zM 170).1[57]? = some (.iload 5) := by rfl
theorem zi_170_58 : (zM 170).1[58]? = some (.iload 6) := by rfl
theorem zi_170_59 : (zM 170).1[59]? = some (.invokevirtual 168) := by rfl
theorem zi_170_60 : (zM 170).1[60]? = some (.ireturn) := by rfl
/-- TakeOrPayModel.takes(IIIIIII)I -/
def w_170 (E : Nat → Nat) (d : Nat) (a0 : Nat) (a1 : Int32) (a2 : Int32) (a3 : Int32) (a4 : Int32) (a5 : Int32) (a6 : Int32) (a7 : Int32) (h : ZH) (Q : Option Value → ZH → Prop) : Prop := ztag h a0 = 11 ∧ 3 ≤ d ∧ sz_169 E h a0 a1 a2 a3 a4 a5 ∧ (((fz_169 E h a0 a1 a2 a3 a4 a5 : Int32) = 0 → (Q (some (.int ((-1000000)))) h)) ∧ (¬ ((fz_169 E h a0 a1 a2 a3 a4 a5 : Int32) = 0) → (1 ≤ d ∧ sz_135 E h a6.toInt64 0 4 ∧ (((fz_135 E h a6.toInt64 0 4 : Int32) = 0 → (Q (some (.int ((-1000000)))) h)) ∧ (¬ ((fz_135 E h a6.toInt64 0 4 : Int32) = 0) → (1 ≤ d ∧ sz_135 E h a7.toInt64 0 3 ∧ ((¬ (fz_135 E h a7.toInt64 0 3 : Int32) = 0 → (2 ≤ d ∧ sz_163 E h a0 a1 a6 ∧ ((¬ (fz_163 E h a0 a1 a6 : Int32) = 0 → (Ct E d 167 [.ref a0, .int a1, .int a2, .int a3, .int a4, .int a5, .int a6] h (fun v h2 => v = none ∧ (((¬ a7 = 0 → (((¬ a7 = 1 → (((¬ a7 = 2 → (ztag h2 a0 = 11 ∧ 2 ≤ d ∧ sz_168 E h2 a0 a5 a6 ∧ True)) ∧ (¬ (¬ a7 = 2) → (ztag h2 a0 = 11 ∧ True))) ∧ True)) ∧ (¬ (¬ a7 = 1) → (ztag h2 a0 = 11 ∧ True))) ∧ True)) ∧ (¬ (¬ a7 = 0) → (ztag h2 a0 = 11 ∧ 1 ≤ d ∧ sz_164 E h2 (zI h2 a0 21) 20 ∧ True))) ∧ Q (some (.int (if ¬ a7 = 0 then if ¬ a7 = 1 then if ¬ a7 = 2 then fz_168 E h2 a0 a5 a6 else zI h2 a0 23 else zI h2 a0 22 else fz_164 E h2 (zI h2 a0 21) 20))) h2)))) ∧ (¬ (¬ (fz_163 E h a0 a1 a6 : Int32) = 0) → (Q (some (.int ((-1000002)))) h))))) ∧ (¬ (¬ (fz_135 E h a7.toInt64 0 3 : Int32) = 0) → (Q (some (.int ((-1000000)))) h)))))))))
set_option maxRecDepth 20000 in
theorem ok_170 {E : Nat → Nat} {d : Nat} {a0 : Nat} {a1 : Int32} {a2 : Int32} {a3 : Int32} {a4 : Int32} {a5 : Int32} {a6 : Int32} {a7 : Int32} {h : ZH} {Q : Option Value → ZH → Prop} (hw : w_170 E d a0 a1 a2 a3 a4 a5 a6 a7 h Q) : Ct E (d + 1) 170 [.ref a0, .int a1, .int a2, .int a3, .int a4, .int a5, .int a6, .int a7] h Q := by
  unfold w_170 at hw
  show Gx E (d + 1) 170 0 [.ref a0, .int a1, .int a2, .int a3, .int a4, .int a5, .int a6, .int a7] [] h Q
  refine zg_aload zi_170_0 rfl ?_
  refine zg_iload zi_170_1 rfl ?_
  refine zg_iload zi_170_2 rfl ?_
  refine zg_iload zi_170_3 rfl ?_
  refine zg_iload zi_170_4 rfl ?_
  refine zg_iload zi_170_5 rfl ?_
  obtain ⟨t1, hw⟩ := hw
  obtain ⟨hd, hs, hw⟩ := hw
  refine Gx.call2 (as := [.ref a0, .int a1, .int a2, .int a3, .int a4, .int a5]) (rest := []) zq_169 zi_170_6 rfl rfl rfl (Nat.le_of_ble_eq_true rfl) (Nat.le_of_ble_eq_true rfl) (zrv_v t1 rfl rfl) (Nat.le_of_ble_eq_true rfl) ?_
  refine cz_169 hd hs ?_
  show Gx E (d + 1) 170 7 [.ref a0, .int a1, .int a2, .int a3, .int a4, .int a5, .int a6, .int a7] [.int (fz_169 E h a0 a1 a2 a3 a4 a5)] h Q
  refine zg_if_eq zi_170_7 (fun hc => ?_) (fun hc => ?_)
  · have hw := hw.1 hc
    refine zg_const (v := (-1000000)) zi_170_20 (by rfl) ?_
    exact zg_ireturn zi_170_21 (by decide) hw
  · have hw := hw.2 hc
    refine zg_iload zi_170_8 rfl ?_
    refine zg_i2l zi_170_9 ?_
    refine zg_lconst (v := 0) zi_170_10 (by rfl) ?_
    refine zg_lconst (v := 4) zi_170_11 (by rfl) ?_
    obtain ⟨hd, hs, hw⟩ := hw
    refine Gx.call2 (as := [.long a6.toInt64, .long 0, .long 4]) (rest := []) zq_135 zi_170_12 rfl rfl rfl (Nat.le_of_ble_eq_true rfl) (Nat.le_of_ble_eq_true rfl) (rfl) (Nat.le_of_ble_eq_true rfl) ?_
    refine cz_135 hd hs ?_
    show Gx E (d + 1) 170 13 [.ref a0, .int a1, .int a2, .int a3, .int a4, .int a5, .int a6, .int a7] [.int (fz_135 E h a6.toInt64 0 4)] h Q
    refine zg_if_eq zi_170_13 (fun hc => ?_) (fun hc => ?_)
    · have hw := hw.1 hc
      refine zg_const (v := (-1000000)) zi_170_20 (by rfl) ?_
      exact zg_ireturn zi_170_21 (by decide) hw
    · have hw := hw.2 hc
      refine zg_iload zi_170_14 rfl ?_
      refine zg_i2l zi_170_15 ?_
      refine zg_lconst (v := 0) zi_170_16 (by rfl) ?_
      refine zg_lconst (v := 3) zi_170_17 (by rfl) ?_
      obtain ⟨hd, hs, hw⟩ := hw
      refine Gx.call2 (as := [.long a7.toInt64, .long 0, .long 3]) (rest := []) zq_135 zi_170_18 rfl rfl rfl (Nat.le_of_ble_eq_true rfl) (Nat.le_of_ble_eq_true rfl) (rfl) (Nat.le_of_ble_eq_true rfl) ?_
      refine cz_135 hd hs ?_
      show Gx E (d + 1) 170 19 [.ref a0, .int a1, .int a2, .int a3, .int a4, .int a5, .int a6, .int a7] [.int (fz_135 E h a7.toInt64 0 3)] h Q
      refine zg_if_ne zi_170_19 (fun hc => ?_) (fun hc => ?_)
      · have hw := hw.1 hc
        refine zg_aload zi_170_22 rfl ?_
        refine zg_iload zi_170_23 rfl ?_
        refine zg_iload zi_170_24 rfl ?_
        obtain ⟨hd, hs, hw⟩ := hw
        refine Gx.call2 (as := [.ref a0, .int a1, .int a6]) (rest := []) zq_163 zi_170_25 rfl rfl rfl (Nat.le_of_ble_eq_true rfl) (Nat.le_of_ble_eq_true rfl) (zrv_v t1 rfl rfl) (Nat.le_of_ble_eq_true rfl) ?_
        refine cz_163 hd hs ?_
        show Gx E (d + 1) 170 26 [.ref a0, .int a1, .int a2, .int a3, .int a4, .int a5, .int a6, .int a7] [.int (fz_163 E h a0 a1 a6)] h Q
        refine zg_if_ne zi_170_26 (fun hc => ?_) (fun hc => ?_)
        · have hw := hw.1 hc
          refine zg_aload zi_170_29 rfl ?_
          refine zg_iload zi_170_30 rfl ?_
          refine zg_iload zi_170_31 rfl ?_
          refine zg_iload zi_170_32 rfl ?_
          refine zg_iload zi_170_33 rfl ?_
          refine zg_iload zi_170_34 rfl ?_
          refine zg_iload zi_170_35 rfl ?_
          refine Gx.call2 (as := [.ref a0, .int a1, .int a2, .int a3, .int a4, .int a5, .int a6]) (rest := []) zq_167 zi_170_36 rfl rfl rfl (Nat.le_of_ble_eq_true rfl) (Nat.le_of_ble_eq_true rfl) (zrv_v t1 rfl rfl) (Nat.le_of_ble_eq_true rfl) ?_
          refine Ct.mono hw ?_
          rintro v h2 ⟨rfl, hw⟩
          show Gx E (d + 1) 170 37 [.ref a0, .int a1, .int a2, .int a3, .int a4, .int a5, .int a6, .int a7] [] h2 Q
          refine zg_iload zi_170_37 rfl ?_
          obtain ⟨hsd38, hw⟩ := hw
          have g38 : Gx E (d + 1) 170 60 [.ref a0, .int a1, .int a2, .int a3, .int a4, .int a5, .int a6, .int a7] [.int (if ¬ a7 = 0 then if ¬ a7 = 1 then if ¬ a7 = 2 then fz_168 E h2 a0 a5 a6 else zI h2 a0 23 else zI h2 a0 22 else fz_164 E h2 (zI h2 a0 21) 20)] h2 Q := by
            exact zg_ireturn zi_170_60 (by decide) hw
          refine zg_if_ne zi_170_38 (fun hc38 => ?_) (fun hc38 => ?_)
          · have hw := hsd38.1 hc38
            refine zg_iload zi_170_44 rfl ?_
            refine zg_const (v := 1) zi_170_45 (by rfl) ?_
            obtain ⟨hsd46, hw⟩ := hw
            have g46 : Gx E (d + 1) 170 60 [.ref a0, .int a1, .int a2, .int a3, .int a4, .int a5, .int a6, .int a7] [.int (if ¬ a7 = 1 then if ¬ a7 = 2 then fz_168 E h2 a0 a5 a6 else zI h2 a0 23 else zI h2 a0 22)] h2 Q := by
              have hg := g38
              simp only [if_pos hc38] at hg
              exact hg
            refine zg_icmp_ne zi_170_46 (fun hc46 => ?_) (fun hc46 => ?_)
            · have hw := hsd46.1 hc46
              refine zg_iload zi_170_50 rfl ?_
              refine zg_const (v := 2) zi_170_51 (by rfl) ?_
              obtain ⟨hsd52, hw⟩ := hw
              have g52 : Gx E (d + 1) 170 60 [.ref a0, .int a1, .int a2, .int a3, .int a4, .int a5, .int a6, .int a7] [.int (if ¬ a7 = 2 then fz_168 E h2 a0 a5 a6 else zI h2 a0 23)] h2 Q := by
                have hg := g46
                simp only [if_pos hc46] at hg
                exact hg
              refine zg_icmp_ne zi_170_52 (fun hc52 => ?_) (fun hc52 => ?_)
              · have hw := hsd52.1 hc52
                refine zg_aload zi_170_56 rfl ?_
                refine zg_iload zi_170_57 rfl ?_
                refine zg_iload zi_170_58 rfl ?_
                obtain ⟨t3, hw⟩ := hw
                obtain ⟨hd, hs, hw⟩ := hw
                refine Gx.call2 (as := [.ref a0, .int a5, .int a6]) (rest := []) zq_168 zi_170_59 rfl rfl rfl (Nat.le_of_ble_eq_true rfl) (Nat.le_of_ble_eq_true rfl) (zrv_v t3 rfl rfl) (Nat.le_of_ble_eq_true rfl) ?_
                refine cz_168 hd hs ?_
                show Gx E (d + 1) 170 60 [.ref a0, .int a1, .int a2, .int a3, .int a4, .int a5, .int a6, .int a7] [.int (fz_168 E h2 a0 a5 a6)] h2 Q
                have hg := g52
                simp only [if_pos hc52] at hg
                exact hg
              · have hw := hsd52.2 hc52
                refine zg_aload zi_170_53 rfl ?_
                obtain ⟨t4, hw⟩ := hw
                refine zg_getI (v := .int (zI h2 a0 23)) zi_170_54 t4 (by rfl) rfl ?_
                refine zg_goto zi_170_55 ?_
                have hg := g52
                simp only [if_neg hc52] at hg
                exact hg
            · have hw := hsd46.2 hc46
              refine zg_aload zi_170_47 rfl ?_
              obtain ⟨t5, hw⟩ := hw
              refine zg_getI (v := .int (zI h2 a0 22)) zi_170_48 t5 (by rfl) rfl ?_
              refine zg_goto zi_170_49 ?_
              have hg := g46
              simp only [if_neg hc46] at hg
              exact hg
          · have hw := hsd38.2 hc38
            refine zg_aload zi_170_39 rfl ?_
            obtain ⟨t6, hw⟩ := hw
            refine zg_getI (v := .int (zI h2 a0 21)) zi_170_40 t6 (by rfl) rfl ?_
            refine zg_const (v := 20) zi_170_41 (by rfl) ?_
            obtain ⟨hd, hs, hw⟩ := hw
            refine Gx.call2 (as := [.int (zI h2 a0 21), .int 20]) (rest := []) zq_164 zi_170_42 rfl rfl rfl (Nat.le_of_ble_eq_true rfl) (Nat.le_of_ble_eq_true rfl) (rfl) (Nat.le_of_ble_eq_true rfl) ?_
            refine cz_164 hd hs ?_
            show Gx E (d + 1) 170 43 [.ref a0, .int a1, .int a2, .int a3, .int a4, .int a5, .int a6, .int a7] [.int (fz_164 E h2 (zI h2 a0 21) 20)] h2 Q
            refine zg_goto zi_170_43 ?_
            have hg := g38
            simp only [if_neg hc38] at hg
            exact hg
        · have hw := hw.2 hc
          refine zg_const (v := (-1000002)) zi_170_27 (by rfl) ?_
          exact zg_ireturn zi_170_28 (by decide) hw
      · have hw := hw.2 hc
        refine zg_const (v := (-1000000)) zi_170_20 (by rfl) ?_
        exact zg_ireturn zi_170_21 (by decide) hw
theorem zq_171 : zQ 171 4 6 11 := by unfold zQ; decide +kernel
theorem zi_171_0 : (zM 171).1[0]? = some (.aload 0) := by rfl
theorem zi_171_1 : (zM 171).1[1]? = some (.iload 1) := by rfl
theorem zi_171_2 : (zM 171).1[2]? = some (.iload 3) := by rfl
theorem zi_171_3 : (zM 171).1[3]? = some (.invokevirtual 165) := by rfl
theorem zi_171_4 : (zM 171).1[4]? = some (.iload 2) := by rfl
theorem zi_171_5 : (zM 171).1[5]? = some (.isub) := by rfl
theorem zi_171_6 : (zM 171).1[6]? = some (.istore 4) := by rfl
theorem zi_171_7 : (zM 171).1[7]? = some (.aload 0) := by rfl
theorem zi_171_8 : (zM 171).1[8]? = some (.iload 4) := by rfl
theorem zi_171_9 : (zM 171).1[9]? = some (.ifCond .ge ((12 : Nat) : Int)) := by rfl
theorem zi_171_10 : (zM 171).1[10]? = some (.iconst 0) := by rfl
theorem zi_171_11 : (zM 171).1[11]? = some (.goto ((13 : Nat) : Int)) := by rfl
theorem zi_171_12 : (zM 171).1[12]? = some (.iload 4) := by rfl
theorem zi_171_13 : (zM 171).1[13]? = some (.putfield 11025) := by rfl
theorem zi_171_14 : (zM 171).1[14]? = some (.iload 2) := by rfl
theorem zi_171_15 : (zM 171).1[15]? = some (.aload 0) := by rfl
theorem zi_171_16 : (zM 171).1[16]? = some (.iload 1) := by rfl
theorem zi_171_17 : (zM 171).1[17]? = some (.invokevirtual 158) := by rfl
theorem zi_171_18 : (zM 171).1[18]? = some (.isub) := by rfl
theorem zi_171_19 : (zM 171).1[19]? = some (.istore 5) := by rfl
theorem zi_171_20 : (zM 171).1[20]? = some (.aload 0) := by rfl
theorem zi_171_21 : (zM 171).1[21]? = some (.aload 0) := by rfl
theorem zi_171_22 : (zM 171).1[22]? = some (.getfield 11215) := by rfl
theorem zi_171_23 : (zM 171).1[23]? = some (.iconst 11) := by rfl
theorem zi_171_24 : (zM 171).1[24]? = some (.iaload) := by rfl
theorem zi_171_25 : (zM 171).1[25]? = some (.ifCond .eq ((28 : Nat) : Int)) := by rfl
theorem zi_171_26 : (zM 171).1[26]? = some (.iload 5) := by rfl
theorem zi_171_27 : (zM 171).1[27]? = some (.ifCond .ge ((30 : Nat) : Int)) := by rfl
theorem zi_171_28 : (zM 171).1[28]? = some (.iconst 0) := by rfl
theorem zi_171_29 : (zM 171).1[29]? = some (.goto ((33 : Nat) : Int)) := by rfl
theorem zi_171_30 : (zM 171).1[30]? = some (.iload 5) := by rfl
theorem zi_171_31 : (zM 171).1[31]? = some (.iconst 8) := by rfl
theorem zi_171_32 : (zM 171).1[32]? = some (.invokestatic 164) := by rfl
theorem zi_171_33 : (zM 171).1[33]? = some (.putfield 11026) := by rfl
theorem zi_171_34 : (zM 171).1[34]? = some (.return_) := by rfl
/-- TakeOrPayModel.endYear(III)V -/
def w_171 (E : Nat → Nat) (d : Nat) (a0 : Nat) (a1 : Int32) (a2 : Int32) (a3 : Int32) (h : ZH) (Q : Option Value → ZH → Prop) : Prop := ztag h a0 = 11 ∧ Ct E d 165 [.ref a0, .int a1, .int a3] h (fun v h2 => ∃ x3 : Int32, v = some (.int x3) ∧ ∀ x4 : Int32, x4 = (x3 - a2) → ztag h2 a0 = 11 ∧ ∀ h6 : ZH, h6 = (zuI h2 a0 25 (if 0 ≤ x4 then x4 else 0)) → Ct E d 158 [.ref a0, .int a1] h6 (fun v h7 => ∃ x8 : Int32, v = some (.int x8) ∧ ∀ x9 : Int32, x9 = (a2 - x8) → ztag h7 a0 = 11 ∧ ∃ r11 : Nat, zR h7 a0 15 = r11 + 1 ∧ (ztag h7 r11 = 13 ∨ ztag h7 r11 = 19) ∧ zin 11 (zlen h7 r11) = true ∧ ((((zI h7 r11 11 : Int32) = 0 → (True)) ∧ (¬ ((zI h7 r11 11 : Int32) = 0) → (((0 ≤ x9 → (1 ≤ d ∧ sz_164 E h7 x9 8 ∧ True)) ∧ (¬ (0 ≤ x9) → (True))) ∧ True))) ∧ ∀ h13 : ZH, h13 = (zuI h7 a0 26 (if (zI h7 r11 11 : Int32) = 0 then 0 else if 0 ≤ x9 then fz_164 E h7 x9 8 else 0)) → Q none h13)))
set_option maxRecDepth 20000 in
theorem ok_171 {E : Nat → Nat} {d : Nat} {a0 : Nat} {a1 : Int32} {a2 : Int32} {a3 : Int32} {h : ZH} {Q : Option Value → ZH → Prop} (hw : w_171 E d a0 a1 a2 a3 h Q) : Ct E (d + 1) 171 [.ref a0, .int a1, .int a2, .int a3] h Q := by
  unfold w_171 at hw
  show Gx E (d + 1) 171 0 [.ref a0, .int a1, .int a2, .int a3, .retAddr 0, .retAddr 0] [] h Q
  refine zg_aload zi_171_0 rfl ?_
  refine zg_iload zi_171_1 rfl ?_
  refine zg_iload zi_171_2 rfl ?_
  obtain ⟨t1, hw⟩ := hw
  refine Gx.call2 (as := [.ref a0, .int a1, .int a3]) (rest := []) zq_165 zi_171_3 rfl rfl rfl (Nat.le_of_ble_eq_true rfl) (Nat.le_of_ble_eq_true rfl) (zrv_v t1 rfl rfl) (Nat.le_of_ble_eq_true rfl) ?_
  refine Ct.mono hw ?_
  rintro v h2 ⟨x3, rfl, hw⟩
  show Gx E (d + 1) 171 4 [.ref a0, .int a1, .int a2, .int a3, .retAddr 0, .retAddr 0] [.int x3] h2 Q
  refine zg_iload zi_171_4 rfl ?_
  refine zg_isub zi_171_5 ?_
  refine zg_nameI fun x4 ex4 => ?_
  have hw := hw x4 ex4
  refine zg_istore (ls1 := [.ref a0, .int a1, .int a2, .int a3, .int x4, .retAddr 0]) zi_171_6 (Nat.le_of_ble_eq_true rfl) rfl ?_
  refine zg_aload zi_171_7 rfl ?_
  refine zg_iload zi_171_8 rfl ?_
  have g9 : Gx E (d + 1) 171 13 [.ref a0, .int a1, .int a2, .int a3, .int x4, .retAddr 0] [.int (if 0 ≤ x4 then x4 else 0), .ref a0] h2 Q := by
    obtain ⟨t5, hw⟩ := hw
    refine zg_putI (h1 := zuI h2 a0 25 (if 0 ≤ x4 then x4 else 0)) zi_171_13 t5 (by rfl) rfl ?_
    refine zg_nameH fun h6 eh6 => ?_
    have hw := hw h6 eh6
    refine zg_iload zi_171_14 rfl ?_
    refine zg_aload zi_171_15 rfl ?_
    refine zg_iload zi_171_16 rfl ?_
    refine Gx.call2 (as := [.ref a0, .int a1]) (rest := [.int a2]) zq_158 zi_171_17 rfl rfl rfl (Nat.le_of_ble_eq_true rfl) (Nat.le_of_ble_eq_true rfl) (zrv_v (by rw [eh6]; exact t5) rfl rfl) (Nat.le_of_ble_eq_true rfl) ?_
    refine Ct.mono hw ?_
    rintro v h7 ⟨x8, rfl, hw⟩
    show Gx E (d + 1) 171 18 [.ref a0, .int a1, .int a2, .int a3, .int x4, .retAddr 0] [.int x8, .int a2] h7 Q
    refine zg_isub zi_171_18 ?_
    refine zg_nameI fun x9 ex9 => ?_
    have hw := hw x9 ex9
    refine zg_istore (ls1 := [.ref a0, .int a1, .int a2, .int a3, .int x4, .int x9]) zi_171_19 (Nat.le_of_ble_eq_true rfl) rfl ?_
    refine zg_aload zi_171_20 rfl ?_
    refine zg_aload zi_171_21 rfl ?_
    obtain ⟨t10, hw⟩ := hw
    obtain ⟨r11, er11, hw⟩ := hw
    refine zg_getR (v := .ref r11) zi_171_22 t10 (by rfl) (by show zrv (zR h7 a0 15) = _; rw [er11]; rfl) ?_
    refine zg_const (v := 11) zi_171_23 (by rfl) ?_
    obtain ⟨t12, hw⟩ := hw
    obtain ⟨hb, hw⟩ := hw
    refine zg_iaload (v := .int (zI h7 r11 11)) zi_171_24 t12 hb rfl ?_
    obtain ⟨hsd25, hw⟩ := hw
    have g25 : Gx E (d + 1) 171 33 [.ref a0, .int a1, .int a2, .int a3, .int x4, .int x9] [.int (if (zI h7 r11 11 : Int32) = 0 then 0 else if 0 ≤ x9 then fz_164 E h7 x9 8 else 0), .ref a0] h7 Q := by
      refine zg_putI (h1 := zuI h7 a0 26 (if (zI h7 r11 11 : Int32) = 0 then 0 else if 0 ≤ x9 then fz_164 E h7 x9 8 else 0)) zi_171_33 t10 (by rfl) rfl ?_
      refine zg_nameH fun h13 eh13 => ?_
      have hw := hw h13 eh13
      exact zg_return zi_171_34 hw
    refine zg_if_eq zi_171_25 (fun hc25 => ?_) (fun hc25 => ?_)
    · have hw := hsd25.1 hc25
      refine zg_const (v := 0) zi_171_28 (by rfl) ?_
      refine zg_goto zi_171_29 ?_
      have hg := g25
      simp only [if_pos hc25] at hg
      exact hg
    · have hw := hsd25.2 hc25
      refine zg_iload zi_171_26 rfl ?_
      obtain ⟨hsd27, hw⟩ := hw
      have g27 : Gx E (d + 1) 171 33 [.ref a0, .int a1, .int a2, .int a3, .int x4, .int x9] [.int (if 0 ≤ x9 then fz_164 E h7 x9 8 else 0), .ref a0] h7 Q := by
        have hg := g25
        simp only [if_neg hc25] at hg
        exact hg
      refine zg_if_ge zi_171_27 (fun hc27 => ?_) (fun hc27 => ?_)
      · have hw := hsd27.1 hc27
        refine zg_iload zi_171_30 rfl ?_
        refine zg_const (v := 8) zi_171_31 (by rfl) ?_
        obtain ⟨hd, hs, hw⟩ := hw
        refine Gx.call2 (as := [.int x9, .int 8]) (rest := [.ref a0]) zq_164 zi_171_32 rfl rfl rfl (Nat.le_of_ble_eq_true rfl) (Nat.le_of_ble_eq_true rfl) (rfl) (Nat.le_of_ble_eq_true rfl) ?_
        refine cz_164 hd hs ?_
        show Gx E (d + 1) 171 33 [.ref a0, .int a1, .int a2, .int a3, .int x4, .int x9] [.int (fz_164 E h7 x9 8), .ref a0] h7 Q
        have hg := g27
        simp only [if_pos hc27] at hg
        exact hg
      · have hw := hsd27.2 hc27
        refine zg_const (v := 0) zi_171_28 (by rfl) ?_
        refine zg_goto zi_171_29 ?_
        have hg := g27
        simp only [if_neg hc27] at hg
        exact hg
  refine zg_if_ge zi_171_9 (fun hc9 => ?_) (fun hc9 => ?_)
  · skip
    refine zg_iload zi_171_12 rfl ?_
    have hg := g9
    simp only [if_pos hc9] at hg
    exact hg
  · skip
    refine zg_const (v := 0) zi_171_10 (by rfl) ?_
    refine zg_goto zi_171_11 ?_
    have hg := g9
    simp only [if_neg hc9] at hg
    exact hg
theorem zq_172 : zQ 172 1 1 11 := by unfold zQ; decide +kernel
theorem zi_172_0 : (zM 172).1[0]? = some (.iconst 100) := by rfl
theorem zi_172_1 : (zM 172).1[1]? = some (.aload 0) := by rfl
theorem zi_172_2 : (zM 172).1[2]? = some (.getfield 11215) := by rfl
theorem zi_172_3 : (zM 172).1[3]? = some (.iconst 6) := by rfl
theorem zi_172_4 : (zM 172).1[4]? = some (.iaload) := by rfl
theorem zi_172_5 : (zM 172).1[5]? = some (.imul) := by rfl
theorem zi_172_6 : (zM 172).1[6]? = some (.aload 0) := by rfl
theorem zi_172_7 : (zM 172).1[7]? = some (.getfield 11025) := by rfl
theorem zi_172_8 : (zM 172).1[8]? = some (.imul) := by rfl
theorem zi_172_9 : (zM 172).1[9]? = some (.ireturn) := by rfl
/-- TakeOrPayModel.shortPaid()I -/
def w_172 (E : Nat → Nat) (d : Nat) (a0 : Nat) (h : ZH) (Q : Option Value → ZH → Prop) : Prop := ztag h a0 = 11 ∧ ∃ r2 : Nat, zR h a0 15 = r2 + 1 ∧ (ztag h r2 = 13 ∨ ztag h r2 = 19) ∧ zin 6 (zlen h r2) = true ∧ Q (some (.int ((100 * (zI h r2 6)) * (zI h a0 25)))) h
set_option maxRecDepth 20000 in
theorem ok_172 {E : Nat → Nat} {d : Nat} {a0 : Nat} {h : ZH} {Q : Option Value → ZH → Prop} (hw : w_172 E d a0 h Q) : Ct E (d + 1) 172 [.ref a0] h Q := by
  unfold w_172 at hw
  show Gx E (d + 1) 172 0 [.ref a0] [] h Q
  refine zg_const (v := 100) zi_172_0 (by rfl) ?_
  refine zg_aload zi_172_1 rfl ?_
  obtain ⟨t1, hw⟩ := hw
  obtain ⟨r2, er2, hw⟩ := hw
  refine zg_getR (v := .ref r2) zi_172_2 t1 (by rfl) (by show zrv (zR h a0 15) = _; rw [er2]; rfl) ?_
  refine zg_const (v := 6) zi_172_3 (by rfl) ?_
  obtain ⟨t3, hw⟩ := hw
  obtain ⟨hb, hw⟩ := hw
  refine zg_iaload (v := .int (zI h r2 6)) zi_172_4 t3 hb rfl ?_
  refine zg_imul zi_172_5 ?_
  refine zg_aload zi_172_6 rfl ?_
  refine zg_getI (v := .int (zI h a0 25)) zi_172_7 t1 (by rfl) rfl ?_
  refine zg_imul zi_172_8 ?_
  exact zg_ireturn zi_172_9 (by decide) hw
def fz_172 (E : Nat → Nat) (h : ZH) (a0 : Nat) : Int32 := (fun r2 : Nat => (100 * (zI h r2 6)) * (zI h a0 25)) (zR h a0 15 - 1)
def sz_172 (E : Nat → Nat) (h : ZH) (a0 : Nat) : Prop := ztag h a0 = 11 ∧ ∃ r2 : Nat, zR h a0 15 = r2 + 1 ∧ (ztag h r2 = 13 ∨ ztag h r2 = 19) ∧ zin 6 (zlen h r2) = true ∧ True
set_option maxRecDepth 20000 in
theorem cz_172 {E : Nat → Nat} {d : Nat} {a0 : Nat} {h : ZH} {Q : Option Value → ZH → Prop} (hd : 1 ≤ d) (hs : sz_172 E h a0) (hq : Q (some (.int (fz_172 E h a0))) h) : Ct E d 172 [.ref a0] h Q := by
  obtain ⟨d, rfl⟩ : ∃ n, d = n + 1 := ⟨d - 1, by omega⟩
  refine ok_172 ?_
  unfold w_172
  unfold sz_172 at hs
  unfold fz_172 at hq
  refine ⟨hs.1, ?_⟩
  have hs := hs.2
  obtain ⟨r2, hr, hs⟩ := hs
  refine ⟨r2, hr, ?_⟩
  rw [hr] at hq
  simp only [Nat.add_sub_cancel] at hq
  refine ⟨hs.1, ?_⟩
  have hs := hs.2
  refine ⟨hs.1, ?_⟩
  have hs := hs.2
  exact hq
theorem zq_173 : zQ 173 1 1 11 := by unfold zQ; decide +kernel
theorem zi_173_0 : (zM 173).1[0]? = some (.aload 0) := by rfl
theorem zi_173_1 : (zM 173).1[1]? = some (.getfield 11215) := by rfl
theorem zi_173_2 : (zM 173).1[2]? = some (.iconst 9) := by rfl
theorem zi_173_3 : (zM 173).1[3]? = some (.iaload) := by rfl
theorem zi_173_4 : (zM 173).1[4]? = some (.ifCond .ne ((7 : Nat) : Int)) := by rfl
theorem zi_173_5 : (zM 173).1[5]? = some (.iconst 0) := by rfl
theorem zi_173_6 : (zM 173).1[6]? = some (.goto ((9 : Nat) : Int)) := by rfl
theorem zi_173_7 : (zM 173).1[7]? = some (.aload 0) := by rfl
theorem zi_173_8 : (zM 173).1[8]? = some (.getfield 11025) := by rfl
theorem zi_173_9 : (zM 173).1[9]? = some (.ireturn) := by rfl
/-- TakeOrPayModel.madeNext()I -/
def w_173 (E : Nat → Nat) (d : Nat) (a0 : Nat) (h : ZH) (Q : Option Value → ZH → Prop) : Prop := ztag h a0 = 11 ∧ ∃ r2 : Nat, zR h a0 15 = r2 + 1 ∧ (ztag h r2 = 13 ∨ ztag h r2 = 19) ∧ zin 9 (zlen h r2) = true ∧ Q (some (.int (if ¬ (zI h r2 9 : Int32) = 0 then zI h a0 25 else 0))) h
set_option maxRecDepth 20000 in
theorem ok_173 {E : Nat → Nat} {d : Nat} {a0 : Nat} {h : ZH} {Q : Option Value → ZH → Prop} (hw : w_173 E d a0 h Q) : Ct E (d + 1) 173 [.ref a0] h Q := by
  unfold w_173 at hw
  show Gx E (d + 1) 173 0 [.ref a0] [] h Q
  refine zg_aload zi_173_0 rfl ?_
  obtain ⟨t1, hw⟩ := hw
  obtain ⟨r2, er2, hw⟩ := hw
  refine zg_getR (v := .ref r2) zi_173_1 t1 (by rfl) (by show zrv (zR h a0 15) = _; rw [er2]; rfl) ?_
  refine zg_const (v := 9) zi_173_2 (by rfl) ?_
  obtain ⟨t3, hw⟩ := hw
  obtain ⟨hb, hw⟩ := hw
  refine zg_iaload (v := .int (zI h r2 9)) zi_173_3 t3 hb rfl ?_
  have g4 : Gx E (d + 1) 173 9 [.ref a0] [.int (if ¬ (zI h r2 9 : Int32) = 0 then zI h a0 25 else 0)] h Q := by
    exact zg_ireturn zi_173_9 (by decide) hw
  refine zg_if_ne zi_173_4 (fun hc4 => ?_) (fun hc4 => ?_)
  · skip
    refine zg_aload zi_173_7 rfl ?_
    refine zg_getI (v := .int (zI h a0 25)) zi_173_8 t1 (by rfl) rfl ?_
    have hg := g4
    simp only [if_pos hc4] at hg
    exact hg
  · skip
    refine zg_const (v := 0) zi_173_5 (by rfl) ?_
    refine zg_goto zi_173_6 ?_
    have hg := g4
    simp only [if_neg hc4] at hg
    exact hg
def fz_173 (E : Nat → Nat) (h : ZH) (a0 : Nat) : Int32 := (fun r2 : Nat => if ¬ (zI h r2 9 : Int32) = 0 then zI h a0 25 else 0) (zR h a0 15 - 1)
def sz_173 (E : Nat → Nat) (h : ZH) (a0 : Nat) : Prop := ztag h a0 = 11 ∧ ∃ r2 : Nat, zR h a0 15 = r2 + 1 ∧ (ztag h r2 = 13 ∨ ztag h r2 = 19) ∧ zin 9 (zlen h r2) = true ∧ True
set_option maxRecDepth 20000 in
theorem cz_173 {E : Nat → Nat} {d : Nat} {a0 : Nat} {h : ZH} {Q : Option Value → ZH → Prop} (hd : 1 ≤ d) (hs : sz_173 E h a0) (hq : Q (some (.int (fz_173 E h a0))) h) : Ct E d 173 [.ref a0] h Q := by
  obtain ⟨d, rfl⟩ : ∃ n, d = n + 1 := ⟨d - 1, by omega⟩
  refine ok_173 ?_
  unfold w_173
  unfold sz_173 at hs
  unfold fz_173 at hq
  refine ⟨hs.1, ?_⟩
  have hs := hs.2
  obtain ⟨r2, hr, hs⟩ := hs
  refine ⟨r2, hr, ?_⟩
  rw [hr] at hq
  simp only [Nat.add_sub_cancel] at hq
  refine ⟨hs.1, ?_⟩
  have hs := hs.2
  refine ⟨hs.1, ?_⟩
  have hs := hs.2
  exact hq
theorem zq_174 : zQ 174 5 5 11 := by unfold zQ; decide +kernel
theorem zi_174_0 : (zM 174).1[0]? = some (.aload 0) := by rfl
theorem zi_174_1 : (zM 174).1[1]? = some (.iload 1) := by rfl
theorem zi_174_2 : (zM 174).1[2]? = some (.invokevirtual 160) := by rfl
theorem zi_174_3 : (zM 174).1[3]? = some (.ifCond .eq ((22 : Nat) : Int)) := by rfl
theorem zi_174_4 : (zM 174).1[4]? = some (.iload 2) := by rfl
theorem zi_174_5 : (zM 174).1[5]? = some (.i2l) := by rfl
theorem zi_174_6 : (zM 174).1[6]? = some (.jsr_w 0) := by rfl
theorem zi_174_7 : (zM 174).1[7]? = some (.jsr_w 20) := by rfl
theorem zi_174_8 : (zM 174).1[8]? = some (.invokestatic 135) := by rfl
theorem zi_174_9 : (zM 174).1[9]? = some (.ifCond .eq ((22 : Nat) : Int)) := by rfl
theorem zi_174_10 : (zM 174).1[10]? = some (.iload 3) := by rfl
theorem zi_174_11 : (zM 174).1[11]? = some (.i2l) := by rfl
theorem zi_174_12 : (zM 174).1[12]? = some (.jsr_w 0) := by rfl
theorem zi_174_13 : (zM 174).1[13]? = some (.jsr_w 8) := by rfl
theorem zi_174_14 : (zM 174).1[14]? = some (.invokestatic 135) := by rfl
theorem zi_174_15 : (zM 174).1[15]? = some (.ifCond .eq ((22 : Nat) : Int)) := by rfl
theorem zi_174_16 : (zM 174).1[16]? = some (.iload 4) := by rfl
theorem zi_174_17 : (zM 174).1[17]? = some (.i2l) := by rfl
theorem zi_174_18 : (zM 174).1[18]? = some (.jsr_w 0) := by rfl
theorem zi_174_19 : (zM 174).1[19]? = some (.jsr_w 3) := by rfl
theorem zi_174_20 : (zM 174).1[20]? = some (.invokestatic 135) := by rfl
theorem zi_174_21 : (zM 174).1[21]? = some (.ifCond .ne ((24 : Nat) : Int)) := by rfl
theorem zi_174_22 : (zM 174).1[22]? = some (.iconst (-1)) := by rfl
theorem zi_174_23 : (zM 174).1[23]? = some (.ireturn) := by rfl
theorem zi_174_24 : (zM 174).1[24]? = some (.aload 0) := by rfl
theorem zi_174_25 : (zM 174).1[25]? = some (.iload 1) := by rfl
theorem zi_174_26 : (zM 174).1[26]? = some (.iload 2) := by rfl
theorem zi_174_27 : (zM 174).1[27]? = some (.iload 3) := by rfl
theorem zi_174_28 : (zM 174).1[28]? = some (.invokevirtual 171) := by rfl
theorem zi_174_29 : (zM 174).1[29]? = some (.iload 4) := by rfl
theorem zi_174_30 : (zM 174).1[30]? = some (.ifCond .ne ((34 : Nat) : Int)) := by rfl
theorem zi_174_31 : (zM 174).1[31]? = some (.aload 0) := by rfl
theorem zi_174_32 : (zM 174).1[32]? = some (.getfield 11025) := by rfl
theorem zi_174_33 : (zM 174).1[33]? = some (.goto ((48 : Nat) : Int)) := by rfl
theorem zi_174_34 : (zM 174).1[34]? = some (.iload 4) := by rfl
theorem zi_174_35 : (zM 174).1[35]? = some (.iconst 1) := by rfl
theorem zi_174_36 : (zM 174).1[36]? = some (.if_icmp .ne ((40 : Nat) : Int)) := by rfl
theorem zi_174_37 : (zM 174).1[37]? = some (.aload 0) := by rfl
theorem zi_174_38 : (zM 174).1[38]? = some (.invokevirtual 172) := by rfl
theorem zi_174_39 : (zM 174).1[39]? = some (.goto ((48 : Nat) : Int)) := by rfl
theorem zi_174_40 : (zM 174).1[40]? = some (.iload 4) := by rfl
theorem zi_174_41 : (zM 174).1[41]? = some (.iconst 2) := by rfl
theorem zi_174_42 : (zM 174).1[42]? = some (.if_icmp .ne ((46 : Nat) : Int)) := by rfl
theorem zi_174_43 : (zM 174).1[43]? = some (.aload 0) := by rfl
theorem zi_174_44 : (zM 174).1[44]? = some (.invokevirtual 173) := by rfl
theorem zi_174_45 : (zM 174).1[45]? = some (.goto ((48 : Nat) : Int)) := by rfl
theorem zi_174_46 : (zM 174).1[46]? = some (.aload 0) := by rfl
theorem zi_174_47 : (zM 174).1[47]? = some (.getfield 11026) := by rfl
theorem zi_174_48 : (zM 174).1[48]? = some (.ireturn) := by rfl
/-- TakeOrPayModel.ends(IIII)I -/
def w_174 (E : Nat → Nat) (d : Nat) (a0 : Nat) (a1 : Int32) (a2 : Int32) (a3 : Int32) (a4 : Int32) (h : ZH) (Q : Option Value → ZH → Prop) : Prop := ztag h a0 = 11 ∧ 2 ≤ d ∧ sz_160 E h a0 a1 ∧ (((fz_160 E h a0 a1 : Int32) = 0 → (Q (some (.int ((-1)))) h)) ∧ (¬ ((fz_160 E h a0 a1 : Int32) = 0) → (1 ≤ d ∧ sz_135 E h a2.toInt64 0 20 ∧ (((fz_135 E h a2.toInt64 0 20 : Int32) = 0 → (Q (some (.int ((-1)))) h)) ∧ (¬ ((fz_135 E h a2.toInt64 0 20 : Int32) = 0) → (1 ≤ d ∧ sz_135 E h a3.toInt64 0 8 ∧ (((fz_135 E h a3.toInt64 0 8 : Int32) = 0 → (Q (some (.int ((-1)))) h)) ∧ (¬ ((fz_135 E h a3.toInt64 0 8 : Int32) = 0) → (1 ≤ d ∧ sz_135 E h a4.toInt64 0 3 ∧ ((¬ (fz_135 E h a4.toInt64 0 3 : Int32) = 0 → (Ct E d 171 [.ref a0, .int a1, .int a2, .int a3] h (fun v h2 => v = none ∧ (((¬ a4 = 0 → (((¬ a4 = 1 → (((¬ a4 = 2 → (ztag h2 a0 = 11 ∧ True)) ∧ (¬ (¬ a4 = 2) → (ztag h2 a0 = 11 ∧ 1 ≤ d ∧ sz_173 E h2 a0 ∧ True))) ∧ True)) ∧ (¬ (¬ a4 = 1) → (ztag h2 a0 = 11 ∧ 1 ≤ d ∧ sz_172 E h2 a0 ∧ True))) ∧ True)) ∧ (¬ (¬ a4 = 0) → (ztag h2 a0 = 11 ∧ True))) ∧ Q (some (.int (if ¬ a4 = 0 then if ¬ a4 = 1 then if ¬ a4 = 2 then zI h2 a0 26 else fz_173 E h2 a0 else fz_172 E h2 a0 else zI h2 a0 25))) h2)))) ∧ (¬ (¬ (fz_135 E h a4.toInt64 0 3 : Int32) = 0) → (Q (some (.int ((-1)))) h))))))))))))
set_option maxRecDepth 20000 in
theorem ok_174 {E : Nat → Nat} {d : Nat} {a0 : Nat} {a1 : Int32} {a2 : Int32} {a3 : Int32} {a4 : Int32} {h : ZH} {Q : Option Value → ZH → Prop} (hw : w_174 E d a0 a1 a2 a3 a4 h Q) : Ct E (d + 1) 174 [.ref a0, .int a1, .int a2, .int a3, .int a4] h Q := by
  unfold w_174 at hw
  show Gx E (d + 1) 174 0 [.ref a0, .int a1, .int a2, .int a3, .int a4] [] h Q
  refine zg_aload zi_174_0 rfl ?_
  refine zg_iload zi_174_1 rfl ?_
  obtain ⟨t1, hw⟩ := hw
  obtain ⟨hd, hs, hw⟩ := hw
  refine Gx.call2 (as := [.ref a0, .int a1]) (rest := []) zq_160 zi_174_2 rfl rfl rfl (Nat.le_of_ble_eq_true rfl) (Nat.le_of_ble_eq_true rfl) (zrv_v t1 rfl rfl) (Nat.le_of_ble_eq_true rfl) ?_
  refine cz_160 hd hs ?_
  show Gx E (d + 1) 174 3 [.ref a0, .int a1, .int a2, .int a3, .int a4] [.int (fz_160 E h a0 a1)] h Q
  refine zg_if_eq zi_174_3 (fun hc => ?_) (fun hc => ?_)
  · have hw := hw.1 hc
    refine zg_const (v := (-1)) zi_174_22 (by rfl) ?_
    exact zg_ireturn zi_174_23 (by decide) hw
  · have hw := hw.2 hc
    refine zg_iload zi_174_4 rfl ?_
    refine zg_i2l zi_174_5 ?_
    refine zg_lconst (v := 0) zi_174_6 (by rfl) ?_
    refine zg_lconst (v := 20) zi_174_7 (by rfl) ?_
    obtain ⟨hd, hs, hw⟩ := hw
    refine Gx.call2 (as := [.long a2.toInt64, .long 0, .long 20]) (rest := []) zq_135 zi_174_8 rfl rfl rfl (Nat.le_of_ble_eq_true rfl) (Nat.le_of_ble_eq_true rfl) (rfl) (Nat.le_of_ble_eq_true rfl) ?_
    refine cz_135 hd hs ?_
    show Gx E (d + 1) 174 9 [.ref a0, .int a1, .int a2, .int a3, .int a4] [.int (fz_135 E h a2.toInt64 0 20)] h Q
    refine zg_if_eq zi_174_9 (fun hc => ?_) (fun hc => ?_)
    · have hw := hw.1 hc
      refine zg_const (v := (-1)) zi_174_22 (by rfl) ?_
      exact zg_ireturn zi_174_23 (by decide) hw
    · have hw := hw.2 hc
      refine zg_iload zi_174_10 rfl ?_
      refine zg_i2l zi_174_11 ?_
      refine zg_lconst (v := 0) zi_174_12 (by rfl) ?_
      refine zg_lconst (v := 8) zi_174_13 (by rfl) ?_
      obtain ⟨hd, hs, hw⟩ := hw
      refine Gx.call2 (as := [.long a3.toInt64, .long 0, .long 8]) (rest := []) zq_135 zi_174_14 rfl rfl rfl (Nat.le_of_ble_eq_true rfl) (Nat.le_of_ble_eq_true rfl) (rfl) (Nat.le_of_ble_eq_true rfl) ?_
      refine cz_135 hd hs ?_
      show Gx E (d + 1) 174 15 [.ref a0, .int a1, .int a2, .int a3, .int a4] [.int (fz_135 E h a3.toInt64 0 8)] h Q
      refine zg_if_eq zi_174_15 (fun hc => ?_) (fun hc => ?_)
      · have hw := hw.1 hc
        refine zg_const (v := (-1)) zi_174_22 (by rfl) ?_
        exact zg_ireturn zi_174_23 (by decide) hw
      · have hw := hw.2 hc
        refine zg_iload zi_174_16 rfl ?_
        refine zg_i2l zi_174_17 ?_
        refine zg_lconst (v := 0) zi_174_18 (by rfl) ?_
        refine zg_lconst (v := 3) zi_174_19 (by rfl) ?_
        obtain ⟨hd, hs, hw⟩ := hw
        refine Gx.call2 (as := [.long a4.toInt64, .long 0, .long 3]) (rest := []) zq_135 zi_174_20 rfl rfl rfl (Nat.le_of_ble_eq_true rfl) (Nat.le_of_ble_eq_true rfl) (rfl) (Nat.le_of_ble_eq_true rfl) ?_
        refine cz_135 hd hs ?_
        show Gx E (d + 1) 174 21 [.ref a0, .int a1, .int a2, .int a3, .int a4] [.int (fz_135 E h a4.toInt64 0 3)] h Q
        refine zg_if_ne zi_174_21 (fun hc => ?_) (fun hc => ?_)
        · have hw := hw.1 hc
          refine zg_aload zi_174_24 rfl ?_
          refine zg_iload zi_174_25 rfl ?_
          refine zg_iload zi_174_26 rfl ?_
          refine zg_iload zi_174_27 rfl ?_
          refine Gx.call2 (as := [.ref a0, .int a1, .int a2, .int a3]) (rest := []) zq_171 zi_174_28 rfl rfl rfl (Nat.le_of_ble_eq_true rfl) (Nat.le_of_ble_eq_true rfl) (zrv_v t1 rfl rfl) (Nat.le_of_ble_eq_true rfl) ?_
          refine Ct.mono hw ?_
          rintro v h2 ⟨rfl, hw⟩
          show Gx E (d + 1) 174 29 [.ref a0, .int a1, .int a2, .int a3, .int a4] [] h2 Q
          refine zg_iload zi_174_29 rfl ?_
          obtain ⟨hsd30, hw⟩ := hw
          have g30 : Gx E (d + 1) 174 48 [.ref a0, .int a1, .int a2, .int a3, .int a4] [.int (if ¬ a4 = 0 then if ¬ a4 = 1 then if ¬ a4 = 2 then zI h2 a0 26 else fz_173 E h2 a0 else fz_172 E h2 a0 else zI h2 a0 25)] h2 Q := by
            exact zg_ireturn zi_174_48 (by decide) hw
          refine zg_if_ne zi_174_30 (fun hc30 => ?_) (fun hc30 => ?_)
          · have hw := hsd30.1 hc30
            refine zg_iload zi_174_34 rfl ?_
            refine zg_const (v := 1) zi_174_35 (by rfl) ?_
            obtain ⟨hsd36, hw⟩ := hw
            have g36 : Gx E (d + 1) 174 48 [.ref a0, .int a1, .int a2, .int a3, .int a4] [.int (if ¬ a4 = 1 then if ¬ a4 = 2 then zI h2 a0 26 else fz_173 E h2 a0 else fz_172 E h2 a0)] h2 Q := by
              have hg := g30
              simp only [if_pos hc30] at hg
              exact hg
            refine zg_icmp_ne zi_174_36 (fun hc36 => ?_) (fun hc36 => ?_)
            · have hw := hsd36.1 hc36
              refine zg_iload zi_174_40 rfl ?_
              refine zg_const (v := 2) zi_174_41 (by rfl) ?_
              obtain ⟨hsd42, hw⟩ := hw
              have g42 : Gx E (d + 1) 174 48 [.ref a0, .int a1, .int a2, .int a3, .int a4] [.int (if ¬ a4 = 2 then zI h2 a0 26 else fz_173 E h2 a0)] h2 Q := by
                have hg := g36
                simp only [if_pos hc36] at hg
                exact hg
              refine zg_icmp_ne zi_174_42 (fun hc42 => ?_) (fun hc42 => ?_)
              · have hw := hsd42.1 hc42
                refine zg_aload zi_174_46 rfl ?_
                obtain ⟨t3, hw⟩ := hw
                refine zg_getI (v := .int (zI h2 a0 26)) zi_174_47 t3 (by rfl) rfl ?_
                have hg := g42
                simp only [if_pos hc42] at hg
                exact hg
              · have hw := hsd42.2 hc42
                refine zg_aload zi_174_43 rfl ?_
                obtain ⟨t4, hw⟩ := hw
                obtain ⟨hd, hs, hw⟩ := hw
                refine Gx.call2 (as := [.ref a0]) (rest := []) zq_173 zi_174_44 rfl rfl rfl (Nat.le_of_ble_eq_true rfl) (Nat.le_of_ble_eq_true rfl) (zrv_v t4 rfl rfl) (Nat.le_of_ble_eq_true rfl) ?_
                refine cz_173 hd hs ?_
                show Gx E (d + 1) 174 45 [.ref a0, .int a1, .int a2, .int a3, .int a4] [.int (fz_173 E h2 a0)] h2 Q
                refine zg_goto zi_174_45 ?_
                have hg := g42
                simp only [if_neg hc42] at hg
                exact hg
            · have hw := hsd36.2 hc36
              refine zg_aload zi_174_37 rfl ?_
              obtain ⟨t5, hw⟩ := hw
              obtain ⟨hd, hs, hw⟩ := hw
              refine Gx.call2 (as := [.ref a0]) (rest := []) zq_172 zi_174_38 rfl rfl rfl (Nat.le_of_ble_eq_true rfl) (Nat.le_of_ble_eq_true rfl) (zrv_v t5 rfl rfl) (Nat.le_of_ble_eq_true rfl) ?_
              refine cz_172 hd hs ?_
              show Gx E (d + 1) 174 39 [.ref a0, .int a1, .int a2, .int a3, .int a4] [.int (fz_172 E h2 a0)] h2 Q
              refine zg_goto zi_174_39 ?_
              have hg := g36
              simp only [if_neg hc36] at hg
              exact hg
          · have hw := hsd30.2 hc30
            refine zg_aload zi_174_31 rfl ?_
            obtain ⟨t6, hw⟩ := hw
            refine zg_getI (v := .int (zI h2 a0 25)) zi_174_32 t6 (by rfl) rfl ?_
            refine zg_goto zi_174_33 ?_
            have hg := g30
            simp only [if_neg hc30] at hg
            exact hg
        · have hw := hw.2 hc
          refine zg_const (v := (-1)) zi_174_22 (by rfl) ?_
          exact zg_ireturn zi_174_23 (by decide) hw
theorem zq_175 : zQ 175 5 5 11 := by unfold zQ; decide +kernel
theorem zi_175_0 : (zM 175).1[0]? = some (.iload 0) := by rfl
theorem zi_175_1 : (zM 175).1[1]? = some (.iconst 21) := by rfl
theorem zi_175_2 : (zM 175).1[2]? = some (.imul) := by rfl
theorem zi_175_3 : (zM 175).1[3]? = some (.iload 1) := by rfl
theorem zi_175_4 : (zM 175).1[4]? = some (.iadd) := by rfl
theorem zi_175_5 : (zM 175).1[5]? = some (.iconst 13) := by rfl
theorem zi_175_6 : (zM 175).1[6]? = some (.imul) := by rfl
theorem zi_175_7 : (zM 175).1[7]? = some (.iload 2) := by rfl
theorem zi_175_8 : (zM 175).1[8]? = some (.iadd) := by rfl
theorem zi_175_9 : (zM 175).1[9]? = some (.iconst 9) := by rfl
theorem zi_175_10 : (zM 175).1[10]? = some (.imul) := by rfl
theorem zi_175_11 : (zM 175).1[11]? = some (.iload 3) := by rfl
theorem zi_175_12 : (zM 175).1[12]? = some (.iadd) := by rfl
theorem zi_175_13 : (zM 175).1[13]? = some (.iconst 3) := by rfl
theorem zi_175_14 : (zM 175).1[14]? = some (.imul) := by rfl
theorem zi_175_15 : (zM 175).1[15]? = some (.iload 4) := by rfl
theorem zi_175_16 : (zM 175).1[16]? = some (.iadd) := by rfl
theorem zi_175_17 : (zM 175).1[17]? = some (.ireturn) := by rfl
/-- TakeOrPayModel.at(IIIII)I -/
def w_175 (E : Nat → Nat) (d : Nat) (a0 : Int32) (a1 : Int32) (a2 : Int32) (a3 : Int32) (a4 : Int32) (h : ZH) (Q : Option Value → ZH → Prop) : Prop := Q (some (.int ((((((((a0 * 21) + a1) * 13) + a2) * 9) + a3) * 3) + a4))) h
set_option maxRecDepth 20000 in
theorem ok_175 {E : Nat → Nat} {d : Nat} {a0 : Int32} {a1 : Int32} {a2 : Int32} {a3 : Int32} {a4 : Int32} {h : ZH} {Q : Option Value → ZH → Prop} (hw : w_175 E d a0 a1 a2 a3 a4 h Q) : Ct E (d + 1) 175 [.int a0, .int a1, .int a2, .int a3, .int a4] h Q := by
  unfold w_175 at hw
  show Gx E (d + 1) 175 0 [.int a0, .int a1, .int a2, .int a3, .int a4] [] h Q
  refine zg_iload zi_175_0 rfl ?_
  refine zg_const (v := 21) zi_175_1 (by rfl) ?_
  refine zg_imul zi_175_2 ?_
  refine zg_iload zi_175_3 rfl ?_
  refine zg_iadd zi_175_4 ?_
  refine zg_const (v := 13) zi_175_5 (by rfl) ?_
  refine zg_imul zi_175_6 ?_
  refine zg_iload zi_175_7 rfl ?_
  refine zg_iadd zi_175_8 ?_
  refine zg_const (v := 9) zi_175_9 (by rfl) ?_
  refine zg_imul zi_175_10 ?_
  refine zg_iload zi_175_11 rfl ?_
  refine zg_iadd zi_175_12 ?_
  refine zg_const (v := 3) zi_175_13 (by rfl) ?_
  refine zg_imul zi_175_14 ?_
  refine zg_iload zi_175_15 rfl ?_
  refine zg_iadd zi_175_16 ?_
  exact zg_ireturn zi_175_17 (by decide) hw
def fz_175 (E : Nat → Nat) (h : ZH) (a0 : Int32) (a1 : Int32) (a2 : Int32) (a3 : Int32) (a4 : Int32) : Int32 := (((((((a0 * 21) + a1) * 13) + a2) * 9) + a3) * 3) + a4
def sz_175 (E : Nat → Nat) (h : ZH) (a0 : Int32) (a1 : Int32) (a2 : Int32) (a3 : Int32) (a4 : Int32) : Prop := True
set_option maxRecDepth 20000 in
theorem cz_175 {E : Nat → Nat} {d : Nat} {a0 : Int32} {a1 : Int32} {a2 : Int32} {a3 : Int32} {a4 : Int32} {h : ZH} {Q : Option Value → ZH → Prop} (hd : 1 ≤ d) (hs : sz_175 E h a0 a1 a2 a3 a4) (hq : Q (some (.int (fz_175 E h a0 a1 a2 a3 a4))) h) : Ct E d 175 [.int a0, .int a1, .int a2, .int a3, .int a4] h Q := by
  obtain ⟨d, rfl⟩ : ∃ n, d = n + 1 := ⟨d - 1, by omega⟩
  refine ok_175 ?_
  unfold w_175
  unfold sz_175 at hs
  unfold fz_175 at hq
  exact hq
theorem zq_176 : zQ 176 1 1 11 := by unfold zQ; decide +kernel
theorem zi_176_0 : (zM 176).1[0]? = some (.jsr_w 1) := by rfl
theorem zi_176_1 : (zM 176).1[1]? = some (.iconst 2) := by rfl
theorem zi_176_2 : (zM 176).1[2]? = some (.iload 0) := by rfl
theorem zi_176_3 : (zM 176).1[3]? = some (.imul) := by rfl
theorem zi_176_4 : (zM 176).1[4]? = some (.lshl) := by rfl
theorem zi_176_5 : (zM 176).1[5]? = some (.lreturn) := by rfl
/-- TakeOrPayModel.power(I)J -/
def w_176 (E : Nat → Nat) (d : Nat) (a0 : Int32) (h : ZH) (Q : Option Value → ZH → Prop) : Prop := Q (some (.long ((1 : Int64) <<< ((2 * a0 : Int32).toInt64 &&& 63)))) h
set_option maxRecDepth 20000 in
theorem ok_176 {E : Nat → Nat} {d : Nat} {a0 : Int32} {h : ZH} {Q : Option Value → ZH → Prop} (hw : w_176 E d a0 h Q) : Ct E (d + 1) 176 [.int a0] h Q := by
  unfold w_176 at hw
  show Gx E (d + 1) 176 0 [.int a0] [] h Q
  refine zg_lconst (v := 1) zi_176_0 (by rfl) ?_
  refine zg_const (v := 2) zi_176_1 (by rfl) ?_
  refine zg_iload zi_176_2 rfl ?_
  refine zg_imul zi_176_3 ?_
  refine zg_lshl zi_176_4 ?_
  exact zg_lreturn zi_176_5 hw
def fz_176 (E : Nat → Nat) (h : ZH) (a0 : Int32) : Int64 := (1 : Int64) <<< ((2 * a0 : Int32).toInt64 &&& 63)
def sz_176 (E : Nat → Nat) (h : ZH) (a0 : Int32) : Prop := True
set_option maxRecDepth 20000 in
theorem cz_176 {E : Nat → Nat} {d : Nat} {a0 : Int32} {h : ZH} {Q : Option Value → ZH → Prop} (hd : 1 ≤ d) (hs : sz_176 E h a0) (hq : Q (some (.long (fz_176 E h a0))) h) : Ct E d 176 [.int a0] h Q := by
  obtain ⟨d, rfl⟩ : ∃ n, d = n + 1 := ⟨d - 1, by omega⟩
  refine ok_176 ?_
  unfold w_176
  unfold sz_176 at hs
  unfold fz_176 at hq
  exact hq
theorem zq_177 : zQ 177 2 2 11 := by unfold zQ; decide +kernel
theorem zi_177_0 : (zM 177).1[0]? = some (.iload 1) := by rfl
theorem zi_177_1 : (zM 177).1[1]? = some (.iconst 1) := by rfl
theorem zi_177_2 : (zM 177).1[2]? = some (.iadd) := by rfl
theorem zi_177_3 : (zM 177).1[3]? = some (.aload 0) := by rfl
theorem zi_177_4 : (zM 177).1[4]? = some (.getfield 11215) := by rfl
theorem zi_177_5 : (zM 177).1[5]? = some (.iconst 1) := by rfl
theorem zi_177_6 : (zM 177).1[6]? = some (.iaload) := by rfl
theorem zi_177_7 : (zM 177).1[7]? = some (.irem) := by rfl
theorem zi_177_8 : (zM 177).1[8]? = some (.ifCond .ne ((11 : Nat) : Int)) := by rfl
theorem zi_177_9 : (zM 177).1[9]? = some (.iconst 1) := by rfl
theorem zi_177_10 : (zM 177).1[10]? = some (.goto ((12 : Nat) : Int)) := by rfl
theorem zi_177_11 : (zM 177).1[11]? = some (.iconst 0) := by rfl
theorem zi_177_12 : (zM 177).1[12]? = some (.ireturn) := by rfl
/-- TakeOrPayModel.isLast(I)Z -/
def w_177 (E : Nat → Nat) (d : Nat) (a0 : Nat) (a1 : Int32) (h : ZH) (Q : Option Value → ZH → Prop) : Prop := ztag h a0 = 11 ∧ ∃ r2 : Nat, zR h a0 15 = r2 + 1 ∧ (ztag h r2 = 13 ∨ ztag h r2 = 19) ∧ zin 1 (zlen h r2) = true ∧ ¬ (zI h r2 1) = 0 ∧ Q (some (.int (if ¬ ((a1 + 1) - (a1 + 1) / (zI h r2 1) * (zI h r2 1) : Int32) = 0 then 0 else 1))) h
set_option maxRecDepth 20000 in
theorem ok_177 {E : Nat → Nat} {d : Nat} {a0 : Nat} {a1 : Int32} {h : ZH} {Q : Option Value → ZH → Prop} (hw : w_177 E d a0 a1 h Q) : Ct E (d + 1) 177 [.ref a0, .int a1] h Q := by
  unfold w_177 at hw
  show Gx E (d + 1) 177 0 [.ref a0, .int a1] [] h Q
  refine zg_iload zi_177_0 rfl ?_
  refine zg_const (v := 1) zi_177_1 (by rfl) ?_
  refine zg_iadd zi_177_2 ?_
  refine zg_aload zi_177_3 rfl ?_
  obtain ⟨t1, hw⟩ := hw
  obtain ⟨r2, er2, hw⟩ := hw
  refine zg_getR (v := .ref r2) zi_177_4 t1 (by rfl) (by show zrv (zR h a0 15) = _; rw [er2]; rfl) ?_
  refine zg_const (v := 1) zi_177_5 (by rfl) ?_
  obtain ⟨t3, hw⟩ := hw
  obtain ⟨hb, hw⟩ := hw
  refine zg_iaload (v := .int (zI h r2 1)) zi_177_6 t3 hb rfl ?_
  obtain ⟨hc, hw⟩ := hw
  refine zg_irem zi_177_7 hc ?_
  have g8 : Gx E (d + 1) 177 12 [.ref a0, .int a1] [.int (if ¬ ((a1 + 1) - (a1 + 1) / (zI h r2 1) * (zI h r2 1) : Int32) = 0 then 0 else 1)] h Q := by
    exact zg_zreturn zi_177_12 (by (repeat' split) <;> first | (left; rfl) | (right; rfl)) hw
  refine zg_if_ne zi_177_8 (fun hc8 => ?_) (fun hc8 => ?_)
  · skip
    refine zg_const (v := 0) zi_177_11 (by rfl) ?_
    have hg := g8
    simp only [if_pos hc8] at hg
    exact hg
  · skip
    refine zg_const (v := 1) zi_177_9 (by rfl) ?_
    refine zg_goto zi_177_10 ?_
    have hg := g8
    simp only [if_neg hc8] at hg
    exact hg
def fz_177 (E : Nat → Nat) (h : ZH) (a0 : Nat) (a1 : Int32) : Int32 := (fun r2 : Nat => if ¬ ((a1 + 1) - (a1 + 1) / (zI h r2 1) * (zI h r2 1) : Int32) = 0 then 0 else 1) (zR h a0 15 - 1)
def sz_177 (E : Nat → Nat) (h : ZH) (a0 : Nat) (a1 : Int32) : Prop := ztag h a0 = 11 ∧ ∃ r2 : Nat, zR h a0 15 = r2 + 1 ∧ (ztag h r2 = 13 ∨ ztag h r2 = 19) ∧ zin 1 (zlen h r2) = true ∧ ¬ (zI h r2 1) = 0 ∧ True
set_option maxRecDepth 20000 in
theorem fb_177 {E : Nat → Nat} {h : ZH} {a0 : Nat} {a1 : Int32} : fz_177 E h a0 a1 = 0 ∨ fz_177 E h a0 a1 = 1 := by
  unfold fz_177
  (try dsimp only)
  (repeat' split) <;> first | (left; rfl) | (right; rfl)
set_option maxRecDepth 20000 in
theorem cz_177 {E : Nat → Nat} {d : Nat} {a0 : Nat} {a1 : Int32} {h : ZH} {Q : Option Value → ZH → Prop} (hd : 1 ≤ d) (hs : sz_177 E h a0 a1) (hq : Q (some (.int (fz_177 E h a0 a1))) h) : Ct E d 177 [.ref a0, .int a1] h Q := by
  obtain ⟨d, rfl⟩ : ∃ n, d = n + 1 := ⟨d - 1, by omega⟩
  refine ok_177 ?_
  unfold w_177
  unfold sz_177 at hs
  unfold fz_177 at hq
  refine ⟨hs.1, ?_⟩
  have hs := hs.2
  obtain ⟨r2, hr, hs⟩ := hs
  refine ⟨r2, hr, ?_⟩
  rw [hr] at hq
  simp only [Nat.add_sub_cancel] at hq
  refine ⟨hs.1, ?_⟩
  have hs := hs.2
  refine ⟨hs.1, ?_⟩
  have hs := hs.2
  refine ⟨hs.1, ?_⟩
  have hs := hs.2
  exact hq
theorem zq_178 : zQ 178 3 4 11 := by unfold zQ; decide +kernel
theorem zi_178_0 : (zM 178).1[0]? = some (.aload 0) := by rfl
theorem zi_178_1 : (zM 178).1[1]? = some (.getfield 11021) := by rfl
theorem zi_178_2 : (zM 178).1[2]? = some (.iconst 20) := by rfl
theorem zi_178_3 : (zM 178).1[3]? = some (.invokestatic 164) := by rfl
theorem zi_178_4 : (zM 178).1[4]? = some (.istore 3) := by rfl
theorem zi_178_5 : (zM 178).1[5]? = some (.aload 0) := by rfl
theorem zi_178_6 : (zM 178).1[6]? = some (.iconst 0) := by rfl
theorem zi_178_7 : (zM 178).1[7]? = some (.putfield 11031) := by rfl
theorem zi_178_8 : (zM 178).1[8]? = some (.aload 0) := by rfl
theorem zi_178_9 : (zM 178).1[9]? = some (.iload 1) := by rfl
theorem zi_178_10 : (zM 178).1[10]? = some (.invokevirtual 177) := by rfl
theorem zi_178_11 : (zM 178).1[11]? = some (.ifCond .eq ((39 : Nat) : Int)) := by rfl
theorem zi_178_12 : (zM 178).1[12]? = some (.aload 0) := by rfl
theorem zi_178_13 : (zM 178).1[13]? = some (.iload 1) := by rfl
theorem zi_178_14 : (zM 178).1[14]? = some (.aload 0) := by rfl
theorem zi_178_15 : (zM 178).1[15]? = some (.getfield 11215) := by rfl
theorem zi_178_16 : (zM 178).1[16]? = some (.iconst 1) := by rfl
theorem zi_178_17 : (zM 178).1[17]? = some (.iaload) := by rfl
theorem zi_178_18 : (zM 178).1[18]? = some (.idiv) := by rfl
theorem zi_178_19 : (zM 178).1[19]? = some (.iload 3) := by rfl
theorem zi_178_20 : (zM 178).1[20]? = some (.iload 2) := by rfl
theorem zi_178_21 : (zM 178).1[21]? = some (.invokevirtual 171) := by rfl
theorem zi_178_22 : (zM 178).1[22]? = some (.aload 0) := by rfl
theorem zi_178_23 : (zM 178).1[23]? = some (.aload 0) := by rfl
theorem zi_178_24 : (zM 178).1[24]? = some (.invokevirtual 172) := by rfl
theorem zi_178_25 : (zM 178).1[25]? = some (.putfield 11031) := by rfl
theorem zi_178_26 : (zM 178).1[26]? = some (.aload 0) := by rfl
theorem zi_178_27 : (zM 178).1[27]? = some (.iload 1) := by rfl
theorem zi_178_28 : (zM 178).1[28]? = some (.iconst 1) := by rfl
theorem zi_178_29 : (zM 178).1[29]? = some (.iadd) := by rfl
theorem zi_178_30 : (zM 178).1[30]? = some (.iconst 0) := by rfl
theorem zi_178_31 : (zM 178).1[31]? = some (.aload 0) := by rfl
theorem zi_178_32 : (zM 178).1[32]? = some (.invokevirtual 173) := by rfl
theorem zi_178_33 : (zM 178).1[33]? = some (.aload 0) := by rfl
theorem zi_178_34 : (zM 178).1[34]? = some (.getfield 11026) := by rfl
theorem zi_178_35 : (zM 178).1[35]? = some (.iconst 0) := by rfl
theorem zi_178_36 : (zM 178).1[36]? = some (.invokestatic 175) := by rfl
theorem zi_178_37 : (zM 178).1[37]? = some (.putfield 11030) := by rfl
theorem zi_178_38 : (zM 178).1[38]? = some (.goto ((50 : Nat) : Int)) := by rfl
theorem zi_178_39 : (zM 178).1[39]? = some (.aload 0) := by rfl
theorem zi_178_40 : (zM 178).1[40]? = some (.iload 1) := by rfl
theorem zi_178_41 : (zM 178).1[41]? = some (.iconst 1) := by rfl
theorem zi_178_42 : (zM 178).1[42]? = some (.iadd) := by rfl
theorem zi_178_43 : (zM 178).1[43]? = some (.iload 3) := by rfl
theorem zi_178_44 : (zM 178).1[44]? = some (.aload 0) := by rfl
theorem zi_178_45 : (zM 178).1[45]? = some (.getfield 11022) := by rfl
theorem zi_178_46 : (zM 178).1[46]? = some (.iload 2) := by rfl
theorem zi_178_47 : (zM 178).1[47]? = some (.iconst 0) := by rfl
theorem zi_178_48 : (zM 178).1[48]? = some (.invokestatic 175) := by rfl
theorem zi_178_49 : (zM 178).1[49]? = some (.putfield 11030) := by rfl
theorem zi_178_50 : (zM 178).1[50]? = some (.return_) := by rfl
/-- TakeOrPayModel.lead(II)V -/
def w_178 (E : Nat → Nat) (d : Nat) (a0 : Nat) (a1 : Int32) (a2 : Int32) (h : ZH) (Q : Option Value → ZH → Prop) : Prop := ztag h a0 = 11 ∧ 1 ≤ d ∧ sz_164 E h (zI h a0 21) 20 ∧ ∀ x2 : Int32, x2 = (fz_164 E h (zI h a0 21) 20) → ∀ h3 : ZH, h3 = (zuI h a0 31 0) → 1 ≤ d ∧ sz_177 E h3 a0 a1 ∧ (((fz_177 E h3 a0 a1 : Int32) = 0 → (1 ≤ d ∧ sz_175 E h3 (a1 + 1) x2 (zI h3 a0 22) a2 0 ∧ ∀ h4 : ZH, h4 = (zuI h3 a0 30 (fz_175 E h3 (a1 + 1) x2 (zI h3 a0 22) a2 0)) → Q none h4)) ∧ (¬ ((fz_177 E h3 a0 a1 : Int32) = 0) → (∃ r5 : Nat, zR h3 a0 15 = r5 + 1 ∧ (ztag h3 r5 = 13 ∨ ztag h3 r5 = 19) ∧ zin 1 (zlen h3 r5) = true ∧ ¬ (zI h3 r5 1) = 0 ∧ Ct E d 171 [.ref a0, .int (a1 / (zI h3 r5 1)), .int x2, .int a2] h3 (fun v h7 => v = none ∧ ztag h7 a0 = 11 ∧ 1 ≤ d ∧ sz_172 E h7 a0 ∧ ∀ h9 : ZH, h9 = (zuI h7 a0 31 (fz_172 E h7 a0)) → 1 ≤ d ∧ sz_173 E h9 a0 ∧ 1 ≤ d ∧ sz_175 E h9 (a1 + 1) 0 (fz_173 E h9 a0) (zI h9 a0 26) 0 ∧ ∀ h10 : ZH, h10 = (zuI h9 a0 30 (fz_175 E h9 (a1 + 1) 0 (fz_173 E h9 a0) (zI h9 a0 26) 0)) → Q none h10))))
set_option maxRecDepth 20000 in
theorem ok_178 {E : Nat → Nat} {d : Nat} {a0 : Nat} {a1 : Int32} {a2 : Int32} {h : ZH} {Q : Option Value → ZH → Prop} (hw : w_178 E d a0 a1 a2 h Q) : Ct E (d + 1) 178 [.ref a0, .int a1, .int a2] h Q := by
  unfold w_178 at hw
  show Gx E (d + 1) 178 0 [.ref a0, .int a1, .int a2, .retAddr 0] [] h Q
  refine zg_aload zi_178_0 rfl ?_
  obtain ⟨t1, hw⟩ := hw
  refine zg_getI (v := .int (zI h a0 21)) zi_178_1 t1 (by rfl) rfl ?_
  refine zg_const (v := 20) zi_178_2 (by rfl) ?_
  obtain ⟨hd, hs, hw⟩ := hw
  refine Gx.call2 (as := [.int (zI h a0 21), .int 20]) (rest := []) zq_164 zi_178_3 rfl rfl rfl (Nat.le_of_ble_eq_true rfl) (Nat.le_of_ble_eq_true rfl) (rfl) (Nat.le_of_ble_eq_true rfl) ?_
  refine cz_164 hd hs ?_
  show Gx E (d + 1) 178 4 [.ref a0, .int a1, .int a2, .retAddr 0] [.int (fz_164 E h (zI h a0 21) 20)] h Q
  refine zg_nameI fun x2 ex2 => ?_
  have hw := hw x2 ex2
  refine zg_istore (ls1 := [.ref a0, .int a1, .int a2, .int x2]) zi_178_4 (Nat.le_of_ble_eq_true rfl) rfl ?_
  refine zg_aload zi_178_5 rfl ?_
  refine zg_const (v := 0) zi_178_6 (by rfl) ?_
  refine zg_putI (h1 := zuI h a0 31 0) zi_178_7 t1 (by rfl) rfl ?_
  refine zg_nameH fun h3 eh3 => ?_
  have hw := hw h3 eh3
  refine zg_aload zi_178_8 rfl ?_
  refine zg_iload zi_178_9 rfl ?_
  obtain ⟨hd, hs, hw⟩ := hw
  refine Gx.call2 (as := [.ref a0, .int a1]) (rest := []) zq_177 zi_178_10 rfl rfl rfl (Nat.le_of_ble_eq_true rfl) (Nat.le_of_ble_eq_true rfl) (zrv_v (by rw [eh3]; exact t1) rfl rfl) (Nat.le_of_ble_eq_true rfl) ?_
  refine cz_177 hd hs ?_
  show Gx E (d + 1) 178 11 [.ref a0, .int a1, .int a2, .int x2] [.int (fz_177 E h3 a0 a1)] h3 Q
  refine zg_if_eq zi_178_11 (fun hc => ?_) (fun hc => ?_)
  · have hw := hw.1 hc
    refine zg_aload zi_178_39 rfl ?_
    refine zg_iload zi_178_40 rfl ?_
    refine zg_const (v := 1) zi_178_41 (by rfl) ?_
    refine zg_iadd zi_178_42 ?_
    refine zg_iload zi_178_43 rfl ?_
    refine zg_aload zi_178_44 rfl ?_
    refine zg_getI (v := .int (zI h3 a0 22)) zi_178_45 (by rw [eh3]; exact t1) (by rfl) rfl ?_
    refine zg_iload zi_178_46 rfl ?_
    refine zg_const (v := 0) zi_178_47 (by rfl) ?_
    obtain ⟨hd, hs, hw⟩ := hw
    refine Gx.call2 (as := [.int (a1 + 1), .int x2, .int (zI h3 a0 22), .int a2, .int 0]) (rest := [.ref a0]) zq_175 zi_178_48 rfl rfl rfl (Nat.le_of_ble_eq_true rfl) (Nat.le_of_ble_eq_true rfl) (rfl) (Nat.le_of_ble_eq_true rfl) ?_
    refine cz_175 hd hs ?_
    show Gx E (d + 1) 178 49 [.ref a0, .int a1, .int a2, .int x2] [.int (fz_175 E h3 (a1 + 1) x2 (zI h3 a0 22) a2 0), .ref a0] h3 Q
    refine zg_putI (h1 := zuI h3 a0 30 (fz_175 E h3 (a1 + 1) x2 (zI h3 a0 22) a2 0)) zi_178_49 (by rw [eh3]; exact t1) (by rfl) rfl ?_
    refine zg_nameH fun h4 eh4 => ?_
    have hw := hw h4 eh4
    exact zg_return zi_178_50 hw
  · have hw := hw.2 hc
    refine zg_aload zi_178_12 rfl ?_
    refine zg_iload zi_178_13 rfl ?_
    refine zg_aload zi_178_14 rfl ?_
    obtain ⟨r5, er5, hw⟩ := hw
    refine zg_getR (v := .ref r5) zi_178_15 (by rw [eh3]; exact t1) (by rfl) (by show zrv (zR h3 a0 15) = _; rw [er5]; rfl) ?_
    refine zg_const (v := 1) zi_178_16 (by rfl) ?_
    obtain ⟨t6, hw⟩ := hw
    obtain ⟨hb, hw⟩ := hw
    refine zg_iaload (v := .int (zI h3 r5 1)) zi_178_17 t6 hb rfl ?_
    obtain ⟨hc, hw⟩ := hw
    refine zg_idiv zi_178_18 hc ?_
    refine zg_iload zi_178_19 rfl ?_
    refine zg_iload zi_178_20 rfl ?_
    refine Gx.call2 (as := [.ref a0, .int (a1 / (zI h3 r5 1)), .int x2, .int a2]) (rest := []) zq_171 zi_178_21 rfl rfl rfl (Nat.le_of_ble_eq_true rfl) (Nat.le_of_ble_eq_true rfl) (zrv_v (by rw [eh3]; exact t1) rfl rfl) (Nat.le_of_ble_eq_true rfl) ?_
    refine Ct.mono hw ?_
    rintro v h7 ⟨rfl, hw⟩
    show Gx E (d + 1) 178 22 [.ref a0, .int a1, .int a2, .int x2] [] h7 Q
    refine zg_aload zi_178_22 rfl ?_
    refine zg_aload zi_178_23 rfl ?_
    obtain ⟨t8, hw⟩ := hw
    obtain ⟨hd, hs, hw⟩ := hw
    refine Gx.call2 (as := [.ref a0]) (rest := [.ref a0]) zq_172 zi_178_24 rfl rfl rfl (Nat.le_of_ble_eq_true rfl) (Nat.le_of_ble_eq_true rfl) (zrv_v t8 rfl rfl) (Nat.le_of_ble_eq_true rfl) ?_
    refine cz_172 hd hs ?_
    show Gx E (d + 1) 178 25 [.ref a0, .int a1, .int a2, .int x2] [.int (fz_172 E h7 a0), .ref a0] h7 Q
    refine zg_putI (h1 := zuI h7 a0 31 (fz_172 E h7 a0)) zi_178_25 t8 (by rfl) rfl ?_
    refine zg_nameH fun h9 eh9 => ?_
    have hw := hw h9 eh9
    refine zg_aload zi_178_26 rfl ?_
    refine zg_iload zi_178_27 rfl ?_
    refine zg_const (v := 1) zi_178_28 (by rfl) ?_
    refine zg_iadd zi_178_29 ?_
    refine zg_const (v := 0) zi_178_30 (by rfl) ?_
    refine zg_aload zi_178_31 rfl ?_
    obtain ⟨hd, hs, hw⟩ := hw
    refine Gx.call2 (as := [.ref a0]) (rest := [.int 0, .int (a1 + 1), .ref a0]) zq_173 zi_178_32 rfl rfl rfl (Nat.le_of_ble_eq_true rfl) (Nat.le_of_ble_eq_true rfl) (zrv_v (by rw [eh9]; exact t8) rfl rfl) (Nat.le_of_ble_eq_true rfl) ?_
    refine cz_173 hd hs ?_
    show Gx E (d + 1) 178 33 [.ref a0, .int a1, .int a2, .int x2] [.int (fz_173 E h9 a0), .int 0, .int (a1 + 1), .ref a0] h9 Q
    refine zg_aload zi_178_33 rfl ?_
    refine zg_getI (v := .int (zI h9 a0 26)) zi_178_34 (by rw [eh9]; exact t8) (by rfl) rfl ?_
    refine zg_const (v := 0) zi_178_35 (by rfl) ?_
    obtain ⟨hd, hs, hw⟩ := hw
    refine Gx.call2 (as := [.int (a1 + 1), .int 0, .int (fz_173 E h9 a0), .int (zI h9 a0 26), .int 0]) (rest := [.ref a0]) zq_175 zi_178_36 rfl rfl rfl (Nat.le_of_ble_eq_true rfl) (Nat.le_of_ble_eq_true rfl) (rfl) (Nat.le_of_ble_eq_true rfl) ?_
    refine cz_175 hd hs ?_
    show Gx E (d + 1) 178 37 [.ref a0, .int a1, .int a2, .int x2] [.int (fz_175 E h9 (a1 + 1) 0 (fz_173 E h9 a0) (zI h9 a0 26) 0), .ref a0] h9 Q
    refine zg_putI (h1 := zuI h9 a0 30 (fz_175 E h9 (a1 + 1) 0 (fz_173 E h9 a0) (zI h9 a0 26) 0)) zi_178_37 (by rw [eh9]; exact t8) (by rfl) rfl ?_
    refine zg_nameH fun h10 eh10 => ?_
    have hw := hw h10 eh10
    refine zg_goto zi_178_38 ?_
    exact zg_return zi_178_50 hw
theorem zq_179 : zQ 179 7 15 11 := by unfold zQ; decide +kernel
theorem zi_179_0 : (zM 179).1[0]? = some (.aload 0) := by rfl
theorem zi_179_1 : (zM 179).1[1]? = some (.invokevirtual 152) := by rfl
theorem zi_179_2 : (zM 179).1[2]? = some (.iconst 1) := by rfl
theorem zi_179_3 : (zM 179).1[3]? = some (.isub) := by rfl
theorem zi_179_4 : (zM 179).1[4]? = some (.iload 1) := by rfl
theorem zi_179_5 : (zM 179).1[5]? = some (.isub) := by rfl
theorem zi_179_6 : (zM 179).1[6]? = some (.invokestatic 176) := by rfl
theorem zi_179_7 : (zM 179).1[7]? = some (.lstore 7) := by rfl
theorem zi_179_8 : (zM 179).1[8]? = some (.jsr_w 0) := by rfl
theorem zi_179_9 : (zM 179).1[9]? = some (.lstore 9) := by rfl
theorem zi_179_10 : (zM 179).1[10]? = some (.aload 0) := by rfl
theorem zi_179_11 : (zM 179).1[11]? = some (.getfield 11215) := by rfl
theorem zi_179_12 : (zM 179).1[12]? = some (.iconst 12) := by rfl
theorem zi_179_13 : (zM 179).1[13]? = some (.iaload) := by rfl
theorem zi_179_14 : (zM 179).1[14]? = some (.ifCond .ne ((77 : Nat) : Int)) := by rfl
theorem zi_179_15 : (zM 179).1[15]? = some (.aload 0) := by rfl
theorem zi_179_16 : (zM 179).1[16]? = some (.iload 1) := by rfl
theorem zi_179_17 : (zM 179).1[17]? = some (.iload 2) := by rfl
theorem zi_179_18 : (zM 179).1[18]? = some (.iload 3) := by rfl
theorem zi_179_19 : (zM 179).1[19]? = some (.iload 4) := by rfl
theorem zi_179_20 : (zM 179).1[20]? = some (.iload 5) := by rfl
theorem zi_179_21 : (zM 179).1[21]? = some (.iload 6) := by rfl
theorem zi_179_22 : (zM 179).1[22]? = some (.invokevirtual 167) := by rfl
theorem zi_179_23 : (zM 179).1[23]? = some (.aload 0) := by rfl
theorem zi_179_24 : (zM 179).1[24]? = some (.iload 5) := by rfl
theorem zi_179_25 : (zM 179).1[25]? = some (.iload 6) := by rfl
theorem zi_179_26 : (zM 179).1[26]? = some (.invokevirtual 168) := by rfl
theorem zi_179_27 : (zM 179).1[27]? = some (.istore 11) := by rfl
theorem zi_179_28 : (zM 179).1[28]? = some (.aload 0) := by rfl
theorem zi_179_29 : (zM 179).1[29]? = some (.iload 1) := by rfl
theorem zi_179_30 : (zM 179).1[30]? = some (.iload 4) := by rfl
theorem zi_179_31 : (zM 179).1[31]? = some (.invokevirtual 178) := by rfl
theorem zi_179_32 : (zM 179).1[32]? = some (.lload 7) := by rfl
theorem zi_179_33 : (zM 179).1[33]? = some (.iload 11) := by rfl
theorem zi_179_34 : (zM 179).1[34]? = some (.aload 0) := by rfl
theorem zi_179_35 : (zM 179).1[35]? = some (.getfield 11031) := by rfl
theorem zi_179_36 : (zM 179).1[36]? = some (.isub) := by rfl
theorem zi_179_37 : (zM 179).1[37]? = some (.i2l) := by rfl
theorem zi_179_38 : (zM 179).1[38]? = some (.lmul) := by rfl
theorem zi_179_39 : (zM 179).1[39]? = some (.lstore 9) := by rfl
theorem zi_179_40 : (zM 179).1[40]? = some (.iconst 0) := by rfl
theorem zi_179_41 : (zM 179).1[41]? = some (.istore 12) := by rfl
theorem zi_179_42 : (zM 179).1[42]? = some (.iload 12) := by rfl
theorem zi_179_43 : (zM 179).1[43]? = some (.iconst 3) := by rfl
theorem zi_179_44 : (zM 179).1[44]? = some (.if_icmp .ge ((75 : Nat) : Int)) := by rfl
theorem zi_179_45 : (zM 179).1[45]? = some (.iload 1) := by rfl
theorem zi_179_46 : (zM 179).1[46]? = some (.iconst 1) := by rfl
theorem zi_179_47 : (zM 179).1[47]? = some (.iadd) := by rfl
theorem zi_179_48 : (zM 179).1[48]? = some (.aload 0) := by rfl
theorem zi_179_49 : (zM 179).1[49]? = some (.invokevirtual 152) := by rfl
theorem zi_179_50 : (zM 179).1[50]? = some (.if_icmp .ge ((75 : Nat) : Int)) := by rfl
theorem zi_179_51 : (zM 179).1[51]? = some (.lload 9) := by rfl
theorem zi_179_52 : (zM 179).1[52]? = some (.aload 0) := by rfl
theorem zi_179_53 : (zM 179).1[53]? = some (.getfield 11215) := by rfl
theorem zi_179_54 : (zM 179).1[54]? = some (.iconst 19) := by rfl
theorem zi_179_55 : (zM 179).1[55]? = some (.iconst 3) := by rfl
theorem zi_179_56 : (zM 179).1[56]? = some (.iload 5) := by rfl
theorem zi_179_57 : (zM 179).1[57]? = some (.imul) := by rfl
theorem zi_179_58 : (zM 179).1[58]? = some (.iadd) := by rfl
theorem zi_179_59 : (zM 179).1[59]? = some (.iload 12) := by rfl
theorem zi_179_60 : (zM 179).1[60]? = some (.iadd) := by rfl
theorem zi_179_61 : (zM 179).1[61]? = some (.iaload) := by rfl
theorem zi_179_62 : (zM 179).1[62]? = some (.i2l) := by rfl
theorem zi_179_63 : (zM 179).1[63]? = some (.aload 0) := by rfl
theorem zi_179_64 : (zM 179).1[64]? = some (.getfield 11227) := by rfl
theorem zi_179_65 : (zM 179).1[65]? = some (.aload 0) := by rfl
theorem zi_179_66 : (zM 179).1[66]? = some (.getfield 11030) := by rfl
theorem zi_179_67 : (zM 179).1[67]? = some (.iload 12) := by rfl
theorem zi_179_68 : (zM 179).1[68]? = some (.iadd) := by rfl
theorem zi_179_69 : (zM 179).1[69]? = some (.laload) := by rfl
theorem zi_179_70 : (zM 179).1[70]? = some (.lmul) := by rfl
theorem zi_179_71 : (zM 179).1[71]? = some (.ladd) := by rfl
theorem zi_179_72 : (zM 179).1[72]? = some (.lstore 9) := by rfl
theorem zi_179_73 : (zM 179).1[73]? = some (.iinc 12 1) := by rfl
theorem zi_179_74 : (zM 179).1[74]? = some (.goto ((42 : Nat) : Int)) := by rfl
theorem zi_179_75 : (zM 179).1[75]? = some (.lload 9) := by rfl
theorem zi_179_76 : (zM 179).1[76]? = some (.lreturn) := by rfl
theorem zi_179_77 : (zM 179).1[77]? = some (.iconst 0) := by rfl
theorem zi_179_78 : (zM 179).1[78]? = some (.istore 11) := by rfl
theorem zi_179_79 : (zM 179).1[79]? = some (.iload 11) := by rfl
theorem zi_179_80 : (zM 179).1[80]? = some (.iconst 3) := by rfl
theorem zi_179_81 : (zM 179).1[81]? = some (.if_icmp .ge ((141 : Nat) : Int)) := by rfl
theorem zi_179_82 : (zM 179).1[82]? = some (.aload 0) := by rfl
theorem zi_179_83 : (zM 179).1[83]? = some (.iload 1) := by rfl
theorem zi_179_84 : (zM 179).1[84]? = some (.iload 2) := by rfl
theorem zi_179_85 : (zM 179).1[85]? = some (.iload 3) := by rfl
theorem zi_179_86 : (zM 179).1[86]? = some (.iload 4) := by rfl
theorem zi_179_87 : (zM 179).1[87]? = some (.iload 11) := by rfl
theorem zi_179_88 : (zM 179).1[88]? = some (.iload 6) := by rfl
theorem zi_179_89 : (zM 179).1[89]? = some (.invokevirtual 167) := by rfl
theorem zi_179_90 : (zM 179).1[90]? = some (.aload 0) := by rfl
theorem zi_179_91 : (zM 179).1[91]? = some (.iload 11) := by rfl
theorem zi_179_92 : (zM 179).1[92]? = some (.iload 6) := by rfl
theorem zi_179_93 : (zM 179).1[93]? = some (.invokevirtual 168) := by rfl
theorem zi_179_94 : (zM 179).1[94]? = some (.istore 12) := by rfl
theorem zi_179_95 : (zM 179).1[95]? = some (.aload 0) := by rfl
theorem zi_179_96 : (zM 179).1[96]? = some (.iload 1) := by rfl
theorem zi_179_97 : (zM 179).1[97]? = some (.iload 4) := by rfl
theorem zi_179_98 : (zM 179).1[98]? = some (.invokevirtual 178) := by rfl
theorem zi_179_99 : (zM 179).1[99]? = some (.iload 1) := by rfl
theorem zi_179_100 : (zM 179).1[100]? = some (.iconst 1) := by rfl
theorem zi_179_101 : (zM 179).1[101]? = some (.iadd) := by rfl
theorem zi_179_102 : (zM 179).1[102]? = some (.aload 0) := by rfl
theorem zi_179_103 : (zM 179).1[103]? = some (.invokevirtual 152) := by rfl
theorem zi_179_104 : (zM 179).1[104]? = some (.if_icmp .ge ((113 : Nat) : Int)) := by rfl
theorem zi_179_105 : (zM 179).1[105]? = some (.aload 0) := by rfl
theorem zi_179_106 : (zM 179).1[106]? = some (.getfield 11227) := by rfl
theorem zi_179_107 : (zM 179).1[107]? = some (.aload 0) := by rfl
theorem zi_179_108 : (zM 179).1[108]? = some (.getfield 11030) := by rfl
theorem zi_179_109 : (zM 179).1[109]? = some (.iload 11) := by rfl
theorem zi_179_110 : (zM 179).1[110]? = some (.iadd) := by rfl
theorem zi_179_111 : (zM 179).1[111]? = some (.laload) := by rfl
theorem zi_179_112 : (zM 179).1[112]? = some (.goto ((114 : Nat) : Int)) := by rfl
theorem zi_179_113 : (zM 179).1[113]? = some (.jsr_w 0) := by rfl
theorem zi_179_114 : (zM 179).1[114]? = some (.lstore 13) := by rfl
theorem zi_179_115 : (zM 179).1[115]? = some (.lload 9) := by rfl
theorem zi_179_116 : (zM 179).1[116]? = some (.aload 0) := by rfl
theorem zi_179_117 : (zM 179).1[117]? = some (.getfield 11215) := by rfl
theorem zi_179_118 : (zM 179).1[118]? = some (.iconst 19) := by rfl
theorem zi_179_119 : (zM 179).1[119]? = some (.iconst 3) := by rfl
theorem zi_179_120 : (zM 179).1[120]? = some (.iload 5) := by rfl
theorem zi_179_121 : (zM 179).1[121]? = some (.imul) := by rfl
theorem zi_179_122 : (zM 179).1[122]? = some (.iadd) := by rfl
theorem zi_179_123 : (zM 179).1[123]? = some (.iload 11) := by rfl
theorem zi_179_124 : (zM 179).1[124]? = some (.iadd) := by rfl
theorem zi_179_125 : (zM 179).1[125]? = some (.iaload) := by rfl
theorem zi_179_126 : (zM 179).1[126]? = some (.i2l) := by rfl
theorem zi_179_127 : (zM 179).1[127]? = some (.lload 7) := by rfl
theorem zi_179_128 : (zM 179).1[128]? = some (.iload 12) := by rfl
theorem zi_179_129 : (zM 179).1[129]? = some (.aload 0) := by rfl
theorem zi_179_130 : (zM 179).1[130]? = some (.getfield 11031) := by rfl
theorem zi_179_131 : (zM 179).1[131]? = some (.isub) := by rfl
theorem zi_179_132 : (zM 179).1[132]? = some (.i2l) := by rfl
theorem zi_179_133 : (zM 179).1[133]? = some (.lmul) := by rfl
theorem zi_179_134 : (zM 179).1[134]? = some (.lload 13) := by rfl
theorem zi_179_135 : (zM 179).1[135]? = some (.ladd) := by rfl
theorem zi_179_136 : (zM 179).1[136]? = some (.lmul) := by rfl
theorem zi_179_137 : (zM 179).1[137]? = some (.ladd) := by rfl
theorem zi_179_138 : (zM 179).1[138]? = some (.lstore 9) := by rfl
theorem zi_179_139 : (zM 179).1[139]? = some (.iinc 11 1) := by rfl
theorem zi_179_140 : (zM 179).1[140]? = some (.goto ((79 : Nat) : Int)) := by rfl
theorem zi_179_141 : (zM 179).1[141]? = some (.lload 9) := by rfl
theorem zi_179_142 : (zM 179).1[142]? = some (.lreturn) := by rfl
def wb_179_141 (E : Nat → Nat) (d : Nat) (Q : Option Value → ZH → Prop) (a9 : Int64) (h : ZH) : Prop := Q (some (.long a9)) h
set_option maxRecDepth 20000 in
theorem okb_179_141 {E : Nat → Nat} {d : Nat} {Q : Option Value → ZH → Prop} {a9 : Int64} {h : ZH} (hw : wb_179_141 E d Q a9 h) : Gx E (d + 1) 179 141 [.retAddr 0, .retAddr 0, .retAddr 0, .retAddr 0, .retAddr 0, .retAddr 0, .retAddr 0, .retAddr 0, .retAddr 0, .long a9, .retAddr 0, .retAddr 0, .retAddr 0, .retAddr 0, .retAddr 0] [] h Q := by
  unfold wb_179_141 at hw
  refine zg_lload zi_179_141 rfl ?_
  exact zg_lreturn zi_179_142 hw
def wl_179_79 (E : Nat → Nat) (d : Nat) (Q : Option Value → ZH → Prop) : Nat → Nat → Int32 → Int32 → Int32 → Int32 → Int32 → Int32 → Int64 → Int64 → Int32 → ZH → Prop
  | 0, _, _, _, _, _, _, _, _, _, _, _ => False
  | n + 1, a0, a1, a2, a3, a4, a5, a6, a7, a9, a11, h => (3 ≤ a11 → (wb_179_141 E d Q a9 h)) ∧ (¬ (3 ≤ a11) → (ztag h a0 = 11 ∧ Ct E d 167 [.ref a0, .int a1, .int a2, .int a3, .int a4, .int a11, .int a6] h (fun v h6 => v = none ∧ ztag h6 a0 = 11 ∧ 2 ≤ d ∧ sz_168 E h6 a0 a11 a6 ∧ ∀ x8 : Int32, x8 = (fz_168 E h6 a0 a11 a6) → Ct E d 178 [.ref a0, .int a1, .int a4] h6 (fun v h9 => v = none ∧ ztag h9 a0 = 11 ∧ 1 ≤ d ∧ sz_152 E h9 a0 ∧ ((((fz_152 E h9 a0 : Int32) ≤ (a1 + 1 : Int32) → (True)) ∧ (¬ ((fz_152 E h9 a0 : Int32) ≤ (a1 + 1 : Int32)) → (¬ zR h9 a0 27 = 0 ∧ ztag h9 (zR h9 a0 27 - 1) = 14 ∧ zin ((zI h9 a0 30) + a11) (zlen h9 (zR h9 a0 27 - 1)) = true ∧ True))) ∧ ∀ x12 : Int64, x12 = (if (fz_152 E h9 a0 : Int32) ≤ (a1 + 1 : Int32) then 0 else zL h9 (zR h9 a0 27 - 1) ((zI h9 a0 30) + a11 : Int32).toNatClampNeg) → ∃ r13 : Nat, zR h9 a0 15 = r13 + 1 ∧ (ztag h9 r13 = 13 ∨ ztag h9 r13 = 19) ∧ zin ((19 + (3 * a5)) + a11) (zlen h9 r13) = true ∧ ∀ x15 : Int64, x15 = (a9 + (((zI h9 r13 ((19 + (3 * a5)) + a11 : Int32).toNatClampNeg : Int32).toInt64) * ((a7 * ((x8 - (zI h9 a0 31) : Int32).toInt64)) + x12))) → ∀ x16 : Int32, x16 = (a11 + 1) → wl_179_79 E d Q n a0 a1 a2 a3 a4 a5 a6 a7 x15 x16 h9)))))
set_option maxRecDepth 20000 in
theorem okl_179_79 {E : Nat → Nat} {d : Nat} {Q : Option Value → ZH → Prop} : ∀ (n : Nat) (a0 : Nat) (a1 : Int32) (a2 : Int32) (a3 : Int32) (a4 : Int32) (a5 : Int32) (a6 : Int32) (a7 : Int64) (a9 : Int64) (a11 : Int32) (h : ZH), wl_179_79 E d Q n a0 a1 a2 a3 a4 a5 a6 a7 a9 a11 h → Gx E (d + 1) 179 79 [.ref a0, .int a1, .int a2, .int a3, .int a4, .int a5, .int a6, .long a7, .retAddr 0, .long a9, .retAddr 0, .int a11, .retAddr 0, .retAddr 0, .retAddr 0] [] h Q := by
  intro n
  induction n with
  | zero => intro a0 a1 a2 a3 a4 a5 a6 a7 a9 a11 h hw; exact hw.elim
  | succ n ih =>
    intro a0 a1 a2 a3 a4 a5 a6 a7 a9 a11 h hw
    rw [wl_179_79] at hw
    refine zg_iload zi_179_79 rfl ?_
    refine zg_const (v := 3) zi_179_80 (by rfl) ?_
    refine zg_icmp_ge zi_179_81 (fun hc => ?_) (fun hc => ?_)
    · have hw := hw.1 hc
      exact Gx.forget (zrd (zrd (zrd (zrd (zrd (zrd (zrd (zrd (zrk (zrk (zrk (zrd (zrk (zrk (zrk zr0))))))))))))))) (okb_179_141 hw)
    · have hw := hw.2 hc
      refine zg_aload zi_179_82 rfl ?_
      refine zg_iload zi_179_83 rfl ?_
      refine zg_iload zi_179_84 rfl ?_
      refine zg_iload zi_179_85 rfl ?_
      refine zg_iload zi_179_86 rfl ?_
      refine zg_iload zi_179_87 rfl ?_
      refine zg_iload zi_179_88 rfl ?_
      obtain ⟨t5, hw⟩ := hw
      refine Gx.call2 (as := [.ref a0, .int a1, .int a2, .int a3, .int a4, .int a11, .int a6]) (rest := []) zq_167 zi_179_89 rfl rfl rfl (Nat.le_of_ble_eq_true rfl) (Nat.le_of_ble_eq_true rfl) (zrv_v t5 rfl rfl) (Nat.le_of_ble_eq_true rfl) ?_
      refine Ct.mono hw ?_
      rintro v h6 ⟨rfl, hw⟩
      show Gx E (d + 1) 179 90 [.ref a0, .int a1, .int a2, .int a3, .int a4, .int a5, .int a6, .long a7, .retAddr 0, .long a9, .retAddr 0, .int a11, .retAddr 0, .retAddr 0, .retAddr 0] [] h6 Q
      refine zg_aload zi_179_90 rfl ?_
      refine zg_iload zi_179_91 rfl ?_
      refine zg_iload zi_179_92 rfl ?_
      obtain ⟨t7, hw⟩ := hw
      obtain ⟨hd, hs, hw⟩ := hw
      refine Gx.call2 (as := [.ref a0, .int a11, .int a6]) (rest := []) zq_168 zi_179_93 rfl rfl rfl (Nat.le_of_ble_eq_true rfl) (Nat.le_of_ble_eq_true rfl) (zrv_v t7 rfl rfl) (Nat.le_of_ble_eq_true rfl) ?_
      refine cz_168 hd hs ?_
      show Gx E (d + 1) 179 94 [.ref a0, .int a1, .int a2, .int a3, .int a4, .int a5, .int a6, .long a7, .retAddr 0, .long a9, .retAddr 0, .int a11, .retAddr 0, .retAddr 0, .retAddr 0] [.int (fz_168 E h6 a0 a11 a6)] h6 Q
      refine zg_nameI fun x8 ex8 => ?_
      have hw := hw x8 ex8
      refine zg_istore (ls1 := [.ref a0, .int a1, .int a2, .int a3, .int a4, .int a5, .int a6, .long a7, .retAddr 0, .long a9, .retAddr 0, .int a11, .int x8, .retAddr 0, .retAddr 0]) zi_179_94 (Nat.le_of_ble_eq_true rfl) rfl ?_
      refine zg_aload zi_179_95 rfl ?_
      refine zg_iload zi_179_96 rfl ?_
      refine zg_iload zi_179_97 rfl ?_
      refine Gx.call2 (as := [.ref a0, .int a1, .int a4]) (rest := []) zq_178 zi_179_98 rfl rfl rfl (Nat.le_of_ble_eq_true rfl) (Nat.le_of_ble_eq_true rfl) (zrv_v t7 rfl rfl) (Nat.le_of_ble_eq_true rfl) ?_
      refine Ct.mono hw ?_
      rintro v h9 ⟨rfl, hw⟩
      show Gx E (d + 1) 179 99 [.ref a0, .int a1, .int a2, .int a3, .int a4, .int a5, .int a6, .long a7, .retAddr 0, .long a9, .retAddr 0, .int a11, .int x8, .retAddr 0, .retAddr 0] [] h9 Q
      refine zg_iload zi_179_99 rfl ?_
      refine zg_const (v := 1) zi_179_100 (by rfl) ?_
      refine zg_iadd zi_179_101 ?_
      refine zg_aload zi_179_102 rfl ?_
      obtain ⟨t10, hw⟩ := hw
      obtain ⟨hd, hs, hw⟩ := hw
      refine Gx.call2 (as := [.ref a0]) (rest := [.int (a1 + 1)]) zq_152 zi_179_103 rfl rfl rfl (Nat.le_of_ble_eq_true rfl) (Nat.le_of_ble_eq_true rfl) (zrv_v t10 rfl rfl) (Nat.le_of_ble_eq_true rfl) ?_
      refine cz_152 hd hs ?_
      show Gx E (d + 1) 179 104 [.ref a0, .int a1, .int a2, .int a3, .int a4, .int a5, .int a6, .long a7, .retAddr 0, .long a9, .retAddr 0, .int a11, .int x8, .retAddr 0, .retAddr 0] [.int (fz_152 E h9 a0), .int (a1 + 1)] h9 Q
      obtain ⟨hsd104, hw⟩ := hw
      have g104 : Gx E (d + 1) 179 114 [.ref a0, .int a1, .int a2, .int a3, .int a4, .int a5, .int a6, .long a7, .retAddr 0, .long a9, .retAddr 0, .int a11, .int x8, .retAddr 0, .retAddr 0] [.long (if (fz_152 E h9 a0 : Int32) ≤ (a1 + 1 : Int32) then 0 else zL h9 (zR h9 a0 27 - 1) ((zI h9 a0 30) + a11 : Int32).toNatClampNeg)] h9 Q := by
        refine zg_nameL fun x12 ex12 => ?_
        have hw := hw x12 ex12
        refine zg_lstore (ls1 := [.ref a0, .int a1, .int a2, .int a3, .int a4, .int a5, .int a6, .long a7, .retAddr 0, .long a9, .retAddr 0, .int a11, .int x8, .long x12, .retAddr 0]) zi_179_114 (Nat.le_of_ble_eq_true rfl) rfl ?_
        refine zg_lload zi_179_115 rfl ?_
        refine zg_aload zi_179_116 rfl ?_
        obtain ⟨r13, er13, hw⟩ := hw
        refine zg_getR (v := .ref r13) zi_179_117 t10 (by rfl) (by show zrv (zR h9 a0 15) = _; rw [er13]; rfl) ?_
        refine zg_const (v := 19) zi_179_118 (by rfl) ?_
        refine zg_const (v := 3) zi_179_119 (by rfl) ?_
        refine zg_iload zi_179_120 rfl ?_
        refine zg_imul zi_179_121 ?_
        refine zg_iadd zi_179_122 ?_
        refine zg_iload zi_179_123 rfl ?_
        refine zg_iadd zi_179_124 ?_
        obtain ⟨t14, hw⟩ := hw
        obtain ⟨hb, hw⟩ := hw
        refine zg_iaload (v := .int (zI h9 r13 ((19 + (3 * a5)) + a11 : Int32).toNatClampNeg)) zi_179_125 t14 hb rfl ?_
        refine zg_i2l zi_179_126 ?_
        refine zg_lload zi_179_127 rfl ?_
        refine zg_iload zi_179_128 rfl ?_
        refine zg_aload zi_179_129 rfl ?_
        refine zg_getI (v := .int (zI h9 a0 31)) zi_179_130 t10 (by rfl) rfl ?_
        refine zg_isub zi_179_131 ?_
        refine zg_i2l zi_179_132 ?_
        refine zg_lmul zi_179_133 ?_
        refine zg_lload zi_179_134 rfl ?_
        refine zg_ladd zi_179_135 ?_
        refine zg_lmul zi_179_136 ?_
        refine zg_ladd zi_179_137 ?_
        refine zg_nameL fun x15 ex15 => ?_
        have hw := hw x15 ex15
        refine zg_lstore (ls1 := [.ref a0, .int a1, .int a2, .int a3, .int a4, .int a5, .int a6, .long a7, .retAddr 0, .long x15, .retAddr 0, .int a11, .int x8, .long x12, .retAddr 0]) zi_179_138 (Nat.le_of_ble_eq_true rfl) rfl ?_
        obtain ⟨x16, ex16⟩ : ∃ x : Int32, x = a11 + 1 := ⟨_, rfl⟩
        have hw := hw x16 ex16
        refine zg_iinc (v := x16) (ls1 := [.ref a0, .int a1, .int a2, .int a3, .int a4, .int a5, .int a6, .long a7, .retAddr 0, .long x15, .retAddr 0, .int x16, .int x8, .long x12, .retAddr 0]) zi_179_139 rfl (by rw [ex16]; rfl) rfl ?_
        refine zg_goto zi_179_140 ?_
        exact Gx.forget (zrk (zrk (zrk (zrk (zrk (zrk (zrk (zrk (zrk (zrk (zrk (zrk (zrd (zrd (zrk zr0))))))))))))))) (ih a0 a1 a2 a3 a4 a5 a6 a7 x15 x16 h9 hw)
      refine zg_icmp_ge zi_179_104 (fun hc104 => ?_) (fun hc104 => ?_)
      · have hw := hsd104.1 hc104
        refine zg_lconst (v := 0) zi_179_113 (by rfl) ?_
        have hg := g104
        simp only [if_pos hc104] at hg
        exact hg
      · have hw := hsd104.2 hc104
        refine zg_aload zi_179_105 rfl ?_
        obtain ⟨hr, hw⟩ := hw
        refine zg_getR (v := .ref (zR h9 a0 27 - 1)) zi_179_106 t10 (by rfl) (zrv_p hr) ?_
        refine zg_aload zi_179_107 rfl ?_
        refine zg_getI (v := .int (zI h9 a0 30)) zi_179_108 t10 (by rfl) rfl ?_
        refine zg_iload zi_179_109 rfl ?_
        refine zg_iadd zi_179_110 ?_
        obtain ⟨t11, hw⟩ := hw
        obtain ⟨hb, hw⟩ := hw
        refine zg_laload (v := .long (zL h9 (zR h9 a0 27 - 1) ((zI h9 a0 30) + a11 : Int32).toNatClampNeg)) zi_179_111 t11 hb rfl ?_
        refine zg_goto zi_179_112 ?_
        have hg := g104
        simp only [if_neg hc104] at hg
        exact hg
def wb_179_75 (E : Nat → Nat) (d : Nat) (Q : Option Value → ZH → Prop) (a9 : Int64) (h : ZH) : Prop := Q (some (.long a9)) h
set_option maxRecDepth 20000 in
theorem okb_179_75 {E : Nat → Nat} {d : Nat} {Q : Option Value → ZH → Prop} {a9 : Int64} {h : ZH} (hw : wb_179_75 E d Q a9 h) : Gx E (d + 1) 179 75 [.retAddr 0, .retAddr 0, .retAddr 0, .retAddr 0, .retAddr 0, .retAddr 0, .retAddr 0, .retAddr 0, .retAddr 0, .long a9, .retAddr 0, .retAddr 0, .retAddr 0, .retAddr 0, .retAddr 0] [] h Q := by
  unfold wb_179_75 at hw
  refine zg_lload zi_179_75 rfl ?_
  exact zg_lreturn zi_179_76 hw
def wl_179_42 (E : Nat → Nat) (d : Nat) (Q : Option Value → ZH → Prop) : Nat → Nat → Int32 → Int32 → Int64 → Int32 → ZH → Prop
  | 0, _, _, _, _, _, _ => False
  | n + 1, a0, a1, a5, a9, a12, h => (3 ≤ a12 → (wb_179_75 E d Q a9 h)) ∧ (¬ (3 ≤ a12) → (ztag h a0 = 11 ∧ 1 ≤ d ∧ sz_152 E h a0 ∧ (((fz_152 E h a0 : Int32) ≤ (a1 + 1 : Int32) → (wb_179_75 E d Q a9 h)) ∧ (¬ ((fz_152 E h a0 : Int32) ≤ (a1 + 1 : Int32)) → (∃ r24 : Nat, zR h a0 15 = r24 + 1 ∧ (ztag h r24 = 13 ∨ ztag h r24 = 19) ∧ zin ((19 + (3 * a5)) + a12) (zlen h r24) = true ∧ ∃ r26 : Nat, zR h a0 27 = r26 + 1 ∧ ztag h r26 = 14 ∧ zin ((zI h a0 30) + a12) (zlen h r26) = true ∧ ∀ x28 : Int64, x28 = (a9 + (((zI h r24 ((19 + (3 * a5)) + a12 : Int32).toNatClampNeg : Int32).toInt64) * (zL h r26 ((zI h a0 30) + a12 : Int32).toNatClampNeg))) → ∀ x29 : Int32, x29 = (a12 + 1) → wl_179_42 E d Q n a0 a1 a5 x28 x29 h)))))
set_option maxRecDepth 20000 in
theorem okl_179_42 {E : Nat → Nat} {d : Nat} {Q : Option Value → ZH → Prop} : ∀ (n : Nat) (a0 : Nat) (a1 : Int32) (a5 : Int32) (a9 : Int64) (a12 : Int32) (h : ZH), wl_179_42 E d Q n a0 a1 a5 a9 a12 h → Gx E (d + 1) 179 42 [.ref a0, .int a1, .retAddr 0, .retAddr 0, .retAddr 0, .int a5, .retAddr 0, .retAddr 0, .retAddr 0, .long a9, .retAddr 0, .retAddr 0, .int a12, .retAddr 0, .retAddr 0] [] h Q := by
  intro n
  induction n with
  | zero => intro a0 a1 a5 a9 a12 h hw; exact hw.elim
  | succ n ih =>
    intro a0 a1 a5 a9 a12 h hw
    rw [wl_179_42] at hw
    refine zg_iload zi_179_42 rfl ?_
    refine zg_const (v := 3) zi_179_43 (by rfl) ?_
    refine zg_icmp_ge zi_179_44 (fun hc => ?_) (fun hc => ?_)
    · have hw := hw.1 hc
      exact Gx.forget (zrd (zrd (zrk (zrk (zrk (zrd (zrk (zrk (zrk (zrk (zrk (zrk (zrd (zrk (zrk zr0))))))))))))))) (okb_179_75 hw)
    · have hw := hw.2 hc
      refine zg_iload zi_179_45 rfl ?_
      refine zg_const (v := 1) zi_179_46 (by rfl) ?_
      refine zg_iadd zi_179_47 ?_
      refine zg_aload zi_179_48 rfl ?_
      obtain ⟨t23, hw⟩ := hw
      obtain ⟨hd, hs, hw⟩ := hw
      refine Gx.call2 (as := [.ref a0]) (rest := [.int (a1 + 1)]) zq_152 zi_179_49 rfl rfl rfl (Nat.le_of_ble_eq_true rfl) (Nat.le_of_ble_eq_true rfl) (zrv_v t23 rfl rfl) (Nat.le_of_ble_eq_true rfl) ?_
      refine cz_152 hd hs ?_
      show Gx E (d + 1) 179 50 [.ref a0, .int a1, .retAddr 0, .retAddr 0, .retAddr 0, .int a5, .retAddr 0, .retAddr 0, .retAddr 0, .long a9, .retAddr 0, .retAddr 0, .int a12, .retAddr 0, .retAddr 0] [.int (fz_152 E h a0), .int (a1 + 1)] h Q
      refine zg_icmp_ge zi_179_50 (fun hc => ?_) (fun hc => ?_)
      · have hw := hw.1 hc
        exact Gx.forget (zrd (zrd (zrk (zrk (zrk (zrd (zrk (zrk (zrk (zrk (zrk (zrk (zrd (zrk (zrk zr0))))))))))))))) (okb_179_75 hw)
      · have hw := hw.2 hc
        refine zg_lload zi_179_51 rfl ?_
        refine zg_aload zi_179_52 rfl ?_
        obtain ⟨r24, er24, hw⟩ := hw
        refine zg_getR (v := .ref r24) zi_179_53 t23 (by rfl) (by show zrv (zR h a0 15) = _; rw [er24]; rfl) ?_
        refine zg_const (v := 19) zi_179_54 (by rfl) ?_
        refine zg_const (v := 3) zi_179_55 (by rfl) ?_
        refine zg_iload zi_179_56 rfl ?_
        refine zg_imul zi_179_57 ?_
        refine zg_iadd zi_179_58 ?_
        refine zg_iload zi_179_59 rfl ?_
        refine zg_iadd zi_179_60 ?_
        obtain ⟨t25, hw⟩ := hw
        obtain ⟨hb, hw⟩ := hw
        refine zg_iaload (v := .int (zI h r24 ((19 + (3 * a5)) + a12 : Int32).toNatClampNeg)) zi_179_61 t25 hb rfl ?_
        refine zg_i2l zi_179_62 ?_
        refine zg_aload zi_179_63 rfl ?_
        obtain ⟨r26, er26, hw⟩ := hw
        refine zg_getR (v := .ref r26) zi_179_64 t23 (by rfl) (by show zrv (zR h a0 27) = _; rw [er26]; rfl) ?_
        refine zg_aload zi_179_65 rfl ?_
        refine zg_getI (v := .int (zI h a0 30)) zi_179_66 t23 (by rfl) rfl ?_
        refine zg_iload zi_179_67 rfl ?_
        refine zg_iadd zi_179_68 ?_
        obtain ⟨t27, hw⟩ := hw
        obtain ⟨hb, hw⟩ := hw
        refine zg_laload (v := .long (zL h r26 ((zI h a0 30) + a12 : Int32).toNatClampNeg)) zi_179_69 t27 hb rfl ?_
        refine zg_lmul zi_179_70 ?_
        refine zg_ladd zi_179_71 ?_
        refine zg_nameL fun x28 ex28 => ?_
        have hw := hw x28 ex28
        refine zg_lstore (ls1 := [.ref a0, .int a1, .retAddr 0, .retAddr 0, .retAddr 0, .int a5, .retAddr 0, .retAddr 0, .retAddr 0, .long x28, .retAddr 0, .retAddr 0, .int a12, .retAddr 0, .retAddr 0]) zi_179_72 (Nat.le_of_ble_eq_true rfl) rfl ?_
        obtain ⟨x29, ex29⟩ : ∃ x : Int32, x = a12 + 1 := ⟨_, rfl⟩
        have hw := hw x29 ex29
        refine zg_iinc (v := x29) (ls1 := [.ref a0, .int a1, .retAddr 0, .retAddr 0, .retAddr 0, .int a5, .retAddr 0, .retAddr 0, .retAddr 0, .long x28, .retAddr 0, .retAddr 0, .int x29, .retAddr 0, .retAddr 0]) zi_179_73 rfl (by rw [ex29]; rfl) rfl ?_
        refine zg_goto zi_179_74 ?_
        exact ih a0 a1 a5 x28 x29 h hw
/-- TakeOrPayModel.worthBy(IIIIII)J -/
def w_179 (E : Nat → Nat) (d : Nat) (a0 : Nat) (a1 : Int32) (a2 : Int32) (a3 : Int32) (a4 : Int32) (a5 : Int32) (a6 : Int32) (h : ZH) (Q : Option Value → ZH → Prop) : Prop := ztag h a0 = 11 ∧ 1 ≤ d ∧ sz_152 E h a0 ∧ 1 ≤ d ∧ sz_176 E h (((fz_152 E h a0) - 1) - a1) ∧ ∀ x2 : Int64, x2 = (fz_176 E h (((fz_152 E h a0) - 1) - a1)) → ∃ r3 : Nat, zR h a0 15 = r3 + 1 ∧ (ztag h r3 = 13 ∨ ztag h r3 = 19) ∧ zin 12 (zlen h r3) = true ∧ ((¬ (zI h r3 12 : Int32) = 0 → (∃ mm : Nat, wl_179_79 E d Q mm a0 a1 a2 a3 a4 a5 a6 x2 0 0 h)) ∧ (¬ (¬ (zI h r3 12 : Int32) = 0) → (Ct E d 167 [.ref a0, .int a1, .int a2, .int a3, .int a4, .int a5, .int a6] h (fun v h17 => v = none ∧ ztag h17 a0 = 11 ∧ 2 ≤ d ∧ sz_168 E h17 a0 a5 a6 ∧ ∀ x19 : Int32, x19 = (fz_168 E h17 a0 a5 a6) → Ct E d 178 [.ref a0, .int a1, .int a4] h17 (fun v h20 => v = none ∧ ztag h20 a0 = 11 ∧ ∀ x22 : Int64, x22 = (x2 * ((x19 - (zI h20 a0 31) : Int32).toInt64)) → (∃ mm : Nat, wl_179_42 E d Q mm a0 a1 a5 x22 0 h20))))))
set_option maxRecDepth 20000 in
theorem ok_179 {E : Nat → Nat} {d : Nat} {a0 : Nat} {a1 : Int32} {a2 : Int32} {a3 : Int32} {a4 : Int32} {a5 : Int32} {a6 : Int32} {h : ZH} {Q : Option Value → ZH → Prop} (hw : w_179 E d a0 a1 a2 a3 a4 a5 a6 h Q) : Ct E (d + 1) 179 [.ref a0, .int a1, .int a2, .int a3, .int a4, .int a5, .int a6] h Q := by
  unfold w_179 at hw
  show Gx E (d + 1) 179 0 [.ref a0, .int a1, .int a2, .int a3, .int a4, .int a5, .int a6, .retAddr 0, .retAddr 0, .retAddr 0, .retAddr 0, .retAddr 0, .retAddr 0, .retAddr 0, .retAddr 0] [] h Q
  refine zg_aload zi_179_0 rfl ?_
  obtain ⟨t1, hw⟩ := hw
  obtain ⟨hd, hs, hw⟩ := hw
  refine Gx.call2 (as := [.ref a0]) (rest := []) zq_152 zi_179_1 rfl rfl rfl (Nat.le_of_ble_eq_true rfl) (Nat.le_of_ble_eq_true rfl) (zrv_v t1 rfl rfl) (Nat.le_of_ble_eq_true rfl) ?_
  refine cz_152 hd hs ?_
  show Gx E (d + 1) 179 2 [.ref a0, .int a1, .int a2, .int a3, .int a4, .int a5, .int a6, .retAddr 0, .retAddr 0, .retAddr 0, .retAddr 0, .retAddr 0, .retAddr 0, .retAddr 0, .retAddr 0] [.int (fz_152 E h a0)] h Q
  refine zg_const (v := 1) zi_179_2 (by rfl) ?_
  refine zg_isub zi_179_3 ?_
  refine zg_iload zi_179_4 rfl ?_
  refine zg_isub zi_179_5 ?_
  obtain ⟨hd, hs, hw⟩ := hw
  refine Gx.call2 (as := [.int (((fz_152 E h a0) - 1) - a1)]) (rest := []) zq_176 zi_179_6 rfl rfl rfl (Nat.le_of_ble_eq_true rfl) (Nat.le_of_ble_eq_true rfl) (rfl) (Nat.le_of_ble_eq_true rfl) ?_
  refine cz_176 hd hs ?_
  show Gx E (d + 1) 179 7 [.ref a0, .int a1, .int a2, .int a3, .int a4, .int a5, .int a6, .retAddr 0, .retAddr 0, .retAddr 0, .retAddr 0, .retAddr 0, .retAddr 0, .retAddr 0, .retAddr 0] [.long (fz_176 E h (((fz_152 E h a0) - 1) - a1))] h Q
  refine zg_nameL fun x2 ex2 => ?_
  have hw := hw x2 ex2
  refine zg_lstore (ls1 := [.ref a0, .int a1, .int a2, .int a3, .int a4, .int a5, .int a6, .long x2, .retAddr 0, .retAddr 0, .retAddr 0, .retAddr 0, .retAddr 0, .retAddr 0, .retAddr 0]) zi_179_7 (Nat.le_of_ble_eq_true rfl) rfl ?_
  refine zg_lconst (v := 0) zi_179_8 (by rfl) ?_
  refine zg_lstore (ls1 := [.ref a0, .int a1, .int a2, .int a3, .int a4, .int a5, .int a6, .long x2, .retAddr 0, .long 0, .retAddr 0, .retAddr 0, .retAddr 0, .retAddr 0, .retAddr 0]) zi_179_9 (Nat.le_of_ble_eq_true rfl) rfl ?_
  refine zg_aload zi_179_10 rfl ?_
  obtain ⟨r3, er3, hw⟩ := hw
  refine zg_getR (v := .ref r3) zi_179_11 t1 (by rfl) (by show zrv (zR h a0 15) = _; rw [er3]; rfl) ?_
  refine zg_const (v := 12) zi_179_12 (by rfl) ?_
  obtain ⟨t4, hw⟩ := hw
  obtain ⟨hb, hw⟩ := hw
  refine zg_iaload (v := .int (zI h r3 12)) zi_179_13 t4 hb rfl ?_
  refine zg_if_ne zi_179_14 (fun hc => ?_) (fun hc => ?_)
  · have hw := hw.1 hc
    refine zg_const (v := 0) zi_179_77 (by rfl) ?_
    refine zg_istore (ls1 := [.ref a0, .int a1, .int a2, .int a3, .int a4, .int a5, .int a6, .long x2, .retAddr 0, .long 0, .retAddr 0, .int 0, .retAddr 0, .retAddr 0, .retAddr 0]) zi_179_78 (Nat.le_of_ble_eq_true rfl) rfl ?_
    obtain ⟨mm, hw⟩ := hw
    exact okl_179_79 mm a0 a1 a2 a3 a4 a5 a6 x2 0 0 h hw
  · have hw := hw.2 hc
    refine zg_aload zi_179_15 rfl ?_
    refine zg_iload zi_179_16 rfl ?_
    refine zg_iload zi_179_17 rfl ?_
    refine zg_iload zi_179_18 rfl ?_
    refine zg_iload zi_179_19 rfl ?_
    refine zg_iload zi_179_20 rfl ?_
    refine zg_iload zi_179_21 rfl ?_
    refine Gx.call2 (as := [.ref a0, .int a1, .int a2, .int a3, .int a4, .int a5, .int a6]) (rest := []) zq_167 zi_179_22 rfl rfl rfl (Nat.le_of_ble_eq_true rfl) (Nat.le_of_ble_eq_true rfl) (zrv_v t1 rfl rfl) (Nat.le_of_ble_eq_true rfl) ?_
    refine Ct.mono hw ?_
    rintro v h17 ⟨rfl, hw⟩
    show Gx E (d + 1) 179 23 [.ref a0, .int a1, .int a2, .int a3, .int a4, .int a5, .int a6, .long x2, .retAddr 0, .long 0, .retAddr 0, .retAddr 0, .retAddr 0, .retAddr 0, .retAddr 0] [] h17 Q
    refine zg_aload zi_179_23 rfl ?_
    refine zg_iload zi_179_24 rfl ?_
    refine zg_iload zi_179_25 rfl ?_
    obtain ⟨t18, hw⟩ := hw
    obtain ⟨hd, hs, hw⟩ := hw
    refine Gx.call2 (as := [.ref a0, .int a5, .int a6]) (rest := []) zq_168 zi_179_26 rfl rfl rfl (Nat.le_of_ble_eq_true rfl) (Nat.le_of_ble_eq_true rfl) (zrv_v t18 rfl rfl) (Nat.le_of_ble_eq_true rfl) ?_
    refine cz_168 hd hs ?_
    show Gx E (d + 1) 179 27 [.ref a0, .int a1, .int a2, .int a3, .int a4, .int a5, .int a6, .long x2, .retAddr 0, .long 0, .retAddr 0, .retAddr 0, .retAddr 0, .retAddr 0, .retAddr 0] [.int (fz_168 E h17 a0 a5 a6)] h17 Q
    refine zg_nameI fun x19 ex19 => ?_
    have hw := hw x19 ex19
    refine zg_istore (ls1 := [.ref a0, .int a1, .int a2, .int a3, .int a4, .int a5, .int a6, .long x2, .retAddr 0, .long 0, .retAddr 0, .int x19, .retAddr 0, .retAddr 0, .retAddr 0]) zi_179_27 (Nat.le_of_ble_eq_true rfl) rfl ?_
    refine zg_aload zi_179_28 rfl ?_
    refine zg_iload zi_179_29 rfl ?_
    refine zg_iload zi_179_30 rfl ?_
    refine Gx.call2 (as := [.ref a0, .int a1, .int a4]) (rest := []) zq_178 zi_179_31 rfl rfl rfl (Nat.le_of_ble_eq_true rfl) (Nat.le_of_ble_eq_true rfl) (zrv_v t18 rfl rfl) (Nat.le_of_ble_eq_true rfl) ?_
    refine Ct.mono hw ?_
    rintro v h20 ⟨rfl, hw⟩
    show Gx E (d + 1) 179 32 [.ref a0, .int a1, .int a2, .int a3, .int a4, .int a5, .int a6, .long x2, .retAddr 0, .long 0, .retAddr 0, .int x19, .retAddr 0, .retAddr 0, .retAddr 0] [] h20 Q
    refine zg_lload zi_179_32 rfl ?_
    refine zg_iload zi_179_33 rfl ?_
    refine zg_aload zi_179_34 rfl ?_
    obtain ⟨t21, hw⟩ := hw
    refine zg_getI (v := .int (zI h20 a0 31)) zi_179_35 t21 (by rfl) rfl ?_
    refine zg_isub zi_179_36 ?_
    refine zg_i2l zi_179_37 ?_
    refine zg_lmul zi_179_38 ?_
    refine zg_nameL fun x22 ex22 => ?_
    have hw := hw x22 ex22
    refine zg_lstore (ls1 := [.ref a0, .int a1, .int a2, .int a3, .int a4, .int a5, .int a6, .long x2, .retAddr 0, .long x22, .retAddr 0, .int x19, .retAddr 0, .retAddr 0, .retAddr 0]) zi_179_39 (Nat.le_of_ble_eq_true rfl) rfl ?_
    refine zg_const (v := 0) zi_179_40 (by rfl) ?_
    refine zg_istore (ls1 := [.ref a0, .int a1, .int a2, .int a3, .int a4, .int a5, .int a6, .long x2, .retAddr 0, .long x22, .retAddr 0, .int x19, .int 0, .retAddr 0, .retAddr 0]) zi_179_41 (Nat.le_of_ble_eq_true rfl) rfl ?_
    obtain ⟨mm, hw⟩ := hw
    exact Gx.forget (zrk (zrk (zrd (zrd (zrd (zrk (zrd (zrd (zrk (zrk (zrk (zrd (zrk (zrk (zrk zr0))))))))))))))) (okl_179_42 mm a0 a1 a5 x22 0 h20 hw)
theorem zq_180 : zQ 180 2 2 11 := by unfold zQ; decide +kernel
theorem zi_180_0 : (zM 180).1[0]? = some (.aload 0) := by rfl
theorem zi_180_1 : (zM 180).1[1]? = some (.invokevirtual 152) := by rfl
theorem zi_180_2 : (zM 180).1[2]? = some (.iconst 1) := by rfl
theorem zi_180_3 : (zM 180).1[3]? = some (.isub) := by rfl
theorem zi_180_4 : (zM 180).1[4]? = some (.iload 1) := by rfl
theorem zi_180_5 : (zM 180).1[5]? = some (.isub) := by rfl
theorem zi_180_6 : (zM 180).1[6]? = some (.aload 0) := by rfl
theorem zi_180_7 : (zM 180).1[7]? = some (.getfield 11215) := by rfl
theorem zi_180_8 : (zM 180).1[8]? = some (.iconst 12) := by rfl
theorem zi_180_9 : (zM 180).1[9]? = some (.iaload) := by rfl
theorem zi_180_10 : (zM 180).1[10]? = some (.iadd) := by rfl
theorem zi_180_11 : (zM 180).1[11]? = some (.invokestatic 176) := by rfl
theorem zi_180_12 : (zM 180).1[12]? = some (.lreturn) := by rfl
/-- TakeOrPayModel.unitOf(I)J -/
def w_180 (E : Nat → Nat) (d : Nat) (a0 : Nat) (a1 : Int32) (h : ZH) (Q : Option Value → ZH → Prop) : Prop := ztag h a0 = 11 ∧ 1 ≤ d ∧ sz_152 E h a0 ∧ ∃ r2 : Nat, zR h a0 15 = r2 + 1 ∧ (ztag h r2 = 13 ∨ ztag h r2 = 19) ∧ zin 12 (zlen h r2) = true ∧ 1 ≤ d ∧ sz_176 E h ((((fz_152 E h a0) - 1) - a1) + (zI h r2 12)) ∧ Q (some (.long (fz_176 E h ((((fz_152 E h a0) - 1) - a1) + (zI h r2 12))))) h
set_option maxRecDepth 20000 in
theorem ok_180 {E : Nat → Nat} {d : Nat} {a0 : Nat} {a1 : Int32} {h : ZH} {Q : Option Value → ZH → Prop} (hw : w_180 E d a0 a1 h Q) : Ct E (d + 1) 180 [.ref a0, .int a1] h Q := by
  unfold w_180 at hw
  show Gx E (d + 1) 180 0 [.ref a0, .int a1] [] h Q
  refine zg_aload zi_180_0 rfl ?_
  obtain ⟨t1, hw⟩ := hw
  obtain ⟨hd, hs, hw⟩ := hw
  refine Gx.call2 (as := [.ref a0]) (rest := []) zq_152 zi_180_1 rfl rfl rfl (Nat.le_of_ble_eq_true rfl) (Nat.le_of_ble_eq_true rfl) (zrv_v t1 rfl rfl) (Nat.le_of_ble_eq_true rfl) ?_
  refine cz_152 hd hs ?_
  show Gx E (d + 1) 180 2 [.ref a0, .int a1] [.int (fz_152 E h a0)] h Q
  refine zg_const (v := 1) zi_180_2 (by rfl) ?_
  refine zg_isub zi_180_3 ?_
  refine zg_iload zi_180_4 rfl ?_
  refine zg_isub zi_180_5 ?_
  refine zg_aload zi_180_6 rfl ?_
  obtain ⟨r2, er2, hw⟩ := hw
  refine zg_getR (v := .ref r2) zi_180_7 t1 (by rfl) (by show zrv (zR h a0 15) = _; rw [er2]; rfl) ?_
  refine zg_const (v := 12) zi_180_8 (by rfl) ?_
  obtain ⟨t3, hw⟩ := hw
  obtain ⟨hb, hw⟩ := hw
  refine zg_iaload (v := .int (zI h r2 12)) zi_180_9 t3 hb rfl ?_
  refine zg_iadd zi_180_10 ?_
  obtain ⟨hd, hs, hw⟩ := hw
  refine Gx.call2 (as := [.int ((((fz_152 E h a0) - 1) - a1) + (zI h r2 12))]) (rest := []) zq_176 zi_180_11 rfl rfl rfl (Nat.le_of_ble_eq_true rfl) (Nat.le_of_ble_eq_true rfl) (rfl) (Nat.le_of_ble_eq_true rfl) ?_
  refine cz_176 hd hs ?_
  show Gx E (d + 1) 180 12 [.ref a0, .int a1] [.long (fz_176 E h ((((fz_152 E h a0) - 1) - a1) + (zI h r2 12)))] h Q
  exact zg_lreturn zi_180_12 hw
def fz_180 (E : Nat → Nat) (h : ZH) (a0 : Nat) (a1 : Int32) : Int64 := (fun r2 : Nat => fz_176 E h ((((fz_152 E h a0) - 1) - a1) + (zI h r2 12))) (zR h a0 15 - 1)
def sz_180 (E : Nat → Nat) (h : ZH) (a0 : Nat) (a1 : Int32) : Prop := ztag h a0 = 11 ∧ sz_152 E h a0 ∧ ∃ r2 : Nat, zR h a0 15 = r2 + 1 ∧ (ztag h r2 = 13 ∨ ztag h r2 = 19) ∧ zin 12 (zlen h r2) = true ∧ sz_176 E h ((((fz_152 E h a0) - 1) - a1) + (zI h r2 12)) ∧ True
set_option maxRecDepth 20000 in
theorem cz_180 {E : Nat → Nat} {d : Nat} {a0 : Nat} {a1 : Int32} {h : ZH} {Q : Option Value → ZH → Prop} (hd : 2 ≤ d) (hs : sz_180 E h a0 a1) (hq : Q (some (.long (fz_180 E h a0 a1))) h) : Ct E d 180 [.ref a0, .int a1] h Q := by
  obtain ⟨d, rfl⟩ : ∃ n, d = n + 1 := ⟨d - 1, by omega⟩
  refine ok_180 ?_
  unfold w_180
  unfold sz_180 at hs
  unfold fz_180 at hq
  refine ⟨hs.1, ?_⟩
  have hs := hs.2
  refine ⟨by omega, ?_⟩
  refine ⟨hs.1, ?_⟩
  have hs := hs.2
  obtain ⟨r2, hr, hs⟩ := hs
  refine ⟨r2, hr, ?_⟩
  rw [hr] at hq
  simp only [Nat.add_sub_cancel] at hq
  refine ⟨hs.1, ?_⟩
  have hs := hs.2
  refine ⟨hs.1, ?_⟩
  have hs := hs.2
  refine ⟨by omega, ?_⟩
  refine ⟨hs.1, ?_⟩
  have hs := hs.2
  exact hq
theorem zq_181 : zQ 181 6 12 11 := by unfold zQ; decide +kernel
theorem zi_181_0 : (zM 181).1[0]? = some (.iconst (-4)) := by rfl
theorem zi_181_1 : (zM 181).1[1]? = some (.istore 6) := by rfl
theorem zi_181_2 : (zM 181).1[2]? = some (.jsr_w 0) := by rfl
theorem zi_181_3 : (zM 181).1[3]? = some (.lstore 7) := by rfl
theorem zi_181_4 : (zM 181).1[4]? = some (.iconst 0) := by rfl
theorem zi_181_5 : (zM 181).1[5]? = some (.istore 9) := by rfl
theorem zi_181_6 : (zM 181).1[6]? = some (.iload 9) := by rfl
theorem zi_181_7 : (zM 181).1[7]? = some (.iconst 5) := by rfl
theorem zi_181_8 : (zM 181).1[8]? = some (.if_icmp .ge ((43 : Nat) : Int)) := by rfl
theorem zi_181_9 : (zM 181).1[9]? = some (.aload 0) := by rfl
theorem zi_181_10 : (zM 181).1[10]? = some (.iload 1) := by rfl
theorem zi_181_11 : (zM 181).1[11]? = some (.iload 9) := by rfl
theorem zi_181_12 : (zM 181).1[12]? = some (.invokevirtual 163) := by rfl
theorem zi_181_13 : (zM 181).1[13]? = some (.ifCond .eq ((41 : Nat) : Int)) := by rfl
theorem zi_181_14 : (zM 181).1[14]? = some (.aload 0) := by rfl
theorem zi_181_15 : (zM 181).1[15]? = some (.iload 1) := by rfl
theorem zi_181_16 : (zM 181).1[16]? = some (.iload 2) := by rfl
theorem zi_181_17 : (zM 181).1[17]? = some (.iload 3) := by rfl
theorem zi_181_18 : (zM 181).1[18]? = some (.iload 4) := by rfl
theorem zi_181_19 : (zM 181).1[19]? = some (.iload 5) := by rfl
theorem zi_181_20 : (zM 181).1[20]? = some (.iload 9) := by rfl
theorem zi_181_21 : (zM 181).1[21]? = some (.invokevirtual 179) := by rfl
theorem zi_181_22 : (zM 181).1[22]? = some (.lstore 10) := by rfl
theorem zi_181_23 : (zM 181).1[23]? = some (.iload 6) := by rfl
theorem zi_181_24 : (zM 181).1[24]? = some (.iconst (-4)) := by rfl
theorem zi_181_25 : (zM 181).1[25]? = some (.if_icmp .eq ((30 : Nat) : Int)) := by rfl
theorem zi_181_26 : (zM 181).1[26]? = some (.lload 10) := by rfl
theorem zi_181_27 : (zM 181).1[27]? = some (.lload 7) := by rfl
theorem zi_181_28 : (zM 181).1[28]? = some (.lcmp) := by rfl
theorem zi_181_29 : (zM 181).1[29]? = some (.ifCond .le ((32 : Nat) : Int)) := by rfl
theorem zi_181_30 : (zM 181).1[30]? = some (.iload 9) := by rfl
theorem zi_181_31 : (zM 181).1[31]? = some (.goto ((33 : Nat) : Int)) := by rfl
theorem zi_181_32 : (zM 181).1[32]? = some (.iload 6) := by rfl
theorem zi_181_33 : (zM 181).1[33]? = some (.istore 6) := by rfl
theorem zi_181_34 : (zM 181).1[34]? = some (.iload 6) := by rfl
theorem zi_181_35 : (zM 181).1[35]? = some (.iload 9) := by rfl
theorem zi_181_36 : (zM 181).1[36]? = some (.if_icmp .ne ((39 : Nat) : Int)) := by rfl
theorem zi_181_37 : (zM 181).1[37]? = some (.lload 10) := by rfl
theorem zi_181_38 : (zM 181).1[38]? = some (.goto ((40 : Nat) : Int)) := by rfl
theorem zi_181_39 : (zM 181).1[39]? = some (.lload 7) := by rfl
theorem zi_181_40 : (zM 181).1[40]? = some (.lstore 7) := by rfl
theorem zi_181_41 : (zM 181).1[41]? = some (.iinc 9 1) := by rfl
theorem zi_181_42 : (zM 181).1[42]? = some (.goto ((6 : Nat) : Int)) := by rfl
theorem zi_181_43 : (zM 181).1[43]? = some (.iload 1) := by rfl
theorem zi_181_44 : (zM 181).1[44]? = some (.iload 2) := by rfl
theorem zi_181_45 : (zM 181).1[45]? = some (.iload 3) := by rfl
theorem zi_181_46 : (zM 181).1[46]? = some (.iload 4) := by rfl
theorem zi_181_47 : (zM 181).1[47]? = some (.iload 5) := by rfl
theorem zi_181_48 : (zM 181).1[48]? = some (.invokestatic 175) := by rfl
theorem zi_181_49 : (zM 181).1[49]? = some (.istore 9) := by rfl
theorem zi_181_50 : (zM 181).1[50]? = some (.aload 0) := by rfl
theorem zi_181_51 : (zM 181).1[51]? = some (.getfield 11227) := by rfl
theorem zi_181_52 : (zM 181).1[52]? = some (.iload 9) := by rfl
theorem zi_181_53 : (zM 181).1[53]? = some (.lload 7) := by rfl
theorem zi_181_54 : (zM 181).1[54]? = some (.lastore) := by rfl
theorem zi_181_55 : (zM 181).1[55]? = some (.aload 0) := by rfl
theorem zi_181_56 : (zM 181).1[56]? = some (.getfield 11228) := by rfl
theorem zi_181_57 : (zM 181).1[57]? = some (.iload 9) := by rfl
theorem zi_181_58 : (zM 181).1[58]? = some (.iload 6) := by rfl
theorem zi_181_59 : (zM 181).1[59]? = some (.iastore) := by rfl
theorem zi_181_60 : (zM 181).1[60]? = some (.return_) := by rfl
def wb_181_43 (E : Nat → Nat) (d : Nat) (Q : Option Value → ZH → Prop) (a0 : Nat) (a1 : Int32) (a2 : Int32) (a3 : Int32) (a4 : Int32) (a5 : Int32) (a6 : Int32) (a7 : Int64) (h : ZH) : Prop := 1 ≤ d ∧ sz_175 E h a1 a2 a3 a4 a5 ∧ ∀ x2 : Int32, x2 = (fz_175 E h a1 a2 a3 a4 a5) → ztag h a0 = 11 ∧ ∃ r4 : Nat, zR h a0 27 = r4 + 1 ∧ ztag h r4 = 14 ∧ zin x2 (zlen h r4) = true ∧ ∀ h6 : ZH, h6 = (zuL h r4 x2.toNatClampNeg a7) → ∃ r7 : Nat, zR h6 a0 28 = r7 + 1 ∧ ztag h6 r7 = 13 ∧ zin x2 (zlen h6 r7) = true ∧ ∀ h9 : ZH, h9 = (zuI h6 r7 x2.toNatClampNeg a6) → Q none h9
set_option maxRecDepth 20000 in
theorem okb_181_43 {E : Nat → Nat} {d : Nat} {Q : Option Value → ZH → Prop} {a0 : Nat} {a1 : Int32} {a2 : Int32} {a3 : Int32} {a4 : Int32} {a5 : Int32} {a6 : Int32} {a7 : Int64} {h : ZH} (hw : wb_181_43 E d Q a0 a1 a2 a3 a4 a5 a6 a7 h) : Gx E (d + 1) 181 43 [.ref a0, .int a1, .int a2, .int a3, .int a4, .int a5, .int a6, .long a7, .retAddr 0, .retAddr 0, .retAddr 0, .retAddr 0] [] h Q := by
  unfold wb_181_43 at hw
  refine zg_iload zi_181_43 rfl ?_
  refine zg_iload zi_181_44 rfl ?_
  refine zg_iload zi_181_45 rfl ?_
  refine zg_iload zi_181_46 rfl ?_
  refine zg_iload zi_181_47 rfl ?_
  obtain ⟨hd, hs, hw⟩ := hw
  refine Gx.call2 (as := [.int a1, .int a2, .int a3, .int a4, .int a5]) (rest := []) zq_175 zi_181_48 rfl rfl rfl (Nat.le_of_ble_eq_true rfl) (Nat.le_of_ble_eq_true rfl) (rfl) (Nat.le_of_ble_eq_true rfl) ?_
  refine cz_175 hd hs ?_
  show Gx E (d + 1) 181 49 [.ref a0, .int a1, .int a2, .int a3, .int a4, .int a5, .int a6, .long a7, .retAddr 0, .retAddr 0, .retAddr 0, .retAddr 0] [.int (fz_175 E h a1 a2 a3 a4 a5)] h Q
  refine zg_nameI fun x2 ex2 => ?_
  have hw := hw x2 ex2
  refine zg_istore (ls1 := [.ref a0, .int a1, .int a2, .int a3, .int a4, .int a5, .int a6, .long a7, .retAddr 0, .int x2, .retAddr 0, .retAddr 0]) zi_181_49 (Nat.le_of_ble_eq_true rfl) rfl ?_
  refine zg_aload zi_181_50 rfl ?_
  obtain ⟨t3, hw⟩ := hw
  obtain ⟨r4, er4, hw⟩ := hw
  refine zg_getR (v := .ref r4) zi_181_51 t3 (by rfl) (by show zrv (zR h a0 27) = _; rw [er4]; rfl) ?_
  refine zg_iload zi_181_52 rfl ?_
  refine zg_lload zi_181_53 rfl ?_
  obtain ⟨t5, hw⟩ := hw
  obtain ⟨hb, hw⟩ := hw
  refine zg_lastore (h1 := zuL h r4 x2.toNatClampNeg a7) zi_181_54 t5 hb rfl ?_
  refine zg_nameH fun h6 eh6 => ?_
  have hw := hw h6 eh6
  refine zg_aload zi_181_55 rfl ?_
  obtain ⟨r7, er7, hw⟩ := hw
  refine zg_getR (v := .ref r7) zi_181_56 (by rw [eh6]; exact t3) (by rfl) (by show zrv (zR h6 a0 28) = _; rw [er7]; rfl) ?_
  refine zg_iload zi_181_57 rfl ?_
  refine zg_iload zi_181_58 rfl ?_
  obtain ⟨t8, hw⟩ := hw
  obtain ⟨hb, hw⟩ := hw
  refine zg_iastore (h1 := zuI h6 r7 x2.toNatClampNeg a6) zi_181_59 t8 hb rfl ?_
  refine zg_nameH fun h9 eh9 => ?_
  have hw := hw h9 eh9
  exact zg_return zi_181_60 hw
def wb_181_41 (E : Nat → Nat) (d : Nat) (Q : Option Value → ZH → Prop) (L_6 : Nat → Int32 → Int32 → Int32 → Int32 → Int32 → Int32 → Int64 → Int32 → ZH → Prop) (a0 : Nat) (a1 : Int32) (a2 : Int32) (a3 : Int32) (a4 : Int32) (a5 : Int32) (a6 : Int32) (a7 : Int64) (a9 : Int32) (h : ZH) : Prop := ∀ x11 : Int32, x11 = (a9 + 1) → L_6 a0 a1 a2 a3 a4 a5 a6 a7 x11 h
set_option maxRecDepth 20000 in
theorem okb_181_41 {E : Nat → Nat} {d : Nat} {Q : Option Value → ZH → Prop} {L_6 : Nat → Int32 → Int32 → Int32 → Int32 → Int32 → Int32 → Int64 → Int32 → ZH → Prop} (hL_6 : ∀ (b0 : Nat) (b1 : Int32) (b2 : Int32) (b3 : Int32) (b4 : Int32) (b5 : Int32) (b6 : Int32) (b7 : Int64) (b9 : Int32) (h : ZH), L_6 b0 b1 b2 b3 b4 b5 b6 b7 b9 h → Gx E (d + 1) 181 6 [.ref b0, .int b1, .int b2, .int b3, .int b4, .int b5, .int b6, .long b7, .retAddr 0, .int b9, .retAddr 0, .retAddr 0] [] h Q) {a0 : Nat} {a1 : Int32} {a2 : Int32} {a3 : Int32} {a4 : Int32} {a5 : Int32} {a6 : Int32} {a7 : Int64} {a9 : Int32} {h : ZH} (hw : wb_181_41 E d Q L_6 a0 a1 a2 a3 a4 a5 a6 a7 a9 h) : Gx E (d + 1) 181 41 [.ref a0, .int a1, .int a2, .int a3, .int a4, .int a5, .int a6, .long a7, .retAddr 0, .int a9, .retAddr 0, .retAddr 0] [] h Q := by
  unfold wb_181_41 at hw
  obtain ⟨x11, ex11⟩ : ∃ x : Int32, x = a9 + 1 := ⟨_, rfl⟩
  have hw := hw x11 ex11
  refine zg_iinc (v := x11) (ls1 := [.ref a0, .int a1, .int a2, .int a3, .int a4, .int a5, .int a6, .long a7, .retAddr 0, .int x11, .retAddr 0, .retAddr 0]) zi_181_41 rfl (by rw [ex11]; rfl) rfl ?_
  refine zg_goto zi_181_42 ?_
  exact hL_6 a0 a1 a2 a3 a4 a5 a6 a7 x11 h hw
def wl_181_6 (E : Nat → Nat) (d : Nat) (Q : Option Value → ZH → Prop) : Nat → Nat → Int32 → Int32 → Int32 → Int32 → Int32 → Int32 → Int64 → Int32 → ZH → Prop
  | 0, _, _, _, _, _, _, _, _, _, _ => False
  | n + 1, a0, a1, a2, a3, a4, a5, a6, a7, a9, h => (5 ≤ a9 → (wb_181_43 E d Q a0 a1 a2 a3 a4 a5 a6 a7 h)) ∧ (¬ (5 ≤ a9) → (ztag h a0 = 11 ∧ 2 ≤ d ∧ sz_163 E h a0 a1 a9 ∧ (((fz_163 E h a0 a1 a9 : Int32) = 0 → (wb_181_41 E d Q (wl_181_6 E d Q n) a0 a1 a2 a3 a4 a5 a6 a7 a9 h)) ∧ (¬ ((fz_163 E h a0 a1 a9 : Int32) = 0) → (Ct E d 179 [.ref a0, .int a1, .int a2, .int a3, .int a4, .int a5, .int a9] h (fun v h12 => ∃ x13 : Int64, v = some (.long x13) ∧ ∀ x14 : Int32, x14 = (if a6 = ((-4) : Int32) then a9 else if x13 ≤ a7 then a6 else a9) → ∀ x15 : Int64, x15 = (if ¬ x14 = a9 then a7 else x13) → wb_181_41 E d Q (wl_181_6 E d Q n) a0 a1 a2 a3 a4 a5 x14 x15 a9 h12))))))
set_option maxRecDepth 20000 in
theorem okl_181_6 {E : Nat → Nat} {d : Nat} {Q : Option Value → ZH → Prop} : ∀ (n : Nat) (a0 : Nat) (a1 : Int32) (a2 : Int32) (a3 : Int32) (a4 : Int32) (a5 : Int32) (a6 : Int32) (a7 : Int64) (a9 : Int32) (h : ZH), wl_181_6 E d Q n a0 a1 a2 a3 a4 a5 a6 a7 a9 h → Gx E (d + 1) 181 6 [.ref a0, .int a1, .int a2, .int a3, .int a4, .int a5, .int a6, .long a7, .retAddr 0, .int a9, .retAddr 0, .retAddr 0] [] h Q := by
  intro n
  induction n with
  | zero => intro a0 a1 a2 a3 a4 a5 a6 a7 a9 h hw; exact hw.elim
  | succ n ih =>
    intro a0 a1 a2 a3 a4 a5 a6 a7 a9 h hw
    rw [wl_181_6] at hw
    refine zg_iload zi_181_6 rfl ?_
    refine zg_const (v := 5) zi_181_7 (by rfl) ?_
    refine zg_icmp_ge zi_181_8 (fun hc => ?_) (fun hc => ?_)
    · have hw := hw.1 hc
      exact Gx.forget (zrk (zrk (zrk (zrk (zrk (zrk (zrk (zrk (zrk (zrd (zrk (zrk zr0)))))))))))) (okb_181_43 hw)
    · have hw := hw.2 hc
      refine zg_aload zi_181_9 rfl ?_
      refine zg_iload zi_181_10 rfl ?_
      refine zg_iload zi_181_11 rfl ?_
      obtain ⟨t10, hw⟩ := hw
      obtain ⟨hd, hs, hw⟩ := hw
      refine Gx.call2 (as := [.ref a0, .int a1, .int a9]) (rest := []) zq_163 zi_181_12 rfl rfl rfl (Nat.le_of_ble_eq_true rfl) (Nat.le_of_ble_eq_true rfl) (zrv_v t10 rfl rfl) (Nat.le_of_ble_eq_true rfl) ?_
      refine cz_163 hd hs ?_
      show Gx E (d + 1) 181 13 [.ref a0, .int a1, .int a2, .int a3, .int a4, .int a5, .int a6, .long a7, .retAddr 0, .int a9, .retAddr 0, .retAddr 0] [.int (fz_163 E h a0 a1 a9)] h Q
      refine zg_if_eq zi_181_13 (fun hc => ?_) (fun hc => ?_)
      · have hw := hw.1 hc
        exact okb_181_41 ih hw
      · have hw := hw.2 hc
        refine zg_aload zi_181_14 rfl ?_
        refine zg_iload zi_181_15 rfl ?_
        refine zg_iload zi_181_16 rfl ?_
        refine zg_iload zi_181_17 rfl ?_
        refine zg_iload zi_181_18 rfl ?_
        refine zg_iload zi_181_19 rfl ?_
        refine zg_iload zi_181_20 rfl ?_
        refine Gx.call2 (as := [.ref a0, .int a1, .int a2, .int a3, .int a4, .int a5, .int a9]) (rest := []) zq_179 zi_181_21 rfl rfl rfl (Nat.le_of_ble_eq_true rfl) (Nat.le_of_ble_eq_true rfl) (zrv_v t10 rfl rfl) (Nat.le_of_ble_eq_true rfl) ?_
        refine Ct.mono hw ?_
        rintro v h12 ⟨x13, rfl, hw⟩
        show Gx E (d + 1) 181 22 [.ref a0, .int a1, .int a2, .int a3, .int a4, .int a5, .int a6, .long a7, .retAddr 0, .int a9, .retAddr 0, .retAddr 0] [.long x13] h12 Q
        refine zg_lstore (ls1 := [.ref a0, .int a1, .int a2, .int a3, .int a4, .int a5, .int a6, .long a7, .retAddr 0, .int a9, .long x13, .retAddr 0]) zi_181_22 (Nat.le_of_ble_eq_true rfl) rfl ?_
        refine zg_iload zi_181_23 rfl ?_
        refine zg_const (v := (-4)) zi_181_24 (by rfl) ?_
        have g25 : Gx E (d + 1) 181 33 [.ref a0, .int a1, .int a2, .int a3, .int a4, .int a5, .int a6, .long a7, .retAddr 0, .int a9, .long x13, .retAddr 0] [.int (if a6 = ((-4) : Int32) then a9 else if x13 ≤ a7 then a6 else a9)] h12 Q := by
          refine zg_nameI fun x14 ex14 => ?_
          have hw := hw x14 ex14
          refine zg_istore (ls1 := [.ref a0, .int a1, .int a2, .int a3, .int a4, .int a5, .int x14, .long a7, .retAddr 0, .int a9, .long x13, .retAddr 0]) zi_181_33 (Nat.le_of_ble_eq_true rfl) rfl ?_
          refine zg_iload zi_181_34 rfl ?_
          refine zg_iload zi_181_35 rfl ?_
          have g36 : Gx E (d + 1) 181 40 [.ref a0, .int a1, .int a2, .int a3, .int a4, .int a5, .int x14, .long a7, .retAddr 0, .int a9, .long x13, .retAddr 0] [.long (if ¬ x14 = a9 then a7 else x13)] h12 Q := by
            refine zg_nameL fun x15 ex15 => ?_
            have hw := hw x15 ex15
            refine zg_lstore (ls1 := [.ref a0, .int a1, .int a2, .int a3, .int a4, .int a5, .int x14, .long x15, .retAddr 0, .int a9, .long x13, .retAddr 0]) zi_181_40 (Nat.le_of_ble_eq_true rfl) rfl ?_
            exact Gx.forget (zrk (zrk (zrk (zrk (zrk (zrk (zrk (zrk (zrk (zrk (zrd (zrk zr0)))))))))))) (okb_181_41 ih hw)
          refine zg_icmp_ne zi_181_36 (fun hc36 => ?_) (fun hc36 => ?_)
          · skip
            refine zg_lload zi_181_39 rfl ?_
            have hg := g36
            simp only [if_pos hc36] at hg
            exact hg
          · skip
            refine zg_lload zi_181_37 rfl ?_
            refine zg_goto zi_181_38 ?_
            have hg := g36
            simp only [if_neg hc36] at hg
            exact hg
        refine zg_icmp_eq zi_181_25 (fun hc25 => ?_) (fun hc25 => ?_)
        · skip
          refine zg_iload zi_181_30 rfl ?_
          refine zg_goto zi_181_31 ?_
          have hg := g25
          simp only [if_pos hc25] at hg
          exact hg
        · skip
          refine zg_lload zi_181_26 rfl ?_
          refine zg_lload zi_181_27 rfl ?_
          have g29 : Gx E (d + 1) 181 33 [.ref a0, .int a1, .int a2, .int a3, .int a4, .int a5, .int a6, .long a7, .retAddr 0, .int a9, .long x13, .retAddr 0] [.int (if x13 ≤ a7 then a6 else a9)] h12 Q := by
            have hg := g25
            simp only [if_neg hc25] at hg
            exact hg
          refine zg_lcmp_le zi_181_28 zi_181_29 (fun hc29 => ?_) (fun hc29 => ?_)
          · skip
            refine zg_iload zi_181_32 rfl ?_
            have hg := g29
            simp only [if_pos hc29] at hg
            exact hg
          · skip
            refine zg_iload zi_181_30 rfl ?_
            refine zg_goto zi_181_31 ?_
            have hg := g29
            simp only [if_neg hc29] at hg
            exact hg
/-- TakeOrPayModel.layPlace(IIIII)V -/
def w_181 (E : Nat → Nat) (d : Nat) (a0 : Nat) (a1 : Int32) (a2 : Int32) (a3 : Int32) (a4 : Int32) (a5 : Int32) (h : ZH) (Q : Option Value → ZH → Prop) : Prop := ∀ x1 : Int32, x1 = ((-4)) → (∃ mm : Nat, wl_181_6 E d Q mm a0 a1 a2 a3 a4 a5 x1 0 0 h)
set_option maxRecDepth 20000 in
theorem ok_181 {E : Nat → Nat} {d : Nat} {a0 : Nat} {a1 : Int32} {a2 : Int32} {a3 : Int32} {a4 : Int32} {a5 : Int32} {h : ZH} {Q : Option Value → ZH → Prop} (hw : w_181 E d a0 a1 a2 a3 a4 a5 h Q) : Ct E (d + 1) 181 [.ref a0, .int a1, .int a2, .int a3, .int a4, .int a5] h Q := by
  unfold w_181 at hw
  show Gx E (d + 1) 181 0 [.ref a0, .int a1, .int a2, .int a3, .int a4, .int a5, .retAddr 0, .retAddr 0, .retAddr 0, .retAddr 0, .retAddr 0, .retAddr 0] [] h Q
  refine zg_const (v := (-4)) zi_181_0 (by rfl) ?_
  refine zg_nameI fun x1 ex1 => ?_
  have hw := hw x1 ex1
  refine zg_istore (ls1 := [.ref a0, .int a1, .int a2, .int a3, .int a4, .int a5, .int x1, .retAddr 0, .retAddr 0, .retAddr 0, .retAddr 0, .retAddr 0]) zi_181_1 (Nat.le_of_ble_eq_true rfl) rfl ?_
  refine zg_lconst (v := 0) zi_181_2 (by rfl) ?_
  refine zg_lstore (ls1 := [.ref a0, .int a1, .int a2, .int a3, .int a4, .int a5, .int x1, .long 0, .retAddr 0, .retAddr 0, .retAddr 0, .retAddr 0]) zi_181_3 (Nat.le_of_ble_eq_true rfl) rfl ?_
  refine zg_const (v := 0) zi_181_4 (by rfl) ?_
  refine zg_istore (ls1 := [.ref a0, .int a1, .int a2, .int a3, .int a4, .int a5, .int x1, .long 0, .retAddr 0, .int 0, .retAddr 0, .retAddr 0]) zi_181_5 (Nat.le_of_ble_eq_true rfl) rfl ?_
  obtain ⟨mm, hw⟩ := hw
  exact okl_181_6 mm a0 a1 a2 a3 a4 a5 x1 0 0 h hw
