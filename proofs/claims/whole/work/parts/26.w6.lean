/-! what each method needs and does, printed by wip/whole/dec.py: part 6 -/
theorem zq_209 : zQ 209 2 4 11 := by unfold zQ; decide +kernel
theorem zi_209_0 : (zM 209).1[0]? = some (.iload 1) := by rfl
theorem zi_209_1 : (zM 209).1[1]? = some (.i2l) := by rfl
theorem zi_209_2 : (zM 209).1[2]? = some (.jsr_w 0) := by rfl
theorem zi_209_3 : (zM 209).1[3]? = some (.jsr_w 1) := by rfl
theorem zi_209_4 : (zM 209).1[4]? = some (.invokestatic 135) := by rfl
theorem zi_209_5 : (zM 209).1[5]? = some (.ifCond .ne ((8 : Nat) : Int)) := by rfl
theorem zi_209_6 : (zM 209).1[6]? = some (.iconst (-1000000)) := by rfl
theorem zi_209_7 : (zM 209).1[7]? = some (.ireturn) := by rfl
theorem zi_209_8 : (zM 209).1[8]? = some (.aload 0) := by rfl
theorem zi_209_9 : (zM 209).1[9]? = some (.invokevirtual 182) := by rfl
theorem zi_209_10 : (zM 209).1[10]? = some (.aload 0) := by rfl
theorem zi_209_11 : (zM 209).1[11]? = some (.invokevirtual 203) := by rfl
theorem zi_209_12 : (zM 209).1[12]? = some (.aload 0) := by rfl
theorem zi_209_13 : (zM 209).1[13]? = some (.getfield 11045) := by rfl
theorem zi_209_14 : (zM 209).1[14]? = some (.istore 2) := by rfl
theorem zi_209_15 : (zM 209).1[15]? = some (.aload 0) := by rfl
theorem zi_209_16 : (zM 209).1[16]? = some (.invokevirtual 201) := by rfl
theorem zi_209_17 : (zM 209).1[17]? = some (.iconst 0) := by rfl
theorem zi_209_18 : (zM 209).1[18]? = some (.istore 3) := by rfl
theorem zi_209_19 : (zM 209).1[19]? = some (.iload 3) := by rfl
theorem zi_209_20 : (zM 209).1[20]? = some (.aload 0) := by rfl
theorem zi_209_21 : (zM 209).1[21]? = some (.getfield 11036) := by rfl
theorem zi_209_22 : (zM 209).1[22]? = some (.if_icmp .ge ((35 : Nat) : Int)) := by rfl
theorem zi_209_23 : (zM 209).1[23]? = some (.aload 0) := by rfl
theorem zi_209_24 : (zM 209).1[24]? = some (.iload 3) := by rfl
theorem zi_209_25 : (zM 209).1[25]? = some (.aload 0) := by rfl
theorem zi_209_26 : (zM 209).1[26]? = some (.getfield 11237) := by rfl
theorem zi_209_27 : (zM 209).1[27]? = some (.iload 3) := by rfl
theorem zi_209_28 : (zM 209).1[28]? = some (.iaload) := by rfl
theorem zi_209_29 : (zM 209).1[29]? = some (.aload 0) := by rfl
theorem zi_209_30 : (zM 209).1[30]? = some (.iload 3) := by rfl
theorem zi_209_31 : (zM 209).1[31]? = some (.invokevirtual 208) := by rfl
theorem zi_209_32 : (zM 209).1[32]? = some (.invokevirtual 202) := by rfl
theorem zi_209_33 : (zM 209).1[33]? = some (.iinc 3 1) := by rfl
theorem zi_209_34 : (zM 209).1[34]? = some (.goto ((19 : Nat) : Int)) := by rfl
theorem zi_209_35 : (zM 209).1[35]? = some (.iload 1) := by rfl
theorem zi_209_36 : (zM 209).1[36]? = some (.ifCond .ne ((40 : Nat) : Int)) := by rfl
theorem zi_209_37 : (zM 209).1[37]? = some (.aload 0) := by rfl
theorem zi_209_38 : (zM 209).1[38]? = some (.getfield 11045) := by rfl
theorem zi_209_39 : (zM 209).1[39]? = some (.goto ((44 : Nat) : Int)) := by rfl
theorem zi_209_40 : (zM 209).1[40]? = some (.aload 0) := by rfl
theorem zi_209_41 : (zM 209).1[41]? = some (.getfield 11045) := by rfl
theorem zi_209_42 : (zM 209).1[42]? = some (.iload 2) := by rfl
theorem zi_209_43 : (zM 209).1[43]? = some (.isub) := by rfl
theorem zi_209_44 : (zM 209).1[44]? = some (.ireturn) := by rfl
def wb_209_35 (E : Nat → Nat) (d : Nat) (Q : Option Value → ZH → Prop) (a0 : Nat) (a1 : Int32) (a2 : Int32) (h : ZH) : Prop := ((¬ a1 = 0 → (ztag h a0 = 11 ∧ True)) ∧ (¬ (¬ a1 = 0) → (ztag h a0 = 11 ∧ True))) ∧ Q (some (.int (if ¬ a1 = 0 then (zI h a0 45) - a2 else zI h a0 45))) h
set_option maxRecDepth 20000 in
theorem okb_209_35 {E : Nat → Nat} {d : Nat} {Q : Option Value → ZH → Prop} {a0 : Nat} {a1 : Int32} {a2 : Int32} {h : ZH} (hw : wb_209_35 E d Q a0 a1 a2 h) : Gx E (d + 1) 209 35 [.ref a0, .int a1, .int a2, .retAddr 0] [] h Q := by
  unfold wb_209_35 at hw
  refine zg_iload zi_209_35 rfl ?_
  obtain ⟨hsd36, hw⟩ := hw
  have g36 : Gx E (d + 1) 209 44 [.ref a0, .int a1, .int a2, .retAddr 0] [.int (if ¬ a1 = 0 then (zI h a0 45) - a2 else zI h a0 45)] h Q := by
    exact zg_ireturn zi_209_44 (by decide) hw
  refine zg_if_ne zi_209_36 (fun hc36 => ?_) (fun hc36 => ?_)
  · have hw := hsd36.1 hc36
    refine zg_aload zi_209_40 rfl ?_
    obtain ⟨t9, hw⟩ := hw
    refine zg_getI (v := .int (zI h a0 45)) zi_209_41 t9 (by rfl) rfl ?_
    refine zg_iload zi_209_42 rfl ?_
    refine zg_isub zi_209_43 ?_
    have hg := g36
    simp only [if_pos hc36] at hg
    exact hg
  · have hw := hsd36.2 hc36
    refine zg_aload zi_209_37 rfl ?_
    obtain ⟨t10, hw⟩ := hw
    refine zg_getI (v := .int (zI h a0 45)) zi_209_38 t10 (by rfl) rfl ?_
    refine zg_goto zi_209_39 ?_
    have hg := g36
    simp only [if_neg hc36] at hg
    exact hg
def wl_209_19 (E : Nat → Nat) (d : Nat) (Q : Option Value → ZH → Prop) : Nat → Nat → Int32 → Int32 → Int32 → ZH → Prop
  | 0, _, _, _, _, _ => False
  | n + 1, a0, a1, a2, a3, h => ztag h a0 = 11 ∧ (((zI h a0 36 : Int32) ≤ a3 → (wb_209_35 E d Q a0 a1 a2 h)) ∧ (¬ ((zI h a0 36 : Int32) ≤ a3) → (∃ r11 : Nat, zR h a0 37 = r11 + 1 ∧ (ztag h r11 = 13 ∨ ztag h r11 = 19) ∧ zin a3 (zlen h r11) = true ∧ 2 ≤ d ∧ sz_208 E h a0 a3 ∧ Ct E d 202 [.ref a0, .int a3, .int (zI h r11 a3.toNatClampNeg), .int (fz_208 E h a0 a3)] h (fun v h13 => v = none ∧ ∀ x14 : Int32, x14 = (a3 + 1) → wl_209_19 E d Q n a0 a1 a2 x14 h13))))
set_option maxRecDepth 20000 in
theorem okl_209_19 {E : Nat → Nat} {d : Nat} {Q : Option Value → ZH → Prop} : ∀ (n : Nat) (a0 : Nat) (a1 : Int32) (a2 : Int32) (a3 : Int32) (h : ZH), wl_209_19 E d Q n a0 a1 a2 a3 h → Gx E (d + 1) 209 19 [.ref a0, .int a1, .int a2, .int a3] [] h Q := by
  intro n
  induction n with
  | zero => intro a0 a1 a2 a3 h hw; exact hw.elim
  | succ n ih =>
    intro a0 a1 a2 a3 h hw
    rw [wl_209_19] at hw
    refine zg_iload zi_209_19 rfl ?_
    refine zg_aload zi_209_20 rfl ?_
    obtain ⟨t8, hw⟩ := hw
    refine zg_getI (v := .int (zI h a0 36)) zi_209_21 t8 (by rfl) rfl ?_
    refine zg_icmp_ge zi_209_22 (fun hc => ?_) (fun hc => ?_)
    · have hw := hw.1 hc
      exact Gx.forget (zrk (zrk (zrk (zrd zr0)))) (okb_209_35 hw)
    · have hw := hw.2 hc
      refine zg_aload zi_209_23 rfl ?_
      refine zg_iload zi_209_24 rfl ?_
      refine zg_aload zi_209_25 rfl ?_
      obtain ⟨r11, er11, hw⟩ := hw
      refine zg_getR (v := .ref r11) zi_209_26 t8 (by rfl) (by show zrv (zR h a0 37) = _; rw [er11]; rfl) ?_
      refine zg_iload zi_209_27 rfl ?_
      obtain ⟨t12, hw⟩ := hw
      obtain ⟨hb, hw⟩ := hw
      refine zg_iaload (v := .int (zI h r11 a3.toNatClampNeg)) zi_209_28 t12 hb rfl ?_
      refine zg_aload zi_209_29 rfl ?_
      refine zg_iload zi_209_30 rfl ?_
      obtain ⟨hd, hs, hw⟩ := hw
      refine Gx.call2 (as := [.ref a0, .int a3]) (rest := [.int (zI h r11 a3.toNatClampNeg), .int a3, .ref a0]) zq_208 zi_209_31 rfl rfl rfl (Nat.le_of_ble_eq_true rfl) (Nat.le_of_ble_eq_true rfl) (zrv_v t8 rfl rfl) (Nat.le_of_ble_eq_true rfl) ?_
      refine cz_208 hd hs ?_
      show Gx E (d + 1) 209 32 [.ref a0, .int a1, .int a2, .int a3] [.int (fz_208 E h a0 a3), .int (zI h r11 a3.toNatClampNeg), .int a3, .ref a0] h Q
      refine Gx.call2 (as := [.ref a0, .int a3, .int (zI h r11 a3.toNatClampNeg), .int (fz_208 E h a0 a3)]) (rest := []) zq_202 zi_209_32 rfl rfl rfl (Nat.le_of_ble_eq_true rfl) (Nat.le_of_ble_eq_true rfl) (zrv_v t8 rfl rfl) (Nat.le_of_ble_eq_true rfl) ?_
      refine Ct.mono hw ?_
      rintro v h13 ⟨rfl, hw⟩
      show Gx E (d + 1) 209 33 [.ref a0, .int a1, .int a2, .int a3] [] h13 Q
      obtain ⟨x14, ex14⟩ : ∃ x : Int32, x = a3 + 1 := ⟨_, rfl⟩
      have hw := hw x14 ex14
      refine zg_iinc (v := x14) (ls1 := [.ref a0, .int a1, .int a2, .int x14]) zi_209_33 rfl (by rw [ex14]; rfl) rfl ?_
      refine zg_goto zi_209_34 ?_
      exact ih a0 a1 a2 x14 h13 hw
/-- TakeOrPayModel.knew(I)I -/
def w_209 (E : Nat → Nat) (d : Nat) (a0 : Nat) (a1 : Int32) (h : ZH) (Q : Option Value → ZH → Prop) : Prop := 1 ≤ d ∧ sz_135 E h a1.toInt64 0 1 ∧ ((¬ (fz_135 E h a1.toInt64 0 1 : Int32) = 0 → (ztag h a0 = 11 ∧ Ct E d 182 [.ref a0] h (fun v h2 => v = none ∧ ztag h2 a0 = 11 ∧ Ct E d 203 [.ref a0] h2 (fun v h4 => v = none ∧ ztag h4 a0 = 11 ∧ ∀ x6 : Int32, x6 = (zI h4 a0 45) → Ct E d 201 [.ref a0] h4 (fun v h7 => v = none ∧ (∃ mm : Nat, wl_209_19 E d Q mm a0 a1 x6 0 h7)))))) ∧ (¬ (¬ (fz_135 E h a1.toInt64 0 1 : Int32) = 0) → (Q (some (.int ((-1000000)))) h)))
set_option maxRecDepth 20000 in
theorem ok_209 {E : Nat → Nat} {d : Nat} {a0 : Nat} {a1 : Int32} {h : ZH} {Q : Option Value → ZH → Prop} (hw : w_209 E d a0 a1 h Q) : Ct E (d + 1) 209 [.ref a0, .int a1] h Q := by
  unfold w_209 at hw
  show Gx E (d + 1) 209 0 [.ref a0, .int a1, .retAddr 0, .retAddr 0] [] h Q
  refine zg_iload zi_209_0 rfl ?_
  refine zg_i2l zi_209_1 ?_
  refine zg_lconst (v := 0) zi_209_2 (by rfl) ?_
  refine zg_lconst (v := 1) zi_209_3 (by rfl) ?_
  obtain ⟨hd, hs, hw⟩ := hw
  refine Gx.call2 (as := [.long a1.toInt64, .long 0, .long 1]) (rest := []) zq_135 zi_209_4 rfl rfl rfl (Nat.le_of_ble_eq_true rfl) (Nat.le_of_ble_eq_true rfl) (rfl) (Nat.le_of_ble_eq_true rfl) ?_
  refine cz_135 hd hs ?_
  show Gx E (d + 1) 209 5 [.ref a0, .int a1, .retAddr 0, .retAddr 0] [.int (fz_135 E h a1.toInt64 0 1)] h Q
  refine zg_if_ne zi_209_5 (fun hc => ?_) (fun hc => ?_)
  · have hw := hw.1 hc
    refine zg_aload zi_209_8 rfl ?_
    obtain ⟨t1, hw⟩ := hw
    refine Gx.call2 (as := [.ref a0]) (rest := []) zq_182 zi_209_9 rfl rfl rfl (Nat.le_of_ble_eq_true rfl) (Nat.le_of_ble_eq_true rfl) (zrv_v t1 rfl rfl) (Nat.le_of_ble_eq_true rfl) ?_
    refine Ct.mono hw ?_
    rintro v h2 ⟨rfl, hw⟩
    show Gx E (d + 1) 209 10 [.ref a0, .int a1, .retAddr 0, .retAddr 0] [] h2 Q
    refine zg_aload zi_209_10 rfl ?_
    obtain ⟨t3, hw⟩ := hw
    refine Gx.call2 (as := [.ref a0]) (rest := []) zq_203 zi_209_11 rfl rfl rfl (Nat.le_of_ble_eq_true rfl) (Nat.le_of_ble_eq_true rfl) (zrv_v t3 rfl rfl) (Nat.le_of_ble_eq_true rfl) ?_
    refine Ct.mono hw ?_
    rintro v h4 ⟨rfl, hw⟩
    show Gx E (d + 1) 209 12 [.ref a0, .int a1, .retAddr 0, .retAddr 0] [] h4 Q
    refine zg_aload zi_209_12 rfl ?_
    obtain ⟨t5, hw⟩ := hw
    refine zg_getI (v := .int (zI h4 a0 45)) zi_209_13 t5 (by rfl) rfl ?_
    refine zg_nameI fun x6 ex6 => ?_
    have hw := hw x6 ex6
    refine zg_istore (ls1 := [.ref a0, .int a1, .int x6, .retAddr 0]) zi_209_14 (Nat.le_of_ble_eq_true rfl) rfl ?_
    refine zg_aload zi_209_15 rfl ?_
    refine Gx.call2 (as := [.ref a0]) (rest := []) zq_201 zi_209_16 rfl rfl rfl (Nat.le_of_ble_eq_true rfl) (Nat.le_of_ble_eq_true rfl) (zrv_v t5 rfl rfl) (Nat.le_of_ble_eq_true rfl) ?_
    refine Ct.mono hw ?_
    rintro v h7 ⟨rfl, hw⟩
    show Gx E (d + 1) 209 17 [.ref a0, .int a1, .int x6, .retAddr 0] [] h7 Q
    refine zg_const (v := 0) zi_209_17 (by rfl) ?_
    refine zg_istore (ls1 := [.ref a0, .int a1, .int x6, .int 0]) zi_209_18 (Nat.le_of_ble_eq_true rfl) rfl ?_
    obtain ⟨mm, hw⟩ := hw
    exact okl_209_19 mm a0 a1 x6 0 h7 hw
  · have hw := hw.2 hc
    refine zg_const (v := (-1000000)) zi_209_6 (by rfl) ?_
    exact zg_ireturn zi_209_7 (by decide) hw
theorem zq_210 : zQ 210 6 7 11 := by unfold zQ; decide +kernel
theorem zi_210_0 : (zM 210).1[0]? = some (.aload 0) := by rfl
theorem zi_210_1 : (zM 210).1[1]? = some (.iload 1) := by rfl
theorem zi_210_2 : (zM 210).1[2]? = some (.iload 2) := by rfl
theorem zi_210_3 : (zM 210).1[3]? = some (.iload 3) := by rfl
theorem zi_210_4 : (zM 210).1[4]? = some (.iload 4) := by rfl
theorem zi_210_5 : (zM 210).1[5]? = some (.aload 0) := by rfl
theorem zi_210_6 : (zM 210).1[6]? = some (.getfield 11237) := by rfl
theorem zi_210_7 : (zM 210).1[7]? = some (.iload 1) := by rfl
theorem zi_210_8 : (zM 210).1[8]? = some (.iaload) := by rfl
theorem zi_210_9 : (zM 210).1[9]? = some (.iload 5) := by rfl
theorem zi_210_10 : (zM 210).1[10]? = some (.invokevirtual 167) := by rfl
theorem zi_210_11 : (zM 210).1[11]? = some (.aload 0) := by rfl
theorem zi_210_12 : (zM 210).1[12]? = some (.aload 0) := by rfl
theorem zi_210_13 : (zM 210).1[13]? = some (.getfield 11237) := by rfl
theorem zi_210_14 : (zM 210).1[14]? = some (.iload 1) := by rfl
theorem zi_210_15 : (zM 210).1[15]? = some (.iaload) := by rfl
theorem zi_210_16 : (zM 210).1[16]? = some (.iload 5) := by rfl
theorem zi_210_17 : (zM 210).1[17]? = some (.invokevirtual 168) := by rfl
theorem zi_210_18 : (zM 210).1[18]? = some (.istore 6) := by rfl
theorem zi_210_19 : (zM 210).1[19]? = some (.aload 0) := by rfl
theorem zi_210_20 : (zM 210).1[20]? = some (.iload 1) := by rfl
theorem zi_210_21 : (zM 210).1[21]? = some (.iload 4) := by rfl
theorem zi_210_22 : (zM 210).1[22]? = some (.invokevirtual 178) := by rfl
theorem zi_210_23 : (zM 210).1[23]? = some (.iload 6) := by rfl
theorem zi_210_24 : (zM 210).1[24]? = some (.aload 0) := by rfl
theorem zi_210_25 : (zM 210).1[25]? = some (.getfield 11031) := by rfl
theorem zi_210_26 : (zM 210).1[26]? = some (.isub) := by rfl
theorem zi_210_27 : (zM 210).1[27]? = some (.aload 0) := by rfl
theorem zi_210_28 : (zM 210).1[28]? = some (.getfield 11247) := by rfl
theorem zi_210_29 : (zM 210).1[29]? = some (.aload 0) := by rfl
theorem zi_210_30 : (zM 210).1[30]? = some (.getfield 11030) := by rfl
theorem zi_210_31 : (zM 210).1[31]? = some (.iconst 3) := by rfl
theorem zi_210_32 : (zM 210).1[32]? = some (.idiv) := by rfl
theorem zi_210_33 : (zM 210).1[33]? = some (.iaload) := by rfl
theorem zi_210_34 : (zM 210).1[34]? = some (.iadd) := by rfl
theorem zi_210_35 : (zM 210).1[35]? = some (.ireturn) := by rfl
/-- TakeOrPayModel.cameBy(IIIII)I -/
def w_210 (E : Nat → Nat) (d : Nat) (a0 : Nat) (a1 : Int32) (a2 : Int32) (a3 : Int32) (a4 : Int32) (a5 : Int32) (h : ZH) (Q : Option Value → ZH → Prop) : Prop := ztag h a0 = 11 ∧ ∃ r2 : Nat, zR h a0 37 = r2 + 1 ∧ (ztag h r2 = 13 ∨ ztag h r2 = 19) ∧ zin a1 (zlen h r2) = true ∧ Ct E d 167 [.ref a0, .int a1, .int a2, .int a3, .int a4, .int (zI h r2 a1.toNatClampNeg), .int a5] h (fun v h4 => v = none ∧ ztag h4 a0 = 11 ∧ ∃ r6 : Nat, zR h4 a0 37 = r6 + 1 ∧ (ztag h4 r6 = 13 ∨ ztag h4 r6 = 19) ∧ zin a1 (zlen h4 r6) = true ∧ 2 ≤ d ∧ sz_168 E h4 a0 (zI h4 r6 a1.toNatClampNeg) a5 ∧ ∀ x8 : Int32, x8 = (fz_168 E h4 a0 (zI h4 r6 a1.toNatClampNeg) a5) → Ct E d 178 [.ref a0, .int a1, .int a4] h4 (fun v h9 => v = none ∧ ztag h9 a0 = 11 ∧ ∃ r11 : Nat, zR h9 a0 47 = r11 + 1 ∧ (ztag h9 r11 = 13 ∨ ztag h9 r11 = 19) ∧ zin ((zI h9 a0 30) / 3) (zlen h9 r11) = true ∧ Q (some (.int ((x8 - (zI h9 a0 31)) + (zI h9 r11 ((zI h9 a0 30) / 3 : Int32).toNatClampNeg)))) h9))
set_option maxRecDepth 20000 in
theorem ok_210 {E : Nat → Nat} {d : Nat} {a0 : Nat} {a1 : Int32} {a2 : Int32} {a3 : Int32} {a4 : Int32} {a5 : Int32} {h : ZH} {Q : Option Value → ZH → Prop} (hw : w_210 E d a0 a1 a2 a3 a4 a5 h Q) : Ct E (d + 1) 210 [.ref a0, .int a1, .int a2, .int a3, .int a4, .int a5] h Q := by
  unfold w_210 at hw
  show Gx E (d + 1) 210 0 [.ref a0, .int a1, .int a2, .int a3, .int a4, .int a5, .retAddr 0] [] h Q
  refine zg_aload zi_210_0 rfl ?_
  refine zg_iload zi_210_1 rfl ?_
  refine zg_iload zi_210_2 rfl ?_
  refine zg_iload zi_210_3 rfl ?_
  refine zg_iload zi_210_4 rfl ?_
  refine zg_aload zi_210_5 rfl ?_
  obtain ⟨t1, hw⟩ := hw
  obtain ⟨r2, er2, hw⟩ := hw
  refine zg_getR (v := .ref r2) zi_210_6 t1 (by rfl) (by show zrv (zR h a0 37) = _; rw [er2]; rfl) ?_
  refine zg_iload zi_210_7 rfl ?_
  obtain ⟨t3, hw⟩ := hw
  obtain ⟨hb, hw⟩ := hw
  refine zg_iaload (v := .int (zI h r2 a1.toNatClampNeg)) zi_210_8 t3 hb rfl ?_
  refine zg_iload zi_210_9 rfl ?_
  refine Gx.call2 (as := [.ref a0, .int a1, .int a2, .int a3, .int a4, .int (zI h r2 a1.toNatClampNeg), .int a5]) (rest := []) zq_167 zi_210_10 rfl rfl rfl (Nat.le_of_ble_eq_true rfl) (Nat.le_of_ble_eq_true rfl) (zrv_v t1 rfl rfl) (Nat.le_of_ble_eq_true rfl) ?_
  refine Ct.mono hw ?_
  rintro v h4 ⟨rfl, hw⟩
  show Gx E (d + 1) 210 11 [.ref a0, .int a1, .int a2, .int a3, .int a4, .int a5, .retAddr 0] [] h4 Q
  refine zg_aload zi_210_11 rfl ?_
  refine zg_aload zi_210_12 rfl ?_
  obtain ⟨t5, hw⟩ := hw
  obtain ⟨r6, er6, hw⟩ := hw
  refine zg_getR (v := .ref r6) zi_210_13 t5 (by rfl) (by show zrv (zR h4 a0 37) = _; rw [er6]; rfl) ?_
  refine zg_iload zi_210_14 rfl ?_
  obtain ⟨t7, hw⟩ := hw
  obtain ⟨hb, hw⟩ := hw
  refine zg_iaload (v := .int (zI h4 r6 a1.toNatClampNeg)) zi_210_15 t7 hb rfl ?_
  refine zg_iload zi_210_16 rfl ?_
  obtain ⟨hd, hs, hw⟩ := hw
  refine Gx.call2 (as := [.ref a0, .int (zI h4 r6 a1.toNatClampNeg), .int a5]) (rest := []) zq_168 zi_210_17 rfl rfl rfl (Nat.le_of_ble_eq_true rfl) (Nat.le_of_ble_eq_true rfl) (zrv_v t5 rfl rfl) (Nat.le_of_ble_eq_true rfl) ?_
  refine cz_168 hd hs ?_
  show Gx E (d + 1) 210 18 [.ref a0, .int a1, .int a2, .int a3, .int a4, .int a5, .retAddr 0] [.int (fz_168 E h4 a0 (zI h4 r6 a1.toNatClampNeg) a5)] h4 Q
  refine zg_nameI fun x8 ex8 => ?_
  have hw := hw x8 ex8
  refine zg_istore (ls1 := [.ref a0, .int a1, .int a2, .int a3, .int a4, .int a5, .int x8]) zi_210_18 (Nat.le_of_ble_eq_true rfl) rfl ?_
  refine zg_aload zi_210_19 rfl ?_
  refine zg_iload zi_210_20 rfl ?_
  refine zg_iload zi_210_21 rfl ?_
  refine Gx.call2 (as := [.ref a0, .int a1, .int a4]) (rest := []) zq_178 zi_210_22 rfl rfl rfl (Nat.le_of_ble_eq_true rfl) (Nat.le_of_ble_eq_true rfl) (zrv_v t5 rfl rfl) (Nat.le_of_ble_eq_true rfl) ?_
  refine Ct.mono hw ?_
  rintro v h9 ⟨rfl, hw⟩
  show Gx E (d + 1) 210 23 [.ref a0, .int a1, .int a2, .int a3, .int a4, .int a5, .int x8] [] h9 Q
  refine zg_iload zi_210_23 rfl ?_
  refine zg_aload zi_210_24 rfl ?_
  obtain ⟨t10, hw⟩ := hw
  refine zg_getI (v := .int (zI h9 a0 31)) zi_210_25 t10 (by rfl) rfl ?_
  refine zg_isub zi_210_26 ?_
  refine zg_aload zi_210_27 rfl ?_
  obtain ⟨r11, er11, hw⟩ := hw
  refine zg_getR (v := .ref r11) zi_210_28 t10 (by rfl) (by show zrv (zR h9 a0 47) = _; rw [er11]; rfl) ?_
  refine zg_aload zi_210_29 rfl ?_
  refine zg_getI (v := .int (zI h9 a0 30)) zi_210_30 t10 (by rfl) rfl ?_
  refine zg_const (v := 3) zi_210_31 (by rfl) ?_
  refine zg_idiv zi_210_32 (by decide) ?_
  obtain ⟨t12, hw⟩ := hw
  obtain ⟨hb, hw⟩ := hw
  refine zg_iaload (v := .int (zI h9 r11 ((zI h9 a0 30) / 3 : Int32).toNatClampNeg)) zi_210_33 t12 hb rfl ?_
  refine zg_iadd zi_210_34 ?_
  exact zg_ireturn zi_210_35 (by decide) hw
theorem zq_211 : zQ 211 1 7 11 := by unfold zQ; decide +kernel
theorem zi_211_0 : (zM 211).1[0]? = some (.iconst 0) := by rfl
theorem zi_211_1 : (zM 211).1[1]? = some (.istore 1) := by rfl
theorem zi_211_2 : (zM 211).1[2]? = some (.iload 1) := by rfl
theorem zi_211_3 : (zM 211).1[3]? = some (.iconst 2457) := by rfl
theorem zi_211_4 : (zM 211).1[4]? = some (.if_icmp .ge ((17 : Nat) : Int)) := by rfl
theorem zi_211_5 : (zM 211).1[5]? = some (.aload 0) := by rfl
theorem zi_211_6 : (zM 211).1[6]? = some (.getfield 11247) := by rfl
theorem zi_211_7 : (zM 211).1[7]? = some (.iconst 2457) := by rfl
theorem zi_211_8 : (zM 211).1[8]? = some (.aload 0) := by rfl
theorem zi_211_9 : (zM 211).1[9]? = some (.invokevirtual 152) := by rfl
theorem zi_211_10 : (zM 211).1[10]? = some (.imul) := by rfl
theorem zi_211_11 : (zM 211).1[11]? = some (.iload 1) := by rfl
theorem zi_211_12 : (zM 211).1[12]? = some (.iadd) := by rfl
theorem zi_211_13 : (zM 211).1[13]? = some (.iconst 0) := by rfl
theorem zi_211_14 : (zM 211).1[14]? = some (.iastore) := by rfl
theorem zi_211_15 : (zM 211).1[15]? = some (.iinc 1 1) := by rfl
theorem zi_211_16 : (zM 211).1[16]? = some (.goto ((2 : Nat) : Int)) := by rfl
theorem zi_211_17 : (zM 211).1[17]? = some (.aload 0) := by rfl
theorem zi_211_18 : (zM 211).1[18]? = some (.invokevirtual 152) := by rfl
theorem zi_211_19 : (zM 211).1[19]? = some (.iconst 1) := by rfl
theorem zi_211_20 : (zM 211).1[20]? = some (.isub) := by rfl
theorem zi_211_21 : (zM 211).1[21]? = some (.istore 1) := by rfl
theorem zi_211_22 : (zM 211).1[22]? = some (.iload 1) := by rfl
theorem zi_211_23 : (zM 211).1[23]? = some (.ifCond .lt ((85 : Nat) : Int)) := by rfl
theorem zi_211_24 : (zM 211).1[24]? = some (.iconst 0) := by rfl
theorem zi_211_25 : (zM 211).1[25]? = some (.istore 2) := by rfl
theorem zi_211_26 : (zM 211).1[26]? = some (.iload 2) := by rfl
theorem zi_211_27 : (zM 211).1[27]? = some (.iconst 2457) := by rfl
theorem zi_211_28 : (zM 211).1[28]? = some (.if_icmp .ge ((83 : Nat) : Int)) := by rfl
theorem zi_211_29 : (zM 211).1[29]? = some (.iconst 0) := by rfl
theorem zi_211_30 : (zM 211).1[30]? = some (.istore 3) := by rfl
theorem zi_211_31 : (zM 211).1[31]? = some (.iconst 0) := by rfl
theorem zi_211_32 : (zM 211).1[32]? = some (.istore 4) := by rfl
theorem zi_211_33 : (zM 211).1[33]? = some (.iconst 0) := by rfl
theorem zi_211_34 : (zM 211).1[34]? = some (.istore 5) := by rfl
theorem zi_211_35 : (zM 211).1[35]? = some (.iload 5) := by rfl
theorem zi_211_36 : (zM 211).1[36]? = some (.iconst 5) := by rfl
theorem zi_211_37 : (zM 211).1[37]? = some (.if_icmp .ge ((72 : Nat) : Int)) := by rfl
theorem zi_211_38 : (zM 211).1[38]? = some (.aload 0) := by rfl
theorem zi_211_39 : (zM 211).1[39]? = some (.iload 1) := by rfl
theorem zi_211_40 : (zM 211).1[40]? = some (.iload 5) := by rfl
theorem zi_211_41 : (zM 211).1[41]? = some (.invokevirtual 163) := by rfl
theorem zi_211_42 : (zM 211).1[42]? = some (.ifCond .eq ((70 : Nat) : Int)) := by rfl
theorem zi_211_43 : (zM 211).1[43]? = some (.aload 0) := by rfl
theorem zi_211_44 : (zM 211).1[44]? = some (.iload 1) := by rfl
theorem zi_211_45 : (zM 211).1[45]? = some (.iload 2) := by rfl
theorem zi_211_46 : (zM 211).1[46]? = some (.iconst 117) := by rfl
theorem zi_211_47 : (zM 211).1[47]? = some (.idiv) := by rfl
theorem zi_211_48 : (zM 211).1[48]? = some (.iload 2) := by rfl
theorem zi_211_49 : (zM 211).1[49]? = some (.iconst 9) := by rfl
theorem zi_211_50 : (zM 211).1[50]? = some (.idiv) := by rfl
theorem zi_211_51 : (zM 211).1[51]? = some (.iconst 13) := by rfl
theorem zi_211_52 : (zM 211).1[52]? = some (.irem) := by rfl
theorem zi_211_53 : (zM 211).1[53]? = some (.iload 2) := by rfl
theorem zi_211_54 : (zM 211).1[54]? = some (.iconst 9) := by rfl
theorem zi_211_55 : (zM 211).1[55]? = some (.irem) := by rfl
theorem zi_211_56 : (zM 211).1[56]? = some (.iload 5) := by rfl
theorem zi_211_57 : (zM 211).1[57]? = some (.invokevirtual 210) := by rfl
theorem zi_211_58 : (zM 211).1[58]? = some (.istore 6) := by rfl
theorem zi_211_59 : (zM 211).1[59]? = some (.iload 3) := by rfl
theorem zi_211_60 : (zM 211).1[60]? = some (.ifCond .eq ((64 : Nat) : Int)) := by rfl
theorem zi_211_61 : (zM 211).1[61]? = some (.iload 6) := by rfl
theorem zi_211_62 : (zM 211).1[62]? = some (.iload 4) := by rfl
theorem zi_211_63 : (zM 211).1[63]? = some (.if_icmp .le ((66 : Nat) : Int)) := by rfl
theorem zi_211_64 : (zM 211).1[64]? = some (.iload 6) := by rfl
theorem zi_211_65 : (zM 211).1[65]? = some (.goto ((67 : Nat) : Int)) := by rfl
theorem zi_211_66 : (zM 211).1[66]? = some (.iload 4) := by rfl
theorem zi_211_67 : (zM 211).1[67]? = some (.istore 4) := by rfl
theorem zi_211_68 : (zM 211).1[68]? = some (.iconst 1) := by rfl
theorem zi_211_69 : (zM 211).1[69]? = some (.istore 3) := by rfl
theorem zi_211_70 : (zM 211).1[70]? = some (.iinc 5 1) := by rfl
theorem zi_211_71 : (zM 211).1[71]? = some (.goto ((35 : Nat) : Int)) := by rfl
theorem zi_211_72 : (zM 211).1[72]? = some (.aload 0) := by rfl
theorem zi_211_73 : (zM 211).1[73]? = some (.getfield 11247) := by rfl
theorem zi_211_74 : (zM 211).1[74]? = some (.iconst 2457) := by rfl
theorem zi_211_75 : (zM 211).1[75]? = some (.iload 1) := by rfl
theorem zi_211_76 : (zM 211).1[76]? = some (.imul) := by rfl
theorem zi_211_77 : (zM 211).1[77]? = some (.iload 2) := by rfl
theorem zi_211_78 : (zM 211).1[78]? = some (.iadd) := by rfl
theorem zi_211_79 : (zM 211).1[79]? = some (.iload 4) := by rfl
theorem zi_211_80 : (zM 211).1[80]? = some (.iastore) := by rfl
theorem zi_211_81 : (zM 211).1[81]? = some (.iinc 2 1) := by rfl
theorem zi_211_82 : (zM 211).1[82]? = some (.goto ((26 : Nat) : Int)) := by rfl
theorem zi_211_83 : (zM 211).1[83]? = some (.iinc 1 (-1)) := by rfl
theorem zi_211_84 : (zM 211).1[84]? = some (.goto ((22 : Nat) : Int)) := by rfl
theorem zi_211_85 : (zM 211).1[85]? = some (.return_) := by rfl
def wb_211_83 (E : Nat → Nat) (d : Nat) (Q : Option Value → ZH → Prop) (L_22 : Nat → Int32 → ZH → Prop) (a0 : Nat) (a1 : Int32) (h : ZH) : Prop := ∀ x3 : Int32, x3 = (a1 + (-1)) → L_22 a0 x3 h
set_option maxRecDepth 20000 in
theorem okb_211_83 {E : Nat → Nat} {d : Nat} {Q : Option Value → ZH → Prop} {L_22 : Nat → Int32 → ZH → Prop} (hL_22 : ∀ (b0 : Nat) (b1 : Int32) (h : ZH), L_22 b0 b1 h → Gx E (d + 1) 211 22 [.ref b0, .int b1, .retAddr 0, .retAddr 0, .retAddr 0, .retAddr 0, .retAddr 0] [] h Q) {a0 : Nat} {a1 : Int32} {h : ZH} (hw : wb_211_83 E d Q L_22 a0 a1 h) : Gx E (d + 1) 211 83 [.ref a0, .int a1, .retAddr 0, .retAddr 0, .retAddr 0, .retAddr 0, .retAddr 0] [] h Q := by
  unfold wb_211_83 at hw
  obtain ⟨x3, ex3⟩ : ∃ x : Int32, x = a1 + (-1) := ⟨_, rfl⟩
  have hw := hw x3 ex3
  refine zg_iinc (v := x3) (ls1 := [.ref a0, .int x3, .retAddr 0, .retAddr 0, .retAddr 0, .retAddr 0, .retAddr 0]) zi_211_83 rfl (by rw [ex3]; rfl) rfl ?_
  refine zg_goto zi_211_84 ?_
  exact hL_22 a0 x3 h hw
def wb_211_72 (E : Nat → Nat) (d : Nat) (Q : Option Value → ZH → Prop) (L_22 : Nat → Int32 → ZH → Prop) (L_26 : Nat → Int32 → Int32 → ZH → Prop) (a0 : Nat) (a1 : Int32) (a2 : Int32) (a4 : Int32) (h : ZH) : Prop := ztag h a0 = 11 ∧ ∃ r5 : Nat, zR h a0 47 = r5 + 1 ∧ ztag h r5 = 13 ∧ zin ((2457 * a1) + a2) (zlen h r5) = true ∧ ∀ h7 : ZH, h7 = (zuI h r5 ((2457 * a1) + a2 : Int32).toNatClampNeg a4) → ∀ x8 : Int32, x8 = (a2 + 1) → L_26 a0 a1 x8 h7
set_option maxRecDepth 20000 in
theorem okb_211_72 {E : Nat → Nat} {d : Nat} {Q : Option Value → ZH → Prop} {L_22 : Nat → Int32 → ZH → Prop} {L_26 : Nat → Int32 → Int32 → ZH → Prop} (hL_22 : ∀ (b0 : Nat) (b1 : Int32) (h : ZH), L_22 b0 b1 h → Gx E (d + 1) 211 22 [.ref b0, .int b1, .retAddr 0, .retAddr 0, .retAddr 0, .retAddr 0, .retAddr 0] [] h Q) (hL_26 : ∀ (b0 : Nat) (b1 : Int32) (b2 : Int32) (h : ZH), L_26 b0 b1 b2 h → Gx E (d + 1) 211 26 [.ref b0, .int b1, .int b2, .retAddr 0, .retAddr 0, .retAddr 0, .retAddr 0] [] h Q) {a0 : Nat} {a1 : Int32} {a2 : Int32} {a4 : Int32} {h : ZH} (hw : wb_211_72 E d Q L_22 L_26 a0 a1 a2 a4 h) : Gx E (d + 1) 211 72 [.ref a0, .int a1, .int a2, .retAddr 0, .int a4, .retAddr 0, .retAddr 0] [] h Q := by
  unfold wb_211_72 at hw
  refine zg_aload zi_211_72 rfl ?_
  obtain ⟨t4, hw⟩ := hw
  obtain ⟨r5, er5, hw⟩ := hw
  refine zg_getR (v := .ref r5) zi_211_73 t4 (by rfl) (by show zrv (zR h a0 47) = _; rw [er5]; rfl) ?_
  refine zg_const (v := 2457) zi_211_74 (by rfl) ?_
  refine zg_iload zi_211_75 rfl ?_
  refine zg_imul zi_211_76 ?_
  refine zg_iload zi_211_77 rfl ?_
  refine zg_iadd zi_211_78 ?_
  refine zg_iload zi_211_79 rfl ?_
  obtain ⟨t6, hw⟩ := hw
  obtain ⟨hb, hw⟩ := hw
  refine zg_iastore (h1 := zuI h r5 ((2457 * a1) + a2 : Int32).toNatClampNeg a4) zi_211_80 t6 hb rfl ?_
  refine zg_nameH fun h7 eh7 => ?_
  have hw := hw h7 eh7
  obtain ⟨x8, ex8⟩ : ∃ x : Int32, x = a2 + 1 := ⟨_, rfl⟩
  have hw := hw x8 ex8
  refine zg_iinc (v := x8) (ls1 := [.ref a0, .int a1, .int x8, .retAddr 0, .int a4, .retAddr 0, .retAddr 0]) zi_211_81 rfl (by rw [ex8]; rfl) rfl ?_
  refine zg_goto zi_211_82 ?_
  exact Gx.forget (zrk (zrk (zrk (zrk (zrd (zrk (zrk zr0))))))) (hL_26 a0 a1 x8 h7 hw)
def wb_211_70 (E : Nat → Nat) (d : Nat) (Q : Option Value → ZH → Prop) (L_22 : Nat → Int32 → ZH → Prop) (L_26 : Nat → Int32 → Int32 → ZH → Prop) (L_35 : Nat → Int32 → Int32 → Int32 → Int32 → Int32 → ZH → Prop) (a0 : Nat) (a1 : Int32) (a2 : Int32) (a3 : Int32) (a4 : Int32) (a5 : Int32) (h : ZH) : Prop := ∀ x10 : Int32, x10 = (a5 + 1) → L_35 a0 a1 a2 a3 a4 x10 h
set_option maxRecDepth 20000 in
theorem okb_211_70 {E : Nat → Nat} {d : Nat} {Q : Option Value → ZH → Prop} {L_22 : Nat → Int32 → ZH → Prop} {L_26 : Nat → Int32 → Int32 → ZH → Prop} {L_35 : Nat → Int32 → Int32 → Int32 → Int32 → Int32 → ZH → Prop} (hL_22 : ∀ (b0 : Nat) (b1 : Int32) (h : ZH), L_22 b0 b1 h → Gx E (d + 1) 211 22 [.ref b0, .int b1, .retAddr 0, .retAddr 0, .retAddr 0, .retAddr 0, .retAddr 0] [] h Q) (hL_26 : ∀ (b0 : Nat) (b1 : Int32) (b2 : Int32) (h : ZH), L_26 b0 b1 b2 h → Gx E (d + 1) 211 26 [.ref b0, .int b1, .int b2, .retAddr 0, .retAddr 0, .retAddr 0, .retAddr 0] [] h Q) (hL_35 : ∀ (b0 : Nat) (b1 : Int32) (b2 : Int32) (b3 : Int32) (b4 : Int32) (b5 : Int32) (h : ZH), L_35 b0 b1 b2 b3 b4 b5 h → Gx E (d + 1) 211 35 [.ref b0, .int b1, .int b2, .int b3, .int b4, .int b5, .retAddr 0] [] h Q) {a0 : Nat} {a1 : Int32} {a2 : Int32} {a3 : Int32} {a4 : Int32} {a5 : Int32} {h : ZH} (hw : wb_211_70 E d Q L_22 L_26 L_35 a0 a1 a2 a3 a4 a5 h) : Gx E (d + 1) 211 70 [.ref a0, .int a1, .int a2, .int a3, .int a4, .int a5, .retAddr 0] [] h Q := by
  unfold wb_211_70 at hw
  obtain ⟨x10, ex10⟩ : ∃ x : Int32, x = a5 + 1 := ⟨_, rfl⟩
  have hw := hw x10 ex10
  refine zg_iinc (v := x10) (ls1 := [.ref a0, .int a1, .int a2, .int a3, .int a4, .int x10, .retAddr 0]) zi_211_70 rfl (by rw [ex10]; rfl) rfl ?_
  refine zg_goto zi_211_71 ?_
  exact hL_35 a0 a1 a2 a3 a4 x10 h hw
def wl_211_35 (E : Nat → Nat) (d : Nat) (Q : Option Value → ZH → Prop) (L_22 : Nat → Int32 → ZH → Prop) (L_26 : Nat → Int32 → Int32 → ZH → Prop) : Nat → Nat → Int32 → Int32 → Int32 → Int32 → Int32 → ZH → Prop
  | 0, _, _, _, _, _, _, _ => False
  | n + 1, a0, a1, a2, a3, a4, a5, h => (5 ≤ a5 → (wb_211_72 E d Q L_22 L_26 a0 a1 a2 a4 h)) ∧ (¬ (5 ≤ a5) → (ztag h a0 = 11 ∧ 2 ≤ d ∧ sz_163 E h a0 a1 a5 ∧ (((fz_163 E h a0 a1 a5 : Int32) = 0 → (wb_211_70 E d Q L_22 L_26 (wl_211_35 E d Q L_22 L_26 n) a0 a1 a2 a3 a4 a5 h)) ∧ (¬ ((fz_163 E h a0 a1 a5 : Int32) = 0) → (Ct E d 210 [.ref a0, .int a1, .int (a2 / 117), .int ((a2 / 9) - (a2 / 9) / 13 * 13), .int (a2 - a2 / 9 * 9), .int a5] h (fun v h11 => ∃ x12 : Int32, v = some (.int x12) ∧ ∀ x13 : Int32, x13 = (if a3 = 0 then x12 else if x12 ≤ a4 then a4 else x12) → wb_211_70 E d Q L_22 L_26 (wl_211_35 E d Q L_22 L_26 n) a0 a1 a2 1 x13 a5 h11))))))
set_option maxRecDepth 20000 in
theorem okl_211_35 {E : Nat → Nat} {d : Nat} {Q : Option Value → ZH → Prop} {L_22 : Nat → Int32 → ZH → Prop} {L_26 : Nat → Int32 → Int32 → ZH → Prop} (hL_22 : ∀ (b0 : Nat) (b1 : Int32) (h : ZH), L_22 b0 b1 h → Gx E (d + 1) 211 22 [.ref b0, .int b1, .retAddr 0, .retAddr 0, .retAddr 0, .retAddr 0, .retAddr 0] [] h Q) (hL_26 : ∀ (b0 : Nat) (b1 : Int32) (b2 : Int32) (h : ZH), L_26 b0 b1 b2 h → Gx E (d + 1) 211 26 [.ref b0, .int b1, .int b2, .retAddr 0, .retAddr 0, .retAddr 0, .retAddr 0] [] h Q) : ∀ (n : Nat) (a0 : Nat) (a1 : Int32) (a2 : Int32) (a3 : Int32) (a4 : Int32) (a5 : Int32) (h : ZH), wl_211_35 E d Q L_22 L_26 n a0 a1 a2 a3 a4 a5 h → Gx E (d + 1) 211 35 [.ref a0, .int a1, .int a2, .int a3, .int a4, .int a5, .retAddr 0] [] h Q := by
  intro n
  induction n with
  | zero => intro a0 a1 a2 a3 a4 a5 h hw; exact hw.elim
  | succ n ih =>
    intro a0 a1 a2 a3 a4 a5 h hw
    rw [wl_211_35] at hw
    refine zg_iload zi_211_35 rfl ?_
    refine zg_const (v := 5) zi_211_36 (by rfl) ?_
    refine zg_icmp_ge zi_211_37 (fun hc => ?_) (fun hc => ?_)
    · have hw := hw.1 hc
      exact Gx.forget (zrk (zrk (zrk (zrd (zrk (zrd (zrk zr0))))))) (okb_211_72 hL_22 hL_26 hw)
    · have hw := hw.2 hc
      refine zg_aload zi_211_38 rfl ?_
      refine zg_iload zi_211_39 rfl ?_
      refine zg_iload zi_211_40 rfl ?_
      obtain ⟨t9, hw⟩ := hw
      obtain ⟨hd, hs, hw⟩ := hw
      refine Gx.call2 (as := [.ref a0, .int a1, .int a5]) (rest := []) zq_163 zi_211_41 rfl rfl rfl (Nat.le_of_ble_eq_true rfl) (Nat.le_of_ble_eq_true rfl) (zrv_v t9 rfl rfl) (Nat.le_of_ble_eq_true rfl) ?_
      refine cz_163 hd hs ?_
      show Gx E (d + 1) 211 42 [.ref a0, .int a1, .int a2, .int a3, .int a4, .int a5, .retAddr 0] [.int (fz_163 E h a0 a1 a5)] h Q
      refine zg_if_eq zi_211_42 (fun hc => ?_) (fun hc => ?_)
      · have hw := hw.1 hc
        exact okb_211_70 hL_22 hL_26 ih hw
      · have hw := hw.2 hc
        refine zg_aload zi_211_43 rfl ?_
        refine zg_iload zi_211_44 rfl ?_
        refine zg_iload zi_211_45 rfl ?_
        refine zg_const (v := 117) zi_211_46 (by rfl) ?_
        refine zg_idiv zi_211_47 (by decide) ?_
        refine zg_iload zi_211_48 rfl ?_
        refine zg_const (v := 9) zi_211_49 (by rfl) ?_
        refine zg_idiv zi_211_50 (by decide) ?_
        refine zg_const (v := 13) zi_211_51 (by rfl) ?_
        refine zg_irem zi_211_52 (by decide) ?_
        refine zg_iload zi_211_53 rfl ?_
        refine zg_const (v := 9) zi_211_54 (by rfl) ?_
        refine zg_irem zi_211_55 (by decide) ?_
        refine zg_iload zi_211_56 rfl ?_
        refine Gx.call2 (as := [.ref a0, .int a1, .int (a2 / 117), .int ((a2 / 9) - (a2 / 9) / 13 * 13), .int (a2 - a2 / 9 * 9), .int a5]) (rest := []) zq_210 zi_211_57 rfl rfl rfl (Nat.le_of_ble_eq_true rfl) (Nat.le_of_ble_eq_true rfl) (zrv_v t9 rfl rfl) (Nat.le_of_ble_eq_true rfl) ?_
        refine Ct.mono hw ?_
        rintro v h11 ⟨x12, rfl, hw⟩
        show Gx E (d + 1) 211 58 [.ref a0, .int a1, .int a2, .int a3, .int a4, .int a5, .retAddr 0] [.int x12] h11 Q
        refine zg_istore (ls1 := [.ref a0, .int a1, .int a2, .int a3, .int a4, .int a5, .int x12]) zi_211_58 (Nat.le_of_ble_eq_true rfl) rfl ?_
        refine zg_iload zi_211_59 rfl ?_
        have g60 : Gx E (d + 1) 211 67 [.ref a0, .int a1, .int a2, .int a3, .int a4, .int a5, .int x12] [.int (if a3 = 0 then x12 else if x12 ≤ a4 then a4 else x12)] h11 Q := by
          refine zg_nameI fun x13 ex13 => ?_
          have hw := hw x13 ex13
          refine zg_istore (ls1 := [.ref a0, .int a1, .int a2, .int a3, .int x13, .int a5, .int x12]) zi_211_67 (Nat.le_of_ble_eq_true rfl) rfl ?_
          refine zg_const (v := 1) zi_211_68 (by rfl) ?_
          refine zg_istore (ls1 := [.ref a0, .int a1, .int a2, .int 1, .int x13, .int a5, .int x12]) zi_211_69 (Nat.le_of_ble_eq_true rfl) rfl ?_
          exact Gx.forget (zrk (zrk (zrk (zrk (zrk (zrk (zrd zr0))))))) (okb_211_70 hL_22 hL_26 ih hw)
        refine zg_if_eq zi_211_60 (fun hc60 => ?_) (fun hc60 => ?_)
        · skip
          refine zg_iload zi_211_64 rfl ?_
          refine zg_goto zi_211_65 ?_
          have hg := g60
          simp only [if_pos hc60] at hg
          exact hg
        · skip
          refine zg_iload zi_211_61 rfl ?_
          refine zg_iload zi_211_62 rfl ?_
          have g63 : Gx E (d + 1) 211 67 [.ref a0, .int a1, .int a2, .int a3, .int a4, .int a5, .int x12] [.int (if x12 ≤ a4 then a4 else x12)] h11 Q := by
            have hg := g60
            simp only [if_neg hc60] at hg
            exact hg
          refine zg_icmp_le zi_211_63 (fun hc63 => ?_) (fun hc63 => ?_)
          · skip
            refine zg_iload zi_211_66 rfl ?_
            have hg := g63
            simp only [if_pos hc63] at hg
            exact hg
          · skip
            refine zg_iload zi_211_64 rfl ?_
            refine zg_goto zi_211_65 ?_
            have hg := g63
            simp only [if_neg hc63] at hg
            exact hg
def wl_211_26 (E : Nat → Nat) (d : Nat) (Q : Option Value → ZH → Prop) (L_22 : Nat → Int32 → ZH → Prop) : Nat → Nat → Int32 → Int32 → ZH → Prop
  | 0, _, _, _, _ => False
  | n + 1, a0, a1, a2, h => (2457 ≤ a2 → (wb_211_83 E d Q L_22 a0 a1 h)) ∧ (¬ (2457 ≤ a2) → (∃ mm : Nat, wl_211_35 E d Q L_22 (wl_211_26 E d Q L_22 n) mm a0 a1 a2 0 0 0 h))
set_option maxRecDepth 20000 in
theorem okl_211_26 {E : Nat → Nat} {d : Nat} {Q : Option Value → ZH → Prop} {L_22 : Nat → Int32 → ZH → Prop} (hL_22 : ∀ (b0 : Nat) (b1 : Int32) (h : ZH), L_22 b0 b1 h → Gx E (d + 1) 211 22 [.ref b0, .int b1, .retAddr 0, .retAddr 0, .retAddr 0, .retAddr 0, .retAddr 0] [] h Q) : ∀ (n : Nat) (a0 : Nat) (a1 : Int32) (a2 : Int32) (h : ZH), wl_211_26 E d Q L_22 n a0 a1 a2 h → Gx E (d + 1) 211 26 [.ref a0, .int a1, .int a2, .retAddr 0, .retAddr 0, .retAddr 0, .retAddr 0] [] h Q := by
  intro n
  induction n with
  | zero => intro a0 a1 a2 h hw; exact hw.elim
  | succ n ih =>
    intro a0 a1 a2 h hw
    rw [wl_211_26] at hw
    refine zg_iload zi_211_26 rfl ?_
    refine zg_const (v := 2457) zi_211_27 (by rfl) ?_
    refine zg_icmp_ge zi_211_28 (fun hc => ?_) (fun hc => ?_)
    · have hw := hw.1 hc
      exact Gx.forget (zrk (zrk (zrd (zrk (zrk (zrk (zrk zr0))))))) (okb_211_83 hL_22 hw)
    · have hw := hw.2 hc
      refine zg_const (v := 0) zi_211_29 (by rfl) ?_
      refine zg_istore (ls1 := [.ref a0, .int a1, .int a2, .int 0, .retAddr 0, .retAddr 0, .retAddr 0]) zi_211_30 (Nat.le_of_ble_eq_true rfl) rfl ?_
      refine zg_const (v := 0) zi_211_31 (by rfl) ?_
      refine zg_istore (ls1 := [.ref a0, .int a1, .int a2, .int 0, .int 0, .retAddr 0, .retAddr 0]) zi_211_32 (Nat.le_of_ble_eq_true rfl) rfl ?_
      refine zg_const (v := 0) zi_211_33 (by rfl) ?_
      refine zg_istore (ls1 := [.ref a0, .int a1, .int a2, .int 0, .int 0, .int 0, .retAddr 0]) zi_211_34 (Nat.le_of_ble_eq_true rfl) rfl ?_
      obtain ⟨mm, hw⟩ := hw
      exact okl_211_35 hL_22 ih mm a0 a1 a2 0 0 0 h hw
def wl_211_22 (E : Nat → Nat) (d : Nat) (Q : Option Value → ZH → Prop) : Nat → Nat → Int32 → ZH → Prop
  | 0, _, _, _ => False
  | n + 1, a0, a1, h => (a1 < 0 → (Q none h)) ∧ (¬ (a1 < 0) → (∃ mm : Nat, wl_211_26 E d Q (wl_211_22 E d Q n) mm a0 a1 0 h))
set_option maxRecDepth 20000 in
theorem okl_211_22 {E : Nat → Nat} {d : Nat} {Q : Option Value → ZH → Prop} : ∀ (n : Nat) (a0 : Nat) (a1 : Int32) (h : ZH), wl_211_22 E d Q n a0 a1 h → Gx E (d + 1) 211 22 [.ref a0, .int a1, .retAddr 0, .retAddr 0, .retAddr 0, .retAddr 0, .retAddr 0] [] h Q := by
  intro n
  induction n with
  | zero => intro a0 a1 h hw; exact hw.elim
  | succ n ih =>
    intro a0 a1 h hw
    rw [wl_211_22] at hw
    refine zg_iload zi_211_22 rfl ?_
    refine zg_if_lt zi_211_23 (fun hc => ?_) (fun hc => ?_)
    · have hw := hw.1 hc
      exact zg_return zi_211_85 hw
    · have hw := hw.2 hc
      refine zg_const (v := 0) zi_211_24 (by rfl) ?_
      refine zg_istore (ls1 := [.ref a0, .int a1, .int 0, .retAddr 0, .retAddr 0, .retAddr 0, .retAddr 0]) zi_211_25 (Nat.le_of_ble_eq_true rfl) rfl ?_
      obtain ⟨mm, hw⟩ := hw
      exact okl_211_26 ih mm a0 a1 0 h hw
def wb_211_17 (E : Nat → Nat) (d : Nat) (Q : Option Value → ZH → Prop) (a0 : Nat) (h : ZH) : Prop := ztag h a0 = 11 ∧ 1 ≤ d ∧ sz_152 E h a0 ∧ ∀ x2 : Int32, x2 = ((fz_152 E h a0) - 1) → (∃ mm : Nat, wl_211_22 E d Q mm a0 x2 h)
set_option maxRecDepth 20000 in
theorem okb_211_17 {E : Nat → Nat} {d : Nat} {Q : Option Value → ZH → Prop} {a0 : Nat} {h : ZH} (hw : wb_211_17 E d Q a0 h) : Gx E (d + 1) 211 17 [.ref a0, .retAddr 0, .retAddr 0, .retAddr 0, .retAddr 0, .retAddr 0, .retAddr 0] [] h Q := by
  unfold wb_211_17 at hw
  refine zg_aload zi_211_17 rfl ?_
  obtain ⟨t1, hw⟩ := hw
  obtain ⟨hd, hs, hw⟩ := hw
  refine Gx.call2 (as := [.ref a0]) (rest := []) zq_152 zi_211_18 rfl rfl rfl (Nat.le_of_ble_eq_true rfl) (Nat.le_of_ble_eq_true rfl) (zrv_v t1 rfl rfl) (Nat.le_of_ble_eq_true rfl) ?_
  refine cz_152 hd hs ?_
  show Gx E (d + 1) 211 19 [.ref a0, .retAddr 0, .retAddr 0, .retAddr 0, .retAddr 0, .retAddr 0, .retAddr 0] [.int (fz_152 E h a0)] h Q
  refine zg_const (v := 1) zi_211_19 (by rfl) ?_
  refine zg_isub zi_211_20 ?_
  refine zg_nameI fun x2 ex2 => ?_
  have hw := hw x2 ex2
  refine zg_istore (ls1 := [.ref a0, .int x2, .retAddr 0, .retAddr 0, .retAddr 0, .retAddr 0, .retAddr 0]) zi_211_21 (Nat.le_of_ble_eq_true rfl) rfl ?_
  obtain ⟨mm, hw⟩ := hw
  exact okl_211_22 mm a0 x2 h hw
def wl_211_2 (E : Nat → Nat) (d : Nat) (Q : Option Value → ZH → Prop) : Nat → Nat → Int32 → ZH → Prop
  | 0, _, _, _ => False
  | n + 1, a0, a1, h => (2457 ≤ a1 → (wb_211_17 E d Q a0 h)) ∧ (¬ (2457 ≤ a1) → (ztag h a0 = 11 ∧ ∃ r15 : Nat, zR h a0 47 = r15 + 1 ∧ 1 ≤ d ∧ sz_152 E h a0 ∧ ztag h r15 = 13 ∧ zin ((2457 * (fz_152 E h a0)) + a1) (zlen h r15) = true ∧ ∀ h17 : ZH, h17 = (zuI h r15 ((2457 * (fz_152 E h a0)) + a1 : Int32).toNatClampNeg 0) → ∀ x18 : Int32, x18 = (a1 + 1) → wl_211_2 E d Q n a0 x18 h17))
set_option maxRecDepth 20000 in
theorem okl_211_2 {E : Nat → Nat} {d : Nat} {Q : Option Value → ZH → Prop} : ∀ (n : Nat) (a0 : Nat) (a1 : Int32) (h : ZH), wl_211_2 E d Q n a0 a1 h → Gx E (d + 1) 211 2 [.ref a0, .int a1, .retAddr 0, .retAddr 0, .retAddr 0, .retAddr 0, .retAddr 0] [] h Q := by
  intro n
  induction n with
  | zero => intro a0 a1 h hw; exact hw.elim
  | succ n ih =>
    intro a0 a1 h hw
    rw [wl_211_2] at hw
    refine zg_iload zi_211_2 rfl ?_
    refine zg_const (v := 2457) zi_211_3 (by rfl) ?_
    refine zg_icmp_ge zi_211_4 (fun hc => ?_) (fun hc => ?_)
    · have hw := hw.1 hc
      exact Gx.forget (zrk (zrd (zrk (zrk (zrk (zrk (zrk zr0))))))) (okb_211_17 hw)
    · have hw := hw.2 hc
      refine zg_aload zi_211_5 rfl ?_
      obtain ⟨t14, hw⟩ := hw
      obtain ⟨r15, er15, hw⟩ := hw
      refine zg_getR (v := .ref r15) zi_211_6 t14 (by rfl) (by show zrv (zR h a0 47) = _; rw [er15]; rfl) ?_
      refine zg_const (v := 2457) zi_211_7 (by rfl) ?_
      refine zg_aload zi_211_8 rfl ?_
      obtain ⟨hd, hs, hw⟩ := hw
      refine Gx.call2 (as := [.ref a0]) (rest := [.int 2457, .ref r15]) zq_152 zi_211_9 rfl rfl rfl (Nat.le_of_ble_eq_true rfl) (Nat.le_of_ble_eq_true rfl) (zrv_v t14 rfl rfl) (Nat.le_of_ble_eq_true rfl) ?_
      refine cz_152 hd hs ?_
      show Gx E (d + 1) 211 10 [.ref a0, .int a1, .retAddr 0, .retAddr 0, .retAddr 0, .retAddr 0, .retAddr 0] [.int (fz_152 E h a0), .int 2457, .ref r15] h Q
      refine zg_imul zi_211_10 ?_
      refine zg_iload zi_211_11 rfl ?_
      refine zg_iadd zi_211_12 ?_
      refine zg_const (v := 0) zi_211_13 (by rfl) ?_
      obtain ⟨t16, hw⟩ := hw
      obtain ⟨hb, hw⟩ := hw
      refine zg_iastore (h1 := zuI h r15 ((2457 * (fz_152 E h a0)) + a1 : Int32).toNatClampNeg 0) zi_211_14 t16 hb rfl ?_
      refine zg_nameH fun h17 eh17 => ?_
      have hw := hw h17 eh17
      obtain ⟨x18, ex18⟩ : ∃ x : Int32, x = a1 + 1 := ⟨_, rfl⟩
      have hw := hw x18 ex18
      refine zg_iinc (v := x18) (ls1 := [.ref a0, .int x18, .retAddr 0, .retAddr 0, .retAddr 0, .retAddr 0, .retAddr 0]) zi_211_15 rfl (by rw [ex18]; rfl) rfl ?_
      refine zg_goto zi_211_16 ?_
      exact ih a0 x18 h17 hw
/-- TakeOrPayModel.layCame()V -/
def w_211 (E : Nat → Nat) (d : Nat) (a0 : Nat) (h : ZH) (Q : Option Value → ZH → Prop) : Prop := ∃ mm : Nat, wl_211_2 E d Q mm a0 0 h
set_option maxRecDepth 20000 in
theorem ok_211 {E : Nat → Nat} {d : Nat} {a0 : Nat} {h : ZH} {Q : Option Value → ZH → Prop} (hw : w_211 E d a0 h Q) : Ct E (d + 1) 211 [.ref a0] h Q := by
  unfold w_211 at hw
  show Gx E (d + 1) 211 0 [.ref a0, .retAddr 0, .retAddr 0, .retAddr 0, .retAddr 0, .retAddr 0, .retAddr 0] [] h Q
  refine zg_const (v := 0) zi_211_0 (by rfl) ?_
  refine zg_istore (ls1 := [.ref a0, .int 0, .retAddr 0, .retAddr 0, .retAddr 0, .retAddr 0, .retAddr 0]) zi_211_1 (Nat.le_of_ble_eq_true rfl) rfl ?_
  obtain ⟨mm, hw⟩ := hw
  exact okl_211_2 mm a0 0 h hw
theorem zq_212 : zQ 212 2 7 11 := by unfold zQ; decide +kernel
theorem zi_212_0 : (zM 212).1[0]? = some (.iload 1) := by rfl
theorem zi_212_1 : (zM 212).1[1]? = some (.i2l) := by rfl
theorem zi_212_2 : (zM 212).1[2]? = some (.jsr_w 0) := by rfl
theorem zi_212_3 : (zM 212).1[3]? = some (.jsr_w 1) := by rfl
theorem zi_212_4 : (zM 212).1[4]? = some (.invokestatic 135) := by rfl
theorem zi_212_5 : (zM 212).1[5]? = some (.ifCond .ne ((8 : Nat) : Int)) := by rfl
theorem zi_212_6 : (zM 212).1[6]? = some (.iconst (-1000000)) := by rfl
theorem zi_212_7 : (zM 212).1[7]? = some (.ireturn) := by rfl
theorem zi_212_8 : (zM 212).1[8]? = some (.aload 0) := by rfl
theorem zi_212_9 : (zM 212).1[9]? = some (.getfield 11036) := by rfl
theorem zi_212_10 : (zM 212).1[10]? = some (.aload 0) := by rfl
theorem zi_212_11 : (zM 212).1[11]? = some (.invokevirtual 152) := by rfl
theorem zi_212_12 : (zM 212).1[12]? = some (.if_icmp .lt ((20 : Nat) : Int)) := by rfl
theorem zi_212_13 : (zM 212).1[13]? = some (.iload 1) := by rfl
theorem zi_212_14 : (zM 212).1[14]? = some (.iconst 1) := by rfl
theorem zi_212_15 : (zM 212).1[15]? = some (.if_icmp .ne ((22 : Nat) : Int)) := by rfl
theorem zi_212_16 : (zM 212).1[16]? = some (.aload 0) := by rfl
theorem zi_212_17 : (zM 212).1[17]? = some (.getfield 11036) := by rfl
theorem zi_212_18 : (zM 212).1[18]? = some (.iconst 13) := by rfl
theorem zi_212_19 : (zM 212).1[19]? = some (.if_icmp .le ((22 : Nat) : Int)) := by rfl
theorem zi_212_20 : (zM 212).1[20]? = some (.iconst (-1000002)) := by rfl
theorem zi_212_21 : (zM 212).1[21]? = some (.ireturn) := by rfl
theorem zi_212_22 : (zM 212).1[22]? = some (.aload 0) := by rfl
theorem zi_212_23 : (zM 212).1[23]? = some (.invokevirtual 211) := by rfl
theorem zi_212_24 : (zM 212).1[24]? = some (.iload 1) := by rfl
theorem zi_212_25 : (zM 212).1[25]? = some (.ifCond .ne ((31 : Nat) : Int)) := by rfl
theorem zi_212_26 : (zM 212).1[26]? = some (.aload 0) := by rfl
theorem zi_212_27 : (zM 212).1[27]? = some (.getfield 11247) := by rfl
theorem zi_212_28 : (zM 212).1[28]? = some (.iconst 0) := by rfl
theorem zi_212_29 : (zM 212).1[29]? = some (.iaload) := by rfl
theorem zi_212_30 : (zM 212).1[30]? = some (.ireturn) := by rfl
theorem zi_212_31 : (zM 212).1[31]? = some (.iconst 0) := by rfl
theorem zi_212_32 : (zM 212).1[32]? = some (.istore 2) := by rfl
theorem zi_212_33 : (zM 212).1[33]? = some (.iconst 0) := by rfl
theorem zi_212_34 : (zM 212).1[34]? = some (.istore 3) := by rfl
theorem zi_212_35 : (zM 212).1[35]? = some (.iconst 0) := by rfl
theorem zi_212_36 : (zM 212).1[36]? = some (.istore 4) := by rfl
theorem zi_212_37 : (zM 212).1[37]? = some (.iload 4) := by rfl
theorem zi_212_38 : (zM 212).1[38]? = some (.aload 0) := by rfl
theorem zi_212_39 : (zM 212).1[39]? = some (.invokevirtual 152) := by rfl
theorem zi_212_40 : (zM 212).1[40]? = some (.if_icmp .ge ((87 : Nat) : Int)) := by rfl
theorem zi_212_41 : (zM 212).1[41]? = some (.iload 3) := by rfl
theorem zi_212_42 : (zM 212).1[42]? = some (.iconst 2457) := by rfl
theorem zi_212_43 : (zM 212).1[43]? = some (.irem) := by rfl
theorem zi_212_44 : (zM 212).1[44]? = some (.istore 5) := by rfl
theorem zi_212_45 : (zM 212).1[45]? = some (.iconst 0) := by rfl
theorem zi_212_46 : (zM 212).1[46]? = some (.istore 6) := by rfl
theorem zi_212_47 : (zM 212).1[47]? = some (.aload 0) := by rfl
theorem zi_212_48 : (zM 212).1[48]? = some (.iload 4) := by rfl
theorem zi_212_49 : (zM 212).1[49]? = some (.iload 6) := by rfl
theorem zi_212_50 : (zM 212).1[50]? = some (.invokevirtual 163) := by rfl
theorem zi_212_51 : (zM 212).1[51]? = some (.ifCond .eq ((72 : Nat) : Int)) := by rfl
theorem zi_212_52 : (zM 212).1[52]? = some (.aload 0) := by rfl
theorem zi_212_53 : (zM 212).1[53]? = some (.iload 4) := by rfl
theorem zi_212_54 : (zM 212).1[54]? = some (.iload 5) := by rfl
theorem zi_212_55 : (zM 212).1[55]? = some (.iconst 117) := by rfl
theorem zi_212_56 : (zM 212).1[56]? = some (.idiv) := by rfl
theorem zi_212_57 : (zM 212).1[57]? = some (.iload 5) := by rfl
theorem zi_212_58 : (zM 212).1[58]? = some (.iconst 9) := by rfl
theorem zi_212_59 : (zM 212).1[59]? = some (.idiv) := by rfl
theorem zi_212_60 : (zM 212).1[60]? = some (.iconst 13) := by rfl
theorem zi_212_61 : (zM 212).1[61]? = some (.irem) := by rfl
theorem zi_212_62 : (zM 212).1[62]? = some (.iload 5) := by rfl
theorem zi_212_63 : (zM 212).1[63]? = some (.iconst 9) := by rfl
theorem zi_212_64 : (zM 212).1[64]? = some (.irem) := by rfl
theorem zi_212_65 : (zM 212).1[65]? = some (.iload 6) := by rfl
theorem zi_212_66 : (zM 212).1[66]? = some (.invokevirtual 210) := by rfl
theorem zi_212_67 : (zM 212).1[67]? = some (.aload 0) := by rfl
theorem zi_212_68 : (zM 212).1[68]? = some (.getfield 11247) := by rfl
theorem zi_212_69 : (zM 212).1[69]? = some (.iload 3) := by rfl
theorem zi_212_70 : (zM 212).1[70]? = some (.iaload) := by rfl
theorem zi_212_71 : (zM 212).1[71]? = some (.if_icmp .eq ((74 : Nat) : Int)) := by rfl
theorem zi_212_72 : (zM 212).1[72]? = some (.iinc 6 1) := by rfl
theorem zi_212_73 : (zM 212).1[73]? = some (.goto ((47 : Nat) : Int)) := by rfl
theorem zi_212_74 : (zM 212).1[74]? = some (.iconst 5) := by rfl
theorem zi_212_75 : (zM 212).1[75]? = some (.iload 2) := by rfl
theorem zi_212_76 : (zM 212).1[76]? = some (.imul) := by rfl
theorem zi_212_77 : (zM 212).1[77]? = some (.iload 6) := by rfl
theorem zi_212_78 : (zM 212).1[78]? = some (.iadd) := by rfl
theorem zi_212_79 : (zM 212).1[79]? = some (.istore 2) := by rfl
theorem zi_212_80 : (zM 212).1[80]? = some (.aload 0) := by rfl
theorem zi_212_81 : (zM 212).1[81]? = some (.getfield 11030) := by rfl
theorem zi_212_82 : (zM 212).1[82]? = some (.iconst 3) := by rfl
theorem zi_212_83 : (zM 212).1[83]? = some (.idiv) := by rfl
theorem zi_212_84 : (zM 212).1[84]? = some (.istore 3) := by rfl
theorem zi_212_85 : (zM 212).1[85]? = some (.iinc 4 1) := by rfl
theorem zi_212_86 : (zM 212).1[86]? = some (.goto ((37 : Nat) : Int)) := by rfl
theorem zi_212_87 : (zM 212).1[87]? = some (.iload 2) := by rfl
theorem zi_212_88 : (zM 212).1[88]? = some (.ireturn) := by rfl
def wb_212_87 (E : Nat → Nat) (d : Nat) (Q : Option Value → ZH → Prop) (a2 : Int32) (h : ZH) : Prop := Q (some (.int a2)) h
set_option maxRecDepth 20000 in
theorem okb_212_87 {E : Nat → Nat} {d : Nat} {Q : Option Value → ZH → Prop} {a2 : Int32} {h : ZH} (hw : wb_212_87 E d Q a2 h) : Gx E (d + 1) 212 87 [.retAddr 0, .retAddr 0, .int a2, .retAddr 0, .retAddr 0, .retAddr 0, .retAddr 0] [] h Q := by
  unfold wb_212_87 at hw
  refine zg_iload zi_212_87 rfl ?_
  exact zg_ireturn zi_212_88 (by decide) hw
def wb_212_74 (E : Nat → Nat) (d : Nat) (Q : Option Value → ZH → Prop) (L_37 : Nat → Int32 → Int32 → Int32 → ZH → Prop) (a0 : Nat) (a2 : Int32) (a4 : Int32) (a6 : Int32) (h : ZH) : Prop := ∀ x13 : Int32, x13 = ((5 * a2) + a6) → ztag h a0 = 11 ∧ ∀ x15 : Int32, x15 = ((zI h a0 30) / 3) → ∀ x16 : Int32, x16 = (a4 + 1) → L_37 a0 x13 x15 x16 h
set_option maxRecDepth 20000 in
theorem okb_212_74 {E : Nat → Nat} {d : Nat} {Q : Option Value → ZH → Prop} {L_37 : Nat → Int32 → Int32 → Int32 → ZH → Prop} (hL_37 : ∀ (b0 : Nat) (b2 : Int32) (b3 : Int32) (b4 : Int32) (h : ZH), L_37 b0 b2 b3 b4 h → Gx E (d + 1) 212 37 [.ref b0, .retAddr 0, .int b2, .int b3, .int b4, .retAddr 0, .retAddr 0] [] h Q) {a0 : Nat} {a2 : Int32} {a4 : Int32} {a6 : Int32} {h : ZH} (hw : wb_212_74 E d Q L_37 a0 a2 a4 a6 h) : Gx E (d + 1) 212 74 [.ref a0, .retAddr 0, .int a2, .retAddr 0, .int a4, .retAddr 0, .int a6] [] h Q := by
  unfold wb_212_74 at hw
  refine zg_const (v := 5) zi_212_74 (by rfl) ?_
  refine zg_iload zi_212_75 rfl ?_
  refine zg_imul zi_212_76 ?_
  refine zg_iload zi_212_77 rfl ?_
  refine zg_iadd zi_212_78 ?_
  refine zg_nameI fun x13 ex13 => ?_
  have hw := hw x13 ex13
  refine zg_istore (ls1 := [.ref a0, .retAddr 0, .int x13, .retAddr 0, .int a4, .retAddr 0, .int a6]) zi_212_79 (Nat.le_of_ble_eq_true rfl) rfl ?_
  refine zg_aload zi_212_80 rfl ?_
  obtain ⟨t14, hw⟩ := hw
  refine zg_getI (v := .int (zI h a0 30)) zi_212_81 t14 (by rfl) rfl ?_
  refine zg_const (v := 3) zi_212_82 (by rfl) ?_
  refine zg_idiv zi_212_83 (by decide) ?_
  refine zg_nameI fun x15 ex15 => ?_
  have hw := hw x15 ex15
  refine zg_istore (ls1 := [.ref a0, .retAddr 0, .int x13, .int x15, .int a4, .retAddr 0, .int a6]) zi_212_84 (Nat.le_of_ble_eq_true rfl) rfl ?_
  obtain ⟨x16, ex16⟩ : ∃ x : Int32, x = a4 + 1 := ⟨_, rfl⟩
  have hw := hw x16 ex16
  refine zg_iinc (v := x16) (ls1 := [.ref a0, .retAddr 0, .int x13, .int x15, .int x16, .retAddr 0, .int a6]) zi_212_85 rfl (by rw [ex16]; rfl) rfl ?_
  refine zg_goto zi_212_86 ?_
  exact Gx.forget (zrk (zrk (zrk (zrk (zrk (zrk (zrd zr0))))))) (hL_37 a0 x13 x15 x16 h hw)
def wb_212_52 (E : Nat → Nat) (d : Nat) (Q : Option Value → ZH → Prop) (L_37 : Nat → Int32 → Int32 → Int32 → ZH → Prop) (L_47 : Nat → Int32 → Int32 → Int32 → Int32 → Int32 → ZH → Prop) (a0 : Nat) (a2 : Int32) (a3 : Int32) (a4 : Int32) (a5 : Int32) (a6 : Int32) (h : ZH) : Prop := ztag h a0 = 11 ∧ Ct E d 210 [.ref a0, .int a4, .int (a5 / 117), .int ((a5 / 9) - (a5 / 9) / 13 * 13), .int (a5 - a5 / 9 * 9), .int a6] h (fun v h8 => ∃ x9 : Int32, v = some (.int x9) ∧ ztag h8 a0 = 11 ∧ ∃ r11 : Nat, zR h8 a0 47 = r11 + 1 ∧ (ztag h8 r11 = 13 ∨ ztag h8 r11 = 19) ∧ zin a3 (zlen h8 r11) = true ∧ ((x9 = (zI h8 r11 a3.toNatClampNeg : Int32) → (wb_212_74 E d Q L_37 a0 a2 a4 a6 h8)) ∧ (¬ (x9 = (zI h8 r11 a3.toNatClampNeg : Int32)) → (∀ x17 : Int32, x17 = (a6 + 1) → L_47 a0 a2 a3 a4 a5 x17 h8))))
set_option maxRecDepth 20000 in
theorem okb_212_52 {E : Nat → Nat} {d : Nat} {Q : Option Value → ZH → Prop} {L_37 : Nat → Int32 → Int32 → Int32 → ZH → Prop} {L_47 : Nat → Int32 → Int32 → Int32 → Int32 → Int32 → ZH → Prop} (hL_37 : ∀ (b0 : Nat) (b2 : Int32) (b3 : Int32) (b4 : Int32) (h : ZH), L_37 b0 b2 b3 b4 h → Gx E (d + 1) 212 37 [.ref b0, .retAddr 0, .int b2, .int b3, .int b4, .retAddr 0, .retAddr 0] [] h Q) (hL_47 : ∀ (b0 : Nat) (b2 : Int32) (b3 : Int32) (b4 : Int32) (b5 : Int32) (b6 : Int32) (h : ZH), L_47 b0 b2 b3 b4 b5 b6 h → Gx E (d + 1) 212 47 [.ref b0, .retAddr 0, .int b2, .int b3, .int b4, .int b5, .int b6] [] h Q) {a0 : Nat} {a2 : Int32} {a3 : Int32} {a4 : Int32} {a5 : Int32} {a6 : Int32} {h : ZH} (hw : wb_212_52 E d Q L_37 L_47 a0 a2 a3 a4 a5 a6 h) : Gx E (d + 1) 212 52 [.ref a0, .retAddr 0, .int a2, .int a3, .int a4, .int a5, .int a6] [] h Q := by
  unfold wb_212_52 at hw
  refine zg_aload zi_212_52 rfl ?_
  refine zg_iload zi_212_53 rfl ?_
  refine zg_iload zi_212_54 rfl ?_
  refine zg_const (v := 117) zi_212_55 (by rfl) ?_
  refine zg_idiv zi_212_56 (by decide) ?_
  refine zg_iload zi_212_57 rfl ?_
  refine zg_const (v := 9) zi_212_58 (by rfl) ?_
  refine zg_idiv zi_212_59 (by decide) ?_
  refine zg_const (v := 13) zi_212_60 (by rfl) ?_
  refine zg_irem zi_212_61 (by decide) ?_
  refine zg_iload zi_212_62 rfl ?_
  refine zg_const (v := 9) zi_212_63 (by rfl) ?_
  refine zg_irem zi_212_64 (by decide) ?_
  refine zg_iload zi_212_65 rfl ?_
  obtain ⟨t7, hw⟩ := hw
  refine Gx.call2 (as := [.ref a0, .int a4, .int (a5 / 117), .int ((a5 / 9) - (a5 / 9) / 13 * 13), .int (a5 - a5 / 9 * 9), .int a6]) (rest := []) zq_210 zi_212_66 rfl rfl rfl (Nat.le_of_ble_eq_true rfl) (Nat.le_of_ble_eq_true rfl) (zrv_v t7 rfl rfl) (Nat.le_of_ble_eq_true rfl) ?_
  refine Ct.mono hw ?_
  rintro v h8 ⟨x9, rfl, hw⟩
  show Gx E (d + 1) 212 67 [.ref a0, .retAddr 0, .int a2, .int a3, .int a4, .int a5, .int a6] [.int x9] h8 Q
  refine zg_aload zi_212_67 rfl ?_
  obtain ⟨t10, hw⟩ := hw
  obtain ⟨r11, er11, hw⟩ := hw
  refine zg_getR (v := .ref r11) zi_212_68 t10 (by rfl) (by show zrv (zR h8 a0 47) = _; rw [er11]; rfl) ?_
  refine zg_iload zi_212_69 rfl ?_
  obtain ⟨t12, hw⟩ := hw
  obtain ⟨hb, hw⟩ := hw
  refine zg_iaload (v := .int (zI h8 r11 a3.toNatClampNeg)) zi_212_70 t12 hb rfl ?_
  refine zg_icmp_eq zi_212_71 (fun hc => ?_) (fun hc => ?_)
  · have hw := hw.1 hc
    exact Gx.forget (zrk (zrk (zrk (zrd (zrk (zrd (zrk zr0))))))) (okb_212_74 hL_37 hw)
  · have hw := hw.2 hc
    obtain ⟨x17, ex17⟩ : ∃ x : Int32, x = a6 + 1 := ⟨_, rfl⟩
    have hw := hw x17 ex17
    refine zg_iinc (v := x17) (ls1 := [.ref a0, .retAddr 0, .int a2, .int a3, .int a4, .int a5, .int x17]) zi_212_72 rfl (by rw [ex17]; rfl) rfl ?_
    refine zg_goto zi_212_73 ?_
    exact hL_47 a0 a2 a3 a4 a5 x17 h8 hw
def wl_212_47 (E : Nat → Nat) (d : Nat) (Q : Option Value → ZH → Prop) (L_37 : Nat → Int32 → Int32 → Int32 → ZH → Prop) : Nat → Nat → Int32 → Int32 → Int32 → Int32 → Int32 → ZH → Prop
  | 0, _, _, _, _, _, _, _ => False
  | n + 1, a0, a2, a3, a4, a5, a6, h => ztag h a0 = 11 ∧ 2 ≤ d ∧ sz_163 E h a0 a4 a6 ∧ (((fz_163 E h a0 a4 a6 : Int32) = 0 → (∀ x6 : Int32, x6 = (a6 + 1) → wl_212_47 E d Q L_37 n a0 a2 a3 a4 a5 x6 h)) ∧ (¬ ((fz_163 E h a0 a4 a6 : Int32) = 0) → (wb_212_52 E d Q L_37 (wl_212_47 E d Q L_37 n) a0 a2 a3 a4 a5 a6 h)))
set_option maxRecDepth 20000 in
theorem okl_212_47 {E : Nat → Nat} {d : Nat} {Q : Option Value → ZH → Prop} {L_37 : Nat → Int32 → Int32 → Int32 → ZH → Prop} (hL_37 : ∀ (b0 : Nat) (b2 : Int32) (b3 : Int32) (b4 : Int32) (h : ZH), L_37 b0 b2 b3 b4 h → Gx E (d + 1) 212 37 [.ref b0, .retAddr 0, .int b2, .int b3, .int b4, .retAddr 0, .retAddr 0] [] h Q) : ∀ (n : Nat) (a0 : Nat) (a2 : Int32) (a3 : Int32) (a4 : Int32) (a5 : Int32) (a6 : Int32) (h : ZH), wl_212_47 E d Q L_37 n a0 a2 a3 a4 a5 a6 h → Gx E (d + 1) 212 47 [.ref a0, .retAddr 0, .int a2, .int a3, .int a4, .int a5, .int a6] [] h Q := by
  intro n
  induction n with
  | zero => intro a0 a2 a3 a4 a5 a6 h hw; exact hw.elim
  | succ n ih =>
    intro a0 a2 a3 a4 a5 a6 h hw
    rw [wl_212_47] at hw
    refine zg_aload zi_212_47 rfl ?_
    refine zg_iload zi_212_48 rfl ?_
    refine zg_iload zi_212_49 rfl ?_
    obtain ⟨t5, hw⟩ := hw
    obtain ⟨hd, hs, hw⟩ := hw
    refine Gx.call2 (as := [.ref a0, .int a4, .int a6]) (rest := []) zq_163 zi_212_50 rfl rfl rfl (Nat.le_of_ble_eq_true rfl) (Nat.le_of_ble_eq_true rfl) (zrv_v t5 rfl rfl) (Nat.le_of_ble_eq_true rfl) ?_
    refine cz_163 hd hs ?_
    show Gx E (d + 1) 212 51 [.ref a0, .retAddr 0, .int a2, .int a3, .int a4, .int a5, .int a6] [.int (fz_163 E h a0 a4 a6)] h Q
    refine zg_if_eq zi_212_51 (fun hc => ?_) (fun hc => ?_)
    · have hw := hw.1 hc
      obtain ⟨x6, ex6⟩ : ∃ x : Int32, x = a6 + 1 := ⟨_, rfl⟩
      have hw := hw x6 ex6
      refine zg_iinc (v := x6) (ls1 := [.ref a0, .retAddr 0, .int a2, .int a3, .int a4, .int a5, .int x6]) zi_212_72 rfl (by rw [ex6]; rfl) rfl ?_
      refine zg_goto zi_212_73 ?_
      exact ih a0 a2 a3 a4 a5 x6 h hw
    · have hw := hw.2 hc
      exact okb_212_52 hL_37 ih hw
def wl_212_37 (E : Nat → Nat) (d : Nat) (Q : Option Value → ZH → Prop) : Nat → Nat → Int32 → Int32 → Int32 → ZH → Prop
  | 0, _, _, _, _, _ => False
  | n + 1, a0, a2, a3, a4, h => ztag h a0 = 11 ∧ 1 ≤ d ∧ sz_152 E h a0 ∧ (((fz_152 E h a0 : Int32) ≤ a4 → (wb_212_87 E d Q a2 h)) ∧ (¬ ((fz_152 E h a0 : Int32) ≤ a4) → (∀ x4 : Int32, x4 = (a3 - a3 / 2457 * 2457) → (∃ mm : Nat, wl_212_47 E d Q (wl_212_37 E d Q n) mm a0 a2 a3 a4 x4 0 h))))
set_option maxRecDepth 20000 in
theorem okl_212_37 {E : Nat → Nat} {d : Nat} {Q : Option Value → ZH → Prop} : ∀ (n : Nat) (a0 : Nat) (a2 : Int32) (a3 : Int32) (a4 : Int32) (h : ZH), wl_212_37 E d Q n a0 a2 a3 a4 h → Gx E (d + 1) 212 37 [.ref a0, .retAddr 0, .int a2, .int a3, .int a4, .retAddr 0, .retAddr 0] [] h Q := by
  intro n
  induction n with
  | zero => intro a0 a2 a3 a4 h hw; exact hw.elim
  | succ n ih =>
    intro a0 a2 a3 a4 h hw
    rw [wl_212_37] at hw
    refine zg_iload zi_212_37 rfl ?_
    refine zg_aload zi_212_38 rfl ?_
    obtain ⟨t3, hw⟩ := hw
    obtain ⟨hd, hs, hw⟩ := hw
    refine Gx.call2 (as := [.ref a0]) (rest := [.int a4]) zq_152 zi_212_39 rfl rfl rfl (Nat.le_of_ble_eq_true rfl) (Nat.le_of_ble_eq_true rfl) (zrv_v t3 rfl rfl) (Nat.le_of_ble_eq_true rfl) ?_
    refine cz_152 hd hs ?_
    show Gx E (d + 1) 212 40 [.ref a0, .retAddr 0, .int a2, .int a3, .int a4, .retAddr 0, .retAddr 0] [.int (fz_152 E h a0), .int a4] h Q
    refine zg_icmp_ge zi_212_40 (fun hc => ?_) (fun hc => ?_)
    · have hw := hw.1 hc
      exact Gx.forget (zrd (zrk (zrk (zrd (zrd (zrk (zrk zr0))))))) (okb_212_87 hw)
    · have hw := hw.2 hc
      refine zg_iload zi_212_41 rfl ?_
      refine zg_const (v := 2457) zi_212_42 (by rfl) ?_
      refine zg_irem zi_212_43 (by decide) ?_
      refine zg_nameI fun x4 ex4 => ?_
      have hw := hw x4 ex4
      refine zg_istore (ls1 := [.ref a0, .retAddr 0, .int a2, .int a3, .int a4, .int x4, .retAddr 0]) zi_212_44 (Nat.le_of_ble_eq_true rfl) rfl ?_
      refine zg_const (v := 0) zi_212_45 (by rfl) ?_
      refine zg_istore (ls1 := [.ref a0, .retAddr 0, .int a2, .int a3, .int a4, .int x4, .int 0]) zi_212_46 (Nat.le_of_ble_eq_true rfl) rfl ?_
      obtain ⟨mm, hw⟩ := hw
      exact okl_212_47 ih mm a0 a2 a3 a4 x4 0 h hw
/-- TakeOrPayModel.came(I)I -/
def w_212 (E : Nat → Nat) (d : Nat) (a0 : Nat) (a1 : Int32) (h : ZH) (Q : Option Value → ZH → Prop) : Prop := 1 ≤ d ∧ sz_135 E h a1.toInt64 0 1 ∧ ((¬ (fz_135 E h a1.toInt64 0 1 : Int32) = 0 → (ztag h a0 = 11 ∧ 1 ≤ d ∧ sz_152 E h a0 ∧ (((zI h a0 36 : Int32) < (fz_152 E h a0 : Int32) → (Q (some (.int ((-1000002)))) h)) ∧ (¬ ((zI h a0 36 : Int32) < (fz_152 E h a0 : Int32)) → ((¬ a1 = 1 → (Ct E d 211 [.ref a0] h (fun v h2 => v = none ∧ ((¬ a1 = 0 → (∃ mm : Nat, wl_212_37 E d Q mm a0 0 0 0 h2)) ∧ (¬ (¬ a1 = 0) → (ztag h2 a0 = 11 ∧ ∃ r19 : Nat, zR h2 a0 47 = r19 + 1 ∧ (ztag h2 r19 = 13 ∨ ztag h2 r19 = 19) ∧ zin 0 (zlen h2 r19) = true ∧ Q (some (.int (zI h2 r19 0))) h2)))))) ∧ (¬ (¬ a1 = 1) → (((zI h a0 36 : Int32) ≤ 13 → (Ct E d 211 [.ref a0] h (fun v h21 => v = none ∧ ((¬ a1 = 0 → (∃ mm : Nat, wl_212_37 E d Q mm a0 0 0 0 h21)) ∧ (¬ (¬ a1 = 0) → (ztag h21 a0 = 11 ∧ ∃ r23 : Nat, zR h21 a0 47 = r23 + 1 ∧ (ztag h21 r23 = 13 ∨ ztag h21 r23 = 19) ∧ zin 0 (zlen h21 r23) = true ∧ Q (some (.int (zI h21 r23 0))) h21)))))) ∧ (¬ ((zI h a0 36 : Int32) ≤ 13) → (Q (some (.int ((-1000002)))) h))))))))) ∧ (¬ (¬ (fz_135 E h a1.toInt64 0 1 : Int32) = 0) → (Q (some (.int ((-1000000)))) h)))
set_option maxRecDepth 20000 in
theorem ok_212 {E : Nat → Nat} {d : Nat} {a0 : Nat} {a1 : Int32} {h : ZH} {Q : Option Value → ZH → Prop} (hw : w_212 E d a0 a1 h Q) : Ct E (d + 1) 212 [.ref a0, .int a1] h Q := by
  unfold w_212 at hw
  show Gx E (d + 1) 212 0 [.ref a0, .int a1, .retAddr 0, .retAddr 0, .retAddr 0, .retAddr 0, .retAddr 0] [] h Q
  refine zg_iload zi_212_0 rfl ?_
  refine zg_i2l zi_212_1 ?_
  refine zg_lconst (v := 0) zi_212_2 (by rfl) ?_
  refine zg_lconst (v := 1) zi_212_3 (by rfl) ?_
  obtain ⟨hd, hs, hw⟩ := hw
  refine Gx.call2 (as := [.long a1.toInt64, .long 0, .long 1]) (rest := []) zq_135 zi_212_4 rfl rfl rfl (Nat.le_of_ble_eq_true rfl) (Nat.le_of_ble_eq_true rfl) (rfl) (Nat.le_of_ble_eq_true rfl) ?_
  refine cz_135 hd hs ?_
  show Gx E (d + 1) 212 5 [.ref a0, .int a1, .retAddr 0, .retAddr 0, .retAddr 0, .retAddr 0, .retAddr 0] [.int (fz_135 E h a1.toInt64 0 1)] h Q
  refine zg_if_ne zi_212_5 (fun hc => ?_) (fun hc => ?_)
  · have hw := hw.1 hc
    refine zg_aload zi_212_8 rfl ?_
    obtain ⟨t1, hw⟩ := hw
    refine zg_getI (v := .int (zI h a0 36)) zi_212_9 t1 (by rfl) rfl ?_
    refine zg_aload zi_212_10 rfl ?_
    obtain ⟨hd, hs, hw⟩ := hw
    refine Gx.call2 (as := [.ref a0]) (rest := [.int (zI h a0 36)]) zq_152 zi_212_11 rfl rfl rfl (Nat.le_of_ble_eq_true rfl) (Nat.le_of_ble_eq_true rfl) (zrv_v t1 rfl rfl) (Nat.le_of_ble_eq_true rfl) ?_
    refine cz_152 hd hs ?_
    show Gx E (d + 1) 212 12 [.ref a0, .int a1, .retAddr 0, .retAddr 0, .retAddr 0, .retAddr 0, .retAddr 0] [.int (fz_152 E h a0), .int (zI h a0 36)] h Q
    refine zg_icmp_lt zi_212_12 (fun hc => ?_) (fun hc => ?_)
    · have hw := hw.1 hc
      refine zg_const (v := (-1000002)) zi_212_20 (by rfl) ?_
      exact zg_ireturn zi_212_21 (by decide) hw
    · have hw := hw.2 hc
      refine zg_iload zi_212_13 rfl ?_
      refine zg_const (v := 1) zi_212_14 (by rfl) ?_
      refine zg_icmp_ne zi_212_15 (fun hc => ?_) (fun hc => ?_)
      · have hw := hw.1 hc
        refine zg_aload zi_212_22 rfl ?_
        refine Gx.call2 (as := [.ref a0]) (rest := []) zq_211 zi_212_23 rfl rfl rfl (Nat.le_of_ble_eq_true rfl) (Nat.le_of_ble_eq_true rfl) (zrv_v t1 rfl rfl) (Nat.le_of_ble_eq_true rfl) ?_
        refine Ct.mono hw ?_
        rintro v h2 ⟨rfl, hw⟩
        show Gx E (d + 1) 212 24 [.ref a0, .int a1, .retAddr 0, .retAddr 0, .retAddr 0, .retAddr 0, .retAddr 0] [] h2 Q
        refine zg_iload zi_212_24 rfl ?_
        refine zg_if_ne zi_212_25 (fun hc => ?_) (fun hc => ?_)
        · have hw := hw.1 hc
          refine zg_const (v := 0) zi_212_31 (by rfl) ?_
          refine zg_istore (ls1 := [.ref a0, .int a1, .int 0, .retAddr 0, .retAddr 0, .retAddr 0, .retAddr 0]) zi_212_32 (Nat.le_of_ble_eq_true rfl) rfl ?_
          refine zg_const (v := 0) zi_212_33 (by rfl) ?_
          refine zg_istore (ls1 := [.ref a0, .int a1, .int 0, .int 0, .retAddr 0, .retAddr 0, .retAddr 0]) zi_212_34 (Nat.le_of_ble_eq_true rfl) rfl ?_
          refine zg_const (v := 0) zi_212_35 (by rfl) ?_
          refine zg_istore (ls1 := [.ref a0, .int a1, .int 0, .int 0, .int 0, .retAddr 0, .retAddr 0]) zi_212_36 (Nat.le_of_ble_eq_true rfl) rfl ?_
          obtain ⟨mm, hw⟩ := hw
          exact Gx.forget (zrk (zrd (zrk (zrk (zrk (zrk (zrk zr0))))))) (okl_212_37 mm a0 0 0 0 h2 hw)
        · have hw := hw.2 hc
          refine zg_aload zi_212_26 rfl ?_
          obtain ⟨t18, hw⟩ := hw
          obtain ⟨r19, er19, hw⟩ := hw
          refine zg_getR (v := .ref r19) zi_212_27 t18 (by rfl) (by show zrv (zR h2 a0 47) = _; rw [er19]; rfl) ?_
          refine zg_const (v := 0) zi_212_28 (by rfl) ?_
          obtain ⟨t20, hw⟩ := hw
          obtain ⟨hb, hw⟩ := hw
          refine zg_iaload (v := .int (zI h2 r19 0)) zi_212_29 t20 hb rfl ?_
          exact zg_ireturn zi_212_30 (by decide) hw
      · have hw := hw.2 hc
        refine zg_aload zi_212_16 rfl ?_
        refine zg_getI (v := .int (zI h a0 36)) zi_212_17 t1 (by rfl) rfl ?_
        refine zg_const (v := 13) zi_212_18 (by rfl) ?_
        refine zg_icmp_le zi_212_19 (fun hc => ?_) (fun hc => ?_)
        · have hw := hw.1 hc
          refine zg_aload zi_212_22 rfl ?_
          refine Gx.call2 (as := [.ref a0]) (rest := []) zq_211 zi_212_23 rfl rfl rfl (Nat.le_of_ble_eq_true rfl) (Nat.le_of_ble_eq_true rfl) (zrv_v t1 rfl rfl) (Nat.le_of_ble_eq_true rfl) ?_
          refine Ct.mono hw ?_
          rintro v h21 ⟨rfl, hw⟩
          show Gx E (d + 1) 212 24 [.ref a0, .int a1, .retAddr 0, .retAddr 0, .retAddr 0, .retAddr 0, .retAddr 0] [] h21 Q
          refine zg_iload zi_212_24 rfl ?_
          refine zg_if_ne zi_212_25 (fun hc => ?_) (fun hc => ?_)
          · have hw := hw.1 hc
            refine zg_const (v := 0) zi_212_31 (by rfl) ?_
            refine zg_istore (ls1 := [.ref a0, .int a1, .int 0, .retAddr 0, .retAddr 0, .retAddr 0, .retAddr 0]) zi_212_32 (Nat.le_of_ble_eq_true rfl) rfl ?_
            refine zg_const (v := 0) zi_212_33 (by rfl) ?_
            refine zg_istore (ls1 := [.ref a0, .int a1, .int 0, .int 0, .retAddr 0, .retAddr 0, .retAddr 0]) zi_212_34 (Nat.le_of_ble_eq_true rfl) rfl ?_
            refine zg_const (v := 0) zi_212_35 (by rfl) ?_
            refine zg_istore (ls1 := [.ref a0, .int a1, .int 0, .int 0, .int 0, .retAddr 0, .retAddr 0]) zi_212_36 (Nat.le_of_ble_eq_true rfl) rfl ?_
            obtain ⟨mm, hw⟩ := hw
            exact Gx.forget (zrk (zrd (zrk (zrk (zrk (zrk (zrk zr0))))))) (okl_212_37 mm a0 0 0 0 h21 hw)
          · have hw := hw.2 hc
            refine zg_aload zi_212_26 rfl ?_
            obtain ⟨t22, hw⟩ := hw
            obtain ⟨r23, er23, hw⟩ := hw
            refine zg_getR (v := .ref r23) zi_212_27 t22 (by rfl) (by show zrv (zR h21 a0 47) = _; rw [er23]; rfl) ?_
            refine zg_const (v := 0) zi_212_28 (by rfl) ?_
            obtain ⟨t24, hw⟩ := hw
            obtain ⟨hb, hw⟩ := hw
            refine zg_iaload (v := .int (zI h21 r23 0)) zi_212_29 t24 hb rfl ?_
            exact zg_ireturn zi_212_30 (by decide) hw
        · have hw := hw.2 hc
          refine zg_const (v := (-1000002)) zi_212_20 (by rfl) ?_
          exact zg_ireturn zi_212_21 (by decide) hw
  · have hw := hw.2 hc
    refine zg_const (v := (-1000000)) zi_212_6 (by rfl) ?_
    exact zg_ireturn zi_212_7 (by decide) hw
theorem zq_213 : zQ 213 2 7 11 := by unfold zQ; decide +kernel
theorem zi_213_0 : (zM 213).1[0]? = some (.aload 0) := by rfl
theorem zi_213_1 : (zM 213).1[1]? = some (.invokevirtual 182) := by rfl
theorem zi_213_2 : (zM 213).1[2]? = some (.aload 0) := by rfl
theorem zi_213_3 : (zM 213).1[3]? = some (.invokevirtual 201) := by rfl
theorem zi_213_4 : (zM 213).1[4]? = some (.iload 1) := by rfl
theorem zi_213_5 : (zM 213).1[5]? = some (.istore 2) := by rfl
theorem zi_213_6 : (zM 213).1[6]? = some (.aload 0) := by rfl
theorem zi_213_7 : (zM 213).1[7]? = some (.getfield 11215) := by rfl
theorem zi_213_8 : (zM 213).1[8]? = some (.iconst 15) := by rfl
theorem zi_213_9 : (zM 213).1[9]? = some (.iaload) := by rfl
theorem zi_213_10 : (zM 213).1[10]? = some (.istore 3) := by rfl
theorem zi_213_11 : (zM 213).1[11]? = some (.aload 0) := by rfl
theorem zi_213_12 : (zM 213).1[12]? = some (.iconst 0) := by rfl
theorem zi_213_13 : (zM 213).1[13]? = some (.putfield 11036) := by rfl
theorem zi_213_14 : (zM 213).1[14]? = some (.iconst 0) := by rfl
theorem zi_213_15 : (zM 213).1[15]? = some (.istore 4) := by rfl
theorem zi_213_16 : (zM 213).1[16]? = some (.iload 4) := by rfl
theorem zi_213_17 : (zM 213).1[17]? = some (.aload 0) := by rfl
theorem zi_213_18 : (zM 213).1[18]? = some (.invokevirtual 152) := by rfl
theorem zi_213_19 : (zM 213).1[19]? = some (.if_icmp .ge ((95 : Nat) : Int)) := by rfl
theorem zi_213_20 : (zM 213).1[20]? = some (.iload 4) := by rfl
theorem zi_213_21 : (zM 213).1[21]? = some (.ifCond .gt ((28 : Nat) : Int)) := by rfl
theorem zi_213_22 : (zM 213).1[22]? = some (.aload 0) := by rfl
theorem zi_213_23 : (zM 213).1[23]? = some (.getfield 11215) := by rfl
theorem zi_213_24 : (zM 213).1[24]? = some (.iconst 12) := by rfl
theorem zi_213_25 : (zM 213).1[25]? = some (.iaload) := by rfl
theorem zi_213_26 : (zM 213).1[26]? = some (.iconst 1) := by rfl
theorem zi_213_27 : (zM 213).1[27]? = some (.if_icmp .ne ((73 : Nat) : Int)) := by rfl
theorem zi_213_28 : (zM 213).1[28]? = some (.iload 2) := by rfl
theorem zi_213_29 : (zM 213).1[29]? = some (.iconst 1103515245) := by rfl
theorem zi_213_30 : (zM 213).1[30]? = some (.imul) := by rfl
theorem zi_213_31 : (zM 213).1[31]? = some (.iconst 12345) := by rfl
theorem zi_213_32 : (zM 213).1[32]? = some (.iadd) := by rfl
theorem zi_213_33 : (zM 213).1[33]? = some (.istore 2) := by rfl
theorem zi_213_34 : (zM 213).1[34]? = some (.iload 2) := by rfl
theorem zi_213_35 : (zM 213).1[35]? = some (.iconst 16) := by rfl
theorem zi_213_36 : (zM 213).1[36]? = some (.ishr) := by rfl
theorem zi_213_37 : (zM 213).1[37]? = some (.iconst 32767) := by rfl
theorem zi_213_38 : (zM 213).1[38]? = some (.iand) := by rfl
theorem zi_213_39 : (zM 213).1[39]? = some (.iconst 4) := by rfl
theorem zi_213_40 : (zM 213).1[40]? = some (.irem) := by rfl
theorem zi_213_41 : (zM 213).1[41]? = some (.istore 5) := by rfl
theorem zi_213_42 : (zM 213).1[42]? = some (.iconst 0) := by rfl
theorem zi_213_43 : (zM 213).1[43]? = some (.istore 6) := by rfl
theorem zi_213_44 : (zM 213).1[44]? = some (.iload 5) := by rfl
theorem zi_213_45 : (zM 213).1[45]? = some (.aload 0) := by rfl
theorem zi_213_46 : (zM 213).1[46]? = some (.getfield 11215) := by rfl
theorem zi_213_47 : (zM 213).1[47]? = some (.iconst 19) := by rfl
theorem zi_213_48 : (zM 213).1[48]? = some (.iconst 3) := by rfl
theorem zi_213_49 : (zM 213).1[49]? = some (.iload 3) := by rfl
theorem zi_213_50 : (zM 213).1[50]? = some (.imul) := by rfl
theorem zi_213_51 : (zM 213).1[51]? = some (.iadd) := by rfl
theorem zi_213_52 : (zM 213).1[52]? = some (.iload 6) := by rfl
theorem zi_213_53 : (zM 213).1[53]? = some (.iadd) := by rfl
theorem zi_213_54 : (zM 213).1[54]? = some (.iaload) := by rfl
theorem zi_213_55 : (zM 213).1[55]? = some (.if_icmp .lt ((71 : Nat) : Int)) := by rfl
theorem zi_213_56 : (zM 213).1[56]? = some (.iload 5) := by rfl
theorem zi_213_57 : (zM 213).1[57]? = some (.aload 0) := by rfl
theorem zi_213_58 : (zM 213).1[58]? = some (.getfield 11215) := by rfl
theorem zi_213_59 : (zM 213).1[59]? = some (.iconst 19) := by rfl
theorem zi_213_60 : (zM 213).1[60]? = some (.iconst 3) := by rfl
theorem zi_213_61 : (zM 213).1[61]? = some (.iload 3) := by rfl
theorem zi_213_62 : (zM 213).1[62]? = some (.imul) := by rfl
theorem zi_213_63 : (zM 213).1[63]? = some (.iadd) := by rfl
theorem zi_213_64 : (zM 213).1[64]? = some (.iload 6) := by rfl
theorem zi_213_65 : (zM 213).1[65]? = some (.iadd) := by rfl
theorem zi_213_66 : (zM 213).1[66]? = some (.iaload) := by rfl
theorem zi_213_67 : (zM 213).1[67]? = some (.isub) := by rfl
theorem zi_213_68 : (zM 213).1[68]? = some (.istore 5) := by rfl
theorem zi_213_69 : (zM 213).1[69]? = some (.iinc 6 1) := by rfl
theorem zi_213_70 : (zM 213).1[70]? = some (.goto ((44 : Nat) : Int)) := by rfl
theorem zi_213_71 : (zM 213).1[71]? = some (.iload 6) := by rfl
theorem zi_213_72 : (zM 213).1[72]? = some (.istore 3) := by rfl
theorem zi_213_73 : (zM 213).1[73]? = some (.aload 0) := by rfl
theorem zi_213_74 : (zM 213).1[74]? = some (.getfield 11237) := by rfl
theorem zi_213_75 : (zM 213).1[75]? = some (.iload 4) := by rfl
theorem zi_213_76 : (zM 213).1[76]? = some (.iload 3) := by rfl
theorem zi_213_77 : (zM 213).1[77]? = some (.iastore) := by rfl
theorem zi_213_78 : (zM 213).1[78]? = some (.aload 0) := by rfl
theorem zi_213_79 : (zM 213).1[79]? = some (.getfield 11238) := by rfl
theorem zi_213_80 : (zM 213).1[80]? = some (.iload 4) := by rfl
theorem zi_213_81 : (zM 213).1[81]? = some (.aload 0) := by rfl
theorem zi_213_82 : (zM 213).1[82]? = some (.iload 4) := by rfl
theorem zi_213_83 : (zM 213).1[83]? = some (.invokevirtual 208) := by rfl
theorem zi_213_84 : (zM 213).1[84]? = some (.iastore) := by rfl
theorem zi_213_85 : (zM 213).1[85]? = some (.aload 0) := by rfl
theorem zi_213_86 : (zM 213).1[86]? = some (.iload 4) := by rfl
theorem zi_213_87 : (zM 213).1[87]? = some (.iload 3) := by rfl
theorem zi_213_88 : (zM 213).1[88]? = some (.aload 0) := by rfl
theorem zi_213_89 : (zM 213).1[89]? = some (.getfield 11238) := by rfl
theorem zi_213_90 : (zM 213).1[90]? = some (.iload 4) := by rfl
theorem zi_213_91 : (zM 213).1[91]? = some (.iaload) := by rfl
theorem zi_213_92 : (zM 213).1[92]? = some (.invokevirtual 202) := by rfl
theorem zi_213_93 : (zM 213).1[93]? = some (.iinc 4 1) := by rfl
theorem zi_213_94 : (zM 213).1[94]? = some (.goto ((16 : Nat) : Int)) := by rfl
theorem zi_213_95 : (zM 213).1[95]? = some (.aload 0) := by rfl
theorem zi_213_96 : (zM 213).1[96]? = some (.aload 0) := by rfl
theorem zi_213_97 : (zM 213).1[97]? = some (.invokevirtual 152) := by rfl
theorem zi_213_98 : (zM 213).1[98]? = some (.putfield 11036) := by rfl
theorem zi_213_99 : (zM 213).1[99]? = some (.aload 0) := by rfl
theorem zi_213_100 : (zM 213).1[100]? = some (.getfield 11045) := by rfl
theorem zi_213_101 : (zM 213).1[101]? = some (.ireturn) := by rfl
def wb_213_95 (E : Nat → Nat) (d : Nat) (Q : Option Value → ZH → Prop) (a0 : Nat) (h : ZH) : Prop := ztag h a0 = 11 ∧ 1 ≤ d ∧ sz_152 E h a0 ∧ ∀ h12 : ZH, h12 = (zuI h a0 36 (fz_152 E h a0)) → Q (some (.int (zI h12 a0 45))) h12
set_option maxRecDepth 20000 in
theorem okb_213_95 {E : Nat → Nat} {d : Nat} {Q : Option Value → ZH → Prop} {a0 : Nat} {h : ZH} (hw : wb_213_95 E d Q a0 h) : Gx E (d + 1) 213 95 [.ref a0, .retAddr 0, .retAddr 0, .retAddr 0, .retAddr 0, .retAddr 0, .retAddr 0] [] h Q := by
  unfold wb_213_95 at hw
  refine zg_aload zi_213_95 rfl ?_
  refine zg_aload zi_213_96 rfl ?_
  obtain ⟨t11, hw⟩ := hw
  obtain ⟨hd, hs, hw⟩ := hw
  refine Gx.call2 (as := [.ref a0]) (rest := [.ref a0]) zq_152 zi_213_97 rfl rfl rfl (Nat.le_of_ble_eq_true rfl) (Nat.le_of_ble_eq_true rfl) (zrv_v t11 rfl rfl) (Nat.le_of_ble_eq_true rfl) ?_
  refine cz_152 hd hs ?_
  show Gx E (d + 1) 213 98 [.ref a0, .retAddr 0, .retAddr 0, .retAddr 0, .retAddr 0, .retAddr 0, .retAddr 0] [.int (fz_152 E h a0), .ref a0] h Q
  refine zg_putI (h1 := zuI h a0 36 (fz_152 E h a0)) zi_213_98 t11 (by rfl) rfl ?_
  refine zg_nameH fun h12 eh12 => ?_
  have hw := hw h12 eh12
  refine zg_aload zi_213_99 rfl ?_
  refine zg_getI (v := .int (zI h12 a0 45)) zi_213_100 (by rw [eh12]; exact t11) (by rfl) rfl ?_
  exact zg_ireturn zi_213_101 (by decide) hw
def wb_213_73 (E : Nat → Nat) (d : Nat) (Q : Option Value → ZH → Prop) (L_16 : Nat → Int32 → Int32 → Int32 → ZH → Prop) (a0 : Nat) (a2 : Int32) (a3 : Int32) (a4 : Int32) (h : ZH) : Prop := ztag h a0 = 11 ∧ ∃ r19 : Nat, zR h a0 37 = r19 + 1 ∧ ztag h r19 = 13 ∧ zin a4 (zlen h r19) = true ∧ ∀ h21 : ZH, h21 = (zuI h r19 a4.toNatClampNeg a3) → ∃ r22 : Nat, zR h21 a0 38 = r22 + 1 ∧ 2 ≤ d ∧ sz_208 E h21 a0 a4 ∧ ztag h21 r22 = 13 ∧ zin a4 (zlen h21 r22) = true ∧ ∀ h24 : ZH, h24 = (zuI h21 r22 a4.toNatClampNeg (fz_208 E h21 a0 a4)) → (ztag h24 r22 = 13 ∨ ztag h24 r22 = 19) ∧ zin a4 (zlen h24 r22) = true ∧ Ct E d 202 [.ref a0, .int a4, .int a3, .int (zI h24 r22 a4.toNatClampNeg)] h24 (fun v h26 => v = none ∧ ∀ x27 : Int32, x27 = (a4 + 1) → L_16 a0 a2 a3 x27 h26)
set_option maxRecDepth 20000 in
theorem okb_213_73 {E : Nat → Nat} {d : Nat} {Q : Option Value → ZH → Prop} {L_16 : Nat → Int32 → Int32 → Int32 → ZH → Prop} (hL_16 : ∀ (b0 : Nat) (b2 : Int32) (b3 : Int32) (b4 : Int32) (h : ZH), L_16 b0 b2 b3 b4 h → Gx E (d + 1) 213 16 [.ref b0, .retAddr 0, .int b2, .int b3, .int b4, .retAddr 0, .retAddr 0] [] h Q) {a0 : Nat} {a2 : Int32} {a3 : Int32} {a4 : Int32} {h : ZH} (hw : wb_213_73 E d Q L_16 a0 a2 a3 a4 h) : Gx E (d + 1) 213 73 [.ref a0, .retAddr 0, .int a2, .int a3, .int a4, .retAddr 0, .retAddr 0] [] h Q := by
  unfold wb_213_73 at hw
  refine zg_aload zi_213_73 rfl ?_
  obtain ⟨t18, hw⟩ := hw
  obtain ⟨r19, er19, hw⟩ := hw
  refine zg_getR (v := .ref r19) zi_213_74 t18 (by rfl) (by show zrv (zR h a0 37) = _; rw [er19]; rfl) ?_
  refine zg_iload zi_213_75 rfl ?_
  refine zg_iload zi_213_76 rfl ?_
  obtain ⟨t20, hw⟩ := hw
  obtain ⟨hb, hw⟩ := hw
  refine zg_iastore (h1 := zuI h r19 a4.toNatClampNeg a3) zi_213_77 t20 hb rfl ?_
  refine zg_nameH fun h21 eh21 => ?_
  have hw := hw h21 eh21
  refine zg_aload zi_213_78 rfl ?_
  obtain ⟨r22, er22, hw⟩ := hw
  refine zg_getR (v := .ref r22) zi_213_79 (by rw [eh21]; exact t18) (by rfl) (by show zrv (zR h21 a0 38) = _; rw [er22]; rfl) ?_
  refine zg_iload zi_213_80 rfl ?_
  refine zg_aload zi_213_81 rfl ?_
  refine zg_iload zi_213_82 rfl ?_
  obtain ⟨hd, hs, hw⟩ := hw
  refine Gx.call2 (as := [.ref a0, .int a4]) (rest := [.int a4, .ref r22]) zq_208 zi_213_83 rfl rfl rfl (Nat.le_of_ble_eq_true rfl) (Nat.le_of_ble_eq_true rfl) (zrv_v (by rw [eh21]; exact t18) rfl rfl) (Nat.le_of_ble_eq_true rfl) ?_
  refine cz_208 hd hs ?_
  show Gx E (d + 1) 213 84 [.ref a0, .retAddr 0, .int a2, .int a3, .int a4, .retAddr 0, .retAddr 0] [.int (fz_208 E h21 a0 a4), .int a4, .ref r22] h21 Q
  obtain ⟨t23, hw⟩ := hw
  obtain ⟨hb, hw⟩ := hw
  refine zg_iastore (h1 := zuI h21 r22 a4.toNatClampNeg (fz_208 E h21 a0 a4)) zi_213_84 t23 hb rfl ?_
  refine zg_nameH fun h24 eh24 => ?_
  have hw := hw h24 eh24
  refine zg_aload zi_213_85 rfl ?_
  refine zg_iload zi_213_86 rfl ?_
  refine zg_iload zi_213_87 rfl ?_
  refine zg_aload zi_213_88 rfl ?_
  refine zg_getR (v := .ref r22) zi_213_89 (by rw [eh24, eh21]; exact t18) (by rfl) (by rw [eh24]; show zrv (zR h21 a0 38) = _; rw [er22]; rfl) ?_
  refine zg_iload zi_213_90 rfl ?_
  obtain ⟨t25, hw⟩ := hw
  obtain ⟨hb, hw⟩ := hw
  refine zg_iaload (v := .int (zI h24 r22 a4.toNatClampNeg)) zi_213_91 t25 hb rfl ?_
  refine Gx.call2 (as := [.ref a0, .int a4, .int a3, .int (zI h24 r22 a4.toNatClampNeg)]) (rest := []) zq_202 zi_213_92 rfl rfl rfl (Nat.le_of_ble_eq_true rfl) (Nat.le_of_ble_eq_true rfl) (zrv_v (by rw [eh24, eh21]; exact t18) rfl rfl) (Nat.le_of_ble_eq_true rfl) ?_
  refine Ct.mono hw ?_
  rintro v h26 ⟨rfl, hw⟩
  show Gx E (d + 1) 213 93 [.ref a0, .retAddr 0, .int a2, .int a3, .int a4, .retAddr 0, .retAddr 0] [] h26 Q
  obtain ⟨x27, ex27⟩ : ∃ x : Int32, x = a4 + 1 := ⟨_, rfl⟩
  have hw := hw x27 ex27
  refine zg_iinc (v := x27) (ls1 := [.ref a0, .retAddr 0, .int a2, .int a3, .int x27, .retAddr 0, .retAddr 0]) zi_213_93 rfl (by rw [ex27]; rfl) rfl ?_
  refine zg_goto zi_213_94 ?_
  exact hL_16 a0 a2 a3 x27 h26 hw
def wb_213_71 (E : Nat → Nat) (d : Nat) (Q : Option Value → ZH → Prop) (L_16 : Nat → Int32 → Int32 → Int32 → ZH → Prop) (a0 : Nat) (a2 : Int32) (a4 : Int32) (a6 : Int32) (h : ZH) : Prop := wb_213_73 E d Q L_16 a0 a2 a6 a4 h
set_option maxRecDepth 20000 in
theorem okb_213_71 {E : Nat → Nat} {d : Nat} {Q : Option Value → ZH → Prop} {L_16 : Nat → Int32 → Int32 → Int32 → ZH → Prop} (hL_16 : ∀ (b0 : Nat) (b2 : Int32) (b3 : Int32) (b4 : Int32) (h : ZH), L_16 b0 b2 b3 b4 h → Gx E (d + 1) 213 16 [.ref b0, .retAddr 0, .int b2, .int b3, .int b4, .retAddr 0, .retAddr 0] [] h Q) {a0 : Nat} {a2 : Int32} {a4 : Int32} {a6 : Int32} {h : ZH} (hw : wb_213_71 E d Q L_16 a0 a2 a4 a6 h) : Gx E (d + 1) 213 71 [.ref a0, .retAddr 0, .int a2, .retAddr 0, .int a4, .retAddr 0, .int a6] [] h Q := by
  unfold wb_213_71 at hw
  refine zg_iload zi_213_71 rfl ?_
  refine zg_istore (ls1 := [.ref a0, .retAddr 0, .int a2, .int a6, .int a4, .retAddr 0, .int a6]) zi_213_72 (Nat.le_of_ble_eq_true rfl) rfl ?_
  exact Gx.forget (zrk (zrk (zrk (zrk (zrk (zrk (zrd zr0))))))) (okb_213_73 hL_16 hw)
def wl_213_44 (E : Nat → Nat) (d : Nat) (Q : Option Value → ZH → Prop) (L_16 : Nat → Int32 → Int32 → Int32 → ZH → Prop) : Nat → Nat → Int32 → Int32 → Int32 → Int32 → Int32 → ZH → Prop
  | 0, _, _, _, _, _, _, _ => False
  | n + 1, a0, a2, a3, a4, a5, a6, h => ztag h a0 = 11 ∧ ∃ r16 : Nat, zR h a0 15 = r16 + 1 ∧ (ztag h r16 = 13 ∨ ztag h r16 = 19) ∧ zin ((19 + (3 * a3)) + a6) (zlen h r16) = true ∧ ((a5 < (zI h r16 ((19 + (3 * a3)) + a6 : Int32).toNatClampNeg : Int32) → (wb_213_71 E d Q L_16 a0 a2 a4 a6 h)) ∧ (¬ (a5 < (zI h r16 ((19 + (3 * a3)) + a6 : Int32).toNatClampNeg : Int32)) → (zin ((19 + (3 * a3)) + a6) (zlen h r16) = true ∧ ∀ x28 : Int32, x28 = (a5 - (zI h r16 ((19 + (3 * a3)) + a6 : Int32).toNatClampNeg)) → ∀ x29 : Int32, x29 = (a6 + 1) → wl_213_44 E d Q L_16 n a0 a2 a3 a4 x28 x29 h)))
set_option maxRecDepth 20000 in
theorem okl_213_44 {E : Nat → Nat} {d : Nat} {Q : Option Value → ZH → Prop} {L_16 : Nat → Int32 → Int32 → Int32 → ZH → Prop} (hL_16 : ∀ (b0 : Nat) (b2 : Int32) (b3 : Int32) (b4 : Int32) (h : ZH), L_16 b0 b2 b3 b4 h → Gx E (d + 1) 213 16 [.ref b0, .retAddr 0, .int b2, .int b3, .int b4, .retAddr 0, .retAddr 0] [] h Q) : ∀ (n : Nat) (a0 : Nat) (a2 : Int32) (a3 : Int32) (a4 : Int32) (a5 : Int32) (a6 : Int32) (h : ZH), wl_213_44 E d Q L_16 n a0 a2 a3 a4 a5 a6 h → Gx E (d + 1) 213 44 [.ref a0, .retAddr 0, .int a2, .int a3, .int a4, .int a5, .int a6] [] h Q := by
  intro n
  induction n with
  | zero => intro a0 a2 a3 a4 a5 a6 h hw; exact hw.elim
  | succ n ih =>
    intro a0 a2 a3 a4 a5 a6 h hw
    rw [wl_213_44] at hw
    refine zg_iload zi_213_44 rfl ?_
    refine zg_aload zi_213_45 rfl ?_
    obtain ⟨t15, hw⟩ := hw
    obtain ⟨r16, er16, hw⟩ := hw
    refine zg_getR (v := .ref r16) zi_213_46 t15 (by rfl) (by show zrv (zR h a0 15) = _; rw [er16]; rfl) ?_
    refine zg_const (v := 19) zi_213_47 (by rfl) ?_
    refine zg_const (v := 3) zi_213_48 (by rfl) ?_
    refine zg_iload zi_213_49 rfl ?_
    refine zg_imul zi_213_50 ?_
    refine zg_iadd zi_213_51 ?_
    refine zg_iload zi_213_52 rfl ?_
    refine zg_iadd zi_213_53 ?_
    obtain ⟨t17, hw⟩ := hw
    obtain ⟨hb, hw⟩ := hw
    refine zg_iaload (v := .int (zI h r16 ((19 + (3 * a3)) + a6 : Int32).toNatClampNeg)) zi_213_54 t17 hb rfl ?_
    refine zg_icmp_lt zi_213_55 (fun hc => ?_) (fun hc => ?_)
    · have hw := hw.1 hc
      exact Gx.forget (zrk (zrk (zrk (zrd (zrk (zrd (zrk zr0))))))) (okb_213_71 hL_16 hw)
    · have hw := hw.2 hc
      refine zg_iload zi_213_56 rfl ?_
      refine zg_aload zi_213_57 rfl ?_
      refine zg_getR (v := .ref r16) zi_213_58 t15 (by rfl) (by show zrv (zR h a0 15) = _; rw [er16]; rfl) ?_
      refine zg_const (v := 19) zi_213_59 (by rfl) ?_
      refine zg_const (v := 3) zi_213_60 (by rfl) ?_
      refine zg_iload zi_213_61 rfl ?_
      refine zg_imul zi_213_62 ?_
      refine zg_iadd zi_213_63 ?_
      refine zg_iload zi_213_64 rfl ?_
      refine zg_iadd zi_213_65 ?_
      obtain ⟨hb, hw⟩ := hw
      refine zg_iaload (v := .int (zI h r16 ((19 + (3 * a3)) + a6 : Int32).toNatClampNeg)) zi_213_66 t17 hb rfl ?_
      refine zg_isub zi_213_67 ?_
      refine zg_nameI fun x28 ex28 => ?_
      have hw := hw x28 ex28
      refine zg_istore (ls1 := [.ref a0, .retAddr 0, .int a2, .int a3, .int a4, .int x28, .int a6]) zi_213_68 (Nat.le_of_ble_eq_true rfl) rfl ?_
      obtain ⟨x29, ex29⟩ : ∃ x : Int32, x = a6 + 1 := ⟨_, rfl⟩
      have hw := hw x29 ex29
      refine zg_iinc (v := x29) (ls1 := [.ref a0, .retAddr 0, .int a2, .int a3, .int a4, .int x28, .int x29]) zi_213_69 rfl (by rw [ex29]; rfl) rfl ?_
      refine zg_goto zi_213_70 ?_
      exact ih a0 a2 a3 a4 x28 x29 h hw
def wl_213_16 (E : Nat → Nat) (d : Nat) (Q : Option Value → ZH → Prop) : Nat → Nat → Int32 → Int32 → Int32 → ZH → Prop
  | 0, _, _, _, _, _ => False
  | n + 1, a0, a2, a3, a4, h => ztag h a0 = 11 ∧ 1 ≤ d ∧ sz_152 E h a0 ∧ (((fz_152 E h a0 : Int32) ≤ a4 → (wb_213_95 E d Q a0 h)) ∧ (¬ ((fz_152 E h a0 : Int32) ≤ a4) → ((0 < a4 → (∀ x13 : Int32, x13 = ((a2 * 1103515245) + 12345) → ∀ x14 : Int32, x14 = (((x13 >>> ((16 : Int32) &&& 31)) &&& 32767) - ((x13 >>> ((16 : Int32) &&& 31)) &&& 32767) / 4 * 4) → (∃ mm : Nat, wl_213_44 E d Q (wl_213_16 E d Q n) mm a0 x13 a3 a4 x14 0 h))) ∧ (¬ (0 < a4) → (∃ r30 : Nat, zR h a0 15 = r30 + 1 ∧ (ztag h r30 = 13 ∨ ztag h r30 = 19) ∧ zin 12 (zlen h r30) = true ∧ ((¬ (zI h r30 12 : Int32) = 1 → (wb_213_73 E d Q (wl_213_16 E d Q n) a0 a2 a3 a4 h)) ∧ (¬ (¬ (zI h r30 12 : Int32) = 1) → (∀ x32 : Int32, x32 = ((a2 * 1103515245) + 12345) → ∀ x33 : Int32, x33 = (((x32 >>> ((16 : Int32) &&& 31)) &&& 32767) - ((x32 >>> ((16 : Int32) &&& 31)) &&& 32767) / 4 * 4) → (∃ mm : Nat, wl_213_44 E d Q (wl_213_16 E d Q n) mm a0 x32 a3 a4 x33 0 h)))))))))
set_option maxRecDepth 20000 in
theorem okl_213_16 {E : Nat → Nat} {d : Nat} {Q : Option Value → ZH → Prop} : ∀ (n : Nat) (a0 : Nat) (a2 : Int32) (a3 : Int32) (a4 : Int32) (h : ZH), wl_213_16 E d Q n a0 a2 a3 a4 h → Gx E (d + 1) 213 16 [.ref a0, .retAddr 0, .int a2, .int a3, .int a4, .retAddr 0, .retAddr 0] [] h Q := by
  intro n
  induction n with
  | zero => intro a0 a2 a3 a4 h hw; exact hw.elim
  | succ n ih =>
    intro a0 a2 a3 a4 h hw
    rw [wl_213_16] at hw
    refine zg_iload zi_213_16 rfl ?_
    refine zg_aload zi_213_17 rfl ?_
    obtain ⟨t10, hw⟩ := hw
    obtain ⟨hd, hs, hw⟩ := hw
    refine Gx.call2 (as := [.ref a0]) (rest := [.int a4]) zq_152 zi_213_18 rfl rfl rfl (Nat.le_of_ble_eq_true rfl) (Nat.le_of_ble_eq_true rfl) (zrv_v t10 rfl rfl) (Nat.le_of_ble_eq_true rfl) ?_
    refine cz_152 hd hs ?_
    show Gx E (d + 1) 213 19 [.ref a0, .retAddr 0, .int a2, .int a3, .int a4, .retAddr 0, .retAddr 0] [.int (fz_152 E h a0), .int a4] h Q
    refine zg_icmp_ge zi_213_19 (fun hc => ?_) (fun hc => ?_)
    · have hw := hw.1 hc
      exact Gx.forget (zrk (zrk (zrd (zrd (zrd (zrk (zrk zr0))))))) (okb_213_95 hw)
    · have hw := hw.2 hc
      refine zg_iload zi_213_20 rfl ?_
      refine zg_if_gt zi_213_21 (fun hc => ?_) (fun hc => ?_)
      · have hw := hw.1 hc
        refine zg_iload zi_213_28 rfl ?_
        refine zg_const (v := 1103515245) zi_213_29 (by rfl) ?_
        refine zg_imul zi_213_30 ?_
        refine zg_const (v := 12345) zi_213_31 (by rfl) ?_
        refine zg_iadd zi_213_32 ?_
        refine zg_nameI fun x13 ex13 => ?_
        have hw := hw x13 ex13
        refine zg_istore (ls1 := [.ref a0, .retAddr 0, .int x13, .int a3, .int a4, .retAddr 0, .retAddr 0]) zi_213_33 (Nat.le_of_ble_eq_true rfl) rfl ?_
        refine zg_iload zi_213_34 rfl ?_
        refine zg_const (v := 16) zi_213_35 (by rfl) ?_
        refine zg_ishr zi_213_36 ?_
        refine zg_const (v := 32767) zi_213_37 (by rfl) ?_
        refine zg_iand zi_213_38 ?_
        refine zg_const (v := 4) zi_213_39 (by rfl) ?_
        refine zg_irem zi_213_40 (by decide) ?_
        refine zg_nameI fun x14 ex14 => ?_
        have hw := hw x14 ex14
        refine zg_istore (ls1 := [.ref a0, .retAddr 0, .int x13, .int a3, .int a4, .int x14, .retAddr 0]) zi_213_41 (Nat.le_of_ble_eq_true rfl) rfl ?_
        refine zg_const (v := 0) zi_213_42 (by rfl) ?_
        refine zg_istore (ls1 := [.ref a0, .retAddr 0, .int x13, .int a3, .int a4, .int x14, .int 0]) zi_213_43 (Nat.le_of_ble_eq_true rfl) rfl ?_
        obtain ⟨mm, hw⟩ := hw
        exact okl_213_44 ih mm a0 x13 a3 a4 x14 0 h hw
      · have hw := hw.2 hc
        refine zg_aload zi_213_22 rfl ?_
        obtain ⟨r30, er30, hw⟩ := hw
        refine zg_getR (v := .ref r30) zi_213_23 t10 (by rfl) (by show zrv (zR h a0 15) = _; rw [er30]; rfl) ?_
        refine zg_const (v := 12) zi_213_24 (by rfl) ?_
        obtain ⟨t31, hw⟩ := hw
        obtain ⟨hb, hw⟩ := hw
        refine zg_iaload (v := .int (zI h r30 12)) zi_213_25 t31 hb rfl ?_
        refine zg_const (v := 1) zi_213_26 (by rfl) ?_
        refine zg_icmp_ne zi_213_27 (fun hc => ?_) (fun hc => ?_)
        · have hw := hw.1 hc
          exact okb_213_73 ih hw
        · have hw := hw.2 hc
          refine zg_iload zi_213_28 rfl ?_
          refine zg_const (v := 1103515245) zi_213_29 (by rfl) ?_
          refine zg_imul zi_213_30 ?_
          refine zg_const (v := 12345) zi_213_31 (by rfl) ?_
          refine zg_iadd zi_213_32 ?_
          refine zg_nameI fun x32 ex32 => ?_
          have hw := hw x32 ex32
          refine zg_istore (ls1 := [.ref a0, .retAddr 0, .int x32, .int a3, .int a4, .retAddr 0, .retAddr 0]) zi_213_33 (Nat.le_of_ble_eq_true rfl) rfl ?_
          refine zg_iload zi_213_34 rfl ?_
          refine zg_const (v := 16) zi_213_35 (by rfl) ?_
          refine zg_ishr zi_213_36 ?_
          refine zg_const (v := 32767) zi_213_37 (by rfl) ?_
          refine zg_iand zi_213_38 ?_
          refine zg_const (v := 4) zi_213_39 (by rfl) ?_
          refine zg_irem zi_213_40 (by decide) ?_
          refine zg_nameI fun x33 ex33 => ?_
          have hw := hw x33 ex33
          refine zg_istore (ls1 := [.ref a0, .retAddr 0, .int x32, .int a3, .int a4, .int x33, .retAddr 0]) zi_213_41 (Nat.le_of_ble_eq_true rfl) rfl ?_
          refine zg_const (v := 0) zi_213_42 (by rfl) ?_
          refine zg_istore (ls1 := [.ref a0, .retAddr 0, .int x32, .int a3, .int a4, .int x33, .int 0]) zi_213_43 (Nat.le_of_ble_eq_true rfl) rfl ?_
          obtain ⟨mm, hw⟩ := hw
          exact okl_213_44 ih mm a0 x32 a3 a4 x33 0 h hw
/-- TakeOrPayModel.draw(I)I -/
def w_213 (E : Nat → Nat) (d : Nat) (a0 : Nat) (a1 : Int32) (h : ZH) (Q : Option Value → ZH → Prop) : Prop := ztag h a0 = 11 ∧ Ct E d 182 [.ref a0] h (fun v h2 => v = none ∧ ztag h2 a0 = 11 ∧ Ct E d 201 [.ref a0] h2 (fun v h4 => v = none ∧ ztag h4 a0 = 11 ∧ ∃ r6 : Nat, zR h4 a0 15 = r6 + 1 ∧ (ztag h4 r6 = 13 ∨ ztag h4 r6 = 19) ∧ zin 15 (zlen h4 r6) = true ∧ ∀ x8 : Int32, x8 = (zI h4 r6 15) → ∀ h9 : ZH, h9 = (zuI h4 a0 36 0) → (∃ mm : Nat, wl_213_16 E d Q mm a0 a1 x8 0 h9)))
set_option maxRecDepth 20000 in
theorem ok_213 {E : Nat → Nat} {d : Nat} {a0 : Nat} {a1 : Int32} {h : ZH} {Q : Option Value → ZH → Prop} (hw : w_213 E d a0 a1 h Q) : Ct E (d + 1) 213 [.ref a0, .int a1] h Q := by
  unfold w_213 at hw
  show Gx E (d + 1) 213 0 [.ref a0, .int a1, .retAddr 0, .retAddr 0, .retAddr 0, .retAddr 0, .retAddr 0] [] h Q
  refine zg_aload zi_213_0 rfl ?_
  obtain ⟨t1, hw⟩ := hw
  refine Gx.call2 (as := [.ref a0]) (rest := []) zq_182 zi_213_1 rfl rfl rfl (Nat.le_of_ble_eq_true rfl) (Nat.le_of_ble_eq_true rfl) (zrv_v t1 rfl rfl) (Nat.le_of_ble_eq_true rfl) ?_
  refine Ct.mono hw ?_
  rintro v h2 ⟨rfl, hw⟩
  show Gx E (d + 1) 213 2 [.ref a0, .int a1, .retAddr 0, .retAddr 0, .retAddr 0, .retAddr 0, .retAddr 0] [] h2 Q
  refine zg_aload zi_213_2 rfl ?_
  obtain ⟨t3, hw⟩ := hw
  refine Gx.call2 (as := [.ref a0]) (rest := []) zq_201 zi_213_3 rfl rfl rfl (Nat.le_of_ble_eq_true rfl) (Nat.le_of_ble_eq_true rfl) (zrv_v t3 rfl rfl) (Nat.le_of_ble_eq_true rfl) ?_
  refine Ct.mono hw ?_
  rintro v h4 ⟨rfl, hw⟩
  show Gx E (d + 1) 213 4 [.ref a0, .int a1, .retAddr 0, .retAddr 0, .retAddr 0, .retAddr 0, .retAddr 0] [] h4 Q
  refine zg_iload zi_213_4 rfl ?_
  refine zg_istore (ls1 := [.ref a0, .int a1, .int a1, .retAddr 0, .retAddr 0, .retAddr 0, .retAddr 0]) zi_213_5 (Nat.le_of_ble_eq_true rfl) rfl ?_
  refine zg_aload zi_213_6 rfl ?_
  obtain ⟨t5, hw⟩ := hw
  obtain ⟨r6, er6, hw⟩ := hw
  refine zg_getR (v := .ref r6) zi_213_7 t5 (by rfl) (by show zrv (zR h4 a0 15) = _; rw [er6]; rfl) ?_
  refine zg_const (v := 15) zi_213_8 (by rfl) ?_
  obtain ⟨t7, hw⟩ := hw
  obtain ⟨hb, hw⟩ := hw
  refine zg_iaload (v := .int (zI h4 r6 15)) zi_213_9 t7 hb rfl ?_
  refine zg_nameI fun x8 ex8 => ?_
  have hw := hw x8 ex8
  refine zg_istore (ls1 := [.ref a0, .int a1, .int a1, .int x8, .retAddr 0, .retAddr 0, .retAddr 0]) zi_213_10 (Nat.le_of_ble_eq_true rfl) rfl ?_
  refine zg_aload zi_213_11 rfl ?_
  refine zg_const (v := 0) zi_213_12 (by rfl) ?_
  refine zg_putI (h1 := zuI h4 a0 36 0) zi_213_13 t5 (by rfl) rfl ?_
  refine zg_nameH fun h9 eh9 => ?_
  have hw := hw h9 eh9
  refine zg_const (v := 0) zi_213_14 (by rfl) ?_
  refine zg_istore (ls1 := [.ref a0, .int a1, .int a1, .int x8, .int 0, .retAddr 0, .retAddr 0]) zi_213_15 (Nat.le_of_ble_eq_true rfl) rfl ?_
  obtain ⟨mm, hw⟩ := hw
  exact Gx.forget (zrk (zrd (zrk (zrk (zrk (zrk (zrk zr0))))))) (okl_213_16 mm a0 a1 x8 0 h9 hw)
theorem zq_214 : zQ 214 4 5 11 := by unfold zQ; decide +kernel
theorem zi_214_0 : (zM 214).1[0]? = some (.iload 1) := by rfl
theorem zi_214_1 : (zM 214).1[1]? = some (.i2l) := by rfl
theorem zi_214_2 : (zM 214).1[2]? = some (.jsr_w 0) := by rfl
theorem zi_214_3 : (zM 214).1[3]? = some (.jsr_w 3) := by rfl
theorem zi_214_4 : (zM 214).1[4]? = some (.invokestatic 135) := by rfl
theorem zi_214_5 : (zM 214).1[5]? = some (.ifCond .eq ((15 : Nat) : Int)) := by rfl
theorem zi_214_6 : (zM 214).1[6]? = some (.iload 2) := by rfl
theorem zi_214_7 : (zM 214).1[7]? = some (.i2l) := by rfl
theorem zi_214_8 : (zM 214).1[8]? = some (.jsr_w 0) := by rfl
theorem zi_214_9 : (zM 214).1[9]? = some (.jsr_w 2) := by rfl
theorem zi_214_10 : (zM 214).1[10]? = some (.invokestatic 135) := by rfl
theorem zi_214_11 : (zM 214).1[11]? = some (.ifCond .eq ((15 : Nat) : Int)) := by rfl
theorem zi_214_12 : (zM 214).1[12]? = some (.iload 3) := by rfl
theorem zi_214_13 : (zM 214).1[13]? = some (.iconst 48) := by rfl
theorem zi_214_14 : (zM 214).1[14]? = some (.if_icmp .le ((17 : Nat) : Int)) := by rfl
theorem zi_214_15 : (zM 214).1[15]? = some (.iconst (-1)) := by rfl
theorem zi_214_16 : (zM 214).1[16]? = some (.ireturn) := by rfl
theorem zi_214_17 : (zM 214).1[17]? = some (.iload 3) := by rfl
theorem zi_214_18 : (zM 214).1[18]? = some (.ifCond .ge ((21 : Nat) : Int)) := by rfl
theorem zi_214_19 : (zM 214).1[19]? = some (.iconst (-14)) := by rfl
theorem zi_214_20 : (zM 214).1[20]? = some (.ireturn) := by rfl
theorem zi_214_21 : (zM 214).1[21]? = some (.aload 0) := by rfl
theorem zi_214_22 : (zM 214).1[22]? = some (.getfield 11248) := by rfl
theorem zi_214_23 : (zM 214).1[23]? = some (.iload 1) := by rfl
theorem zi_214_24 : (zM 214).1[24]? = some (.iload 2) := by rfl
theorem zi_214_25 : (zM 214).1[25]? = some (.iastore) := by rfl
theorem zi_214_26 : (zM 214).1[26]? = some (.aload 0) := by rfl
theorem zi_214_27 : (zM 214).1[27]? = some (.getfield 11249) := by rfl
theorem zi_214_28 : (zM 214).1[28]? = some (.iload 1) := by rfl
theorem zi_214_29 : (zM 214).1[29]? = some (.iload 3) := by rfl
theorem zi_214_30 : (zM 214).1[30]? = some (.iastore) := by rfl
theorem zi_214_31 : (zM 214).1[31]? = some (.iconst 0) := by rfl
theorem zi_214_32 : (zM 214).1[32]? = some (.istore 4) := by rfl
theorem zi_214_33 : (zM 214).1[33]? = some (.iload 4) := by rfl
theorem zi_214_34 : (zM 214).1[34]? = some (.iconst 48) := by rfl
theorem zi_214_35 : (zM 214).1[35]? = some (.if_icmp .ge ((47 : Nat) : Int)) := by rfl
theorem zi_214_36 : (zM 214).1[36]? = some (.aload 0) := by rfl
theorem zi_214_37 : (zM 214).1[37]? = some (.getfield 11250) := by rfl
theorem zi_214_38 : (zM 214).1[38]? = some (.iconst 48) := by rfl
theorem zi_214_39 : (zM 214).1[39]? = some (.iload 1) := by rfl
theorem zi_214_40 : (zM 214).1[40]? = some (.imul) := by rfl
theorem zi_214_41 : (zM 214).1[41]? = some (.iload 4) := by rfl
theorem zi_214_42 : (zM 214).1[42]? = some (.iadd) := by rfl
theorem zi_214_43 : (zM 214).1[43]? = some (.iconst 0) := by rfl
theorem zi_214_44 : (zM 214).1[44]? = some (.iastore) := by rfl
theorem zi_214_45 : (zM 214).1[45]? = some (.iinc 4 1) := by rfl
theorem zi_214_46 : (zM 214).1[46]? = some (.goto ((33 : Nat) : Int)) := by rfl
theorem zi_214_47 : (zM 214).1[47]? = some (.iconst 1) := by rfl
theorem zi_214_48 : (zM 214).1[48]? = some (.ireturn) := by rfl
def wb_214_47 (E : Nat → Nat) (d : Nat) (Q : Option Value → ZH → Prop) (h : ZH) : Prop := Q (some (.int 1)) h
set_option maxRecDepth 20000 in
theorem okb_214_47 {E : Nat → Nat} {d : Nat} {Q : Option Value → ZH → Prop} {h : ZH} (hw : wb_214_47 E d Q  h) : Gx E (d + 1) 214 47 [.retAddr 0, .retAddr 0, .retAddr 0, .retAddr 0, .retAddr 0] [] h Q := by
  unfold wb_214_47 at hw
  refine zg_const (v := 1) zi_214_47 (by rfl) ?_
  exact zg_ireturn zi_214_48 (by decide) hw
def wl_214_33 (E : Nat → Nat) (d : Nat) (Q : Option Value → ZH → Prop) : Nat → Nat → Int32 → Int32 → ZH → Prop
  | 0, _, _, _, _ => False
  | n + 1, a0, a1, a4, h => (48 ≤ a4 → (wb_214_47 E d Q  h)) ∧ (¬ (48 ≤ a4) → (ztag h a0 = 11 ∧ ∃ r9 : Nat, zR h a0 50 = r9 + 1 ∧ ztag h r9 = 13 ∧ zin ((48 * a1) + a4) (zlen h r9) = true ∧ ∀ h11 : ZH, h11 = (zuI h r9 ((48 * a1) + a4 : Int32).toNatClampNeg 0) → ∀ x12 : Int32, x12 = (a4 + 1) → wl_214_33 E d Q n a0 a1 x12 h11))
set_option maxRecDepth 20000 in
theorem okl_214_33 {E : Nat → Nat} {d : Nat} {Q : Option Value → ZH → Prop} : ∀ (n : Nat) (a0 : Nat) (a1 : Int32) (a4 : Int32) (h : ZH), wl_214_33 E d Q n a0 a1 a4 h → Gx E (d + 1) 214 33 [.ref a0, .int a1, .retAddr 0, .retAddr 0, .int a4] [] h Q := by
  intro n
  induction n with
  | zero => intro a0 a1 a4 h hw; exact hw.elim
  | succ n ih =>
    intro a0 a1 a4 h hw
    rw [wl_214_33] at hw
    refine zg_iload zi_214_33 rfl ?_
    refine zg_const (v := 48) zi_214_34 (by rfl) ?_
    refine zg_icmp_ge zi_214_35 (fun hc => ?_) (fun hc => ?_)
    · have hw := hw.1 hc
      exact Gx.forget (zrd (zrd (zrk (zrk (zrd zr0))))) (okb_214_47 hw)
    · have hw := hw.2 hc
      refine zg_aload zi_214_36 rfl ?_
      obtain ⟨t8, hw⟩ := hw
      obtain ⟨r9, er9, hw⟩ := hw
      refine zg_getR (v := .ref r9) zi_214_37 t8 (by rfl) (by show zrv (zR h a0 50) = _; rw [er9]; rfl) ?_
      refine zg_const (v := 48) zi_214_38 (by rfl) ?_
      refine zg_iload zi_214_39 rfl ?_
      refine zg_imul zi_214_40 ?_
      refine zg_iload zi_214_41 rfl ?_
      refine zg_iadd zi_214_42 ?_
      refine zg_const (v := 0) zi_214_43 (by rfl) ?_
      obtain ⟨t10, hw⟩ := hw
      obtain ⟨hb, hw⟩ := hw
      refine zg_iastore (h1 := zuI h r9 ((48 * a1) + a4 : Int32).toNatClampNeg 0) zi_214_44 t10 hb rfl ?_
      refine zg_nameH fun h11 eh11 => ?_
      have hw := hw h11 eh11
      obtain ⟨x12, ex12⟩ : ∃ x : Int32, x = a4 + 1 := ⟨_, rfl⟩
      have hw := hw x12 ex12
      refine zg_iinc (v := x12) (ls1 := [.ref a0, .int a1, .retAddr 0, .retAddr 0, .int x12]) zi_214_45 rfl (by rw [ex12]; rfl) rfl ?_
      refine zg_goto zi_214_46 ?_
      exact ih a0 a1 x12 h11 hw
/-- TakeOrPayModel.sheet(III)I -/
def w_214 (E : Nat → Nat) (d : Nat) (a0 : Nat) (a1 : Int32) (a2 : Int32) (a3 : Int32) (h : ZH) (Q : Option Value → ZH → Prop) : Prop := 1 ≤ d ∧ sz_135 E h a1.toInt64 0 3 ∧ (((fz_135 E h a1.toInt64 0 3 : Int32) = 0 → (Q (some (.int ((-1)))) h)) ∧ (¬ ((fz_135 E h a1.toInt64 0 3 : Int32) = 0) → (1 ≤ d ∧ sz_135 E h a2.toInt64 0 2 ∧ (((fz_135 E h a2.toInt64 0 2 : Int32) = 0 → (Q (some (.int ((-1)))) h)) ∧ (¬ ((fz_135 E h a2.toInt64 0 2 : Int32) = 0) → ((a3 ≤ 48 → ((0 ≤ a3 → (ztag h a0 = 11 ∧ ∃ r2 : Nat, zR h a0 48 = r2 + 1 ∧ ztag h r2 = 13 ∧ zin a1 (zlen h r2) = true ∧ ∀ h4 : ZH, h4 = (zuI h r2 a1.toNatClampNeg a2) → ∃ r5 : Nat, zR h4 a0 49 = r5 + 1 ∧ ztag h4 r5 = 13 ∧ zin a1 (zlen h4 r5) = true ∧ ∀ h7 : ZH, h7 = (zuI h4 r5 a1.toNatClampNeg a3) → (∃ mm : Nat, wl_214_33 E d Q mm a0 a1 0 h7))) ∧ (¬ (0 ≤ a3) → (Q (some (.int ((-14)))) h)))) ∧ (¬ (a3 ≤ 48) → (Q (some (.int ((-1)))) h))))))))
set_option maxRecDepth 20000 in
theorem ok_214 {E : Nat → Nat} {d : Nat} {a0 : Nat} {a1 : Int32} {a2 : Int32} {a3 : Int32} {h : ZH} {Q : Option Value → ZH → Prop} (hw : w_214 E d a0 a1 a2 a3 h Q) : Ct E (d + 1) 214 [.ref a0, .int a1, .int a2, .int a3] h Q := by
  unfold w_214 at hw
  show Gx E (d + 1) 214 0 [.ref a0, .int a1, .int a2, .int a3, .retAddr 0] [] h Q
  refine zg_iload zi_214_0 rfl ?_
  refine zg_i2l zi_214_1 ?_
  refine zg_lconst (v := 0) zi_214_2 (by rfl) ?_
  refine zg_lconst (v := 3) zi_214_3 (by rfl) ?_
  obtain ⟨hd, hs, hw⟩ := hw
  refine Gx.call2 (as := [.long a1.toInt64, .long 0, .long 3]) (rest := []) zq_135 zi_214_4 rfl rfl rfl (Nat.le_of_ble_eq_true rfl) (Nat.le_of_ble_eq_true rfl) (rfl) (Nat.le_of_ble_eq_true rfl) ?_
  refine cz_135 hd hs ?_
  show Gx E (d + 1) 214 5 [.ref a0, .int a1, .int a2, .int a3, .retAddr 0] [.int (fz_135 E h a1.toInt64 0 3)] h Q
  refine zg_if_eq zi_214_5 (fun hc => ?_) (fun hc => ?_)
  · have hw := hw.1 hc
    refine zg_const (v := (-1)) zi_214_15 (by rfl) ?_
    exact zg_ireturn zi_214_16 (by decide) hw
  · have hw := hw.2 hc
    refine zg_iload zi_214_6 rfl ?_
    refine zg_i2l zi_214_7 ?_
    refine zg_lconst (v := 0) zi_214_8 (by rfl) ?_
    refine zg_lconst (v := 2) zi_214_9 (by rfl) ?_
    obtain ⟨hd, hs, hw⟩ := hw
    refine Gx.call2 (as := [.long a2.toInt64, .long 0, .long 2]) (rest := []) zq_135 zi_214_10 rfl rfl rfl (Nat.le_of_ble_eq_true rfl) (Nat.le_of_ble_eq_true rfl) (rfl) (Nat.le_of_ble_eq_true rfl) ?_
    refine cz_135 hd hs ?_
    show Gx E (d + 1) 214 11 [.ref a0, .int a1, .int a2, .int a3, .retAddr 0] [.int (fz_135 E h a2.toInt64 0 2)] h Q
    refine zg_if_eq zi_214_11 (fun hc => ?_) (fun hc => ?_)
    · have hw := hw.1 hc
      refine zg_const (v := (-1)) zi_214_15 (by rfl) ?_
      exact zg_ireturn zi_214_16 (by decide) hw
    · have hw := hw.2 hc
      refine zg_iload zi_214_12 rfl ?_
      refine zg_const (v := 48) zi_214_13 (by rfl) ?_
      refine zg_icmp_le zi_214_14 (fun hc => ?_) (fun hc => ?_)
      · have hw := hw.1 hc
        refine zg_iload zi_214_17 rfl ?_
        refine zg_if_ge zi_214_18 (fun hc => ?_) (fun hc => ?_)
        · have hw := hw.1 hc
          refine zg_aload zi_214_21 rfl ?_
          obtain ⟨t1, hw⟩ := hw
          obtain ⟨r2, er2, hw⟩ := hw
          refine zg_getR (v := .ref r2) zi_214_22 t1 (by rfl) (by show zrv (zR h a0 48) = _; rw [er2]; rfl) ?_
          refine zg_iload zi_214_23 rfl ?_
          refine zg_iload zi_214_24 rfl ?_
          obtain ⟨t3, hw⟩ := hw
          obtain ⟨hb, hw⟩ := hw
          refine zg_iastore (h1 := zuI h r2 a1.toNatClampNeg a2) zi_214_25 t3 hb rfl ?_
          refine zg_nameH fun h4 eh4 => ?_
          have hw := hw h4 eh4
          refine zg_aload zi_214_26 rfl ?_
          obtain ⟨r5, er5, hw⟩ := hw
          refine zg_getR (v := .ref r5) zi_214_27 (by rw [eh4]; exact t1) (by rfl) (by show zrv (zR h4 a0 49) = _; rw [er5]; rfl) ?_
          refine zg_iload zi_214_28 rfl ?_
          refine zg_iload zi_214_29 rfl ?_
          obtain ⟨t6, hw⟩ := hw
          obtain ⟨hb, hw⟩ := hw
          refine zg_iastore (h1 := zuI h4 r5 a1.toNatClampNeg a3) zi_214_30 t6 hb rfl ?_
          refine zg_nameH fun h7 eh7 => ?_
          have hw := hw h7 eh7
          refine zg_const (v := 0) zi_214_31 (by rfl) ?_
          refine zg_istore (ls1 := [.ref a0, .int a1, .int a2, .int a3, .int 0]) zi_214_32 (Nat.le_of_ble_eq_true rfl) rfl ?_
          obtain ⟨mm, hw⟩ := hw
          exact Gx.forget (zrk (zrk (zrd (zrd (zrk zr0))))) (okl_214_33 mm a0 a1 0 h7 hw)
        · have hw := hw.2 hc
          refine zg_const (v := (-14)) zi_214_19 (by rfl) ?_
          exact zg_ireturn zi_214_20 (by decide) hw
      · have hw := hw.2 hc
        refine zg_const (v := (-1)) zi_214_15 (by rfl) ?_
        exact zg_ireturn zi_214_16 (by decide) hw
theorem zq_215 : zQ 215 4 4 11 := by unfold zQ; decide +kernel
theorem zi_215_0 : (zM 215).1[0]? = some (.iload 1) := by rfl
theorem zi_215_1 : (zM 215).1[1]? = some (.i2l) := by rfl
theorem zi_215_2 : (zM 215).1[2]? = some (.jsr_w 0) := by rfl
theorem zi_215_3 : (zM 215).1[3]? = some (.jsr_w 3) := by rfl
theorem zi_215_4 : (zM 215).1[4]? = some (.invokestatic 135) := by rfl
theorem zi_215_5 : (zM 215).1[5]? = some (.ifCond .ne ((8 : Nat) : Int)) := by rfl
theorem zi_215_6 : (zM 215).1[6]? = some (.iconst (-1)) := by rfl
theorem zi_215_7 : (zM 215).1[7]? = some (.ireturn) := by rfl
theorem zi_215_8 : (zM 215).1[8]? = some (.aload 0) := by rfl
theorem zi_215_9 : (zM 215).1[9]? = some (.getfield 11248) := by rfl
theorem zi_215_10 : (zM 215).1[10]? = some (.iload 1) := by rfl
theorem zi_215_11 : (zM 215).1[11]? = some (.iaload) := by rfl
theorem zi_215_12 : (zM 215).1[12]? = some (.iconst (-4)) := by rfl
theorem zi_215_13 : (zM 215).1[13]? = some (.if_icmp .ne ((16 : Nat) : Int)) := by rfl
theorem zi_215_14 : (zM 215).1[14]? = some (.iconst (-11)) := by rfl
theorem zi_215_15 : (zM 215).1[15]? = some (.ireturn) := by rfl
theorem zi_215_16 : (zM 215).1[16]? = some (.iload 2) := by rfl
theorem zi_215_17 : (zM 215).1[17]? = some (.i2l) := by rfl
theorem zi_215_18 : (zM 215).1[18]? = some (.jsr_w 0) := by rfl
theorem zi_215_19 : (zM 215).1[19]? = some (.aload 0) := by rfl
theorem zi_215_20 : (zM 215).1[20]? = some (.getfield 11249) := by rfl
theorem zi_215_21 : (zM 215).1[21]? = some (.iload 1) := by rfl
theorem zi_215_22 : (zM 215).1[22]? = some (.iaload) := by rfl
theorem zi_215_23 : (zM 215).1[23]? = some (.iconst 1) := by rfl
theorem zi_215_24 : (zM 215).1[24]? = some (.isub) := by rfl
theorem zi_215_25 : (zM 215).1[25]? = some (.i2l) := by rfl
theorem zi_215_26 : (zM 215).1[26]? = some (.invokestatic 135) := by rfl
theorem zi_215_27 : (zM 215).1[27]? = some (.ifCond .ne ((30 : Nat) : Int)) := by rfl
theorem zi_215_28 : (zM 215).1[28]? = some (.iconst (-12)) := by rfl
theorem zi_215_29 : (zM 215).1[29]? = some (.ireturn) := by rfl
theorem zi_215_30 : (zM 215).1[30]? = some (.aload 0) := by rfl
theorem zi_215_31 : (zM 215).1[31]? = some (.getfield 11250) := by rfl
theorem zi_215_32 : (zM 215).1[32]? = some (.iconst 48) := by rfl
theorem zi_215_33 : (zM 215).1[33]? = some (.iload 1) := by rfl
theorem zi_215_34 : (zM 215).1[34]? = some (.imul) := by rfl
theorem zi_215_35 : (zM 215).1[35]? = some (.iload 2) := by rfl
theorem zi_215_36 : (zM 215).1[36]? = some (.iadd) := by rfl
theorem zi_215_37 : (zM 215).1[37]? = some (.aload 0) := by rfl
theorem zi_215_38 : (zM 215).1[38]? = some (.getfield 11248) := by rfl
theorem zi_215_39 : (zM 215).1[39]? = some (.iload 1) := by rfl
theorem zi_215_40 : (zM 215).1[40]? = some (.iaload) := by rfl
theorem zi_215_41 : (zM 215).1[41]? = some (.ifCond .ne ((48 : Nat) : Int)) := by rfl
theorem zi_215_42 : (zM 215).1[42]? = some (.iload 3) := by rfl
theorem zi_215_43 : (zM 215).1[43]? = some (.iconst 24) := by rfl
theorem zi_215_44 : (zM 215).1[44]? = some (.ishl) := by rfl
theorem zi_215_45 : (zM 215).1[45]? = some (.iconst 24) := by rfl
theorem zi_215_46 : (zM 215).1[46]? = some (.ishr) := by rfl
theorem zi_215_47 : (zM 215).1[47]? = some (.goto ((61 : Nat) : Int)) := by rfl
theorem zi_215_48 : (zM 215).1[48]? = some (.aload 0) := by rfl
theorem zi_215_49 : (zM 215).1[49]? = some (.getfield 11248) := by rfl
theorem zi_215_50 : (zM 215).1[50]? = some (.iload 1) := by rfl
theorem zi_215_51 : (zM 215).1[51]? = some (.iaload) := by rfl
theorem zi_215_52 : (zM 215).1[52]? = some (.iconst 1) := by rfl
theorem zi_215_53 : (zM 215).1[53]? = some (.if_icmp .ne ((60 : Nat) : Int)) := by rfl
theorem zi_215_54 : (zM 215).1[54]? = some (.iload 3) := by rfl
theorem zi_215_55 : (zM 215).1[55]? = some (.iconst 16) := by rfl
theorem zi_215_56 : (zM 215).1[56]? = some (.ishl) := by rfl
theorem zi_215_57 : (zM 215).1[57]? = some (.iconst 16) := by rfl
theorem zi_215_58 : (zM 215).1[58]? = some (.ishr) := by rfl
theorem zi_215_59 : (zM 215).1[59]? = some (.goto ((61 : Nat) : Int)) := by rfl
theorem zi_215_60 : (zM 215).1[60]? = some (.iload 3) := by rfl
theorem zi_215_61 : (zM 215).1[61]? = some (.iastore) := by rfl
theorem zi_215_62 : (zM 215).1[62]? = some (.iconst 1) := by rfl
theorem zi_215_63 : (zM 215).1[63]? = some (.ireturn) := by rfl
/-- TakeOrPayModel.lay(III)I -/
def w_215 (E : Nat → Nat) (d : Nat) (a0 : Nat) (a1 : Int32) (a2 : Int32) (a3 : Int32) (h : ZH) (Q : Option Value → ZH → Prop) : Prop := 1 ≤ d ∧ sz_135 E h a1.toInt64 0 3 ∧ ((¬ (fz_135 E h a1.toInt64 0 3 : Int32) = 0 → (ztag h a0 = 11 ∧ ∃ r2 : Nat, zR h a0 48 = r2 + 1 ∧ (ztag h r2 = 13 ∨ ztag h r2 = 19) ∧ zin a1 (zlen h r2) = true ∧ ((¬ (zI h r2 a1.toNatClampNeg : Int32) = ((-4) : Int32) → (∃ r4 : Nat, zR h a0 49 = r4 + 1 ∧ (ztag h r4 = 13 ∨ ztag h r4 = 19) ∧ zin a1 (zlen h r4) = true ∧ 1 ≤ d ∧ sz_135 E h a2.toInt64 0 (((zI h r4 a1.toNatClampNeg) - 1 : Int32).toInt64) ∧ ((¬ (fz_135 E h a2.toInt64 0 (((zI h r4 a1.toNatClampNeg) - 1 : Int32).toInt64) : Int32) = 0 → (∃ r6 : Nat, zR h a0 50 = r6 + 1 ∧ zin a1 (zlen h r2) = true ∧ (((¬ (zI h r2 a1.toNatClampNeg : Int32) = 0 → (zin a1 (zlen h r2) = true ∧ True)) ∧ (¬ (¬ (zI h r2 a1.toNatClampNeg : Int32) = 0) → (True))) ∧ ztag h r6 = 13 ∧ zin ((48 * a1) + a2) (zlen h r6) = true ∧ ∀ h8 : ZH, h8 = (zuI h r6 ((48 * a1) + a2 : Int32).toNatClampNeg (if ¬ (zI h r2 a1.toNatClampNeg : Int32) = 0 then if ¬ (zI h r2 a1.toNatClampNeg : Int32) = 1 then a3 else (a3 <<< (16 &&& 31)) >>> (16 &&& 31) else (a3 <<< (24 &&& 31)) >>> (24 &&& 31))) → Q (some (.int 1)) h8))) ∧ (¬ (¬ (fz_135 E h a2.toInt64 0 (((zI h r4 a1.toNatClampNeg) - 1 : Int32).toInt64) : Int32) = 0) → (Q (some (.int ((-12)))) h))))) ∧ (¬ (¬ (zI h r2 a1.toNatClampNeg : Int32) = ((-4) : Int32)) → (Q (some (.int ((-11)))) h))))) ∧ (¬ (¬ (fz_135 E h a1.toInt64 0 3 : Int32) = 0) → (Q (some (.int ((-1)))) h)))
set_option maxRecDepth 20000 in
theorem ok_215 {E : Nat → Nat} {d : Nat} {a0 : Nat} {a1 : Int32} {a2 : Int32} {a3 : Int32} {h : ZH} {Q : Option Value → ZH → Prop} (hw : w_215 E d a0 a1 a2 a3 h Q) : Ct E (d + 1) 215 [.ref a0, .int a1, .int a2, .int a3] h Q := by
  unfold w_215 at hw
  show Gx E (d + 1) 215 0 [.ref a0, .int a1, .int a2, .int a3] [] h Q
  refine zg_iload zi_215_0 rfl ?_
  refine zg_i2l zi_215_1 ?_
  refine zg_lconst (v := 0) zi_215_2 (by rfl) ?_
  refine zg_lconst (v := 3) zi_215_3 (by rfl) ?_
  obtain ⟨hd, hs, hw⟩ := hw
  refine Gx.call2 (as := [.long a1.toInt64, .long 0, .long 3]) (rest := []) zq_135 zi_215_4 rfl rfl rfl (Nat.le_of_ble_eq_true rfl) (Nat.le_of_ble_eq_true rfl) (rfl) (Nat.le_of_ble_eq_true rfl) ?_
  refine cz_135 hd hs ?_
  show Gx E (d + 1) 215 5 [.ref a0, .int a1, .int a2, .int a3] [.int (fz_135 E h a1.toInt64 0 3)] h Q
  refine zg_if_ne zi_215_5 (fun hc => ?_) (fun hc => ?_)
  · have hw := hw.1 hc
    refine zg_aload zi_215_8 rfl ?_
    obtain ⟨t1, hw⟩ := hw
    obtain ⟨r2, er2, hw⟩ := hw
    refine zg_getR (v := .ref r2) zi_215_9 t1 (by rfl) (by show zrv (zR h a0 48) = _; rw [er2]; rfl) ?_
    refine zg_iload zi_215_10 rfl ?_
    obtain ⟨t3, hw⟩ := hw
    obtain ⟨hb, hw⟩ := hw
    refine zg_iaload (v := .int (zI h r2 a1.toNatClampNeg)) zi_215_11 t3 hb rfl ?_
    refine zg_const (v := (-4)) zi_215_12 (by rfl) ?_
    refine zg_icmp_ne zi_215_13 (fun hc => ?_) (fun hc => ?_)
    · have hw := hw.1 hc
      refine zg_iload zi_215_16 rfl ?_
      refine zg_i2l zi_215_17 ?_
      refine zg_lconst (v := 0) zi_215_18 (by rfl) ?_
      refine zg_aload zi_215_19 rfl ?_
      obtain ⟨r4, er4, hw⟩ := hw
      refine zg_getR (v := .ref r4) zi_215_20 t1 (by rfl) (by show zrv (zR h a0 49) = _; rw [er4]; rfl) ?_
      refine zg_iload zi_215_21 rfl ?_
      obtain ⟨t5, hw⟩ := hw
      obtain ⟨hb, hw⟩ := hw
      refine zg_iaload (v := .int (zI h r4 a1.toNatClampNeg)) zi_215_22 t5 hb rfl ?_
      refine zg_const (v := 1) zi_215_23 (by rfl) ?_
      refine zg_isub zi_215_24 ?_
      refine zg_i2l zi_215_25 ?_
      obtain ⟨hd, hs, hw⟩ := hw
      refine Gx.call2 (as := [.long a2.toInt64, .long 0, .long (((zI h r4 a1.toNatClampNeg) - 1 : Int32).toInt64)]) (rest := []) zq_135 zi_215_26 rfl rfl rfl (Nat.le_of_ble_eq_true rfl) (Nat.le_of_ble_eq_true rfl) (rfl) (Nat.le_of_ble_eq_true rfl) ?_
      refine cz_135 hd hs ?_
      show Gx E (d + 1) 215 27 [.ref a0, .int a1, .int a2, .int a3] [.int (fz_135 E h a2.toInt64 0 (((zI h r4 a1.toNatClampNeg) - 1 : Int32).toInt64))] h Q
      refine zg_if_ne zi_215_27 (fun hc => ?_) (fun hc => ?_)
      · have hw := hw.1 hc
        refine zg_aload zi_215_30 rfl ?_
        obtain ⟨r6, er6, hw⟩ := hw
        refine zg_getR (v := .ref r6) zi_215_31 t1 (by rfl) (by show zrv (zR h a0 50) = _; rw [er6]; rfl) ?_
        refine zg_const (v := 48) zi_215_32 (by rfl) ?_
        refine zg_iload zi_215_33 rfl ?_
        refine zg_imul zi_215_34 ?_
        refine zg_iload zi_215_35 rfl ?_
        refine zg_iadd zi_215_36 ?_
        refine zg_aload zi_215_37 rfl ?_
        refine zg_getR (v := .ref r2) zi_215_38 t1 (by rfl) (by show zrv (zR h a0 48) = _; rw [er2]; rfl) ?_
        refine zg_iload zi_215_39 rfl ?_
        obtain ⟨hb, hw⟩ := hw
        refine zg_iaload (v := .int (zI h r2 a1.toNatClampNeg)) zi_215_40 t3 hb rfl ?_
        obtain ⟨hsd41, hw⟩ := hw
        have g41 : Gx E (d + 1) 215 61 [.ref a0, .int a1, .int a2, .int a3] [.int (if ¬ (zI h r2 a1.toNatClampNeg : Int32) = 0 then if ¬ (zI h r2 a1.toNatClampNeg : Int32) = 1 then a3 else (a3 <<< (16 &&& 31)) >>> (16 &&& 31) else (a3 <<< (24 &&& 31)) >>> (24 &&& 31)), .int ((48 * a1) + a2), .ref r6] h Q := by
          obtain ⟨t7, hw⟩ := hw
          obtain ⟨hb, hw⟩ := hw
          refine zg_iastore (h1 := zuI h r6 ((48 * a1) + a2 : Int32).toNatClampNeg (if ¬ (zI h r2 a1.toNatClampNeg : Int32) = 0 then if ¬ (zI h r2 a1.toNatClampNeg : Int32) = 1 then a3 else (a3 <<< (16 &&& 31)) >>> (16 &&& 31) else (a3 <<< (24 &&& 31)) >>> (24 &&& 31))) zi_215_61 t7 hb rfl ?_
          refine zg_nameH fun h8 eh8 => ?_
          have hw := hw h8 eh8
          refine zg_const (v := 1) zi_215_62 (by rfl) ?_
          exact zg_ireturn zi_215_63 (by decide) hw
        refine zg_if_ne zi_215_41 (fun hc41 => ?_) (fun hc41 => ?_)
        · have hw := hsd41.1 hc41
          refine zg_aload zi_215_48 rfl ?_
          refine zg_getR (v := .ref r2) zi_215_49 t1 (by rfl) (by show zrv (zR h a0 48) = _; rw [er2]; rfl) ?_
          refine zg_iload zi_215_50 rfl ?_
          obtain ⟨hb, hw⟩ := hw
          refine zg_iaload (v := .int (zI h r2 a1.toNatClampNeg)) zi_215_51 t3 hb rfl ?_
          refine zg_const (v := 1) zi_215_52 (by rfl) ?_
          have g53 : Gx E (d + 1) 215 61 [.ref a0, .int a1, .int a2, .int a3] [.int (if ¬ (zI h r2 a1.toNatClampNeg : Int32) = 1 then a3 else (a3 <<< (16 &&& 31)) >>> (16 &&& 31)), .int ((48 * a1) + a2), .ref r6] h Q := by
            have hg := g41
            simp only [if_pos hc41] at hg
            exact hg
          refine zg_icmp_ne zi_215_53 (fun hc53 => ?_) (fun hc53 => ?_)
          · skip
            refine zg_iload zi_215_60 rfl ?_
            have hg := g53
            simp only [if_pos hc53] at hg
            exact hg
          · skip
            refine zg_iload zi_215_54 rfl ?_
            refine zg_const (v := 16) zi_215_55 (by rfl) ?_
            refine zg_ishl zi_215_56 ?_
            refine zg_const (v := 16) zi_215_57 (by rfl) ?_
            refine zg_ishr zi_215_58 ?_
            refine zg_goto zi_215_59 ?_
            have hg := g53
            simp only [if_neg hc53] at hg
            exact hg
        · have hw := hsd41.2 hc41
          refine zg_iload zi_215_42 rfl ?_
          refine zg_const (v := 24) zi_215_43 (by rfl) ?_
          refine zg_ishl zi_215_44 ?_
          refine zg_const (v := 24) zi_215_45 (by rfl) ?_
          refine zg_ishr zi_215_46 ?_
          refine zg_goto zi_215_47 ?_
          have hg := g41
          simp only [if_neg hc41] at hg
          exact hg
      · have hw := hw.2 hc
        refine zg_const (v := (-12)) zi_215_28 (by rfl) ?_
        exact zg_ireturn zi_215_29 (by decide) hw
    · have hw := hw.2 hc
      refine zg_const (v := (-11)) zi_215_14 (by rfl) ?_
      exact zg_ireturn zi_215_15 (by decide) hw
  · have hw := hw.2 hc
    refine zg_const (v := (-1)) zi_215_6 (by rfl) ?_
    exact zg_ireturn zi_215_7 (by decide) hw
theorem zq_216 : zQ 216 5 9 11 := by unfold zQ; decide +kernel
theorem zi_216_0 : (zM 216).1[0]? = some (.iload 1) := by rfl
theorem zi_216_1 : (zM 216).1[1]? = some (.i2l) := by rfl
theorem zi_216_2 : (zM 216).1[2]? = some (.jsr_w 0) := by rfl
theorem zi_216_3 : (zM 216).1[3]? = some (.jsr_w 3) := by rfl
theorem zi_216_4 : (zM 216).1[4]? = some (.invokestatic 135) := by rfl
theorem zi_216_5 : (zM 216).1[5]? = some (.ifCond .eq ((18 : Nat) : Int)) := by rfl
theorem zi_216_6 : (zM 216).1[6]? = some (.iload 2) := by rfl
theorem zi_216_7 : (zM 216).1[7]? = some (.i2l) := by rfl
theorem zi_216_8 : (zM 216).1[8]? = some (.jsr_w 0) := by rfl
theorem zi_216_9 : (zM 216).1[9]? = some (.jsr_w 2) := by rfl
theorem zi_216_10 : (zM 216).1[10]? = some (.invokestatic 135) := by rfl
theorem zi_216_11 : (zM 216).1[11]? = some (.ifCond .eq ((18 : Nat) : Int)) := by rfl
theorem zi_216_12 : (zM 216).1[12]? = some (.iload 4) := by rfl
theorem zi_216_13 : (zM 216).1[13]? = some (.i2l) := by rfl
theorem zi_216_14 : (zM 216).1[14]? = some (.jsr_w 0) := by rfl
theorem zi_216_15 : (zM 216).1[15]? = some (.jsr_w 20) := by rfl
theorem zi_216_16 : (zM 216).1[16]? = some (.invokestatic 135) := by rfl
theorem zi_216_17 : (zM 216).1[17]? = some (.ifCond .ne ((20 : Nat) : Int)) := by rfl
theorem zi_216_18 : (zM 216).1[18]? = some (.iconst (-1)) := by rfl
theorem zi_216_19 : (zM 216).1[19]? = some (.ireturn) := by rfl
theorem zi_216_20 : (zM 216).1[20]? = some (.iconst 0) := by rfl
theorem zi_216_21 : (zM 216).1[21]? = some (.istore 5) := by rfl
theorem zi_216_22 : (zM 216).1[22]? = some (.iconst 0) := by rfl
theorem zi_216_23 : (zM 216).1[23]? = some (.istore 6) := by rfl
theorem zi_216_24 : (zM 216).1[24]? = some (.iconst 0) := by rfl
theorem zi_216_25 : (zM 216).1[25]? = some (.istore 7) := by rfl
theorem zi_216_26 : (zM 216).1[26]? = some (.iload 7) := by rfl
theorem zi_216_27 : (zM 216).1[27]? = some (.iconst 2) := by rfl
theorem zi_216_28 : (zM 216).1[28]? = some (.iload 4) := by rfl
theorem zi_216_29 : (zM 216).1[29]? = some (.imul) := by rfl
theorem zi_216_30 : (zM 216).1[30]? = some (.if_icmp .ge ((121 : Nat) : Int)) := by rfl
theorem zi_216_31 : (zM 216).1[31]? = some (.iload 5) := by rfl
theorem zi_216_32 : (zM 216).1[32]? = some (.ifCond .ne ((121 : Nat) : Int)) := by rfl
theorem zi_216_33 : (zM 216).1[33]? = some (.aload 0) := by rfl
theorem zi_216_34 : (zM 216).1[34]? = some (.getfield 11248) := by rfl
theorem zi_216_35 : (zM 216).1[35]? = some (.iload 1) := by rfl
theorem zi_216_36 : (zM 216).1[36]? = some (.iaload) := by rfl
theorem zi_216_37 : (zM 216).1[37]? = some (.iconst (-4)) := by rfl
theorem zi_216_38 : (zM 216).1[38]? = some (.if_icmp .ne ((41 : Nat) : Int)) := by rfl
theorem zi_216_39 : (zM 216).1[39]? = some (.iconst 1) := by rfl
theorem zi_216_40 : (zM 216).1[40]? = some (.goto ((67 : Nat) : Int)) := by rfl
theorem zi_216_41 : (zM 216).1[41]? = some (.aload 0) := by rfl
theorem zi_216_42 : (zM 216).1[42]? = some (.getfield 11248) := by rfl
theorem zi_216_43 : (zM 216).1[43]? = some (.iload 1) := by rfl
theorem zi_216_44 : (zM 216).1[44]? = some (.iaload) := by rfl
theorem zi_216_45 : (zM 216).1[45]? = some (.iload 2) := by rfl
theorem zi_216_46 : (zM 216).1[46]? = some (.if_icmp .eq ((49 : Nat) : Int)) := by rfl
theorem zi_216_47 : (zM 216).1[47]? = some (.iconst 3) := by rfl
theorem zi_216_48 : (zM 216).1[48]? = some (.goto ((67 : Nat) : Int)) := by rfl
theorem zi_216_49 : (zM 216).1[49]? = some (.iload 3) := by rfl
theorem zi_216_50 : (zM 216).1[50]? = some (.i2l) := by rfl
theorem zi_216_51 : (zM 216).1[51]? = some (.iload 7) := by rfl
theorem zi_216_52 : (zM 216).1[52]? = some (.i2l) := by rfl
theorem zi_216_53 : (zM 216).1[53]? = some (.ladd) := by rfl
theorem zi_216_54 : (zM 216).1[54]? = some (.jsr_w 0) := by rfl
theorem zi_216_55 : (zM 216).1[55]? = some (.aload 0) := by rfl
theorem zi_216_56 : (zM 216).1[56]? = some (.getfield 11249) := by rfl
theorem zi_216_57 : (zM 216).1[57]? = some (.iload 1) := by rfl
theorem zi_216_58 : (zM 216).1[58]? = some (.iaload) := by rfl
theorem zi_216_59 : (zM 216).1[59]? = some (.iconst 1) := by rfl
theorem zi_216_60 : (zM 216).1[60]? = some (.isub) := by rfl
theorem zi_216_61 : (zM 216).1[61]? = some (.i2l) := by rfl
theorem zi_216_62 : (zM 216).1[62]? = some (.invokestatic 135) := by rfl
theorem zi_216_63 : (zM 216).1[63]? = some (.ifCond .ne ((66 : Nat) : Int)) := by rfl
theorem zi_216_64 : (zM 216).1[64]? = some (.iconst 2) := by rfl
theorem zi_216_65 : (zM 216).1[65]? = some (.goto ((67 : Nat) : Int)) := by rfl
theorem zi_216_66 : (zM 216).1[66]? = some (.iconst 0) := by rfl
theorem zi_216_67 : (zM 216).1[67]? = some (.istore 5) := by rfl
theorem zi_216_68 : (zM 216).1[68]? = some (.iload 5) := by rfl
theorem zi_216_69 : (zM 216).1[69]? = some (.ifCond .ne ((119 : Nat) : Int)) := by rfl
theorem zi_216_70 : (zM 216).1[70]? = some (.iload 7) := by rfl
theorem zi_216_71 : (zM 216).1[71]? = some (.iconst 2) := by rfl
theorem zi_216_72 : (zM 216).1[72]? = some (.irem) := by rfl
theorem zi_216_73 : (zM 216).1[73]? = some (.iconst 1) := by rfl
theorem zi_216_74 : (zM 216).1[74]? = some (.if_icmp .ne ((119 : Nat) : Int)) := by rfl
theorem zi_216_75 : (zM 216).1[75]? = some (.iconst 48) := by rfl
theorem zi_216_76 : (zM 216).1[76]? = some (.iload 1) := by rfl
theorem zi_216_77 : (zM 216).1[77]? = some (.imul) := by rfl
theorem zi_216_78 : (zM 216).1[78]? = some (.iload 3) := by rfl
theorem zi_216_79 : (zM 216).1[79]? = some (.iadd) := by rfl
theorem zi_216_80 : (zM 216).1[80]? = some (.iload 7) := by rfl
theorem zi_216_81 : (zM 216).1[81]? = some (.iadd) := by rfl
theorem zi_216_82 : (zM 216).1[82]? = some (.iconst 1) := by rfl
theorem zi_216_83 : (zM 216).1[83]? = some (.isub) := by rfl
theorem zi_216_84 : (zM 216).1[84]? = some (.istore 8) := by rfl
theorem zi_216_85 : (zM 216).1[85]? = some (.aload 0) := by rfl
theorem zi_216_86 : (zM 216).1[86]? = some (.getfield 11250) := by rfl
theorem zi_216_87 : (zM 216).1[87]? = some (.iload 8) := by rfl
theorem zi_216_88 : (zM 216).1[88]? = some (.iaload) := by rfl
theorem zi_216_89 : (zM 216).1[89]? = some (.i2l) := by rfl
theorem zi_216_90 : (zM 216).1[90]? = some (.jsr_w 0) := by rfl
theorem zi_216_91 : (zM 216).1[91]? = some (.jsr_w 2) := by rfl
theorem zi_216_92 : (zM 216).1[92]? = some (.invokestatic 135) := by rfl
theorem zi_216_93 : (zM 216).1[93]? = some (.ifCond .eq ((105 : Nat) : Int)) := by rfl
theorem zi_216_94 : (zM 216).1[94]? = some (.aload 0) := by rfl
theorem zi_216_95 : (zM 216).1[95]? = some (.getfield 11250) := by rfl
theorem zi_216_96 : (zM 216).1[96]? = some (.iload 8) := by rfl
theorem zi_216_97 : (zM 216).1[97]? = some (.iconst 1) := by rfl
theorem zi_216_98 : (zM 216).1[98]? = some (.iadd) := by rfl
theorem zi_216_99 : (zM 216).1[99]? = some (.iaload) := by rfl
theorem zi_216_100 : (zM 216).1[100]? = some (.i2l) := by rfl
theorem zi_216_101 : (zM 216).1[101]? = some (.jsr_w 0) := by rfl
theorem zi_216_102 : (zM 216).1[102]? = some (.jsr_w 9) := by rfl
theorem zi_216_103 : (zM 216).1[103]? = some (.invokestatic 135) := by rfl
theorem zi_216_104 : (zM 216).1[104]? = some (.ifCond .ne ((109 : Nat) : Int)) := by rfl
theorem zi_216_105 : (zM 216).1[105]? = some (.iconst (-20)) := by rfl
theorem zi_216_106 : (zM 216).1[106]? = some (.iload 6) := by rfl
theorem zi_216_107 : (zM 216).1[107]? = some (.isub) := by rfl
theorem zi_216_108 : (zM 216).1[108]? = some (.ireturn) := by rfl
theorem zi_216_109 : (zM 216).1[109]? = some (.aload 0) := by rfl
theorem zi_216_110 : (zM 216).1[110]? = some (.getfield 11036) := by rfl
theorem zi_216_111 : (zM 216).1[111]? = some (.iload 6) := by rfl
theorem zi_216_112 : (zM 216).1[112]? = some (.iadd) := by rfl
theorem zi_216_113 : (zM 216).1[113]? = some (.aload 0) := by rfl
theorem zi_216_114 : (zM 216).1[114]? = some (.invokevirtual 152) := by rfl
theorem zi_216_115 : (zM 216).1[115]? = some (.if_icmp .ne ((118 : Nat) : Int)) := by rfl
theorem zi_216_116 : (zM 216).1[116]? = some (.iconst (-3)) := by rfl
theorem zi_216_117 : (zM 216).1[117]? = some (.ireturn) := by rfl
theorem zi_216_118 : (zM 216).1[118]? = some (.iinc 6 1) := by rfl
theorem zi_216_119 : (zM 216).1[119]? = some (.iinc 7 1) := by rfl
theorem zi_216_120 : (zM 216).1[120]? = some (.goto ((26 : Nat) : Int)) := by rfl
theorem zi_216_121 : (zM 216).1[121]? = some (.iconst 0) := by rfl
theorem zi_216_122 : (zM 216).1[122]? = some (.istore 7) := by rfl
theorem zi_216_123 : (zM 216).1[123]? = some (.iload 7) := by rfl
theorem zi_216_124 : (zM 216).1[124]? = some (.iload 6) := by rfl
theorem zi_216_125 : (zM 216).1[125]? = some (.if_icmp .ge ((170 : Nat) : Int)) := by rfl
theorem zi_216_126 : (zM 216).1[126]? = some (.aload 0) := by rfl
theorem zi_216_127 : (zM 216).1[127]? = some (.getfield 11237) := by rfl
theorem zi_216_128 : (zM 216).1[128]? = some (.aload 0) := by rfl
theorem zi_216_129 : (zM 216).1[129]? = some (.getfield 11036) := by rfl
theorem zi_216_130 : (zM 216).1[130]? = some (.aload 0) := by rfl
theorem zi_216_131 : (zM 216).1[131]? = some (.getfield 11250) := by rfl
theorem zi_216_132 : (zM 216).1[132]? = some (.iconst 48) := by rfl
theorem zi_216_133 : (zM 216).1[133]? = some (.iload 1) := by rfl
theorem zi_216_134 : (zM 216).1[134]? = some (.imul) := by rfl
theorem zi_216_135 : (zM 216).1[135]? = some (.iload 3) := by rfl
theorem zi_216_136 : (zM 216).1[136]? = some (.iadd) := by rfl
theorem zi_216_137 : (zM 216).1[137]? = some (.iconst 2) := by rfl
theorem zi_216_138 : (zM 216).1[138]? = some (.iload 7) := by rfl
theorem zi_216_139 : (zM 216).1[139]? = some (.imul) := by rfl
theorem zi_216_140 : (zM 216).1[140]? = some (.iadd) := by rfl
theorem zi_216_141 : (zM 216).1[141]? = some (.iaload) := by rfl
theorem zi_216_142 : (zM 216).1[142]? = some (.iastore) := by rfl
theorem zi_216_143 : (zM 216).1[143]? = some (.aload 0) := by rfl
theorem zi_216_144 : (zM 216).1[144]? = some (.getfield 11238) := by rfl
theorem zi_216_145 : (zM 216).1[145]? = some (.aload 0) := by rfl
theorem zi_216_146 : (zM 216).1[146]? = some (.getfield 11036) := by rfl
theorem zi_216_147 : (zM 216).1[147]? = some (.aload 0) := by rfl
theorem zi_216_148 : (zM 216).1[148]? = some (.getfield 11250) := by rfl
theorem zi_216_149 : (zM 216).1[149]? = some (.iconst 48) := by rfl
theorem zi_216_150 : (zM 216).1[150]? = some (.iload 1) := by rfl
theorem zi_216_151 : (zM 216).1[151]? = some (.imul) := by rfl
theorem zi_216_152 : (zM 216).1[152]? = some (.iload 3) := by rfl
theorem zi_216_153 : (zM 216).1[153]? = some (.iadd) := by rfl
theorem zi_216_154 : (zM 216).1[154]? = some (.iconst 2) := by rfl
theorem zi_216_155 : (zM 216).1[155]? = some (.iload 7) := by rfl
theorem zi_216_156 : (zM 216).1[156]? = some (.imul) := by rfl
theorem zi_216_157 : (zM 216).1[157]? = some (.iadd) := by rfl
theorem zi_216_158 : (zM 216).1[158]? = some (.iconst 1) := by rfl
theorem zi_216_159 : (zM 216).1[159]? = some (.iadd) := by rfl
theorem zi_216_160 : (zM 216).1[160]? = some (.iaload) := by rfl
theorem zi_216_161 : (zM 216).1[161]? = some (.iastore) := by rfl
theorem zi_216_162 : (zM 216).1[162]? = some (.aload 0) := by rfl
theorem zi_216_163 : (zM 216).1[163]? = some (.dup) := by rfl
theorem zi_216_164 : (zM 216).1[164]? = some (.getfield 11036) := by rfl
theorem zi_216_165 : (zM 216).1[165]? = some (.iconst 1) := by rfl
theorem zi_216_166 : (zM 216).1[166]? = some (.iadd) := by rfl
theorem zi_216_167 : (zM 216).1[167]? = some (.putfield 11036) := by rfl
theorem zi_216_168 : (zM 216).1[168]? = some (.iinc 7 1) := by rfl
theorem zi_216_169 : (zM 216).1[169]? = some (.goto ((123 : Nat) : Int)) := by rfl
theorem zi_216_170 : (zM 216).1[170]? = some (.aload 0) := by rfl
theorem zi_216_171 : (zM 216).1[171]? = some (.iload 5) := by rfl
theorem zi_216_172 : (zM 216).1[172]? = some (.putfield 11051) := by rfl
theorem zi_216_173 : (zM 216).1[173]? = some (.iload 6) := by rfl
theorem zi_216_174 : (zM 216).1[174]? = some (.ireturn) := by rfl
def wb_216_170 (E : Nat → Nat) (d : Nat) (Q : Option Value → ZH → Prop) (a0 : Nat) (a5 : Int32) (a6 : Int32) (h : ZH) : Prop := ztag h a0 = 11 ∧ ∀ h2 : ZH, h2 = (zuI h a0 51 a5) → Q (some (.int a6)) h2
set_option maxRecDepth 20000 in
theorem okb_216_170 {E : Nat → Nat} {d : Nat} {Q : Option Value → ZH → Prop} {a0 : Nat} {a5 : Int32} {a6 : Int32} {h : ZH} (hw : wb_216_170 E d Q a0 a5 a6 h) : Gx E (d + 1) 216 170 [.ref a0, .retAddr 0, .retAddr 0, .retAddr 0, .retAddr 0, .int a5, .int a6, .retAddr 0, .retAddr 0] [] h Q := by
  unfold wb_216_170 at hw
  refine zg_aload zi_216_170 rfl ?_
  refine zg_iload zi_216_171 rfl ?_
  obtain ⟨t1, hw⟩ := hw
  refine zg_putI (h1 := zuI h a0 51 a5) zi_216_172 t1 (by rfl) rfl ?_
  refine zg_nameH fun h2 eh2 => ?_
  have hw := hw h2 eh2
  refine zg_iload zi_216_173 rfl ?_
  exact zg_ireturn zi_216_174 (by decide) hw
def wl_216_123 (E : Nat → Nat) (d : Nat) (Q : Option Value → ZH → Prop) : Nat → Nat → Int32 → Int32 → Int32 → Int32 → Int32 → ZH → Prop
  | 0, _, _, _, _, _, _, _ => False
  | n + 1, a0, a1, a3, a5, a6, a7, h => (a6 ≤ a7 → (wb_216_170 E d Q a0 a5 a6 h)) ∧ (¬ (a6 ≤ a7) → (ztag h a0 = 11 ∧ ∃ r4 : Nat, zR h a0 37 = r4 + 1 ∧ ∃ r5 : Nat, zR h a0 50 = r5 + 1 ∧ (ztag h r5 = 13 ∨ ztag h r5 = 19) ∧ zin (((48 * a1) + a3) + (2 * a7)) (zlen h r5) = true ∧ ztag h r4 = 13 ∧ zin (zI h a0 36) (zlen h r4) = true ∧ ∀ h8 : ZH, h8 = (zuI h r4 (zI h a0 36 : Int32).toNatClampNeg (zI h r5 (((48 * a1) + a3) + (2 * a7) : Int32).toNatClampNeg)) → ∃ r9 : Nat, zR h8 a0 38 = r9 + 1 ∧ zin ((((48 * a1) + a3) + (2 * a7)) + 1) (zlen h8 r5) = true ∧ ztag h8 r9 = 13 ∧ zin (zI h8 a0 36) (zlen h8 r9) = true ∧ ∀ h11 : ZH, h11 = (zuI h8 r9 (zI h8 a0 36 : Int32).toNatClampNeg (zI h8 r5 ((((48 * a1) + a3) + (2 * a7)) + 1 : Int32).toNatClampNeg)) → ∀ h12 : ZH, h12 = (zuI h11 a0 36 ((zI h11 a0 36) + 1)) → ∀ x13 : Int32, x13 = (a7 + 1) → wl_216_123 E d Q n a0 a1 a3 a5 a6 x13 h12))
set_option maxRecDepth 20000 in
theorem okl_216_123 {E : Nat → Nat} {d : Nat} {Q : Option Value → ZH → Prop} : ∀ (n : Nat) (a0 : Nat) (a1 : Int32) (a3 : Int32) (a5 : Int32) (a6 : Int32) (a7 : Int32) (h : ZH), wl_216_123 E d Q n a0 a1 a3 a5 a6 a7 h → Gx E (d + 1) 216 123 [.ref a0, .int a1, .retAddr 0, .int a3, .retAddr 0, .int a5, .int a6, .int a7, .retAddr 0] [] h Q := by
  intro n
  induction n with
  | zero => intro a0 a1 a3 a5 a6 a7 h hw; exact hw.elim
  | succ n ih =>
    intro a0 a1 a3 a5 a6 a7 h hw
    rw [wl_216_123] at hw
    refine zg_iload zi_216_123 rfl ?_
    refine zg_iload zi_216_124 rfl ?_
    refine zg_icmp_ge zi_216_125 (fun hc => ?_) (fun hc => ?_)
    · have hw := hw.1 hc
      exact Gx.forget (zrk (zrd (zrk (zrd (zrk (zrk (zrk (zrd (zrk zr0))))))))) (okb_216_170 hw)
    · have hw := hw.2 hc
      refine zg_aload zi_216_126 rfl ?_
      obtain ⟨t3, hw⟩ := hw
      obtain ⟨r4, er4, hw⟩ := hw
      refine zg_getR (v := .ref r4) zi_216_127 t3 (by rfl) (by show zrv (zR h a0 37) = _; rw [er4]; rfl) ?_
      refine zg_aload zi_216_128 rfl ?_
      refine zg_getI (v := .int (zI h a0 36)) zi_216_129 t3 (by rfl) rfl ?_
      refine zg_aload zi_216_130 rfl ?_
      obtain ⟨r5, er5, hw⟩ := hw
      refine zg_getR (v := .ref r5) zi_216_131 t3 (by rfl) (by show zrv (zR h a0 50) = _; rw [er5]; rfl) ?_
      refine zg_const (v := 48) zi_216_132 (by rfl) ?_
      refine zg_iload zi_216_133 rfl ?_
      refine zg_imul zi_216_134 ?_
      refine zg_iload zi_216_135 rfl ?_
      refine zg_iadd zi_216_136 ?_
      refine zg_const (v := 2) zi_216_137 (by rfl) ?_
      refine zg_iload zi_216_138 rfl ?_
      refine zg_imul zi_216_139 ?_
      refine zg_iadd zi_216_140 ?_
      obtain ⟨t6, hw⟩ := hw
      obtain ⟨hb, hw⟩ := hw
      refine zg_iaload (v := .int (zI h r5 (((48 * a1) + a3) + (2 * a7) : Int32).toNatClampNeg)) zi_216_141 t6 hb rfl ?_
      obtain ⟨t7, hw⟩ := hw
      obtain ⟨hb, hw⟩ := hw
      refine zg_iastore (h1 := zuI h r4 (zI h a0 36 : Int32).toNatClampNeg (zI h r5 (((48 * a1) + a3) + (2 * a7) : Int32).toNatClampNeg)) zi_216_142 t7 hb rfl ?_
      refine zg_nameH fun h8 eh8 => ?_
      have hw := hw h8 eh8
      refine zg_aload zi_216_143 rfl ?_
      obtain ⟨r9, er9, hw⟩ := hw
      refine zg_getR (v := .ref r9) zi_216_144 (by rw [eh8]; exact t3) (by rfl) (by show zrv (zR h8 a0 38) = _; rw [er9]; rfl) ?_
      refine zg_aload zi_216_145 rfl ?_
      refine zg_getI (v := .int (zI h8 a0 36)) zi_216_146 (by rw [eh8]; exact t3) (by rfl) rfl ?_
      refine zg_aload zi_216_147 rfl ?_
      refine zg_getR (v := .ref r5) zi_216_148 (by rw [eh8]; exact t3) (by rfl) (by rw [eh8]; show zrv (zR h a0 50) = _; rw [er5]; rfl) ?_
      refine zg_const (v := 48) zi_216_149 (by rfl) ?_
      refine zg_iload zi_216_150 rfl ?_
      refine zg_imul zi_216_151 ?_
      refine zg_iload zi_216_152 rfl ?_
      refine zg_iadd zi_216_153 ?_
      refine zg_const (v := 2) zi_216_154 (by rfl) ?_
      refine zg_iload zi_216_155 rfl ?_
      refine zg_imul zi_216_156 ?_
      refine zg_iadd zi_216_157 ?_
      refine zg_const (v := 1) zi_216_158 (by rfl) ?_
      refine zg_iadd zi_216_159 ?_
      obtain ⟨hb, hw⟩ := hw
      refine zg_iaload (v := .int (zI h8 r5 ((((48 * a1) + a3) + (2 * a7)) + 1 : Int32).toNatClampNeg)) zi_216_160 (by rw [eh8]; exact t6) hb rfl ?_
      obtain ⟨t10, hw⟩ := hw
      obtain ⟨hb, hw⟩ := hw
      refine zg_iastore (h1 := zuI h8 r9 (zI h8 a0 36 : Int32).toNatClampNeg (zI h8 r5 ((((48 * a1) + a3) + (2 * a7)) + 1 : Int32).toNatClampNeg)) zi_216_161 t10 hb rfl ?_
      refine zg_nameH fun h11 eh11 => ?_
      have hw := hw h11 eh11
      refine zg_aload zi_216_162 rfl ?_
      refine zg_dup zi_216_163 rfl ?_
      refine zg_getI (v := .int (zI h11 a0 36)) zi_216_164 (by rw [eh11, eh8]; exact t3) (by rfl) rfl ?_
      refine zg_const (v := 1) zi_216_165 (by rfl) ?_
      refine zg_iadd zi_216_166 ?_
      refine zg_putI (h1 := zuI h11 a0 36 ((zI h11 a0 36) + 1)) zi_216_167 (by rw [eh11, eh8]; exact t3) (by rfl) rfl ?_
      refine zg_nameH fun h12 eh12 => ?_
      have hw := hw h12 eh12
      obtain ⟨x13, ex13⟩ : ∃ x : Int32, x = a7 + 1 := ⟨_, rfl⟩
      have hw := hw x13 ex13
      refine zg_iinc (v := x13) (ls1 := [.ref a0, .int a1, .retAddr 0, .int a3, .retAddr 0, .int a5, .int a6, .int x13, .retAddr 0]) zi_216_168 rfl (by rw [ex13]; rfl) rfl ?_
      refine zg_goto zi_216_169 ?_
      exact ih a0 a1 a3 a5 a6 x13 h12 hw
def wl_216_26 (E : Nat → Nat) (d : Nat) (Q : Option Value → ZH → Prop) : Nat → Nat → Int32 → Int32 → Int32 → Int32 → Int32 → Int32 → Int32 → ZH → Prop
  | 0, _, _, _, _, _, _, _, _, _ => False
  | n + 1, a0, a1, a2, a3, a4, a5, a6, a7, h => ((2 * a4 : Int32) ≤ a7 → (∃ mm : Nat, wl_216_123 E d Q mm a0 a1 a3 a5 a6 0 h)) ∧ (¬ ((2 * a4 : Int32) ≤ a7) → ((¬ a5 = 0 → (∃ mm : Nat, wl_216_123 E d Q mm a0 a1 a3 a5 a6 0 h)) ∧ (¬ (¬ a5 = 0) → (ztag h a0 = 11 ∧ ∃ r15 : Nat, zR h a0 48 = r15 + 1 ∧ (ztag h r15 = 13 ∨ ztag h r15 = 19) ∧ zin a1 (zlen h r15) = true ∧ (((¬ (zI h r15 a1.toNatClampNeg : Int32) = ((-4) : Int32) → (zin a1 (zlen h r15) = true ∧ ((((zI h r15 a1.toNatClampNeg : Int32) = a2 → (¬ zR h a0 49 = 0 ∧ (ztag h (zR h a0 49 - 1) = 13 ∨ ztag h (zR h a0 49 - 1) = 19) ∧ zin a1 (zlen h (zR h a0 49 - 1)) = true ∧ 1 ≤ d ∧ sz_135 E h (a3.toInt64 + a7.toInt64) 0 (((zI h (zR h a0 49 - 1) a1.toNatClampNeg) - 1 : Int32).toInt64) ∧ True)) ∧ (¬ ((zI h r15 a1.toNatClampNeg : Int32) = a2) → (True))) ∧ True))) ∧ (¬ (¬ (zI h r15 a1.toNatClampNeg : Int32) = ((-4) : Int32)) → (True))) ∧ ∀ x18 : Int32, x18 = (if ¬ (zI h r15 a1.toNatClampNeg : Int32) = ((-4) : Int32) then if (zI h r15 a1.toNatClampNeg : Int32) = a2 then if ¬ (fz_135 E h (a3.toInt64 + a7.toInt64) 0 (((zI h (zR h a0 49 - 1) a1.toNatClampNeg) - 1 : Int32).toInt64) : Int32) = 0 then 0 else 2 else 3 else 1) → ((¬ x18 = 0 → (∀ x19 : Int32, x19 = (a7 + 1) → wl_216_26 E d Q n a0 a1 a2 a3 a4 x18 a6 x19 h)) ∧ (¬ (¬ x18 = 0) → ((¬ (a7 - a7 / 2 * 2 : Int32) = 1 → (∀ x20 : Int32, x20 = (a7 + 1) → wl_216_26 E d Q n a0 a1 a2 a3 a4 x18 a6 x20 h)) ∧ (¬ (¬ (a7 - a7 / 2 * 2 : Int32) = 1) → (∀ x21 : Int32, x21 = ((((48 * a1) + a3) + a7) - 1) → ∃ r22 : Nat, zR h a0 50 = r22 + 1 ∧ (ztag h r22 = 13 ∨ ztag h r22 = 19) ∧ zin x21 (zlen h r22) = true ∧ 1 ≤ d ∧ sz_135 E h ((zI h r22 x21.toNatClampNeg : Int32).toInt64) 0 2 ∧ (((fz_135 E h ((zI h r22 x21.toNatClampNeg : Int32).toInt64) 0 2 : Int32) = 0 → (Q (some (.int (((-20)) - a6))) h)) ∧ (¬ ((fz_135 E h ((zI h r22 x21.toNatClampNeg : Int32).toInt64) 0 2 : Int32) = 0) → (zin (x21 + 1) (zlen h r22) = true ∧ 1 ≤ d ∧ sz_135 E h ((zI h r22 (x21 + 1 : Int32).toNatClampNeg : Int32).toInt64) 0 9 ∧ ((¬ (fz_135 E h ((zI h r22 (x21 + 1 : Int32).toNatClampNeg : Int32).toInt64) 0 9 : Int32) = 0 → (1 ≤ d ∧ sz_152 E h a0 ∧ ((¬ ((zI h a0 36) + a6 : Int32) = (fz_152 E h a0 : Int32) → (∀ x24 : Int32, x24 = (a6 + 1) → ∀ x25 : Int32, x25 = (a7 + 1) → wl_216_26 E d Q n a0 a1 a2 a3 a4 x18 x24 x25 h)) ∧ (¬ (¬ ((zI h a0 36) + a6 : Int32) = (fz_152 E h a0 : Int32)) → (Q (some (.int ((-3)))) h))))) ∧ (¬ (¬ (fz_135 E h ((zI h r22 (x21 + 1 : Int32).toNatClampNeg : Int32).toInt64) 0 9 : Int32) = 0) → (Q (some (.int (((-20)) - a6))) h))))))))))))))))
set_option maxRecDepth 20000 in
theorem okl_216_26 {E : Nat → Nat} {d : Nat} {Q : Option Value → ZH → Prop} : ∀ (n : Nat) (a0 : Nat) (a1 : Int32) (a2 : Int32) (a3 : Int32) (a4 : Int32) (a5 : Int32) (a6 : Int32) (a7 : Int32) (h : ZH), wl_216_26 E d Q n a0 a1 a2 a3 a4 a5 a6 a7 h → Gx E (d + 1) 216 26 [.ref a0, .int a1, .int a2, .int a3, .int a4, .int a5, .int a6, .int a7, .retAddr 0] [] h Q := by
  intro n
  induction n with
  | zero => intro a0 a1 a2 a3 a4 a5 a6 a7 h hw; exact hw.elim
  | succ n ih =>
    intro a0 a1 a2 a3 a4 a5 a6 a7 h hw
    rw [wl_216_26] at hw
    refine zg_iload zi_216_26 rfl ?_
    refine zg_const (v := 2) zi_216_27 (by rfl) ?_
    refine zg_iload zi_216_28 rfl ?_
    refine zg_imul zi_216_29 ?_
    refine zg_icmp_ge zi_216_30 (fun hc => ?_) (fun hc => ?_)
    · have hw := hw.1 hc
      refine zg_const (v := 0) zi_216_121 (by rfl) ?_
      refine zg_istore (ls1 := [.ref a0, .int a1, .int a2, .int a3, .int a4, .int a5, .int a6, .int 0, .retAddr 0]) zi_216_122 (Nat.le_of_ble_eq_true rfl) rfl ?_
      obtain ⟨mm, hw⟩ := hw
      exact Gx.forget (zrk (zrk (zrd (zrk (zrd (zrk (zrk (zrk (zrk zr0))))))))) (okl_216_123 mm a0 a1 a3 a5 a6 0 h hw)
    · have hw := hw.2 hc
      refine zg_iload zi_216_31 rfl ?_
      refine zg_if_ne zi_216_32 (fun hc => ?_) (fun hc => ?_)
      · have hw := hw.1 hc
        refine zg_const (v := 0) zi_216_121 (by rfl) ?_
        refine zg_istore (ls1 := [.ref a0, .int a1, .int a2, .int a3, .int a4, .int a5, .int a6, .int 0, .retAddr 0]) zi_216_122 (Nat.le_of_ble_eq_true rfl) rfl ?_
        obtain ⟨mm, hw⟩ := hw
        exact Gx.forget (zrk (zrk (zrd (zrk (zrd (zrk (zrk (zrk (zrk zr0))))))))) (okl_216_123 mm a0 a1 a3 a5 a6 0 h hw)
      · have hw := hw.2 hc
        refine zg_aload zi_216_33 rfl ?_
        obtain ⟨t14, hw⟩ := hw
        obtain ⟨r15, er15, hw⟩ := hw
        refine zg_getR (v := .ref r15) zi_216_34 t14 (by rfl) (by show zrv (zR h a0 48) = _; rw [er15]; rfl) ?_
        refine zg_iload zi_216_35 rfl ?_
        obtain ⟨t16, hw⟩ := hw
        obtain ⟨hb, hw⟩ := hw
        refine zg_iaload (v := .int (zI h r15 a1.toNatClampNeg)) zi_216_36 t16 hb rfl ?_
        refine zg_const (v := (-4)) zi_216_37 (by rfl) ?_
        obtain ⟨hsd38, hw⟩ := hw
        have g38 : Gx E (d + 1) 216 67 [.ref a0, .int a1, .int a2, .int a3, .int a4, .int a5, .int a6, .int a7, .retAddr 0] [.int (if ¬ (zI h r15 a1.toNatClampNeg : Int32) = ((-4) : Int32) then if (zI h r15 a1.toNatClampNeg : Int32) = a2 then if ¬ (fz_135 E h (a3.toInt64 + a7.toInt64) 0 (((zI h (zR h a0 49 - 1) a1.toNatClampNeg) - 1 : Int32).toInt64) : Int32) = 0 then 0 else 2 else 3 else 1)] h Q := by
          refine zg_nameI fun x18 ex18 => ?_
          have hw := hw x18 ex18
          refine zg_istore (ls1 := [.ref a0, .int a1, .int a2, .int a3, .int a4, .int x18, .int a6, .int a7, .retAddr 0]) zi_216_67 (Nat.le_of_ble_eq_true rfl) rfl ?_
          refine zg_iload zi_216_68 rfl ?_
          refine zg_if_ne zi_216_69 (fun hc => ?_) (fun hc => ?_)
          · have hw := hw.1 hc
            obtain ⟨x19, ex19⟩ : ∃ x : Int32, x = a7 + 1 := ⟨_, rfl⟩
            have hw := hw x19 ex19
            refine zg_iinc (v := x19) (ls1 := [.ref a0, .int a1, .int a2, .int a3, .int a4, .int x18, .int a6, .int x19, .retAddr 0]) zi_216_119 rfl (by rw [ex19]; rfl) rfl ?_
            refine zg_goto zi_216_120 ?_
            exact ih a0 a1 a2 a3 a4 x18 a6 x19 h hw
          · have hw := hw.2 hc
            refine zg_iload zi_216_70 rfl ?_
            refine zg_const (v := 2) zi_216_71 (by rfl) ?_
            refine zg_irem zi_216_72 (by decide) ?_
            refine zg_const (v := 1) zi_216_73 (by rfl) ?_
            refine zg_icmp_ne zi_216_74 (fun hc => ?_) (fun hc => ?_)
            · have hw := hw.1 hc
              obtain ⟨x20, ex20⟩ : ∃ x : Int32, x = a7 + 1 := ⟨_, rfl⟩
              have hw := hw x20 ex20
              refine zg_iinc (v := x20) (ls1 := [.ref a0, .int a1, .int a2, .int a3, .int a4, .int x18, .int a6, .int x20, .retAddr 0]) zi_216_119 rfl (by rw [ex20]; rfl) rfl ?_
              refine zg_goto zi_216_120 ?_
              exact ih a0 a1 a2 a3 a4 x18 a6 x20 h hw
            · have hw := hw.2 hc
              refine zg_const (v := 48) zi_216_75 (by rfl) ?_
              refine zg_iload zi_216_76 rfl ?_
              refine zg_imul zi_216_77 ?_
              refine zg_iload zi_216_78 rfl ?_
              refine zg_iadd zi_216_79 ?_
              refine zg_iload zi_216_80 rfl ?_
              refine zg_iadd zi_216_81 ?_
              refine zg_const (v := 1) zi_216_82 (by rfl) ?_
              refine zg_isub zi_216_83 ?_
              refine zg_nameI fun x21 ex21 => ?_
              have hw := hw x21 ex21
              refine zg_istore (ls1 := [.ref a0, .int a1, .int a2, .int a3, .int a4, .int x18, .int a6, .int a7, .int x21]) zi_216_84 (Nat.le_of_ble_eq_true rfl) rfl ?_
              refine zg_aload zi_216_85 rfl ?_
              obtain ⟨r22, er22, hw⟩ := hw
              refine zg_getR (v := .ref r22) zi_216_86 t14 (by rfl) (by show zrv (zR h a0 50) = _; rw [er22]; rfl) ?_
              refine zg_iload zi_216_87 rfl ?_
              obtain ⟨t23, hw⟩ := hw
              obtain ⟨hb, hw⟩ := hw
              refine zg_iaload (v := .int (zI h r22 x21.toNatClampNeg)) zi_216_88 t23 hb rfl ?_
              refine zg_i2l zi_216_89 ?_
              refine zg_lconst (v := 0) zi_216_90 (by rfl) ?_
              refine zg_lconst (v := 2) zi_216_91 (by rfl) ?_
              obtain ⟨hd, hs, hw⟩ := hw
              refine Gx.call2 (as := [.long ((zI h r22 x21.toNatClampNeg : Int32).toInt64), .long 0, .long 2]) (rest := []) zq_135 zi_216_92 rfl rfl rfl (Nat.le_of_ble_eq_true rfl) (Nat.le_of_ble_eq_true rfl) (rfl) (Nat.le_of_ble_eq_true rfl) ?_
              refine cz_135 hd hs ?_
              show Gx E (d + 1) 216 93 [.ref a0, .int a1, .int a2, .int a3, .int a4, .int x18, .int a6, .int a7, .int x21] [.int (fz_135 E h ((zI h r22 x21.toNatClampNeg : Int32).toInt64) 0 2)] h Q
              refine zg_if_eq zi_216_93 (fun hc => ?_) (fun hc => ?_)
              · have hw := hw.1 hc
                refine zg_const (v := (-20)) zi_216_105 (by rfl) ?_
                refine zg_iload zi_216_106 rfl ?_
                refine zg_isub zi_216_107 ?_
                exact zg_ireturn zi_216_108 (by decide) hw
              · have hw := hw.2 hc
                refine zg_aload zi_216_94 rfl ?_
                refine zg_getR (v := .ref r22) zi_216_95 t14 (by rfl) (by show zrv (zR h a0 50) = _; rw [er22]; rfl) ?_
                refine zg_iload zi_216_96 rfl ?_
                refine zg_const (v := 1) zi_216_97 (by rfl) ?_
                refine zg_iadd zi_216_98 ?_
                obtain ⟨hb, hw⟩ := hw
                refine zg_iaload (v := .int (zI h r22 (x21 + 1 : Int32).toNatClampNeg)) zi_216_99 t23 hb rfl ?_
                refine zg_i2l zi_216_100 ?_
                refine zg_lconst (v := 0) zi_216_101 (by rfl) ?_
                refine zg_lconst (v := 9) zi_216_102 (by rfl) ?_
                obtain ⟨hd, hs, hw⟩ := hw
                refine Gx.call2 (as := [.long ((zI h r22 (x21 + 1 : Int32).toNatClampNeg : Int32).toInt64), .long 0, .long 9]) (rest := []) zq_135 zi_216_103 rfl rfl rfl (Nat.le_of_ble_eq_true rfl) (Nat.le_of_ble_eq_true rfl) (rfl) (Nat.le_of_ble_eq_true rfl) ?_
                refine cz_135 hd hs ?_
                show Gx E (d + 1) 216 104 [.ref a0, .int a1, .int a2, .int a3, .int a4, .int x18, .int a6, .int a7, .int x21] [.int (fz_135 E h ((zI h r22 (x21 + 1 : Int32).toNatClampNeg : Int32).toInt64) 0 9)] h Q
                refine zg_if_ne zi_216_104 (fun hc => ?_) (fun hc => ?_)
                · have hw := hw.1 hc
                  refine zg_aload zi_216_109 rfl ?_
                  refine zg_getI (v := .int (zI h a0 36)) zi_216_110 t14 (by rfl) rfl ?_
                  refine zg_iload zi_216_111 rfl ?_
                  refine zg_iadd zi_216_112 ?_
                  refine zg_aload zi_216_113 rfl ?_
                  obtain ⟨hd, hs, hw⟩ := hw
                  refine Gx.call2 (as := [.ref a0]) (rest := [.int ((zI h a0 36) + a6)]) zq_152 zi_216_114 rfl rfl rfl (Nat.le_of_ble_eq_true rfl) (Nat.le_of_ble_eq_true rfl) (zrv_v t14 rfl rfl) (Nat.le_of_ble_eq_true rfl) ?_
                  refine cz_152 hd hs ?_
                  show Gx E (d + 1) 216 115 [.ref a0, .int a1, .int a2, .int a3, .int a4, .int x18, .int a6, .int a7, .int x21] [.int (fz_152 E h a0), .int ((zI h a0 36) + a6)] h Q
                  refine zg_icmp_ne zi_216_115 (fun hc => ?_) (fun hc => ?_)
                  · have hw := hw.1 hc
                    obtain ⟨x24, ex24⟩ : ∃ x : Int32, x = a6 + 1 := ⟨_, rfl⟩
                    have hw := hw x24 ex24
                    refine zg_iinc (v := x24) (ls1 := [.ref a0, .int a1, .int a2, .int a3, .int a4, .int x18, .int x24, .int a7, .int x21]) zi_216_118 rfl (by rw [ex24]; rfl) rfl ?_
                    obtain ⟨x25, ex25⟩ : ∃ x : Int32, x = a7 + 1 := ⟨_, rfl⟩
                    have hw := hw x25 ex25
                    refine zg_iinc (v := x25) (ls1 := [.ref a0, .int a1, .int a2, .int a3, .int a4, .int x18, .int x24, .int x25, .int x21]) zi_216_119 rfl (by rw [ex25]; rfl) rfl ?_
                    refine zg_goto zi_216_120 ?_
                    exact Gx.forget (zrk (zrk (zrk (zrk (zrk (zrk (zrk (zrk (zrd zr0))))))))) (ih a0 a1 a2 a3 a4 x18 x24 x25 h hw)
                  · have hw := hw.2 hc
                    refine zg_const (v := (-3)) zi_216_116 (by rfl) ?_
                    exact zg_ireturn zi_216_117 (by decide) hw
                · have hw := hw.2 hc
                  refine zg_const (v := (-20)) zi_216_105 (by rfl) ?_
                  refine zg_iload zi_216_106 rfl ?_
                  refine zg_isub zi_216_107 ?_
                  exact zg_ireturn zi_216_108 (by decide) hw
        refine zg_icmp_ne zi_216_38 (fun hc38 => ?_) (fun hc38 => ?_)
        · have hw := hsd38.1 hc38
          refine zg_aload zi_216_41 rfl ?_
          refine zg_getR (v := .ref r15) zi_216_42 t14 (by rfl) (by show zrv (zR h a0 48) = _; rw [er15]; rfl) ?_
          refine zg_iload zi_216_43 rfl ?_
          obtain ⟨hb, hw⟩ := hw
          refine zg_iaload (v := .int (zI h r15 a1.toNatClampNeg)) zi_216_44 t16 hb rfl ?_
          refine zg_iload zi_216_45 rfl ?_
          obtain ⟨hsd46, hw⟩ := hw
          have g46 : Gx E (d + 1) 216 67 [.ref a0, .int a1, .int a2, .int a3, .int a4, .int a5, .int a6, .int a7, .retAddr 0] [.int (if (zI h r15 a1.toNatClampNeg : Int32) = a2 then if ¬ (fz_135 E h (a3.toInt64 + a7.toInt64) 0 (((zI h (zR h a0 49 - 1) a1.toNatClampNeg) - 1 : Int32).toInt64) : Int32) = 0 then 0 else 2 else 3)] h Q := by
            have hg := g38
            simp only [if_pos hc38] at hg
            exact hg
          refine zg_icmp_eq zi_216_46 (fun hc46 => ?_) (fun hc46 => ?_)
          · have hw := hsd46.1 hc46
            refine zg_iload zi_216_49 rfl ?_
            refine zg_i2l zi_216_50 ?_
            refine zg_iload zi_216_51 rfl ?_
            refine zg_i2l zi_216_52 ?_
            refine zg_ladd zi_216_53 ?_
            refine zg_lconst (v := 0) zi_216_54 (by rfl) ?_
            refine zg_aload zi_216_55 rfl ?_
            obtain ⟨hr, hw⟩ := hw
            refine zg_getR (v := .ref (zR h a0 49 - 1)) zi_216_56 t14 (by rfl) (zrv_p hr) ?_
            refine zg_iload zi_216_57 rfl ?_
            obtain ⟨t17, hw⟩ := hw
            obtain ⟨hb, hw⟩ := hw
            refine zg_iaload (v := .int (zI h (zR h a0 49 - 1) a1.toNatClampNeg)) zi_216_58 t17 hb rfl ?_
            refine zg_const (v := 1) zi_216_59 (by rfl) ?_
            refine zg_isub zi_216_60 ?_
            refine zg_i2l zi_216_61 ?_
            obtain ⟨hd, hs, hw⟩ := hw
            refine Gx.call2 (as := [.long (a3.toInt64 + a7.toInt64), .long 0, .long (((zI h (zR h a0 49 - 1) a1.toNatClampNeg) - 1 : Int32).toInt64)]) (rest := []) zq_135 zi_216_62 rfl rfl rfl (Nat.le_of_ble_eq_true rfl) (Nat.le_of_ble_eq_true rfl) (rfl) (Nat.le_of_ble_eq_true rfl) ?_
            refine cz_135 hd hs ?_
            show Gx E (d + 1) 216 63 [.ref a0, .int a1, .int a2, .int a3, .int a4, .int a5, .int a6, .int a7, .retAddr 0] [.int (fz_135 E h (a3.toInt64 + a7.toInt64) 0 (((zI h (zR h a0 49 - 1) a1.toNatClampNeg) - 1 : Int32).toInt64))] h Q
            have g63 : Gx E (d + 1) 216 67 [.ref a0, .int a1, .int a2, .int a3, .int a4, .int a5, .int a6, .int a7, .retAddr 0] [.int (if ¬ (fz_135 E h (a3.toInt64 + a7.toInt64) 0 (((zI h (zR h a0 49 - 1) a1.toNatClampNeg) - 1 : Int32).toInt64) : Int32) = 0 then 0 else 2)] h Q := by
              have hg := g46
              simp only [if_pos hc46] at hg
              exact hg
            refine zg_if_ne zi_216_63 (fun hc63 => ?_) (fun hc63 => ?_)
            · skip
              refine zg_const (v := 0) zi_216_66 (by rfl) ?_
              have hg := g63
              simp only [if_pos hc63] at hg
              exact hg
            · skip
              refine zg_const (v := 2) zi_216_64 (by rfl) ?_
              refine zg_goto zi_216_65 ?_
              have hg := g63
              simp only [if_neg hc63] at hg
              exact hg
          · have hw := hsd46.2 hc46
            refine zg_const (v := 3) zi_216_47 (by rfl) ?_
            refine zg_goto zi_216_48 ?_
            have hg := g46
            simp only [if_neg hc46] at hg
            exact hg
        · have hw := hsd38.2 hc38
          refine zg_const (v := 1) zi_216_39 (by rfl) ?_
          refine zg_goto zi_216_40 ?_
          have hg := g38
          simp only [if_neg hc38] at hg
          exact hg
/-- TakeOrPayModel.read(IIII)I -/
def w_216 (E : Nat → Nat) (d : Nat) (a0 : Nat) (a1 : Int32) (a2 : Int32) (a3 : Int32) (a4 : Int32) (h : ZH) (Q : Option Value → ZH → Prop) : Prop := 1 ≤ d ∧ sz_135 E h a1.toInt64 0 3 ∧ (((fz_135 E h a1.toInt64 0 3 : Int32) = 0 → (Q (some (.int ((-1)))) h)) ∧ (¬ ((fz_135 E h a1.toInt64 0 3 : Int32) = 0) → (1 ≤ d ∧ sz_135 E h a2.toInt64 0 2 ∧ (((fz_135 E h a2.toInt64 0 2 : Int32) = 0 → (Q (some (.int ((-1)))) h)) ∧ (¬ ((fz_135 E h a2.toInt64 0 2 : Int32) = 0) → (1 ≤ d ∧ sz_135 E h a4.toInt64 0 20 ∧ ((¬ (fz_135 E h a4.toInt64 0 20 : Int32) = 0 → (∃ mm : Nat, wl_216_26 E d Q mm a0 a1 a2 a3 a4 0 0 0 h)) ∧ (¬ (¬ (fz_135 E h a4.toInt64 0 20 : Int32) = 0) → (Q (some (.int ((-1)))) h)))))))))
set_option maxRecDepth 20000 in
theorem ok_216 {E : Nat → Nat} {d : Nat} {a0 : Nat} {a1 : Int32} {a2 : Int32} {a3 : Int32} {a4 : Int32} {h : ZH} {Q : Option Value → ZH → Prop} (hw : w_216 E d a0 a1 a2 a3 a4 h Q) : Ct E (d + 1) 216 [.ref a0, .int a1, .int a2, .int a3, .int a4] h Q := by
  unfold w_216 at hw
  show Gx E (d + 1) 216 0 [.ref a0, .int a1, .int a2, .int a3, .int a4, .retAddr 0, .retAddr 0, .retAddr 0, .retAddr 0] [] h Q
  refine zg_iload zi_216_0 rfl ?_
  refine zg_i2l zi_216_1 ?_
  refine zg_lconst (v := 0) zi_216_2 (by rfl) ?_
  refine zg_lconst (v := 3) zi_216_3 (by rfl) ?_
  obtain ⟨hd, hs, hw⟩ := hw
  refine Gx.call2 (as := [.long a1.toInt64, .long 0, .long 3]) (rest := []) zq_135 zi_216_4 rfl rfl rfl (Nat.le_of_ble_eq_true rfl) (Nat.le_of_ble_eq_true rfl) (rfl) (Nat.le_of_ble_eq_true rfl) ?_
  refine cz_135 hd hs ?_
  show Gx E (d + 1) 216 5 [.ref a0, .int a1, .int a2, .int a3, .int a4, .retAddr 0, .retAddr 0, .retAddr 0, .retAddr 0] [.int (fz_135 E h a1.toInt64 0 3)] h Q
  refine zg_if_eq zi_216_5 (fun hc => ?_) (fun hc => ?_)
  · have hw := hw.1 hc
    refine zg_const (v := (-1)) zi_216_18 (by rfl) ?_
    exact zg_ireturn zi_216_19 (by decide) hw
  · have hw := hw.2 hc
    refine zg_iload zi_216_6 rfl ?_
    refine zg_i2l zi_216_7 ?_
    refine zg_lconst (v := 0) zi_216_8 (by rfl) ?_
    refine zg_lconst (v := 2) zi_216_9 (by rfl) ?_
    obtain ⟨hd, hs, hw⟩ := hw
    refine Gx.call2 (as := [.long a2.toInt64, .long 0, .long 2]) (rest := []) zq_135 zi_216_10 rfl rfl rfl (Nat.le_of_ble_eq_true rfl) (Nat.le_of_ble_eq_true rfl) (rfl) (Nat.le_of_ble_eq_true rfl) ?_
    refine cz_135 hd hs ?_
    show Gx E (d + 1) 216 11 [.ref a0, .int a1, .int a2, .int a3, .int a4, .retAddr 0, .retAddr 0, .retAddr 0, .retAddr 0] [.int (fz_135 E h a2.toInt64 0 2)] h Q
    refine zg_if_eq zi_216_11 (fun hc => ?_) (fun hc => ?_)
    · have hw := hw.1 hc
      refine zg_const (v := (-1)) zi_216_18 (by rfl) ?_
      exact zg_ireturn zi_216_19 (by decide) hw
    · have hw := hw.2 hc
      refine zg_iload zi_216_12 rfl ?_
      refine zg_i2l zi_216_13 ?_
      refine zg_lconst (v := 0) zi_216_14 (by rfl) ?_
      refine zg_lconst (v := 20) zi_216_15 (by rfl) ?_
      obtain ⟨hd, hs, hw⟩ := hw
      refine Gx.call2 (as := [.long a4.toInt64, .long 0, .long 20]) (rest := []) zq_135 zi_216_16 rfl rfl rfl (Nat.le_of_ble_eq_true rfl) (Nat.le_of_ble_eq_true rfl) (rfl) (Nat.le_of_ble_eq_true rfl) ?_
      refine cz_135 hd hs ?_
      show Gx E (d + 1) 216 17 [.ref a0, .int a1, .int a2, .int a3, .int a4, .retAddr 0, .retAddr 0, .retAddr 0, .retAddr 0] [.int (fz_135 E h a4.toInt64 0 20)] h Q
      refine zg_if_ne zi_216_17 (fun hc => ?_) (fun hc => ?_)
      · have hw := hw.1 hc
        refine zg_const (v := 0) zi_216_20 (by rfl) ?_
        refine zg_istore (ls1 := [.ref a0, .int a1, .int a2, .int a3, .int a4, .int 0, .retAddr 0, .retAddr 0, .retAddr 0]) zi_216_21 (Nat.le_of_ble_eq_true rfl) rfl ?_
        refine zg_const (v := 0) zi_216_22 (by rfl) ?_
        refine zg_istore (ls1 := [.ref a0, .int a1, .int a2, .int a3, .int a4, .int 0, .int 0, .retAddr 0, .retAddr 0]) zi_216_23 (Nat.le_of_ble_eq_true rfl) rfl ?_
        refine zg_const (v := 0) zi_216_24 (by rfl) ?_
        refine zg_istore (ls1 := [.ref a0, .int a1, .int a2, .int a3, .int a4, .int 0, .int 0, .int 0, .retAddr 0]) zi_216_25 (Nat.le_of_ble_eq_true rfl) rfl ?_
        obtain ⟨mm, hw⟩ := hw
        exact okl_216_26 mm a0 a1 a2 a3 a4 0 0 0 h hw
      · have hw := hw.2 hc
        refine zg_const (v := (-1)) zi_216_18 (by rfl) ?_
        exact zg_ireturn zi_216_19 (by decide) hw
theorem zq_217 : zQ 217 1 1 11 := by unfold zQ; decide +kernel
theorem zi_217_0 : (zM 217).1[0]? = some (.aload 0) := by rfl
theorem zi_217_1 : (zM 217).1[1]? = some (.getfield 11051) := by rfl
theorem zi_217_2 : (zM 217).1[2]? = some (.ireturn) := by rfl
/-- TakeOrPayModel.torn()I -/
def w_217 (E : Nat → Nat) (d : Nat) (a0 : Nat) (h : ZH) (Q : Option Value → ZH → Prop) : Prop := ztag h a0 = 11 ∧ Q (some (.int (zI h a0 51))) h
set_option maxRecDepth 20000 in
theorem ok_217 {E : Nat → Nat} {d : Nat} {a0 : Nat} {h : ZH} {Q : Option Value → ZH → Prop} (hw : w_217 E d a0 h Q) : Ct E (d + 1) 217 [.ref a0] h Q := by
  unfold w_217 at hw
  show Gx E (d + 1) 217 0 [.ref a0] [] h Q
  refine zg_aload zi_217_0 rfl ?_
  obtain ⟨t1, hw⟩ := hw
  refine zg_getI (v := .int (zI h a0 51)) zi_217_1 t1 (by rfl) rfl ?_
  exact zg_ireturn zi_217_2 (by decide) hw
def fz_217 (E : Nat → Nat) (h : ZH) (a0 : Nat) : Int32 := zI h a0 51
def sz_217 (E : Nat → Nat) (h : ZH) (a0 : Nat) : Prop := ztag h a0 = 11 ∧ True
set_option maxRecDepth 20000 in
theorem cz_217 {E : Nat → Nat} {d : Nat} {a0 : Nat} {h : ZH} {Q : Option Value → ZH → Prop} (hd : 1 ≤ d) (hs : sz_217 E h a0) (hq : Q (some (.int (fz_217 E h a0))) h) : Ct E d 217 [.ref a0] h Q := by
  obtain ⟨d, rfl⟩ : ∃ n, d = n + 1 := ⟨d - 1, by omega⟩
  refine ok_217 ?_
  unfold w_217
  unfold sz_217 at hs
  unfold fz_217 at hq
  refine ⟨hs.1, ?_⟩
  have hs := hs.2
  exact hq
theorem zq_218 : zQ 218 2 4 11 := by unfold zQ; decide +kernel
theorem zi_218_0 : (zM 218).1[0]? = some (.iconst 0) := by rfl
theorem zi_218_1 : (zM 218).1[1]? = some (.istore 2) := by rfl
theorem zi_218_2 : (zM 218).1[2]? = some (.iconst 0) := by rfl
theorem zi_218_3 : (zM 218).1[3]? = some (.istore 3) := by rfl
theorem zi_218_4 : (zM 218).1[4]? = some (.iload 3) := by rfl
theorem zi_218_5 : (zM 218).1[5]? = some (.aload 0) := by rfl
theorem zi_218_6 : (zM 218).1[6]? = some (.invokevirtual 152) := by rfl
theorem zi_218_7 : (zM 218).1[7]? = some (.if_icmp .ge ((22 : Nat) : Int)) := by rfl
theorem zi_218_8 : (zM 218).1[8]? = some (.iload 2) := by rfl
theorem zi_218_9 : (zM 218).1[9]? = some (.aload 0) := by rfl
theorem zi_218_10 : (zM 218).1[10]? = some (.getfield 11220) := by rfl
theorem zi_218_11 : (zM 218).1[11]? = some (.iload 3) := by rfl
theorem zi_218_12 : (zM 218).1[12]? = some (.iaload) := by rfl
theorem zi_218_13 : (zM 218).1[13]? = some (.iconst (-4)) := by rfl
theorem zi_218_14 : (zM 218).1[14]? = some (.if_icmp .ne ((17 : Nat) : Int)) := by rfl
theorem zi_218_15 : (zM 218).1[15]? = some (.iconst 0) := by rfl
theorem zi_218_16 : (zM 218).1[16]? = some (.goto ((18 : Nat) : Int)) := by rfl
theorem zi_218_17 : (zM 218).1[17]? = some (.iconst 1) := by rfl
theorem zi_218_18 : (zM 218).1[18]? = some (.iadd) := by rfl
theorem zi_218_19 : (zM 218).1[19]? = some (.istore 2) := by rfl
theorem zi_218_20 : (zM 218).1[20]? = some (.iinc 3 1) := by rfl
theorem zi_218_21 : (zM 218).1[21]? = some (.goto ((4 : Nat) : Int)) := by rfl
theorem zi_218_22 : (zM 218).1[22]? = some (.iload 1) := by rfl
theorem zi_218_23 : (zM 218).1[23]? = some (.tableswitch 48 0 4 #[24, 27, 29, 32, 35]) := by rfl
theorem zi_218_24 : (zM 218).1[24]? = some (.aload 0) := by rfl
theorem zi_218_25 : (zM 218).1[25]? = some (.invokevirtual 152) := by rfl
theorem zi_218_26 : (zM 218).1[26]? = some (.ireturn) := by rfl
theorem zi_218_27 : (zM 218).1[27]? = some (.iload 2) := by rfl
theorem zi_218_28 : (zM 218).1[28]? = some (.ireturn) := by rfl
theorem zi_218_29 : (zM 218).1[29]? = some (.aload 0) := by rfl
theorem zi_218_30 : (zM 218).1[30]? = some (.getfield 11036) := by rfl
theorem zi_218_31 : (zM 218).1[31]? = some (.ireturn) := by rfl
theorem zi_218_32 : (zM 218).1[32]? = some (.aload 0) := by rfl
theorem zi_218_33 : (zM 218).1[33]? = some (.getfield 11001) := by rfl
theorem zi_218_34 : (zM 218).1[34]? = some (.ireturn) := by rfl
theorem zi_218_35 : (zM 218).1[35]? = some (.aload 0) := by rfl
theorem zi_218_36 : (zM 218).1[36]? = some (.getfield 11248) := by rfl
theorem zi_218_37 : (zM 218).1[37]? = some (.iconst 0) := by rfl
theorem zi_218_38 : (zM 218).1[38]? = some (.iaload) := by rfl
theorem zi_218_39 : (zM 218).1[39]? = some (.iconst (-4)) := by rfl
theorem zi_218_40 : (zM 218).1[40]? = some (.if_icmp .ne ((43 : Nat) : Int)) := by rfl
theorem zi_218_41 : (zM 218).1[41]? = some (.iconst (-4)) := by rfl
theorem zi_218_42 : (zM 218).1[42]? = some (.goto ((47 : Nat) : Int)) := by rfl
theorem zi_218_43 : (zM 218).1[43]? = some (.aload 0) := by rfl
theorem zi_218_44 : (zM 218).1[44]? = some (.getfield 11249) := by rfl
theorem zi_218_45 : (zM 218).1[45]? = some (.iconst 0) := by rfl
theorem zi_218_46 : (zM 218).1[46]? = some (.iaload) := by rfl
theorem zi_218_47 : (zM 218).1[47]? = some (.ireturn) := by rfl
theorem zi_218_48 : (zM 218).1[48]? = some (.iconst (-1)) := by rfl
theorem zi_218_49 : (zM 218).1[49]? = some (.ireturn) := by rfl
set_option maxRecDepth 20000 in
theorem zsl_218_23 : ∀ z : Int, ¬ (z < 0 ∨ 4 < z) → ¬ z = 0 → ¬ z = 1 → ¬ z = 2 → ¬ z = 3 →  z = 4 := by intros; omega
def wb_218_22 (E : Nat → Nat) (d : Nat) (Q : Option Value → ZH → Prop) (a0 : Nat) (a1 : Int32) (a2 : Int32) (h : ZH) : Prop := ((a1.toInt < 0 ∨ 4 < a1.toInt) → (Q (some (.int ((-1)))) h)) ∧ (a1.toInt = 0 → (ztag h a0 = 11 ∧ 1 ≤ d ∧ sz_152 E h a0 ∧ Q (some (.int (fz_152 E h a0))) h)) ∧ (a1.toInt = 1 → (Q (some (.int a2)) h)) ∧ (a1.toInt = 2 → (ztag h a0 = 11 ∧ Q (some (.int (zI h a0 36))) h)) ∧ (a1.toInt = 3 → (ztag h a0 = 11 ∧ Q (some (.int (zI h a0 1))) h)) ∧ (a1.toInt = 4 → (ztag h a0 = 11 ∧ ∃ r6 : Nat, zR h a0 48 = r6 + 1 ∧ (ztag h r6 = 13 ∨ ztag h r6 = 19) ∧ zin 0 (zlen h r6) = true ∧ (((¬ (zI h r6 0 : Int32) = ((-4) : Int32) → (¬ zR h a0 49 = 0 ∧ (ztag h (zR h a0 49 - 1) = 13 ∨ ztag h (zR h a0 49 - 1) = 19) ∧ zin 0 (zlen h (zR h a0 49 - 1)) = true ∧ True)) ∧ (¬ (¬ (zI h r6 0 : Int32) = ((-4) : Int32)) → (True))) ∧ Q (some (.int (if ¬ (zI h r6 0 : Int32) = ((-4) : Int32) then zI h (zR h a0 49 - 1) 0 else (-4)))) h)))
set_option maxRecDepth 20000 in
theorem okb_218_22 {E : Nat → Nat} {d : Nat} {Q : Option Value → ZH → Prop} {a0 : Nat} {a1 : Int32} {a2 : Int32} {h : ZH} (hw : wb_218_22 E d Q a0 a1 a2 h) : Gx E (d + 1) 218 22 [.ref a0, .int a1, .int a2, .retAddr 0] [] h Q := by
  unfold wb_218_22 at hw
  refine zg_iload zi_218_22 rfl ?_
  by_cases ho : a1.toInt < 0 ∨ 4 < a1.toInt
  · have hw := hw.1 ho
    refine zg_switch (t := 48) zi_218_23 (by unfold zsw; rw [if_pos ho]; rfl) ?_
    refine zg_const (v := (-1)) zi_218_48 (by rfl) ?_
    exact zg_ireturn zi_218_49 (by decide) hw
  have hw := hw.2
  by_cases hv0 : a1.toInt = 0
  · have hw := hw.1 hv0
    refine zg_switch (t := 24) zi_218_23 (by rw [hv0]; rfl) ?_
    refine zg_aload zi_218_24 rfl ?_
    obtain ⟨t2, hw⟩ := hw
    obtain ⟨hd, hs, hw⟩ := hw
    refine Gx.call2 (as := [.ref a0]) (rest := []) zq_152 zi_218_25 rfl rfl rfl (Nat.le_of_ble_eq_true rfl) (Nat.le_of_ble_eq_true rfl) (zrv_v t2 rfl rfl) (Nat.le_of_ble_eq_true rfl) ?_
    refine cz_152 hd hs ?_
    show Gx E (d + 1) 218 26 [.ref a0, .int a1, .int a2, .retAddr 0] [.int (fz_152 E h a0)] h Q
    exact zg_ireturn zi_218_26 (by decide) hw
  have hw := hw.2
  by_cases hv1 : a1.toInt = 1
  · have hw := hw.1 hv1
    refine zg_switch (t := 27) zi_218_23 (by rw [hv1]; rfl) ?_
    refine zg_iload zi_218_27 rfl ?_
    exact zg_ireturn zi_218_28 (by decide) hw
  have hw := hw.2
  by_cases hv2 : a1.toInt = 2
  · have hw := hw.1 hv2
    refine zg_switch (t := 29) zi_218_23 (by rw [hv2]; rfl) ?_
    refine zg_aload zi_218_29 rfl ?_
    obtain ⟨t3, hw⟩ := hw
    refine zg_getI (v := .int (zI h a0 36)) zi_218_30 t3 (by rfl) rfl ?_
    exact zg_ireturn zi_218_31 (by decide) hw
  have hw := hw.2
  by_cases hv3 : a1.toInt = 3
  · have hw := hw.1 hv3
    refine zg_switch (t := 32) zi_218_23 (by rw [hv3]; rfl) ?_
    refine zg_aload zi_218_32 rfl ?_
    obtain ⟨t4, hw⟩ := hw
    refine zg_getI (v := .int (zI h a0 1)) zi_218_33 t4 (by rfl) rfl ?_
    exact zg_ireturn zi_218_34 (by decide) hw
  have hw := hw.2
  have hv4 : a1.toInt = 4 := zsl_218_23 _ ho hv0 hv1 hv2 hv3
  have hw := hw hv4
  refine zg_switch (t := 35) zi_218_23 (by rw [hv4]; rfl) ?_
  refine zg_aload zi_218_35 rfl ?_
  obtain ⟨t5, hw⟩ := hw
  obtain ⟨r6, er6, hw⟩ := hw
  refine zg_getR (v := .ref r6) zi_218_36 t5 (by rfl) (by show zrv (zR h a0 48) = _; rw [er6]; rfl) ?_
  refine zg_const (v := 0) zi_218_37 (by rfl) ?_
  obtain ⟨t7, hw⟩ := hw
  obtain ⟨hb, hw⟩ := hw
  refine zg_iaload (v := .int (zI h r6 0)) zi_218_38 t7 hb rfl ?_
  refine zg_const (v := (-4)) zi_218_39 (by rfl) ?_
  obtain ⟨hsd40, hw⟩ := hw
  have g40 : Gx E (d + 1) 218 47 [.ref a0, .int a1, .int a2, .retAddr 0] [.int (if ¬ (zI h r6 0 : Int32) = ((-4) : Int32) then zI h (zR h a0 49 - 1) 0 else (-4))] h Q := by
    exact zg_ireturn zi_218_47 (by decide) hw
  refine zg_icmp_ne zi_218_40 (fun hc40 => ?_) (fun hc40 => ?_)
  · have hw := hsd40.1 hc40
    refine zg_aload zi_218_43 rfl ?_
    obtain ⟨hr, hw⟩ := hw
    refine zg_getR (v := .ref (zR h a0 49 - 1)) zi_218_44 t5 (by rfl) (zrv_p hr) ?_
    refine zg_const (v := 0) zi_218_45 (by rfl) ?_
    obtain ⟨t8, hw⟩ := hw
    obtain ⟨hb, hw⟩ := hw
    refine zg_iaload (v := .int (zI h (zR h a0 49 - 1) 0)) zi_218_46 t8 hb rfl ?_
    have hg := g40
    simp only [if_pos hc40] at hg
    exact hg
  · have hw := hsd40.2 hc40
    refine zg_const (v := (-4)) zi_218_41 (by rfl) ?_
    refine zg_goto zi_218_42 ?_
    have hg := g40
    simp only [if_neg hc40] at hg
    exact hg
def wl_218_4 (E : Nat → Nat) (d : Nat) (Q : Option Value → ZH → Prop) : Nat → Nat → Int32 → Int32 → Int32 → ZH → Prop
  | 0, _, _, _, _, _ => False
  | n + 1, a0, a1, a2, a3, h => ztag h a0 = 11 ∧ 1 ≤ d ∧ sz_152 E h a0 ∧ (((fz_152 E h a0 : Int32) ≤ a3 → (wb_218_22 E d Q a0 a1 a2 h)) ∧ (¬ ((fz_152 E h a0 : Int32) ≤ a3) → (∃ r9 : Nat, zR h a0 20 = r9 + 1 ∧ (ztag h r9 = 13 ∨ ztag h r9 = 19) ∧ zin a3 (zlen h r9) = true ∧ ∀ x11 : Int32, x11 = (a2 + (if ¬ (zI h r9 a3.toNatClampNeg : Int32) = ((-4) : Int32) then 1 else 0)) → ∀ x12 : Int32, x12 = (a3 + 1) → wl_218_4 E d Q n a0 a1 x11 x12 h)))
set_option maxRecDepth 20000 in
theorem okl_218_4 {E : Nat → Nat} {d : Nat} {Q : Option Value → ZH → Prop} : ∀ (n : Nat) (a0 : Nat) (a1 : Int32) (a2 : Int32) (a3 : Int32) (h : ZH), wl_218_4 E d Q n a0 a1 a2 a3 h → Gx E (d + 1) 218 4 [.ref a0, .int a1, .int a2, .int a3] [] h Q := by
  intro n
  induction n with
  | zero => intro a0 a1 a2 a3 h hw; exact hw.elim
  | succ n ih =>
    intro a0 a1 a2 a3 h hw
    rw [wl_218_4] at hw
    refine zg_iload zi_218_4 rfl ?_
    refine zg_aload zi_218_5 rfl ?_
    obtain ⟨t1, hw⟩ := hw
    obtain ⟨hd, hs, hw⟩ := hw
    refine Gx.call2 (as := [.ref a0]) (rest := [.int a3]) zq_152 zi_218_6 rfl rfl rfl (Nat.le_of_ble_eq_true rfl) (Nat.le_of_ble_eq_true rfl) (zrv_v t1 rfl rfl) (Nat.le_of_ble_eq_true rfl) ?_
    refine cz_152 hd hs ?_
    show Gx E (d + 1) 218 7 [.ref a0, .int a1, .int a2, .int a3] [.int (fz_152 E h a0), .int a3] h Q
    refine zg_icmp_ge zi_218_7 (fun hc => ?_) (fun hc => ?_)
    · have hw := hw.1 hc
      exact Gx.forget (zrk (zrk (zrk (zrd zr0)))) (okb_218_22 hw)
    · have hw := hw.2 hc
      refine zg_iload zi_218_8 rfl ?_
      refine zg_aload zi_218_9 rfl ?_
      obtain ⟨r9, er9, hw⟩ := hw
      refine zg_getR (v := .ref r9) zi_218_10 t1 (by rfl) (by show zrv (zR h a0 20) = _; rw [er9]; rfl) ?_
      refine zg_iload zi_218_11 rfl ?_
      obtain ⟨t10, hw⟩ := hw
      obtain ⟨hb, hw⟩ := hw
      refine zg_iaload (v := .int (zI h r9 a3.toNatClampNeg)) zi_218_12 t10 hb rfl ?_
      refine zg_const (v := (-4)) zi_218_13 (by rfl) ?_
      have g14 : Gx E (d + 1) 218 18 [.ref a0, .int a1, .int a2, .int a3] [.int (if ¬ (zI h r9 a3.toNatClampNeg : Int32) = ((-4) : Int32) then 1 else 0), .int a2] h Q := by
        refine zg_iadd zi_218_18 ?_
        refine zg_nameI fun x11 ex11 => ?_
        have hw := hw x11 ex11
        refine zg_istore (ls1 := [.ref a0, .int a1, .int x11, .int a3]) zi_218_19 (Nat.le_of_ble_eq_true rfl) rfl ?_
        obtain ⟨x12, ex12⟩ : ∃ x : Int32, x = a3 + 1 := ⟨_, rfl⟩
        have hw := hw x12 ex12
        refine zg_iinc (v := x12) (ls1 := [.ref a0, .int a1, .int x11, .int x12]) zi_218_20 rfl (by rw [ex12]; rfl) rfl ?_
        refine zg_goto zi_218_21 ?_
        exact ih a0 a1 x11 x12 h hw
      refine zg_icmp_ne zi_218_14 (fun hc14 => ?_) (fun hc14 => ?_)
      · skip
        refine zg_const (v := 1) zi_218_17 (by rfl) ?_
        have hg := g14
        simp only [if_pos hc14] at hg
        exact hg
      · skip
        refine zg_const (v := 0) zi_218_15 (by rfl) ?_
        refine zg_goto zi_218_16 ?_
        have hg := g14
        simp only [if_neg hc14] at hg
        exact hg
/-- TakeOrPayModel.count(I)I -/
def w_218 (E : Nat → Nat) (d : Nat) (a0 : Nat) (a1 : Int32) (h : ZH) (Q : Option Value → ZH → Prop) : Prop := ∃ mm : Nat, wl_218_4 E d Q mm a0 a1 0 0 h
set_option maxRecDepth 20000 in
theorem ok_218 {E : Nat → Nat} {d : Nat} {a0 : Nat} {a1 : Int32} {h : ZH} {Q : Option Value → ZH → Prop} (hw : w_218 E d a0 a1 h Q) : Ct E (d + 1) 218 [.ref a0, .int a1] h Q := by
  unfold w_218 at hw
  show Gx E (d + 1) 218 0 [.ref a0, .int a1, .retAddr 0, .retAddr 0] [] h Q
  refine zg_const (v := 0) zi_218_0 (by rfl) ?_
  refine zg_istore (ls1 := [.ref a0, .int a1, .int 0, .retAddr 0]) zi_218_1 (Nat.le_of_ble_eq_true rfl) rfl ?_
  refine zg_const (v := 0) zi_218_2 (by rfl) ?_
  refine zg_istore (ls1 := [.ref a0, .int a1, .int 0, .int 0]) zi_218_3 (Nat.le_of_ble_eq_true rfl) rfl ?_
  obtain ⟨mm, hw⟩ := hw
  exact okl_218_4 mm a0 a1 0 0 h hw
