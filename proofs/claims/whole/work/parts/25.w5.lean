/-! what each method needs and does, printed by wip/whole/dec.py: part 5 -/
theorem zq_182 : zQ 182 1 3 11 := by unfold zQ; decide +kernel
theorem zi_182_0 : (zM 182).1[0]? = some (.aload 0) := by rfl
theorem zi_182_1 : (zM 182).1[1]? = some (.getfield 11329) := by rfl
theorem zi_182_2 : (zM 182).1[2]? = some (.ifCond .eq ((4 : Nat) : Int)) := by rfl
theorem zi_182_3 : (zM 182).1[3]? = some (.return_) := by rfl
theorem zi_182_4 : (zM 182).1[4]? = some (.aload 0) := by rfl
theorem zi_182_5 : (zM 182).1[5]? = some (.invokevirtual 152) := by rfl
theorem zi_182_6 : (zM 182).1[6]? = some (.iconst 1) := by rfl
theorem zi_182_7 : (zM 182).1[7]? = some (.isub) := by rfl
theorem zi_182_8 : (zM 182).1[8]? = some (.istore 1) := by rfl
theorem zi_182_9 : (zM 182).1[9]? = some (.iload 1) := by rfl
theorem zi_182_10 : (zM 182).1[10]? = some (.ifCond .lt ((39 : Nat) : Int)) := by rfl
theorem zi_182_11 : (zM 182).1[11]? = some (.iconst 0) := by rfl
theorem zi_182_12 : (zM 182).1[12]? = some (.istore 2) := by rfl
theorem zi_182_13 : (zM 182).1[13]? = some (.iload 2) := by rfl
theorem zi_182_14 : (zM 182).1[14]? = some (.iconst 7371) := by rfl
theorem zi_182_15 : (zM 182).1[15]? = some (.if_icmp .ge ((37 : Nat) : Int)) := by rfl
theorem zi_182_16 : (zM 182).1[16]? = some (.aload 0) := by rfl
theorem zi_182_17 : (zM 182).1[17]? = some (.iload 1) := by rfl
theorem zi_182_18 : (zM 182).1[18]? = some (.iload 2) := by rfl
theorem zi_182_19 : (zM 182).1[19]? = some (.iconst 351) := by rfl
theorem zi_182_20 : (zM 182).1[20]? = some (.idiv) := by rfl
theorem zi_182_21 : (zM 182).1[21]? = some (.iload 2) := by rfl
theorem zi_182_22 : (zM 182).1[22]? = some (.iconst 27) := by rfl
theorem zi_182_23 : (zM 182).1[23]? = some (.idiv) := by rfl
theorem zi_182_24 : (zM 182).1[24]? = some (.iconst 13) := by rfl
theorem zi_182_25 : (zM 182).1[25]? = some (.irem) := by rfl
theorem zi_182_26 : (zM 182).1[26]? = some (.iload 2) := by rfl
theorem zi_182_27 : (zM 182).1[27]? = some (.iconst 3) := by rfl
theorem zi_182_28 : (zM 182).1[28]? = some (.idiv) := by rfl
theorem zi_182_29 : (zM 182).1[29]? = some (.iconst 9) := by rfl
theorem zi_182_30 : (zM 182).1[30]? = some (.irem) := by rfl
theorem zi_182_31 : (zM 182).1[31]? = some (.iload 2) := by rfl
theorem zi_182_32 : (zM 182).1[32]? = some (.iconst 3) := by rfl
theorem zi_182_33 : (zM 182).1[33]? = some (.irem) := by rfl
theorem zi_182_34 : (zM 182).1[34]? = some (.invokevirtual 181) := by rfl
theorem zi_182_35 : (zM 182).1[35]? = some (.iinc 2 1) := by rfl
theorem zi_182_36 : (zM 182).1[36]? = some (.goto ((13 : Nat) : Int)) := by rfl
theorem zi_182_37 : (zM 182).1[37]? = some (.iinc 1 (-1)) := by rfl
theorem zi_182_38 : (zM 182).1[38]? = some (.goto ((9 : Nat) : Int)) := by rfl
theorem zi_182_39 : (zM 182).1[39]? = some (.aload 0) := by rfl
theorem zi_182_40 : (zM 182).1[40]? = some (.iconst 1) := by rfl
theorem zi_182_41 : (zM 182).1[41]? = some (.putfield 11329) := by rfl
theorem zi_182_42 : (zM 182).1[42]? = some (.return_) := by rfl
def wb_182_39 (E : Nat → Nat) (d : Nat) (Q : Option Value → ZH → Prop) (a0 : Nat) (h : ZH) : Prop := ztag h a0 = 11 ∧ ∀ h4 : ZH, h4 = (zuI h a0 29 1) → Q none h4
set_option maxRecDepth 20000 in
theorem okb_182_39 {E : Nat → Nat} {d : Nat} {Q : Option Value → ZH → Prop} {a0 : Nat} {h : ZH} (hw : wb_182_39 E d Q a0 h) : Gx E (d + 1) 182 39 [.ref a0, .retAddr 0, .retAddr 0] [] h Q := by
  unfold wb_182_39 at hw
  refine zg_aload zi_182_39 rfl ?_
  refine zg_const (v := 1) zi_182_40 (by rfl) ?_
  obtain ⟨t3, hw⟩ := hw
  refine zg_putZ (h1 := zuI h a0 29 1) zi_182_41 t3 (by rfl) (by decide) rfl ?_
  refine zg_nameH fun h4 eh4 => ?_
  have hw := hw h4 eh4
  exact zg_return zi_182_42 hw
def wb_182_37 (E : Nat → Nat) (d : Nat) (Q : Option Value → ZH → Prop) (L_9 : Nat → Int32 → ZH → Prop) (a0 : Nat) (a1 : Int32) (h : ZH) : Prop := ∀ x5 : Int32, x5 = (a1 + (-1)) → L_9 a0 x5 h
set_option maxRecDepth 20000 in
theorem okb_182_37 {E : Nat → Nat} {d : Nat} {Q : Option Value → ZH → Prop} {L_9 : Nat → Int32 → ZH → Prop} (hL_9 : ∀ (b0 : Nat) (b1 : Int32) (h : ZH), L_9 b0 b1 h → Gx E (d + 1) 182 9 [.ref b0, .int b1, .retAddr 0] [] h Q) {a0 : Nat} {a1 : Int32} {h : ZH} (hw : wb_182_37 E d Q L_9 a0 a1 h) : Gx E (d + 1) 182 37 [.ref a0, .int a1, .retAddr 0] [] h Q := by
  unfold wb_182_37 at hw
  obtain ⟨x5, ex5⟩ : ∃ x : Int32, x = a1 + (-1) := ⟨_, rfl⟩
  have hw := hw x5 ex5
  refine zg_iinc (v := x5) (ls1 := [.ref a0, .int x5, .retAddr 0]) zi_182_37 rfl (by rw [ex5]; rfl) rfl ?_
  refine zg_goto zi_182_38 ?_
  exact hL_9 a0 x5 h hw
def wl_182_13 (E : Nat → Nat) (d : Nat) (Q : Option Value → ZH → Prop) (L_9 : Nat → Int32 → ZH → Prop) : Nat → Nat → Int32 → Int32 → ZH → Prop
  | 0, _, _, _, _ => False
  | n + 1, a0, a1, a2, h => (7371 ≤ a2 → (wb_182_37 E d Q L_9 a0 a1 h)) ∧ (¬ (7371 ≤ a2) → (ztag h a0 = 11 ∧ Ct E d 181 [.ref a0, .int a1, .int (a2 / 351), .int ((a2 / 27) - (a2 / 27) / 13 * 13), .int ((a2 / 3) - (a2 / 3) / 9 * 9), .int (a2 - a2 / 3 * 3)] h (fun v h7 => v = none ∧ ∀ x8 : Int32, x8 = (a2 + 1) → wl_182_13 E d Q L_9 n a0 a1 x8 h7)))
set_option maxRecDepth 20000 in
theorem okl_182_13 {E : Nat → Nat} {d : Nat} {Q : Option Value → ZH → Prop} {L_9 : Nat → Int32 → ZH → Prop} (hL_9 : ∀ (b0 : Nat) (b1 : Int32) (h : ZH), L_9 b0 b1 h → Gx E (d + 1) 182 9 [.ref b0, .int b1, .retAddr 0] [] h Q) : ∀ (n : Nat) (a0 : Nat) (a1 : Int32) (a2 : Int32) (h : ZH), wl_182_13 E d Q L_9 n a0 a1 a2 h → Gx E (d + 1) 182 13 [.ref a0, .int a1, .int a2] [] h Q := by
  intro n
  induction n with
  | zero => intro a0 a1 a2 h hw; exact hw.elim
  | succ n ih =>
    intro a0 a1 a2 h hw
    rw [wl_182_13] at hw
    refine zg_iload zi_182_13 rfl ?_
    refine zg_const (v := 7371) zi_182_14 (by rfl) ?_
    refine zg_icmp_ge zi_182_15 (fun hc => ?_) (fun hc => ?_)
    · have hw := hw.1 hc
      exact Gx.forget (zrk (zrk (zrd zr0))) (okb_182_37 hL_9 hw)
    · have hw := hw.2 hc
      refine zg_aload zi_182_16 rfl ?_
      refine zg_iload zi_182_17 rfl ?_
      refine zg_iload zi_182_18 rfl ?_
      refine zg_const (v := 351) zi_182_19 (by rfl) ?_
      refine zg_idiv zi_182_20 (by decide) ?_
      refine zg_iload zi_182_21 rfl ?_
      refine zg_const (v := 27) zi_182_22 (by rfl) ?_
      refine zg_idiv zi_182_23 (by decide) ?_
      refine zg_const (v := 13) zi_182_24 (by rfl) ?_
      refine zg_irem zi_182_25 (by decide) ?_
      refine zg_iload zi_182_26 rfl ?_
      refine zg_const (v := 3) zi_182_27 (by rfl) ?_
      refine zg_idiv zi_182_28 (by decide) ?_
      refine zg_const (v := 9) zi_182_29 (by rfl) ?_
      refine zg_irem zi_182_30 (by decide) ?_
      refine zg_iload zi_182_31 rfl ?_
      refine zg_const (v := 3) zi_182_32 (by rfl) ?_
      refine zg_irem zi_182_33 (by decide) ?_
      obtain ⟨t6, hw⟩ := hw
      refine Gx.call2 (as := [.ref a0, .int a1, .int (a2 / 351), .int ((a2 / 27) - (a2 / 27) / 13 * 13), .int ((a2 / 3) - (a2 / 3) / 9 * 9), .int (a2 - a2 / 3 * 3)]) (rest := []) zq_181 zi_182_34 rfl rfl rfl (Nat.le_of_ble_eq_true rfl) (Nat.le_of_ble_eq_true rfl) (zrv_v t6 rfl rfl) (Nat.le_of_ble_eq_true rfl) ?_
      refine Ct.mono hw ?_
      rintro v h7 ⟨rfl, hw⟩
      show Gx E (d + 1) 182 35 [.ref a0, .int a1, .int a2] [] h7 Q
      obtain ⟨x8, ex8⟩ : ∃ x : Int32, x = a2 + 1 := ⟨_, rfl⟩
      have hw := hw x8 ex8
      refine zg_iinc (v := x8) (ls1 := [.ref a0, .int a1, .int x8]) zi_182_35 rfl (by rw [ex8]; rfl) rfl ?_
      refine zg_goto zi_182_36 ?_
      exact ih a0 a1 x8 h7 hw
def wl_182_9 (E : Nat → Nat) (d : Nat) (Q : Option Value → ZH → Prop) : Nat → Nat → Int32 → ZH → Prop
  | 0, _, _, _ => False
  | n + 1, a0, a1, h => (a1 < 0 → (wb_182_39 E d Q a0 h)) ∧ (¬ (a1 < 0) → (∃ mm : Nat, wl_182_13 E d Q (wl_182_9 E d Q n) mm a0 a1 0 h))
set_option maxRecDepth 20000 in
theorem okl_182_9 {E : Nat → Nat} {d : Nat} {Q : Option Value → ZH → Prop} : ∀ (n : Nat) (a0 : Nat) (a1 : Int32) (h : ZH), wl_182_9 E d Q n a0 a1 h → Gx E (d + 1) 182 9 [.ref a0, .int a1, .retAddr 0] [] h Q := by
  intro n
  induction n with
  | zero => intro a0 a1 h hw; exact hw.elim
  | succ n ih =>
    intro a0 a1 h hw
    rw [wl_182_9] at hw
    refine zg_iload zi_182_9 rfl ?_
    refine zg_if_lt zi_182_10 (fun hc => ?_) (fun hc => ?_)
    · have hw := hw.1 hc
      exact Gx.forget (zrk (zrd (zrk zr0))) (okb_182_39 hw)
    · have hw := hw.2 hc
      refine zg_const (v := 0) zi_182_11 (by rfl) ?_
      refine zg_istore (ls1 := [.ref a0, .int a1, .int 0]) zi_182_12 (Nat.le_of_ble_eq_true rfl) rfl ?_
      obtain ⟨mm, hw⟩ := hw
      exact okl_182_13 ih mm a0 a1 0 h hw
/-- TakeOrPayModel.layAll()V -/
def w_182 (E : Nat → Nat) (d : Nat) (a0 : Nat) (h : ZH) (Q : Option Value → ZH → Prop) : Prop := ztag h a0 = 11 ∧ (((zI h a0 29 : Int32) = 0 → (1 ≤ d ∧ sz_152 E h a0 ∧ ∀ x2 : Int32, x2 = ((fz_152 E h a0) - 1) → (∃ mm : Nat, wl_182_9 E d Q mm a0 x2 h))) ∧ (¬ ((zI h a0 29 : Int32) = 0) → (Q none h)))
set_option maxRecDepth 20000 in
theorem ok_182 {E : Nat → Nat} {d : Nat} {a0 : Nat} {h : ZH} {Q : Option Value → ZH → Prop} (hw : w_182 E d a0 h Q) : Ct E (d + 1) 182 [.ref a0] h Q := by
  unfold w_182 at hw
  show Gx E (d + 1) 182 0 [.ref a0, .retAddr 0, .retAddr 0] [] h Q
  refine zg_aload zi_182_0 rfl ?_
  obtain ⟨t1, hw⟩ := hw
  refine zg_getZ (v := .int (zI h a0 29)) zi_182_1 t1 (by rfl) rfl ?_
  refine zg_if_eq zi_182_2 (fun hc => ?_) (fun hc => ?_)
  · have hw := hw.1 hc
    refine zg_aload zi_182_4 rfl ?_
    obtain ⟨hd, hs, hw⟩ := hw
    refine Gx.call2 (as := [.ref a0]) (rest := []) zq_152 zi_182_5 rfl rfl rfl (Nat.le_of_ble_eq_true rfl) (Nat.le_of_ble_eq_true rfl) (zrv_v t1 rfl rfl) (Nat.le_of_ble_eq_true rfl) ?_
    refine cz_152 hd hs ?_
    show Gx E (d + 1) 182 6 [.ref a0, .retAddr 0, .retAddr 0] [.int (fz_152 E h a0)] h Q
    refine zg_const (v := 1) zi_182_6 (by rfl) ?_
    refine zg_isub zi_182_7 ?_
    refine zg_nameI fun x2 ex2 => ?_
    have hw := hw x2 ex2
    refine zg_istore (ls1 := [.ref a0, .int x2, .retAddr 0]) zi_182_8 (Nat.le_of_ble_eq_true rfl) rfl ?_
    obtain ⟨mm, hw⟩ := hw
    exact okl_182_9 mm a0 x2 h hw
  · have hw := hw.2 hc
    exact zg_return zi_182_3 hw
theorem zq_183 : zQ 183 6 6 11 := by unfold zQ; decide +kernel
theorem zi_183_0 : (zM 183).1[0]? = some (.aload 0) := by rfl
theorem zi_183_1 : (zM 183).1[1]? = some (.iload 1) := by rfl
theorem zi_183_2 : (zM 183).1[2]? = some (.iload 2) := by rfl
theorem zi_183_3 : (zM 183).1[3]? = some (.iload 3) := by rfl
theorem zi_183_4 : (zM 183).1[4]? = some (.iload 4) := by rfl
theorem zi_183_5 : (zM 183).1[5]? = some (.iload 5) := by rfl
theorem zi_183_6 : (zM 183).1[6]? = some (.invokevirtual 169) := by rfl
theorem zi_183_7 : (zM 183).1[7]? = some (.ifCond .ne ((10 : Nat) : Int)) := by rfl
theorem zi_183_8 : (zM 183).1[8]? = some (.iconst (-1)) := by rfl
theorem zi_183_9 : (zM 183).1[9]? = some (.ireturn) := by rfl
theorem zi_183_10 : (zM 183).1[10]? = some (.aload 0) := by rfl
theorem zi_183_11 : (zM 183).1[11]? = some (.invokevirtual 182) := by rfl
theorem zi_183_12 : (zM 183).1[12]? = some (.aload 0) := by rfl
theorem zi_183_13 : (zM 183).1[13]? = some (.getfield 11228) := by rfl
theorem zi_183_14 : (zM 183).1[14]? = some (.iload 1) := by rfl
theorem zi_183_15 : (zM 183).1[15]? = some (.iload 2) := by rfl
theorem zi_183_16 : (zM 183).1[16]? = some (.iload 3) := by rfl
theorem zi_183_17 : (zM 183).1[17]? = some (.iload 4) := by rfl
theorem zi_183_18 : (zM 183).1[18]? = some (.iload 5) := by rfl
theorem zi_183_19 : (zM 183).1[19]? = some (.invokestatic 175) := by rfl
theorem zi_183_20 : (zM 183).1[20]? = some (.iaload) := by rfl
theorem zi_183_21 : (zM 183).1[21]? = some (.ireturn) := by rfl
/-- TakeOrPayModel.best(IIIII)I -/
def w_183 (E : Nat → Nat) (d : Nat) (a0 : Nat) (a1 : Int32) (a2 : Int32) (a3 : Int32) (a4 : Int32) (a5 : Int32) (h : ZH) (Q : Option Value → ZH → Prop) : Prop := ztag h a0 = 11 ∧ 3 ≤ d ∧ sz_169 E h a0 a1 a2 a3 a4 a5 ∧ ((¬ (fz_169 E h a0 a1 a2 a3 a4 a5 : Int32) = 0 → (Ct E d 182 [.ref a0] h (fun v h2 => v = none ∧ ztag h2 a0 = 11 ∧ ∃ r4 : Nat, zR h2 a0 28 = r4 + 1 ∧ 1 ≤ d ∧ sz_175 E h2 a1 a2 a3 a4 a5 ∧ (ztag h2 r4 = 13 ∨ ztag h2 r4 = 19) ∧ zin (fz_175 E h2 a1 a2 a3 a4 a5) (zlen h2 r4) = true ∧ Q (some (.int (zI h2 r4 (fz_175 E h2 a1 a2 a3 a4 a5 : Int32).toNatClampNeg))) h2))) ∧ (¬ (¬ (fz_169 E h a0 a1 a2 a3 a4 a5 : Int32) = 0) → (Q (some (.int ((-1)))) h)))
set_option maxRecDepth 20000 in
theorem ok_183 {E : Nat → Nat} {d : Nat} {a0 : Nat} {a1 : Int32} {a2 : Int32} {a3 : Int32} {a4 : Int32} {a5 : Int32} {h : ZH} {Q : Option Value → ZH → Prop} (hw : w_183 E d a0 a1 a2 a3 a4 a5 h Q) : Ct E (d + 1) 183 [.ref a0, .int a1, .int a2, .int a3, .int a4, .int a5] h Q := by
  unfold w_183 at hw
  show Gx E (d + 1) 183 0 [.ref a0, .int a1, .int a2, .int a3, .int a4, .int a5] [] h Q
  refine zg_aload zi_183_0 rfl ?_
  refine zg_iload zi_183_1 rfl ?_
  refine zg_iload zi_183_2 rfl ?_
  refine zg_iload zi_183_3 rfl ?_
  refine zg_iload zi_183_4 rfl ?_
  refine zg_iload zi_183_5 rfl ?_
  obtain ⟨t1, hw⟩ := hw
  obtain ⟨hd, hs, hw⟩ := hw
  refine Gx.call2 (as := [.ref a0, .int a1, .int a2, .int a3, .int a4, .int a5]) (rest := []) zq_169 zi_183_6 rfl rfl rfl (Nat.le_of_ble_eq_true rfl) (Nat.le_of_ble_eq_true rfl) (zrv_v t1 rfl rfl) (Nat.le_of_ble_eq_true rfl) ?_
  refine cz_169 hd hs ?_
  show Gx E (d + 1) 183 7 [.ref a0, .int a1, .int a2, .int a3, .int a4, .int a5] [.int (fz_169 E h a0 a1 a2 a3 a4 a5)] h Q
  refine zg_if_ne zi_183_7 (fun hc => ?_) (fun hc => ?_)
  · have hw := hw.1 hc
    refine zg_aload zi_183_10 rfl ?_
    refine Gx.call2 (as := [.ref a0]) (rest := []) zq_182 zi_183_11 rfl rfl rfl (Nat.le_of_ble_eq_true rfl) (Nat.le_of_ble_eq_true rfl) (zrv_v t1 rfl rfl) (Nat.le_of_ble_eq_true rfl) ?_
    refine Ct.mono hw ?_
    rintro v h2 ⟨rfl, hw⟩
    show Gx E (d + 1) 183 12 [.ref a0, .int a1, .int a2, .int a3, .int a4, .int a5] [] h2 Q
    refine zg_aload zi_183_12 rfl ?_
    obtain ⟨t3, hw⟩ := hw
    obtain ⟨r4, er4, hw⟩ := hw
    refine zg_getR (v := .ref r4) zi_183_13 t3 (by rfl) (by show zrv (zR h2 a0 28) = _; rw [er4]; rfl) ?_
    refine zg_iload zi_183_14 rfl ?_
    refine zg_iload zi_183_15 rfl ?_
    refine zg_iload zi_183_16 rfl ?_
    refine zg_iload zi_183_17 rfl ?_
    refine zg_iload zi_183_18 rfl ?_
    obtain ⟨hd, hs, hw⟩ := hw
    refine Gx.call2 (as := [.int a1, .int a2, .int a3, .int a4, .int a5]) (rest := [.ref r4]) zq_175 zi_183_19 rfl rfl rfl (Nat.le_of_ble_eq_true rfl) (Nat.le_of_ble_eq_true rfl) (rfl) (Nat.le_of_ble_eq_true rfl) ?_
    refine cz_175 hd hs ?_
    show Gx E (d + 1) 183 20 [.ref a0, .int a1, .int a2, .int a3, .int a4, .int a5] [.int (fz_175 E h2 a1 a2 a3 a4 a5), .ref r4] h2 Q
    obtain ⟨t5, hw⟩ := hw
    obtain ⟨hb, hw⟩ := hw
    refine zg_iaload (v := .int (zI h2 r4 (fz_175 E h2 a1 a2 a3 a4 a5 : Int32).toNatClampNeg)) zi_183_20 t5 hb rfl ?_
    exact zg_ireturn zi_183_21 (by decide) hw
  · have hw := hw.2 hc
    refine zg_const (v := (-1)) zi_183_8 (by rfl) ?_
    exact zg_ireturn zi_183_9 (by decide) hw
theorem zq_184 : zQ 184 3 11 11 := by unfold zQ; decide +kernel
theorem zi_184_0 : (zM 184).1[0]? = some (.lload 0) := by rfl
theorem zi_184_1 : (zM 184).1[1]? = some (.jsr_w 0) := by rfl
theorem zi_184_2 : (zM 184).1[2]? = some (.lcmp) := by rfl
theorem zi_184_3 : (zM 184).1[3]? = some (.ifCond .ge ((7 : Nat) : Int)) := by rfl
theorem zi_184_4 : (zM 184).1[4]? = some (.lload 0) := by rfl
theorem zi_184_5 : (zM 184).1[5]? = some (.lneg) := by rfl
theorem zi_184_6 : (zM 184).1[6]? = some (.goto ((8 : Nat) : Int)) := by rfl
theorem zi_184_7 : (zM 184).1[7]? = some (.lload 0) := by rfl
theorem zi_184_8 : (zM 184).1[8]? = some (.lstore 5) := by rfl
theorem zi_184_9 : (zM 184).1[9]? = some (.lload 2) := by rfl
theorem zi_184_10 : (zM 184).1[10]? = some (.lstore 7) := by rfl
theorem zi_184_11 : (zM 184).1[11]? = some (.lload 7) := by rfl
theorem zi_184_12 : (zM 184).1[12]? = some (.jsr_w 0) := by rfl
theorem zi_184_13 : (zM 184).1[13]? = some (.lcmp) := by rfl
theorem zi_184_14 : (zM 184).1[14]? = some (.ifCond .eq ((24 : Nat) : Int)) := by rfl
theorem zi_184_15 : (zM 184).1[15]? = some (.lload 5) := by rfl
theorem zi_184_16 : (zM 184).1[16]? = some (.lload 7) := by rfl
theorem zi_184_17 : (zM 184).1[17]? = some (.lrem) := by rfl
theorem zi_184_18 : (zM 184).1[18]? = some (.lstore 9) := by rfl
theorem zi_184_19 : (zM 184).1[19]? = some (.lload 7) := by rfl
theorem zi_184_20 : (zM 184).1[20]? = some (.lstore 5) := by rfl
theorem zi_184_21 : (zM 184).1[21]? = some (.lload 9) := by rfl
theorem zi_184_22 : (zM 184).1[22]? = some (.lstore 7) := by rfl
theorem zi_184_23 : (zM 184).1[23]? = some (.goto ((11 : Nat) : Int)) := by rfl
theorem zi_184_24 : (zM 184).1[24]? = some (.iload 4) := by rfl
theorem zi_184_25 : (zM 184).1[25]? = some (.ifCond .ne ((28 : Nat) : Int)) := by rfl
theorem zi_184_26 : (zM 184).1[26]? = some (.lload 0) := by rfl
theorem zi_184_27 : (zM 184).1[27]? = some (.goto ((29 : Nat) : Int)) := by rfl
theorem zi_184_28 : (zM 184).1[28]? = some (.lload 2) := by rfl
theorem zi_184_29 : (zM 184).1[29]? = some (.lload 5) := by rfl
theorem zi_184_30 : (zM 184).1[30]? = some (.ldiv) := by rfl
theorem zi_184_31 : (zM 184).1[31]? = some (.lreturn) := by rfl
def wb_184_24 (E : Nat → Nat) (d : Nat) (Q : Option Value → ZH → Prop) (a0 : Int64) (a2 : Int64) (a4 : Int32) (a5 : Int64) (h : ZH) : Prop := ¬ a5 = 0 ∧ Q (some (.long ((if ¬ a4 = 0 then a2 else a0) / a5))) h
set_option maxRecDepth 20000 in
theorem okb_184_24 {E : Nat → Nat} {d : Nat} {Q : Option Value → ZH → Prop} {a0 : Int64} {a2 : Int64} {a4 : Int32} {a5 : Int64} {h : ZH} (hw : wb_184_24 E d Q a0 a2 a4 a5 h) : Gx E (d + 1) 184 24 [.long a0, .retAddr 0, .long a2, .retAddr 0, .int a4, .long a5, .retAddr 0, .retAddr 0, .retAddr 0, .retAddr 0, .retAddr 0] [] h Q := by
  unfold wb_184_24 at hw
  refine zg_iload zi_184_24 rfl ?_
  have g25 : Gx E (d + 1) 184 29 [.long a0, .retAddr 0, .long a2, .retAddr 0, .int a4, .long a5, .retAddr 0, .retAddr 0, .retAddr 0, .retAddr 0, .retAddr 0] [.long (if ¬ a4 = 0 then a2 else a0)] h Q := by
    refine zg_lload zi_184_29 rfl ?_
    obtain ⟨hc, hw⟩ := hw
    refine zg_ldiv zi_184_30 hc ?_
    exact zg_lreturn zi_184_31 hw
  refine zg_if_ne zi_184_25 (fun hc25 => ?_) (fun hc25 => ?_)
  · skip
    refine zg_lload zi_184_28 rfl ?_
    have hg := g25
    simp only [if_pos hc25] at hg
    exact hg
  · skip
    refine zg_lload zi_184_26 rfl ?_
    refine zg_goto zi_184_27 ?_
    have hg := g25
    simp only [if_neg hc25] at hg
    exact hg
def wl_184_11 (E : Nat → Nat) (d : Nat) (Q : Option Value → ZH → Prop) : Nat → Int64 → Int64 → Int32 → Int64 → Int64 → ZH → Prop
  | 0, _, _, _, _, _, _ => False
  | n + 1, a0, a2, a4, a5, a7, h => (a7 = 0 → (wb_184_24 E d Q a0 a2 a4 a5 h)) ∧ (¬ (a7 = 0) → (¬ a7 = 0 ∧ ∀ x2 : Int64, x2 = (a5 - a5 / a7 * a7) → wl_184_11 E d Q n a0 a2 a4 a7 x2 h))
set_option maxRecDepth 20000 in
theorem okl_184_11 {E : Nat → Nat} {d : Nat} {Q : Option Value → ZH → Prop} : ∀ (n : Nat) (a0 : Int64) (a2 : Int64) (a4 : Int32) (a5 : Int64) (a7 : Int64) (h : ZH), wl_184_11 E d Q n a0 a2 a4 a5 a7 h → Gx E (d + 1) 184 11 [.long a0, .retAddr 0, .long a2, .retAddr 0, .int a4, .long a5, .retAddr 0, .long a7, .retAddr 0, .retAddr 0, .retAddr 0] [] h Q := by
  intro n
  induction n with
  | zero => intro a0 a2 a4 a5 a7 h hw; exact hw.elim
  | succ n ih =>
    intro a0 a2 a4 a5 a7 h hw
    rw [wl_184_11] at hw
    refine zg_lload zi_184_11 rfl ?_
    refine zg_lconst (v := 0) zi_184_12 (by rfl) ?_
    refine zg_lcmp_eq zi_184_13 zi_184_14 (fun hc => ?_) (fun hc => ?_)
    · have hw := hw.1 hc
      exact Gx.forget (zrk (zrk (zrk (zrk (zrk (zrk (zrk (zrd (zrk (zrk (zrk zr0))))))))))) (okb_184_24 hw)
    · have hw := hw.2 hc
      refine zg_lload zi_184_15 rfl ?_
      refine zg_lload zi_184_16 rfl ?_
      obtain ⟨hc, hw⟩ := hw
      refine zg_lrem zi_184_17 hc ?_
      refine zg_nameL fun x2 ex2 => ?_
      have hw := hw x2 ex2
      refine zg_lstore (ls1 := [.long a0, .retAddr 0, .long a2, .retAddr 0, .int a4, .long a5, .retAddr 0, .long a7, .retAddr 0, .long x2, .retAddr 0]) zi_184_18 (Nat.le_of_ble_eq_true rfl) rfl ?_
      refine zg_lload zi_184_19 rfl ?_
      refine zg_lstore (ls1 := [.long a0, .retAddr 0, .long a2, .retAddr 0, .int a4, .long a7, .retAddr 0, .long a7, .retAddr 0, .long x2, .retAddr 0]) zi_184_20 (Nat.le_of_ble_eq_true rfl) rfl ?_
      refine zg_lload zi_184_21 rfl ?_
      refine zg_lstore (ls1 := [.long a0, .retAddr 0, .long a2, .retAddr 0, .int a4, .long a7, .retAddr 0, .long x2, .retAddr 0, .long x2, .retAddr 0]) zi_184_22 (Nat.le_of_ble_eq_true rfl) rfl ?_
      refine zg_goto zi_184_23 ?_
      exact Gx.forget (zrk (zrk (zrk (zrk (zrk (zrk (zrk (zrk (zrk (zrd (zrk zr0))))))))))) (ih a0 a2 a4 a7 x2 h hw)
/-- TakeOrPayModel.lowest(JJI)J -/
def w_184 (E : Nat → Nat) (d : Nat) (a0 : Int64) (a2 : Int64) (a4 : Int32) (h : ZH) (Q : Option Value → ZH → Prop) : Prop := ∀ x1 : Int64, x1 = (if 0 ≤ a0 then a0 else -a0) → (∃ mm : Nat, wl_184_11 E d Q mm a0 a2 a4 x1 a2 h)
set_option maxRecDepth 20000 in
theorem ok_184 {E : Nat → Nat} {d : Nat} {a0 : Int64} {a2 : Int64} {a4 : Int32} {h : ZH} {Q : Option Value → ZH → Prop} (hw : w_184 E d a0 a2 a4 h Q) : Ct E (d + 1) 184 [.long a0, .long a2, .int a4] h Q := by
  unfold w_184 at hw
  show Gx E (d + 1) 184 0 [.long a0, .retAddr 0, .long a2, .retAddr 0, .int a4, .retAddr 0, .retAddr 0, .retAddr 0, .retAddr 0, .retAddr 0, .retAddr 0] [] h Q
  refine zg_lload zi_184_0 rfl ?_
  refine zg_lconst (v := 0) zi_184_1 (by rfl) ?_
  have g3 : Gx E (d + 1) 184 8 [.long a0, .retAddr 0, .long a2, .retAddr 0, .int a4, .retAddr 0, .retAddr 0, .retAddr 0, .retAddr 0, .retAddr 0, .retAddr 0] [.long (if 0 ≤ a0 then a0 else -a0)] h Q := by
    refine zg_nameL fun x1 ex1 => ?_
    have hw := hw x1 ex1
    refine zg_lstore (ls1 := [.long a0, .retAddr 0, .long a2, .retAddr 0, .int a4, .long x1, .retAddr 0, .retAddr 0, .retAddr 0, .retAddr 0, .retAddr 0]) zi_184_8 (Nat.le_of_ble_eq_true rfl) rfl ?_
    refine zg_lload zi_184_9 rfl ?_
    refine zg_lstore (ls1 := [.long a0, .retAddr 0, .long a2, .retAddr 0, .int a4, .long x1, .retAddr 0, .long a2, .retAddr 0, .retAddr 0, .retAddr 0]) zi_184_10 (Nat.le_of_ble_eq_true rfl) rfl ?_
    obtain ⟨mm, hw⟩ := hw
    exact okl_184_11 mm a0 a2 a4 x1 a2 h hw
  refine zg_lcmp_ge zi_184_2 zi_184_3 (fun hc3 => ?_) (fun hc3 => ?_)
  · skip
    refine zg_lload zi_184_7 rfl ?_
    have hg := g3
    simp only [if_pos hc3] at hg
    exact hg
  · skip
    refine zg_lload zi_184_4 rfl ?_
    refine zg_lneg zi_184_5 ?_
    refine zg_goto zi_184_6 ?_
    have hg := g3
    simp only [if_neg hc3] at hg
    exact hg
theorem zq_185 : zQ 185 7 7 11 := by unfold zQ; decide +kernel
theorem zi_185_0 : (zM 185).1[0]? = some (.aload 0) := by rfl
theorem zi_185_1 : (zM 185).1[1]? = some (.iload 1) := by rfl
theorem zi_185_2 : (zM 185).1[2]? = some (.iload 2) := by rfl
theorem zi_185_3 : (zM 185).1[3]? = some (.iload 3) := by rfl
theorem zi_185_4 : (zM 185).1[4]? = some (.iload 4) := by rfl
theorem zi_185_5 : (zM 185).1[5]? = some (.iload 5) := by rfl
theorem zi_185_6 : (zM 185).1[6]? = some (.invokevirtual 169) := by rfl
theorem zi_185_7 : (zM 185).1[7]? = some (.ifCond .eq ((14 : Nat) : Int)) := by rfl
theorem zi_185_8 : (zM 185).1[8]? = some (.iload 6) := by rfl
theorem zi_185_9 : (zM 185).1[9]? = some (.i2l) := by rfl
theorem zi_185_10 : (zM 185).1[10]? = some (.jsr_w 0) := by rfl
theorem zi_185_11 : (zM 185).1[11]? = some (.jsr_w 1) := by rfl
theorem zi_185_12 : (zM 185).1[12]? = some (.invokestatic 135) := by rfl
theorem zi_185_13 : (zM 185).1[13]? = some (.ifCond .ne ((16 : Nat) : Int)) := by rfl
theorem zi_185_14 : (zM 185).1[14]? = some (.jsr_w (-9000000000000000001)) := by rfl
theorem zi_185_15 : (zM 185).1[15]? = some (.lreturn) := by rfl
theorem zi_185_16 : (zM 185).1[16]? = some (.aload 0) := by rfl
theorem zi_185_17 : (zM 185).1[17]? = some (.invokevirtual 182) := by rfl
theorem zi_185_18 : (zM 185).1[18]? = some (.aload 0) := by rfl
theorem zi_185_19 : (zM 185).1[19]? = some (.getfield 11227) := by rfl
theorem zi_185_20 : (zM 185).1[20]? = some (.iload 1) := by rfl
theorem zi_185_21 : (zM 185).1[21]? = some (.iload 2) := by rfl
theorem zi_185_22 : (zM 185).1[22]? = some (.iload 3) := by rfl
theorem zi_185_23 : (zM 185).1[23]? = some (.iload 4) := by rfl
theorem zi_185_24 : (zM 185).1[24]? = some (.iload 5) := by rfl
theorem zi_185_25 : (zM 185).1[25]? = some (.invokestatic 175) := by rfl
theorem zi_185_26 : (zM 185).1[26]? = some (.laload) := by rfl
theorem zi_185_27 : (zM 185).1[27]? = some (.aload 0) := by rfl
theorem zi_185_28 : (zM 185).1[28]? = some (.iload 1) := by rfl
theorem zi_185_29 : (zM 185).1[29]? = some (.invokevirtual 180) := by rfl
theorem zi_185_30 : (zM 185).1[30]? = some (.iload 6) := by rfl
theorem zi_185_31 : (zM 185).1[31]? = some (.invokestatic 184) := by rfl
theorem zi_185_32 : (zM 185).1[32]? = some (.lreturn) := by rfl
/-- TakeOrPayModel.worth(IIIIII)J -/
def w_185 (E : Nat → Nat) (d : Nat) (a0 : Nat) (a1 : Int32) (a2 : Int32) (a3 : Int32) (a4 : Int32) (a5 : Int32) (a6 : Int32) (h : ZH) (Q : Option Value → ZH → Prop) : Prop := ztag h a0 = 11 ∧ 3 ≤ d ∧ sz_169 E h a0 a1 a2 a3 a4 a5 ∧ (((fz_169 E h a0 a1 a2 a3 a4 a5 : Int32) = 0 → (Q (some (.long ((-9000000000000000001)))) h)) ∧ (¬ ((fz_169 E h a0 a1 a2 a3 a4 a5 : Int32) = 0) → (1 ≤ d ∧ sz_135 E h a6.toInt64 0 1 ∧ ((¬ (fz_135 E h a6.toInt64 0 1 : Int32) = 0 → (Ct E d 182 [.ref a0] h (fun v h2 => v = none ∧ ztag h2 a0 = 11 ∧ ∃ r4 : Nat, zR h2 a0 27 = r4 + 1 ∧ 1 ≤ d ∧ sz_175 E h2 a1 a2 a3 a4 a5 ∧ ztag h2 r4 = 14 ∧ zin (fz_175 E h2 a1 a2 a3 a4 a5) (zlen h2 r4) = true ∧ 2 ≤ d ∧ sz_180 E h2 a0 a1 ∧ Ct E d 184 [.long (zL h2 r4 (fz_175 E h2 a1 a2 a3 a4 a5 : Int32).toNatClampNeg), .long (fz_180 E h2 a0 a1), .int a6] h2 (fun v h6 => ∃ x7 : Int64, v = some (.long x7) ∧ Q (some (.long x7)) h6)))) ∧ (¬ (¬ (fz_135 E h a6.toInt64 0 1 : Int32) = 0) → (Q (some (.long ((-9000000000000000001)))) h))))))
set_option maxRecDepth 20000 in
theorem ok_185 {E : Nat → Nat} {d : Nat} {a0 : Nat} {a1 : Int32} {a2 : Int32} {a3 : Int32} {a4 : Int32} {a5 : Int32} {a6 : Int32} {h : ZH} {Q : Option Value → ZH → Prop} (hw : w_185 E d a0 a1 a2 a3 a4 a5 a6 h Q) : Ct E (d + 1) 185 [.ref a0, .int a1, .int a2, .int a3, .int a4, .int a5, .int a6] h Q := by
  unfold w_185 at hw
  show Gx E (d + 1) 185 0 [.ref a0, .int a1, .int a2, .int a3, .int a4, .int a5, .int a6] [] h Q
  refine zg_aload zi_185_0 rfl ?_
  refine zg_iload zi_185_1 rfl ?_
  refine zg_iload zi_185_2 rfl ?_
  refine zg_iload zi_185_3 rfl ?_
  refine zg_iload zi_185_4 rfl ?_
  refine zg_iload zi_185_5 rfl ?_
  obtain ⟨t1, hw⟩ := hw
  obtain ⟨hd, hs, hw⟩ := hw
  refine Gx.call2 (as := [.ref a0, .int a1, .int a2, .int a3, .int a4, .int a5]) (rest := []) zq_169 zi_185_6 rfl rfl rfl (Nat.le_of_ble_eq_true rfl) (Nat.le_of_ble_eq_true rfl) (zrv_v t1 rfl rfl) (Nat.le_of_ble_eq_true rfl) ?_
  refine cz_169 hd hs ?_
  show Gx E (d + 1) 185 7 [.ref a0, .int a1, .int a2, .int a3, .int a4, .int a5, .int a6] [.int (fz_169 E h a0 a1 a2 a3 a4 a5)] h Q
  refine zg_if_eq zi_185_7 (fun hc => ?_) (fun hc => ?_)
  · have hw := hw.1 hc
    refine zg_lconst (v := (-9000000000000000001)) zi_185_14 (by rfl) ?_
    exact zg_lreturn zi_185_15 hw
  · have hw := hw.2 hc
    refine zg_iload zi_185_8 rfl ?_
    refine zg_i2l zi_185_9 ?_
    refine zg_lconst (v := 0) zi_185_10 (by rfl) ?_
    refine zg_lconst (v := 1) zi_185_11 (by rfl) ?_
    obtain ⟨hd, hs, hw⟩ := hw
    refine Gx.call2 (as := [.long a6.toInt64, .long 0, .long 1]) (rest := []) zq_135 zi_185_12 rfl rfl rfl (Nat.le_of_ble_eq_true rfl) (Nat.le_of_ble_eq_true rfl) (rfl) (Nat.le_of_ble_eq_true rfl) ?_
    refine cz_135 hd hs ?_
    show Gx E (d + 1) 185 13 [.ref a0, .int a1, .int a2, .int a3, .int a4, .int a5, .int a6] [.int (fz_135 E h a6.toInt64 0 1)] h Q
    refine zg_if_ne zi_185_13 (fun hc => ?_) (fun hc => ?_)
    · have hw := hw.1 hc
      refine zg_aload zi_185_16 rfl ?_
      refine Gx.call2 (as := [.ref a0]) (rest := []) zq_182 zi_185_17 rfl rfl rfl (Nat.le_of_ble_eq_true rfl) (Nat.le_of_ble_eq_true rfl) (zrv_v t1 rfl rfl) (Nat.le_of_ble_eq_true rfl) ?_
      refine Ct.mono hw ?_
      rintro v h2 ⟨rfl, hw⟩
      show Gx E (d + 1) 185 18 [.ref a0, .int a1, .int a2, .int a3, .int a4, .int a5, .int a6] [] h2 Q
      refine zg_aload zi_185_18 rfl ?_
      obtain ⟨t3, hw⟩ := hw
      obtain ⟨r4, er4, hw⟩ := hw
      refine zg_getR (v := .ref r4) zi_185_19 t3 (by rfl) (by show zrv (zR h2 a0 27) = _; rw [er4]; rfl) ?_
      refine zg_iload zi_185_20 rfl ?_
      refine zg_iload zi_185_21 rfl ?_
      refine zg_iload zi_185_22 rfl ?_
      refine zg_iload zi_185_23 rfl ?_
      refine zg_iload zi_185_24 rfl ?_
      obtain ⟨hd, hs, hw⟩ := hw
      refine Gx.call2 (as := [.int a1, .int a2, .int a3, .int a4, .int a5]) (rest := [.ref r4]) zq_175 zi_185_25 rfl rfl rfl (Nat.le_of_ble_eq_true rfl) (Nat.le_of_ble_eq_true rfl) (rfl) (Nat.le_of_ble_eq_true rfl) ?_
      refine cz_175 hd hs ?_
      show Gx E (d + 1) 185 26 [.ref a0, .int a1, .int a2, .int a3, .int a4, .int a5, .int a6] [.int (fz_175 E h2 a1 a2 a3 a4 a5), .ref r4] h2 Q
      obtain ⟨t5, hw⟩ := hw
      obtain ⟨hb, hw⟩ := hw
      refine zg_laload (v := .long (zL h2 r4 (fz_175 E h2 a1 a2 a3 a4 a5 : Int32).toNatClampNeg)) zi_185_26 t5 hb rfl ?_
      refine zg_aload zi_185_27 rfl ?_
      refine zg_iload zi_185_28 rfl ?_
      obtain ⟨hd, hs, hw⟩ := hw
      refine Gx.call2 (as := [.ref a0, .int a1]) (rest := [.long (zL h2 r4 (fz_175 E h2 a1 a2 a3 a4 a5 : Int32).toNatClampNeg)]) zq_180 zi_185_29 rfl rfl rfl (Nat.le_of_ble_eq_true rfl) (Nat.le_of_ble_eq_true rfl) (zrv_v t3 rfl rfl) (Nat.le_of_ble_eq_true rfl) ?_
      refine cz_180 hd hs ?_
      show Gx E (d + 1) 185 30 [.ref a0, .int a1, .int a2, .int a3, .int a4, .int a5, .int a6] [.long (fz_180 E h2 a0 a1), .long (zL h2 r4 (fz_175 E h2 a1 a2 a3 a4 a5 : Int32).toNatClampNeg)] h2 Q
      refine zg_iload zi_185_30 rfl ?_
      refine Gx.call2 (as := [.long (zL h2 r4 (fz_175 E h2 a1 a2 a3 a4 a5 : Int32).toNatClampNeg), .long (fz_180 E h2 a0 a1), .int a6]) (rest := []) zq_184 zi_185_31 rfl rfl rfl (Nat.le_of_ble_eq_true rfl) (Nat.le_of_ble_eq_true rfl) (rfl) (Nat.le_of_ble_eq_true rfl) ?_
      refine Ct.mono hw ?_
      rintro v h6 ⟨x7, rfl, hw⟩
      show Gx E (d + 1) 185 32 [.ref a0, .int a1, .int a2, .int a3, .int a4, .int a5, .int a6] [.long x7] h6 Q
      exact zg_lreturn zi_185_32 hw
    · have hw := hw.2 hc
      refine zg_lconst (v := (-9000000000000000001)) zi_185_14 (by rfl) ?_
      exact zg_lreturn zi_185_15 hw
theorem zq_186 : zQ 186 8 8 11 := by unfold zQ; decide +kernel
theorem zi_186_0 : (zM 186).1[0]? = some (.aload 0) := by rfl
theorem zi_186_1 : (zM 186).1[1]? = some (.iload 1) := by rfl
theorem zi_186_2 : (zM 186).1[2]? = some (.iload 2) := by rfl
theorem zi_186_3 : (zM 186).1[3]? = some (.iload 3) := by rfl
theorem zi_186_4 : (zM 186).1[4]? = some (.iload 4) := by rfl
theorem zi_186_5 : (zM 186).1[5]? = some (.iload 5) := by rfl
theorem zi_186_6 : (zM 186).1[6]? = some (.invokevirtual 169) := by rfl
theorem zi_186_7 : (zM 186).1[7]? = some (.ifCond .eq ((20 : Nat) : Int)) := by rfl
theorem zi_186_8 : (zM 186).1[8]? = some (.iload 6) := by rfl
theorem zi_186_9 : (zM 186).1[9]? = some (.i2l) := by rfl
theorem zi_186_10 : (zM 186).1[10]? = some (.jsr_w 0) := by rfl
theorem zi_186_11 : (zM 186).1[11]? = some (.jsr_w 4) := by rfl
theorem zi_186_12 : (zM 186).1[12]? = some (.invokestatic 135) := by rfl
theorem zi_186_13 : (zM 186).1[13]? = some (.ifCond .eq ((20 : Nat) : Int)) := by rfl
theorem zi_186_14 : (zM 186).1[14]? = some (.iload 7) := by rfl
theorem zi_186_15 : (zM 186).1[15]? = some (.i2l) := by rfl
theorem zi_186_16 : (zM 186).1[16]? = some (.jsr_w 0) := by rfl
theorem zi_186_17 : (zM 186).1[17]? = some (.jsr_w 1) := by rfl
theorem zi_186_18 : (zM 186).1[18]? = some (.invokestatic 135) := by rfl
theorem zi_186_19 : (zM 186).1[19]? = some (.ifCond .ne ((22 : Nat) : Int)) := by rfl
theorem zi_186_20 : (zM 186).1[20]? = some (.jsr_w (-9000000000000000001)) := by rfl
theorem zi_186_21 : (zM 186).1[21]? = some (.lreturn) := by rfl
theorem zi_186_22 : (zM 186).1[22]? = some (.aload 0) := by rfl
theorem zi_186_23 : (zM 186).1[23]? = some (.iload 1) := by rfl
theorem zi_186_24 : (zM 186).1[24]? = some (.iload 6) := by rfl
theorem zi_186_25 : (zM 186).1[25]? = some (.invokevirtual 163) := by rfl
theorem zi_186_26 : (zM 186).1[26]? = some (.ifCond .ne ((29 : Nat) : Int)) := by rfl
theorem zi_186_27 : (zM 186).1[27]? = some (.jsr_w (-9000000000000000002)) := by rfl
theorem zi_186_28 : (zM 186).1[28]? = some (.lreturn) := by rfl
theorem zi_186_29 : (zM 186).1[29]? = some (.aload 0) := by rfl
theorem zi_186_30 : (zM 186).1[30]? = some (.invokevirtual 182) := by rfl
theorem zi_186_31 : (zM 186).1[31]? = some (.aload 0) := by rfl
theorem zi_186_32 : (zM 186).1[32]? = some (.iload 1) := by rfl
theorem zi_186_33 : (zM 186).1[33]? = some (.iload 2) := by rfl
theorem zi_186_34 : (zM 186).1[34]? = some (.iload 3) := by rfl
theorem zi_186_35 : (zM 186).1[35]? = some (.iload 4) := by rfl
theorem zi_186_36 : (zM 186).1[36]? = some (.iload 5) := by rfl
theorem zi_186_37 : (zM 186).1[37]? = some (.iload 6) := by rfl
theorem zi_186_38 : (zM 186).1[38]? = some (.invokevirtual 179) := by rfl
theorem zi_186_39 : (zM 186).1[39]? = some (.aload 0) := by rfl
theorem zi_186_40 : (zM 186).1[40]? = some (.iload 1) := by rfl
theorem zi_186_41 : (zM 186).1[41]? = some (.invokevirtual 180) := by rfl
theorem zi_186_42 : (zM 186).1[42]? = some (.iload 7) := by rfl
theorem zi_186_43 : (zM 186).1[43]? = some (.invokestatic 184) := by rfl
theorem zi_186_44 : (zM 186).1[44]? = some (.lreturn) := by rfl
/-- TakeOrPayModel.worthOf(IIIIIII)J -/
def w_186 (E : Nat → Nat) (d : Nat) (a0 : Nat) (a1 : Int32) (a2 : Int32) (a3 : Int32) (a4 : Int32) (a5 : Int32) (a6 : Int32) (a7 : Int32) (h : ZH) (Q : Option Value → ZH → Prop) : Prop := ztag h a0 = 11 ∧ 3 ≤ d ∧ sz_169 E h a0 a1 a2 a3 a4 a5 ∧ (((fz_169 E h a0 a1 a2 a3 a4 a5 : Int32) = 0 → (Q (some (.long ((-9000000000000000001)))) h)) ∧ (¬ ((fz_169 E h a0 a1 a2 a3 a4 a5 : Int32) = 0) → (1 ≤ d ∧ sz_135 E h a6.toInt64 0 4 ∧ (((fz_135 E h a6.toInt64 0 4 : Int32) = 0 → (Q (some (.long ((-9000000000000000001)))) h)) ∧ (¬ ((fz_135 E h a6.toInt64 0 4 : Int32) = 0) → (1 ≤ d ∧ sz_135 E h a7.toInt64 0 1 ∧ ((¬ (fz_135 E h a7.toInt64 0 1 : Int32) = 0 → (2 ≤ d ∧ sz_163 E h a0 a1 a6 ∧ ((¬ (fz_163 E h a0 a1 a6 : Int32) = 0 → (Ct E d 182 [.ref a0] h (fun v h2 => v = none ∧ ztag h2 a0 = 11 ∧ Ct E d 179 [.ref a0, .int a1, .int a2, .int a3, .int a4, .int a5, .int a6] h2 (fun v h4 => ∃ x5 : Int64, v = some (.long x5) ∧ ztag h4 a0 = 11 ∧ 2 ≤ d ∧ sz_180 E h4 a0 a1 ∧ Ct E d 184 [.long x5, .long (fz_180 E h4 a0 a1), .int a7] h4 (fun v h7 => ∃ x8 : Int64, v = some (.long x8) ∧ Q (some (.long x8)) h7))))) ∧ (¬ (¬ (fz_163 E h a0 a1 a6 : Int32) = 0) → (Q (some (.long ((-9000000000000000002)))) h))))) ∧ (¬ (¬ (fz_135 E h a7.toInt64 0 1 : Int32) = 0) → (Q (some (.long ((-9000000000000000001)))) h)))))))))
set_option maxRecDepth 20000 in
theorem ok_186 {E : Nat → Nat} {d : Nat} {a0 : Nat} {a1 : Int32} {a2 : Int32} {a3 : Int32} {a4 : Int32} {a5 : Int32} {a6 : Int32} {a7 : Int32} {h : ZH} {Q : Option Value → ZH → Prop} (hw : w_186 E d a0 a1 a2 a3 a4 a5 a6 a7 h Q) : Ct E (d + 1) 186 [.ref a0, .int a1, .int a2, .int a3, .int a4, .int a5, .int a6, .int a7] h Q := by
  unfold w_186 at hw
  show Gx E (d + 1) 186 0 [.ref a0, .int a1, .int a2, .int a3, .int a4, .int a5, .int a6, .int a7] [] h Q
  refine zg_aload zi_186_0 rfl ?_
  refine zg_iload zi_186_1 rfl ?_
  refine zg_iload zi_186_2 rfl ?_
  refine zg_iload zi_186_3 rfl ?_
  refine zg_iload zi_186_4 rfl ?_
  refine zg_iload zi_186_5 rfl ?_
  obtain ⟨t1, hw⟩ := hw
  obtain ⟨hd, hs, hw⟩ := hw
  refine Gx.call2 (as := [.ref a0, .int a1, .int a2, .int a3, .int a4, .int a5]) (rest := []) zq_169 zi_186_6 rfl rfl rfl (Nat.le_of_ble_eq_true rfl) (Nat.le_of_ble_eq_true rfl) (zrv_v t1 rfl rfl) (Nat.le_of_ble_eq_true rfl) ?_
  refine cz_169 hd hs ?_
  show Gx E (d + 1) 186 7 [.ref a0, .int a1, .int a2, .int a3, .int a4, .int a5, .int a6, .int a7] [.int (fz_169 E h a0 a1 a2 a3 a4 a5)] h Q
  refine zg_if_eq zi_186_7 (fun hc => ?_) (fun hc => ?_)
  · have hw := hw.1 hc
    refine zg_lconst (v := (-9000000000000000001)) zi_186_20 (by rfl) ?_
    exact zg_lreturn zi_186_21 hw
  · have hw := hw.2 hc
    refine zg_iload zi_186_8 rfl ?_
    refine zg_i2l zi_186_9 ?_
    refine zg_lconst (v := 0) zi_186_10 (by rfl) ?_
    refine zg_lconst (v := 4) zi_186_11 (by rfl) ?_
    obtain ⟨hd, hs, hw⟩ := hw
    refine Gx.call2 (as := [.long a6.toInt64, .long 0, .long 4]) (rest := []) zq_135 zi_186_12 rfl rfl rfl (Nat.le_of_ble_eq_true rfl) (Nat.le_of_ble_eq_true rfl) (rfl) (Nat.le_of_ble_eq_true rfl) ?_
    refine cz_135 hd hs ?_
    show Gx E (d + 1) 186 13 [.ref a0, .int a1, .int a2, .int a3, .int a4, .int a5, .int a6, .int a7] [.int (fz_135 E h a6.toInt64 0 4)] h Q
    refine zg_if_eq zi_186_13 (fun hc => ?_) (fun hc => ?_)
    · have hw := hw.1 hc
      refine zg_lconst (v := (-9000000000000000001)) zi_186_20 (by rfl) ?_
      exact zg_lreturn zi_186_21 hw
    · have hw := hw.2 hc
      refine zg_iload zi_186_14 rfl ?_
      refine zg_i2l zi_186_15 ?_
      refine zg_lconst (v := 0) zi_186_16 (by rfl) ?_
      refine zg_lconst (v := 1) zi_186_17 (by rfl) ?_
      obtain ⟨hd, hs, hw⟩ := hw
      refine Gx.call2 (as := [.long a7.toInt64, .long 0, .long 1]) (rest := []) zq_135 zi_186_18 rfl rfl rfl (Nat.le_of_ble_eq_true rfl) (Nat.le_of_ble_eq_true rfl) (rfl) (Nat.le_of_ble_eq_true rfl) ?_
      refine cz_135 hd hs ?_
      show Gx E (d + 1) 186 19 [.ref a0, .int a1, .int a2, .int a3, .int a4, .int a5, .int a6, .int a7] [.int (fz_135 E h a7.toInt64 0 1)] h Q
      refine zg_if_ne zi_186_19 (fun hc => ?_) (fun hc => ?_)
      · have hw := hw.1 hc
        refine zg_aload zi_186_22 rfl ?_
        refine zg_iload zi_186_23 rfl ?_
        refine zg_iload zi_186_24 rfl ?_
        obtain ⟨hd, hs, hw⟩ := hw
        refine Gx.call2 (as := [.ref a0, .int a1, .int a6]) (rest := []) zq_163 zi_186_25 rfl rfl rfl (Nat.le_of_ble_eq_true rfl) (Nat.le_of_ble_eq_true rfl) (zrv_v t1 rfl rfl) (Nat.le_of_ble_eq_true rfl) ?_
        refine cz_163 hd hs ?_
        show Gx E (d + 1) 186 26 [.ref a0, .int a1, .int a2, .int a3, .int a4, .int a5, .int a6, .int a7] [.int (fz_163 E h a0 a1 a6)] h Q
        refine zg_if_ne zi_186_26 (fun hc => ?_) (fun hc => ?_)
        · have hw := hw.1 hc
          refine zg_aload zi_186_29 rfl ?_
          refine Gx.call2 (as := [.ref a0]) (rest := []) zq_182 zi_186_30 rfl rfl rfl (Nat.le_of_ble_eq_true rfl) (Nat.le_of_ble_eq_true rfl) (zrv_v t1 rfl rfl) (Nat.le_of_ble_eq_true rfl) ?_
          refine Ct.mono hw ?_
          rintro v h2 ⟨rfl, hw⟩
          show Gx E (d + 1) 186 31 [.ref a0, .int a1, .int a2, .int a3, .int a4, .int a5, .int a6, .int a7] [] h2 Q
          refine zg_aload zi_186_31 rfl ?_
          refine zg_iload zi_186_32 rfl ?_
          refine zg_iload zi_186_33 rfl ?_
          refine zg_iload zi_186_34 rfl ?_
          refine zg_iload zi_186_35 rfl ?_
          refine zg_iload zi_186_36 rfl ?_
          refine zg_iload zi_186_37 rfl ?_
          obtain ⟨t3, hw⟩ := hw
          refine Gx.call2 (as := [.ref a0, .int a1, .int a2, .int a3, .int a4, .int a5, .int a6]) (rest := []) zq_179 zi_186_38 rfl rfl rfl (Nat.le_of_ble_eq_true rfl) (Nat.le_of_ble_eq_true rfl) (zrv_v t3 rfl rfl) (Nat.le_of_ble_eq_true rfl) ?_
          refine Ct.mono hw ?_
          rintro v h4 ⟨x5, rfl, hw⟩
          show Gx E (d + 1) 186 39 [.ref a0, .int a1, .int a2, .int a3, .int a4, .int a5, .int a6, .int a7] [.long x5] h4 Q
          refine zg_aload zi_186_39 rfl ?_
          refine zg_iload zi_186_40 rfl ?_
          obtain ⟨t6, hw⟩ := hw
          obtain ⟨hd, hs, hw⟩ := hw
          refine Gx.call2 (as := [.ref a0, .int a1]) (rest := [.long x5]) zq_180 zi_186_41 rfl rfl rfl (Nat.le_of_ble_eq_true rfl) (Nat.le_of_ble_eq_true rfl) (zrv_v t6 rfl rfl) (Nat.le_of_ble_eq_true rfl) ?_
          refine cz_180 hd hs ?_
          show Gx E (d + 1) 186 42 [.ref a0, .int a1, .int a2, .int a3, .int a4, .int a5, .int a6, .int a7] [.long (fz_180 E h4 a0 a1), .long x5] h4 Q
          refine zg_iload zi_186_42 rfl ?_
          refine Gx.call2 (as := [.long x5, .long (fz_180 E h4 a0 a1), .int a7]) (rest := []) zq_184 zi_186_43 rfl rfl rfl (Nat.le_of_ble_eq_true rfl) (Nat.le_of_ble_eq_true rfl) (rfl) (Nat.le_of_ble_eq_true rfl) ?_
          refine Ct.mono hw ?_
          rintro v h7 ⟨x8, rfl, hw⟩
          show Gx E (d + 1) 186 44 [.ref a0, .int a1, .int a2, .int a3, .int a4, .int a5, .int a6, .int a7] [.long x8] h7 Q
          exact zg_lreturn zi_186_44 hw
        · have hw := hw.2 hc
          refine zg_lconst (v := (-9000000000000000002)) zi_186_27 (by rfl) ?_
          exact zg_lreturn zi_186_28 hw
      · have hw := hw.2 hc
        refine zg_lconst (v := (-9000000000000000001)) zi_186_20 (by rfl) ?_
        exact zg_lreturn zi_186_21 hw
theorem zq_188 : zQ 188 6 12 11 := by unfold zQ; decide +kernel
theorem zi_188_0 : (zM 188).1[0]? = some (.iload 2) := by rfl
theorem zi_188_1 : (zM 188).1[1]? = some (.iconst 3) := by rfl
theorem zi_188_2 : (zM 188).1[2]? = some (.idiv) := by rfl
theorem zi_188_3 : (zM 188).1[3]? = some (.iconst 9) := by rfl
theorem zi_188_4 : (zM 188).1[4]? = some (.irem) := by rfl
theorem zi_188_5 : (zM 188).1[5]? = some (.istore 6) := by rfl
theorem zi_188_6 : (zM 188).1[6]? = some (.aload 0) := by rfl
theorem zi_188_7 : (zM 188).1[7]? = some (.getfield 11228) := by rfl
theorem zi_188_8 : (zM 188).1[8]? = some (.iconst 7371) := by rfl
theorem zi_188_9 : (zM 188).1[9]? = some (.iload 1) := by rfl
theorem zi_188_10 : (zM 188).1[10]? = some (.imul) := by rfl
theorem zi_188_11 : (zM 188).1[11]? = some (.iload 2) := by rfl
theorem zi_188_12 : (zM 188).1[12]? = some (.iadd) := by rfl
theorem zi_188_13 : (zM 188).1[13]? = some (.iaload) := by rfl
theorem zi_188_14 : (zM 188).1[14]? = some (.istore 7) := by rfl
theorem zi_188_15 : (zM 188).1[15]? = some (.aload 0) := by rfl
theorem zi_188_16 : (zM 188).1[16]? = some (.iload 1) := by rfl
theorem zi_188_17 : (zM 188).1[17]? = some (.iload 2) := by rfl
theorem zi_188_18 : (zM 188).1[18]? = some (.iconst 351) := by rfl
theorem zi_188_19 : (zM 188).1[19]? = some (.idiv) := by rfl
theorem zi_188_20 : (zM 188).1[20]? = some (.iload 2) := by rfl
theorem zi_188_21 : (zM 188).1[21]? = some (.iconst 27) := by rfl
theorem zi_188_22 : (zM 188).1[22]? = some (.idiv) := by rfl
theorem zi_188_23 : (zM 188).1[23]? = some (.iconst 13) := by rfl
theorem zi_188_24 : (zM 188).1[24]? = some (.irem) := by rfl
theorem zi_188_25 : (zM 188).1[25]? = some (.iload 6) := by rfl
theorem zi_188_26 : (zM 188).1[26]? = some (.iload 3) := by rfl
theorem zi_188_27 : (zM 188).1[27]? = some (.iload 7) := by rfl
theorem zi_188_28 : (zM 188).1[28]? = some (.invokevirtual 167) := by rfl
theorem zi_188_29 : (zM 188).1[29]? = some (.aload 0) := by rfl
theorem zi_188_30 : (zM 188).1[30]? = some (.iload 1) := by rfl
theorem zi_188_31 : (zM 188).1[31]? = some (.iload 6) := by rfl
theorem zi_188_32 : (zM 188).1[32]? = some (.invokevirtual 178) := by rfl
theorem zi_188_33 : (zM 188).1[33]? = some (.aload 0) := by rfl
theorem zi_188_34 : (zM 188).1[34]? = some (.getfield 11232) := by rfl
theorem zi_188_35 : (zM 188).1[35]? = some (.iload 2) := by rfl
theorem zi_188_36 : (zM 188).1[36]? = some (.laload) := by rfl
theorem zi_188_37 : (zM 188).1[37]? = some (.iload 4) := by rfl
theorem zi_188_38 : (zM 188).1[38]? = some (.i2l) := by rfl
theorem zi_188_39 : (zM 188).1[39]? = some (.lmul) := by rfl
theorem zi_188_40 : (zM 188).1[40]? = some (.aload 0) := by rfl
theorem zi_188_41 : (zM 188).1[41]? = some (.invokevirtual 152) := by rfl
theorem zi_188_42 : (zM 188).1[42]? = some (.iload 1) := by rfl
theorem zi_188_43 : (zM 188).1[43]? = some (.isub) := by rfl
theorem zi_188_44 : (zM 188).1[44]? = some (.iload 5) := by rfl
theorem zi_188_45 : (zM 188).1[45]? = some (.isub) := by rfl
theorem zi_188_46 : (zM 188).1[46]? = some (.invokestatic 176) := by rfl
theorem zi_188_47 : (zM 188).1[47]? = some (.lmul) := by rfl
theorem zi_188_48 : (zM 188).1[48]? = some (.lstore 8) := by rfl
theorem zi_188_49 : (zM 188).1[49]? = some (.aload 0) := by rfl
theorem zi_188_50 : (zM 188).1[50]? = some (.getfield 11234) := by rfl
theorem zi_188_51 : (zM 188).1[51]? = some (.iconst 0) := by rfl
theorem zi_188_52 : (zM 188).1[52]? = some (.dup2) := by rfl
theorem zi_188_53 : (zM 188).1[53]? = some (.laload) := by rfl
theorem zi_188_54 : (zM 188).1[54]? = some (.lload 8) := by rfl
theorem zi_188_55 : (zM 188).1[55]? = some (.aload 0) := by rfl
theorem zi_188_56 : (zM 188).1[56]? = some (.getfield 11023) := by rfl
theorem zi_188_57 : (zM 188).1[57]? = some (.aload 0) := by rfl
theorem zi_188_58 : (zM 188).1[58]? = some (.getfield 11031) := by rfl
theorem zi_188_59 : (zM 188).1[59]? = some (.iadd) := by rfl
theorem zi_188_60 : (zM 188).1[60]? = some (.i2l) := by rfl
theorem zi_188_61 : (zM 188).1[61]? = some (.jsr_w 100) := by rfl
theorem zi_188_62 : (zM 188).1[62]? = some (.aload 0) := by rfl
theorem zi_188_63 : (zM 188).1[63]? = some (.getfield 11215) := by rfl
theorem zi_188_64 : (zM 188).1[64]? = some (.iconst 14) := by rfl
theorem zi_188_65 : (zM 188).1[65]? = some (.iaload) := by rfl
theorem zi_188_66 : (zM 188).1[66]? = some (.i2l) := by rfl
theorem zi_188_67 : (zM 188).1[67]? = some (.lmul) := by rfl
theorem zi_188_68 : (zM 188).1[68]? = some (.iload 7) := by rfl
theorem zi_188_69 : (zM 188).1[69]? = some (.i2l) := by rfl
theorem zi_188_70 : (zM 188).1[70]? = some (.lmul) := by rfl
theorem zi_188_71 : (zM 188).1[71]? = some (.lsub) := by rfl
theorem zi_188_72 : (zM 188).1[72]? = some (.lmul) := by rfl
theorem zi_188_73 : (zM 188).1[73]? = some (.ladd) := by rfl
theorem zi_188_74 : (zM 188).1[74]? = some (.lastore) := by rfl
theorem zi_188_75 : (zM 188).1[75]? = some (.aload 0) := by rfl
theorem zi_188_76 : (zM 188).1[76]? = some (.getfield 11234) := by rfl
theorem zi_188_77 : (zM 188).1[77]? = some (.iconst 1) := by rfl
theorem zi_188_78 : (zM 188).1[78]? = some (.dup2) := by rfl
theorem zi_188_79 : (zM 188).1[79]? = some (.laload) := by rfl
theorem zi_188_80 : (zM 188).1[80]? = some (.lload 8) := by rfl
theorem zi_188_81 : (zM 188).1[81]? = some (.iload 7) := by rfl
theorem zi_188_82 : (zM 188).1[82]? = some (.i2l) := by rfl
theorem zi_188_83 : (zM 188).1[83]? = some (.lmul) := by rfl
theorem zi_188_84 : (zM 188).1[84]? = some (.ladd) := by rfl
theorem zi_188_85 : (zM 188).1[85]? = some (.lastore) := by rfl
theorem zi_188_86 : (zM 188).1[86]? = some (.aload 0) := by rfl
theorem zi_188_87 : (zM 188).1[87]? = some (.getfield 11234) := by rfl
theorem zi_188_88 : (zM 188).1[88]? = some (.iconst 2) := by rfl
theorem zi_188_89 : (zM 188).1[89]? = some (.dup2) := by rfl
theorem zi_188_90 : (zM 188).1[90]? = some (.laload) := by rfl
theorem zi_188_91 : (zM 188).1[91]? = some (.aload 0) := by rfl
theorem zi_188_92 : (zM 188).1[92]? = some (.iload 1) := by rfl
theorem zi_188_93 : (zM 188).1[93]? = some (.invokevirtual 177) := by rfl
theorem zi_188_94 : (zM 188).1[94]? = some (.ifCond .eq ((101 : Nat) : Int)) := by rfl
theorem zi_188_95 : (zM 188).1[95]? = some (.lload 8) := by rfl
theorem zi_188_96 : (zM 188).1[96]? = some (.aload 0) := by rfl
theorem zi_188_97 : (zM 188).1[97]? = some (.getfield 11025) := by rfl
theorem zi_188_98 : (zM 188).1[98]? = some (.i2l) := by rfl
theorem zi_188_99 : (zM 188).1[99]? = some (.lmul) := by rfl
theorem zi_188_100 : (zM 188).1[100]? = some (.goto ((102 : Nat) : Int)) := by rfl
theorem zi_188_101 : (zM 188).1[101]? = some (.jsr_w 0) := by rfl
theorem zi_188_102 : (zM 188).1[102]? = some (.ladd) := by rfl
theorem zi_188_103 : (zM 188).1[103]? = some (.lastore) := by rfl
theorem zi_188_104 : (zM 188).1[104]? = some (.aload 0) := by rfl
theorem zi_188_105 : (zM 188).1[105]? = some (.getfield 11234) := by rfl
theorem zi_188_106 : (zM 188).1[106]? = some (.iconst 3) := by rfl
theorem zi_188_107 : (zM 188).1[107]? = some (.dup2) := by rfl
theorem zi_188_108 : (zM 188).1[108]? = some (.laload) := by rfl
theorem zi_188_109 : (zM 188).1[109]? = some (.lload 8) := by rfl
theorem zi_188_110 : (zM 188).1[110]? = some (.aload 0) := by rfl
theorem zi_188_111 : (zM 188).1[111]? = some (.getfield 11024) := by rfl
theorem zi_188_112 : (zM 188).1[112]? = some (.i2l) := by rfl
theorem zi_188_113 : (zM 188).1[113]? = some (.lmul) := by rfl
theorem zi_188_114 : (zM 188).1[114]? = some (.ladd) := by rfl
theorem zi_188_115 : (zM 188).1[115]? = some (.lastore) := by rfl
theorem zi_188_116 : (zM 188).1[116]? = some (.aload 0) := by rfl
theorem zi_188_117 : (zM 188).1[117]? = some (.getfield 11030) := by rfl
theorem zi_188_118 : (zM 188).1[118]? = some (.iconst 7371) := by rfl
theorem zi_188_119 : (zM 188).1[119]? = some (.iload 1) := by rfl
theorem zi_188_120 : (zM 188).1[120]? = some (.iconst 1) := by rfl
theorem zi_188_121 : (zM 188).1[121]? = some (.iadd) := by rfl
theorem zi_188_122 : (zM 188).1[122]? = some (.imul) := by rfl
theorem zi_188_123 : (zM 188).1[123]? = some (.isub) := by rfl
theorem zi_188_124 : (zM 188).1[124]? = some (.istore 10) := by rfl
theorem zi_188_125 : (zM 188).1[125]? = some (.aload 0) := by rfl
theorem zi_188_126 : (zM 188).1[126]? = some (.getfield 11215) := by rfl
theorem zi_188_127 : (zM 188).1[127]? = some (.iconst 12) := by rfl
theorem zi_188_128 : (zM 188).1[128]? = some (.iaload) := by rfl
theorem zi_188_129 : (zM 188).1[129]? = some (.iconst 1) := by rfl
theorem zi_188_130 : (zM 188).1[130]? = some (.if_icmp .ne ((148 : Nat) : Int)) := by rfl
theorem zi_188_131 : (zM 188).1[131]? = some (.aload 0) := by rfl
theorem zi_188_132 : (zM 188).1[132]? = some (.getfield 11233) := by rfl
theorem zi_188_133 : (zM 188).1[133]? = some (.iload 10) := by rfl
theorem zi_188_134 : (zM 188).1[134]? = some (.iload 3) := by rfl
theorem zi_188_135 : (zM 188).1[135]? = some (.iadd) := by rfl
theorem zi_188_136 : (zM 188).1[136]? = some (.dup2) := by rfl
theorem zi_188_137 : (zM 188).1[137]? = some (.laload) := by rfl
theorem zi_188_138 : (zM 188).1[138]? = some (.aload 0) := by rfl
theorem zi_188_139 : (zM 188).1[139]? = some (.getfield 11232) := by rfl
theorem zi_188_140 : (zM 188).1[140]? = some (.iload 2) := by rfl
theorem zi_188_141 : (zM 188).1[141]? = some (.laload) := by rfl
theorem zi_188_142 : (zM 188).1[142]? = some (.iload 4) := by rfl
theorem zi_188_143 : (zM 188).1[143]? = some (.i2l) := by rfl
theorem zi_188_144 : (zM 188).1[144]? = some (.lmul) := by rfl
theorem zi_188_145 : (zM 188).1[145]? = some (.ladd) := by rfl
theorem zi_188_146 : (zM 188).1[146]? = some (.lastore) := by rfl
theorem zi_188_147 : (zM 188).1[147]? = some (.goto ((180 : Nat) : Int)) := by rfl
theorem zi_188_148 : (zM 188).1[148]? = some (.iconst 0) := by rfl
theorem zi_188_149 : (zM 188).1[149]? = some (.istore 11) := by rfl
theorem zi_188_150 : (zM 188).1[150]? = some (.iload 11) := by rfl
theorem zi_188_151 : (zM 188).1[151]? = some (.iconst 3) := by rfl
theorem zi_188_152 : (zM 188).1[152]? = some (.if_icmp .ge ((180 : Nat) : Int)) := by rfl
theorem zi_188_153 : (zM 188).1[153]? = some (.aload 0) := by rfl
theorem zi_188_154 : (zM 188).1[154]? = some (.getfield 11233) := by rfl
theorem zi_188_155 : (zM 188).1[155]? = some (.iload 10) := by rfl
theorem zi_188_156 : (zM 188).1[156]? = some (.iload 11) := by rfl
theorem zi_188_157 : (zM 188).1[157]? = some (.iadd) := by rfl
theorem zi_188_158 : (zM 188).1[158]? = some (.dup2) := by rfl
theorem zi_188_159 : (zM 188).1[159]? = some (.laload) := by rfl
theorem zi_188_160 : (zM 188).1[160]? = some (.aload 0) := by rfl
theorem zi_188_161 : (zM 188).1[161]? = some (.getfield 11232) := by rfl
theorem zi_188_162 : (zM 188).1[162]? = some (.iload 2) := by rfl
theorem zi_188_163 : (zM 188).1[163]? = some (.laload) := by rfl
theorem zi_188_164 : (zM 188).1[164]? = some (.aload 0) := by rfl
theorem zi_188_165 : (zM 188).1[165]? = some (.getfield 11215) := by rfl
theorem zi_188_166 : (zM 188).1[166]? = some (.iconst 19) := by rfl
theorem zi_188_167 : (zM 188).1[167]? = some (.iconst 3) := by rfl
theorem zi_188_168 : (zM 188).1[168]? = some (.iload 3) := by rfl
theorem zi_188_169 : (zM 188).1[169]? = some (.imul) := by rfl
theorem zi_188_170 : (zM 188).1[170]? = some (.iadd) := by rfl
theorem zi_188_171 : (zM 188).1[171]? = some (.iload 11) := by rfl
theorem zi_188_172 : (zM 188).1[172]? = some (.iadd) := by rfl
theorem zi_188_173 : (zM 188).1[173]? = some (.iaload) := by rfl
theorem zi_188_174 : (zM 188).1[174]? = some (.i2l) := by rfl
theorem zi_188_175 : (zM 188).1[175]? = some (.lmul) := by rfl
theorem zi_188_176 : (zM 188).1[176]? = some (.ladd) := by rfl
theorem zi_188_177 : (zM 188).1[177]? = some (.lastore) := by rfl
theorem zi_188_178 : (zM 188).1[178]? = some (.iinc 11 1) := by rfl
theorem zi_188_179 : (zM 188).1[179]? = some (.goto ((150 : Nat) : Int)) := by rfl
theorem zi_188_180 : (zM 188).1[180]? = some (.return_) := by rfl
def wl_188_150 (E : Nat → Nat) (d : Nat) (Q : Option Value → ZH → Prop) : Nat → Nat → Int32 → Int32 → Int32 → Int32 → ZH → Prop
  | 0, _, _, _, _, _, _ => False
  | n + 1, a0, a2, a3, a10, a11, h => (3 ≤ a11 → (Q none h)) ∧ (¬ (3 ≤ a11) → (ztag h a0 = 11 ∧ ∃ r24 : Nat, zR h a0 33 = r24 + 1 ∧ ztag h r24 = 14 ∧ zin (a10 + a11) (zlen h r24) = true ∧ ∃ r26 : Nat, zR h a0 32 = r26 + 1 ∧ ztag h r26 = 14 ∧ zin a2 (zlen h r26) = true ∧ ∃ r28 : Nat, zR h a0 15 = r28 + 1 ∧ (ztag h r28 = 13 ∨ ztag h r28 = 19) ∧ zin ((19 + (3 * a3)) + a11) (zlen h r28) = true ∧ ztag h r24 = 14 ∧ zin (a10 + a11) (zlen h r24) = true ∧ ∀ h31 : ZH, h31 = (zuL h r24 (a10 + a11 : Int32).toNatClampNeg ((zL h r24 (a10 + a11 : Int32).toNatClampNeg) + ((zL h r26 a2.toNatClampNeg) * ((zI h r28 ((19 + (3 * a3)) + a11 : Int32).toNatClampNeg : Int32).toInt64)))) → ∀ x32 : Int32, x32 = (a11 + 1) → wl_188_150 E d Q n a0 a2 a3 a10 x32 h31))
set_option maxRecDepth 20000 in
theorem okl_188_150 {E : Nat → Nat} {d : Nat} {Q : Option Value → ZH → Prop} : ∀ (n : Nat) (a0 : Nat) (a2 : Int32) (a3 : Int32) (a10 : Int32) (a11 : Int32) (h : ZH), wl_188_150 E d Q n a0 a2 a3 a10 a11 h → Gx E (d + 1) 188 150 [.ref a0, .retAddr 0, .int a2, .int a3, .retAddr 0, .retAddr 0, .retAddr 0, .retAddr 0, .retAddr 0, .retAddr 0, .int a10, .int a11] [] h Q := by
  intro n
  induction n with
  | zero => intro a0 a2 a3 a10 a11 h hw; exact hw.elim
  | succ n ih =>
    intro a0 a2 a3 a10 a11 h hw
    rw [wl_188_150] at hw
    refine zg_iload zi_188_150 rfl ?_
    refine zg_const (v := 3) zi_188_151 (by rfl) ?_
    refine zg_icmp_ge zi_188_152 (fun hc => ?_) (fun hc => ?_)
    · have hw := hw.1 hc
      exact zg_return zi_188_180 hw
    · have hw := hw.2 hc
      refine zg_aload zi_188_153 rfl ?_
      obtain ⟨t23, hw⟩ := hw
      obtain ⟨r24, er24, hw⟩ := hw
      refine zg_getR (v := .ref r24) zi_188_154 t23 (by rfl) (by show zrv (zR h a0 33) = _; rw [er24]; rfl) ?_
      refine zg_iload zi_188_155 rfl ?_
      refine zg_iload zi_188_156 rfl ?_
      refine zg_iadd zi_188_157 ?_
      refine zg_dup2_11 zi_188_158 rfl ?_
      obtain ⟨t25, hw⟩ := hw
      obtain ⟨hb, hw⟩ := hw
      refine zg_laload (v := .long (zL h r24 (a10 + a11 : Int32).toNatClampNeg)) zi_188_159 t25 hb rfl ?_
      refine zg_aload zi_188_160 rfl ?_
      obtain ⟨r26, er26, hw⟩ := hw
      refine zg_getR (v := .ref r26) zi_188_161 t23 (by rfl) (by show zrv (zR h a0 32) = _; rw [er26]; rfl) ?_
      refine zg_iload zi_188_162 rfl ?_
      obtain ⟨t27, hw⟩ := hw
      obtain ⟨hb, hw⟩ := hw
      refine zg_laload (v := .long (zL h r26 a2.toNatClampNeg)) zi_188_163 t27 hb rfl ?_
      refine zg_aload zi_188_164 rfl ?_
      obtain ⟨r28, er28, hw⟩ := hw
      refine zg_getR (v := .ref r28) zi_188_165 t23 (by rfl) (by show zrv (zR h a0 15) = _; rw [er28]; rfl) ?_
      refine zg_const (v := 19) zi_188_166 (by rfl) ?_
      refine zg_const (v := 3) zi_188_167 (by rfl) ?_
      refine zg_iload zi_188_168 rfl ?_
      refine zg_imul zi_188_169 ?_
      refine zg_iadd zi_188_170 ?_
      refine zg_iload zi_188_171 rfl ?_
      refine zg_iadd zi_188_172 ?_
      obtain ⟨t29, hw⟩ := hw
      obtain ⟨hb, hw⟩ := hw
      refine zg_iaload (v := .int (zI h r28 ((19 + (3 * a3)) + a11 : Int32).toNatClampNeg)) zi_188_173 t29 hb rfl ?_
      refine zg_i2l zi_188_174 ?_
      refine zg_lmul zi_188_175 ?_
      refine zg_ladd zi_188_176 ?_
      obtain ⟨t30, hw⟩ := hw
      obtain ⟨hb, hw⟩ := hw
      refine zg_lastore (h1 := zuL h r24 (a10 + a11 : Int32).toNatClampNeg ((zL h r24 (a10 + a11 : Int32).toNatClampNeg) + ((zL h r26 a2.toNatClampNeg) * ((zI h r28 ((19 + (3 * a3)) + a11 : Int32).toNatClampNeg : Int32).toInt64)))) zi_188_177 t30 hb rfl ?_
      refine zg_nameH fun h31 eh31 => ?_
      have hw := hw h31 eh31
      obtain ⟨x32, ex32⟩ : ∃ x : Int32, x = a11 + 1 := ⟨_, rfl⟩
      have hw := hw x32 ex32
      refine zg_iinc (v := x32) (ls1 := [.ref a0, .retAddr 0, .int a2, .int a3, .retAddr 0, .retAddr 0, .retAddr 0, .retAddr 0, .retAddr 0, .retAddr 0, .int a10, .int x32]) zi_188_178 rfl (by rw [ex32]; rfl) rfl ?_
      refine zg_goto zi_188_179 ?_
      exact ih a0 a2 a3 a10 x32 h31 hw
/-- TakeOrPayModel.goForward(IIIII)V -/
def w_188 (E : Nat → Nat) (d : Nat) (a0 : Nat) (a1 : Int32) (a2 : Int32) (a3 : Int32) (a4 : Int32) (a5 : Int32) (h : ZH) (Q : Option Value → ZH → Prop) : Prop := ∀ x1 : Int32, x1 = ((a2 / 3) - (a2 / 3) / 9 * 9) → ztag h a0 = 11 ∧ ∃ r3 : Nat, zR h a0 28 = r3 + 1 ∧ (ztag h r3 = 13 ∨ ztag h r3 = 19) ∧ zin ((7371 * a1) + a2) (zlen h r3) = true ∧ ∀ x5 : Int32, x5 = (zI h r3 ((7371 * a1) + a2 : Int32).toNatClampNeg) → Ct E d 167 [.ref a0, .int a1, .int (a2 / 351), .int ((a2 / 27) - (a2 / 27) / 13 * 13), .int x1, .int a3, .int x5] h (fun v h6 => v = none ∧ ztag h6 a0 = 11 ∧ Ct E d 178 [.ref a0, .int a1, .int x1] h6 (fun v h8 => v = none ∧ ztag h8 a0 = 11 ∧ ∃ r10 : Nat, zR h8 a0 32 = r10 + 1 ∧ ztag h8 r10 = 14 ∧ zin a2 (zlen h8 r10) = true ∧ 1 ≤ d ∧ sz_152 E h8 a0 ∧ 1 ≤ d ∧ sz_176 E h8 (((fz_152 E h8 a0) - a1) - a5) ∧ ∀ x12 : Int64, x12 = (((zL h8 r10 a2.toNatClampNeg) * a4.toInt64) * (fz_176 E h8 (((fz_152 E h8 a0) - a1) - a5))) → ∃ r13 : Nat, zR h8 a0 34 = r13 + 1 ∧ ztag h8 r13 = 14 ∧ zin 0 (zlen h8 r13) = true ∧ ∃ r15 : Nat, zR h8 a0 15 = r15 + 1 ∧ (ztag h8 r15 = 13 ∨ ztag h8 r15 = 19) ∧ zin 14 (zlen h8 r15) = true ∧ ztag h8 r13 = 14 ∧ zin 0 (zlen h8 r13) = true ∧ ∀ h18 : ZH, h18 = (zuL h8 r13 0 ((zL h8 r13 0) + (x12 * ((((zI h8 a0 23) + (zI h8 a0 31) : Int32).toInt64) - ((100 * ((zI h8 r15 14 : Int32).toInt64)) * x5.toInt64))))) → zin 1 (zlen h18 r13) = true ∧ zin 1 (zlen h18 r13) = true ∧ ∀ h19 : ZH, h19 = (zuL h18 r13 1 ((zL h18 r13 1) + (x12 * x5.toInt64))) → zin 2 (zlen h19 r13) = true ∧ 1 ≤ d ∧ sz_177 E h19 a0 a1 ∧ zin 2 (zlen h19 r13) = true ∧ ∀ h20 : ZH, h20 = (zuL h19 r13 2 ((zL h19 r13 2) + (if (fz_177 E h19 a0 a1 : Int32) = 0 then 0 else x12 * ((zI h19 a0 25 : Int32).toInt64)))) → zin 3 (zlen h20 r13) = true ∧ zin 3 (zlen h20 r13) = true ∧ ∀ h21 : ZH, h21 = (zuL h20 r13 3 ((zL h20 r13 3) + (x12 * ((zI h20 a0 24 : Int32).toInt64)))) → ∀ x22 : Int32, x22 = ((zI h21 a0 30) - (7371 * (a1 + 1))) → zin 12 (zlen h21 r15) = true ∧ ((¬ (zI h21 r15 12 : Int32) = 1 → (∃ mm : Nat, wl_188_150 E d Q mm a0 a2 a3 x22 0 h21)) ∧ (¬ (¬ (zI h21 r15 12 : Int32) = 1) → (∃ r33 : Nat, zR h21 a0 33 = r33 + 1 ∧ ztag h21 r33 = 14 ∧ zin (x22 + a3) (zlen h21 r33) = true ∧ zin a2 (zlen h21 r10) = true ∧ ztag h21 r33 = 14 ∧ zin (x22 + a3) (zlen h21 r33) = true ∧ ∀ h36 : ZH, h36 = (zuL h21 r33 (x22 + a3 : Int32).toNatClampNeg ((zL h21 r33 (x22 + a3 : Int32).toNatClampNeg) + ((zL h21 r10 a2.toNatClampNeg) * a4.toInt64))) → Q none h36)))))
set_option maxRecDepth 20000 in
theorem ok_188 {E : Nat → Nat} {d : Nat} {a0 : Nat} {a1 : Int32} {a2 : Int32} {a3 : Int32} {a4 : Int32} {a5 : Int32} {h : ZH} {Q : Option Value → ZH → Prop} (hw : w_188 E d a0 a1 a2 a3 a4 a5 h Q) : Ct E (d + 1) 188 [.ref a0, .int a1, .int a2, .int a3, .int a4, .int a5] h Q := by
  unfold w_188 at hw
  show Gx E (d + 1) 188 0 [.ref a0, .int a1, .int a2, .int a3, .int a4, .int a5, .retAddr 0, .retAddr 0, .retAddr 0, .retAddr 0, .retAddr 0, .retAddr 0] [] h Q
  refine zg_iload zi_188_0 rfl ?_
  refine zg_const (v := 3) zi_188_1 (by rfl) ?_
  refine zg_idiv zi_188_2 (by decide) ?_
  refine zg_const (v := 9) zi_188_3 (by rfl) ?_
  refine zg_irem zi_188_4 (by decide) ?_
  refine zg_nameI fun x1 ex1 => ?_
  have hw := hw x1 ex1
  refine zg_istore (ls1 := [.ref a0, .int a1, .int a2, .int a3, .int a4, .int a5, .int x1, .retAddr 0, .retAddr 0, .retAddr 0, .retAddr 0, .retAddr 0]) zi_188_5 (Nat.le_of_ble_eq_true rfl) rfl ?_
  refine zg_aload zi_188_6 rfl ?_
  obtain ⟨t2, hw⟩ := hw
  obtain ⟨r3, er3, hw⟩ := hw
  refine zg_getR (v := .ref r3) zi_188_7 t2 (by rfl) (by show zrv (zR h a0 28) = _; rw [er3]; rfl) ?_
  refine zg_const (v := 7371) zi_188_8 (by rfl) ?_
  refine zg_iload zi_188_9 rfl ?_
  refine zg_imul zi_188_10 ?_
  refine zg_iload zi_188_11 rfl ?_
  refine zg_iadd zi_188_12 ?_
  obtain ⟨t4, hw⟩ := hw
  obtain ⟨hb, hw⟩ := hw
  refine zg_iaload (v := .int (zI h r3 ((7371 * a1) + a2 : Int32).toNatClampNeg)) zi_188_13 t4 hb rfl ?_
  refine zg_nameI fun x5 ex5 => ?_
  have hw := hw x5 ex5
  refine zg_istore (ls1 := [.ref a0, .int a1, .int a2, .int a3, .int a4, .int a5, .int x1, .int x5, .retAddr 0, .retAddr 0, .retAddr 0, .retAddr 0]) zi_188_14 (Nat.le_of_ble_eq_true rfl) rfl ?_
  refine zg_aload zi_188_15 rfl ?_
  refine zg_iload zi_188_16 rfl ?_
  refine zg_iload zi_188_17 rfl ?_
  refine zg_const (v := 351) zi_188_18 (by rfl) ?_
  refine zg_idiv zi_188_19 (by decide) ?_
  refine zg_iload zi_188_20 rfl ?_
  refine zg_const (v := 27) zi_188_21 (by rfl) ?_
  refine zg_idiv zi_188_22 (by decide) ?_
  refine zg_const (v := 13) zi_188_23 (by rfl) ?_
  refine zg_irem zi_188_24 (by decide) ?_
  refine zg_iload zi_188_25 rfl ?_
  refine zg_iload zi_188_26 rfl ?_
  refine zg_iload zi_188_27 rfl ?_
  refine Gx.call2 (as := [.ref a0, .int a1, .int (a2 / 351), .int ((a2 / 27) - (a2 / 27) / 13 * 13), .int x1, .int a3, .int x5]) (rest := []) zq_167 zi_188_28 rfl rfl rfl (Nat.le_of_ble_eq_true rfl) (Nat.le_of_ble_eq_true rfl) (zrv_v t2 rfl rfl) (Nat.le_of_ble_eq_true rfl) ?_
  refine Ct.mono hw ?_
  rintro v h6 ⟨rfl, hw⟩
  show Gx E (d + 1) 188 29 [.ref a0, .int a1, .int a2, .int a3, .int a4, .int a5, .int x1, .int x5, .retAddr 0, .retAddr 0, .retAddr 0, .retAddr 0] [] h6 Q
  refine zg_aload zi_188_29 rfl ?_
  refine zg_iload zi_188_30 rfl ?_
  refine zg_iload zi_188_31 rfl ?_
  obtain ⟨t7, hw⟩ := hw
  refine Gx.call2 (as := [.ref a0, .int a1, .int x1]) (rest := []) zq_178 zi_188_32 rfl rfl rfl (Nat.le_of_ble_eq_true rfl) (Nat.le_of_ble_eq_true rfl) (zrv_v t7 rfl rfl) (Nat.le_of_ble_eq_true rfl) ?_
  refine Ct.mono hw ?_
  rintro v h8 ⟨rfl, hw⟩
  show Gx E (d + 1) 188 33 [.ref a0, .int a1, .int a2, .int a3, .int a4, .int a5, .int x1, .int x5, .retAddr 0, .retAddr 0, .retAddr 0, .retAddr 0] [] h8 Q
  refine zg_aload zi_188_33 rfl ?_
  obtain ⟨t9, hw⟩ := hw
  obtain ⟨r10, er10, hw⟩ := hw
  refine zg_getR (v := .ref r10) zi_188_34 t9 (by rfl) (by show zrv (zR h8 a0 32) = _; rw [er10]; rfl) ?_
  refine zg_iload zi_188_35 rfl ?_
  obtain ⟨t11, hw⟩ := hw
  obtain ⟨hb, hw⟩ := hw
  refine zg_laload (v := .long (zL h8 r10 a2.toNatClampNeg)) zi_188_36 t11 hb rfl ?_
  refine zg_iload zi_188_37 rfl ?_
  refine zg_i2l zi_188_38 ?_
  refine zg_lmul zi_188_39 ?_
  refine zg_aload zi_188_40 rfl ?_
  obtain ⟨hd, hs, hw⟩ := hw
  refine Gx.call2 (as := [.ref a0]) (rest := [.long ((zL h8 r10 a2.toNatClampNeg) * a4.toInt64)]) zq_152 zi_188_41 rfl rfl rfl (Nat.le_of_ble_eq_true rfl) (Nat.le_of_ble_eq_true rfl) (zrv_v t9 rfl rfl) (Nat.le_of_ble_eq_true rfl) ?_
  refine cz_152 hd hs ?_
  show Gx E (d + 1) 188 42 [.ref a0, .int a1, .int a2, .int a3, .int a4, .int a5, .int x1, .int x5, .retAddr 0, .retAddr 0, .retAddr 0, .retAddr 0] [.int (fz_152 E h8 a0), .long ((zL h8 r10 a2.toNatClampNeg) * a4.toInt64)] h8 Q
  refine zg_iload zi_188_42 rfl ?_
  refine zg_isub zi_188_43 ?_
  refine zg_iload zi_188_44 rfl ?_
  refine zg_isub zi_188_45 ?_
  obtain ⟨hd, hs, hw⟩ := hw
  refine Gx.call2 (as := [.int (((fz_152 E h8 a0) - a1) - a5)]) (rest := [.long ((zL h8 r10 a2.toNatClampNeg) * a4.toInt64)]) zq_176 zi_188_46 rfl rfl rfl (Nat.le_of_ble_eq_true rfl) (Nat.le_of_ble_eq_true rfl) (rfl) (Nat.le_of_ble_eq_true rfl) ?_
  refine cz_176 hd hs ?_
  show Gx E (d + 1) 188 47 [.ref a0, .int a1, .int a2, .int a3, .int a4, .int a5, .int x1, .int x5, .retAddr 0, .retAddr 0, .retAddr 0, .retAddr 0] [.long (fz_176 E h8 (((fz_152 E h8 a0) - a1) - a5)), .long ((zL h8 r10 a2.toNatClampNeg) * a4.toInt64)] h8 Q
  refine zg_lmul zi_188_47 ?_
  refine zg_nameL fun x12 ex12 => ?_
  have hw := hw x12 ex12
  refine zg_lstore (ls1 := [.ref a0, .int a1, .int a2, .int a3, .int a4, .int a5, .int x1, .int x5, .long x12, .retAddr 0, .retAddr 0, .retAddr 0]) zi_188_48 (Nat.le_of_ble_eq_true rfl) rfl ?_
  refine zg_aload zi_188_49 rfl ?_
  obtain ⟨r13, er13, hw⟩ := hw
  refine zg_getR (v := .ref r13) zi_188_50 t9 (by rfl) (by show zrv (zR h8 a0 34) = _; rw [er13]; rfl) ?_
  refine zg_const (v := 0) zi_188_51 (by rfl) ?_
  refine zg_dup2_11 zi_188_52 rfl ?_
  obtain ⟨t14, hw⟩ := hw
  obtain ⟨hb, hw⟩ := hw
  refine zg_laload (v := .long (zL h8 r13 0)) zi_188_53 t14 hb rfl ?_
  refine zg_lload zi_188_54 rfl ?_
  refine zg_aload zi_188_55 rfl ?_
  refine zg_getI (v := .int (zI h8 a0 23)) zi_188_56 t9 (by rfl) rfl ?_
  refine zg_aload zi_188_57 rfl ?_
  refine zg_getI (v := .int (zI h8 a0 31)) zi_188_58 t9 (by rfl) rfl ?_
  refine zg_iadd zi_188_59 ?_
  refine zg_i2l zi_188_60 ?_
  refine zg_lconst (v := 100) zi_188_61 (by rfl) ?_
  refine zg_aload zi_188_62 rfl ?_
  obtain ⟨r15, er15, hw⟩ := hw
  refine zg_getR (v := .ref r15) zi_188_63 t9 (by rfl) (by show zrv (zR h8 a0 15) = _; rw [er15]; rfl) ?_
  refine zg_const (v := 14) zi_188_64 (by rfl) ?_
  obtain ⟨t16, hw⟩ := hw
  obtain ⟨hb, hw⟩ := hw
  refine zg_iaload (v := .int (zI h8 r15 14)) zi_188_65 t16 hb rfl ?_
  refine zg_i2l zi_188_66 ?_
  refine zg_lmul zi_188_67 ?_
  refine zg_iload zi_188_68 rfl ?_
  refine zg_i2l zi_188_69 ?_
  refine zg_lmul zi_188_70 ?_
  refine zg_lsub zi_188_71 ?_
  refine zg_lmul zi_188_72 ?_
  refine zg_ladd zi_188_73 ?_
  obtain ⟨t17, hw⟩ := hw
  obtain ⟨hb, hw⟩ := hw
  refine zg_lastore (h1 := zuL h8 r13 0 ((zL h8 r13 0) + (x12 * ((((zI h8 a0 23) + (zI h8 a0 31) : Int32).toInt64) - ((100 * ((zI h8 r15 14 : Int32).toInt64)) * x5.toInt64))))) zi_188_74 t17 hb rfl ?_
  refine zg_nameH fun h18 eh18 => ?_
  have hw := hw h18 eh18
  refine zg_aload zi_188_75 rfl ?_
  refine zg_getR (v := .ref r13) zi_188_76 (by rw [eh18]; exact t9) (by rfl) (by rw [eh18]; show zrv (zR h8 a0 34) = _; rw [er13]; rfl) ?_
  refine zg_const (v := 1) zi_188_77 (by rfl) ?_
  refine zg_dup2_11 zi_188_78 rfl ?_
  obtain ⟨hb, hw⟩ := hw
  refine zg_laload (v := .long (zL h18 r13 1)) zi_188_79 (by rw [eh18]; exact t14) hb rfl ?_
  refine zg_lload zi_188_80 rfl ?_
  refine zg_iload zi_188_81 rfl ?_
  refine zg_i2l zi_188_82 ?_
  refine zg_lmul zi_188_83 ?_
  refine zg_ladd zi_188_84 ?_
  obtain ⟨hb, hw⟩ := hw
  refine zg_lastore (h1 := zuL h18 r13 1 ((zL h18 r13 1) + (x12 * x5.toInt64))) zi_188_85 (by rw [eh18]; exact t17) hb rfl ?_
  refine zg_nameH fun h19 eh19 => ?_
  have hw := hw h19 eh19
  refine zg_aload zi_188_86 rfl ?_
  refine zg_getR (v := .ref r13) zi_188_87 (by rw [eh19, eh18]; exact t9) (by rfl) (by rw [eh19, eh18]; show zrv (zR h8 a0 34) = _; rw [er13]; rfl) ?_
  refine zg_const (v := 2) zi_188_88 (by rfl) ?_
  refine zg_dup2_11 zi_188_89 rfl ?_
  obtain ⟨hb, hw⟩ := hw
  refine zg_laload (v := .long (zL h19 r13 2)) zi_188_90 (by rw [eh19, eh18]; exact t14) hb rfl ?_
  refine zg_aload zi_188_91 rfl ?_
  refine zg_iload zi_188_92 rfl ?_
  obtain ⟨hd, hs, hw⟩ := hw
  refine Gx.call2 (as := [.ref a0, .int a1]) (rest := [.long (zL h19 r13 2), .int 2, .ref r13]) zq_177 zi_188_93 rfl rfl rfl (Nat.le_of_ble_eq_true rfl) (Nat.le_of_ble_eq_true rfl) (zrv_v (by rw [eh19, eh18]; exact t9) rfl rfl) (Nat.le_of_ble_eq_true rfl) ?_
  refine cz_177 hd hs ?_
  show Gx E (d + 1) 188 94 [.ref a0, .int a1, .int a2, .int a3, .int a4, .int a5, .int x1, .int x5, .long x12, .retAddr 0, .retAddr 0, .retAddr 0] [.int (fz_177 E h19 a0 a1), .long (zL h19 r13 2), .int 2, .ref r13] h19 Q
  have g94 : Gx E (d + 1) 188 102 [.ref a0, .int a1, .int a2, .int a3, .int a4, .int a5, .int x1, .int x5, .long x12, .retAddr 0, .retAddr 0, .retAddr 0] [.long (if (fz_177 E h19 a0 a1 : Int32) = 0 then 0 else x12 * ((zI h19 a0 25 : Int32).toInt64)), .long (zL h19 r13 2), .int 2, .ref r13] h19 Q := by
    refine zg_ladd zi_188_102 ?_
    obtain ⟨hb, hw⟩ := hw
    refine zg_lastore (h1 := zuL h19 r13 2 ((zL h19 r13 2) + (if (fz_177 E h19 a0 a1 : Int32) = 0 then 0 else x12 * ((zI h19 a0 25 : Int32).toInt64)))) zi_188_103 (by rw [eh19, eh18]; exact t17) hb rfl ?_
    refine zg_nameH fun h20 eh20 => ?_
    have hw := hw h20 eh20
    refine zg_aload zi_188_104 rfl ?_
    refine zg_getR (v := .ref r13) zi_188_105 (by rw [eh20, eh19, eh18]; exact t9) (by rfl) (by rw [eh20, eh19, eh18]; show zrv (zR h8 a0 34) = _; rw [er13]; rfl) ?_
    refine zg_const (v := 3) zi_188_106 (by rfl) ?_
    refine zg_dup2_11 zi_188_107 rfl ?_
    obtain ⟨hb, hw⟩ := hw
    refine zg_laload (v := .long (zL h20 r13 3)) zi_188_108 (by rw [eh20, eh19, eh18]; exact t14) hb rfl ?_
    refine zg_lload zi_188_109 rfl ?_
    refine zg_aload zi_188_110 rfl ?_
    refine zg_getI (v := .int (zI h20 a0 24)) zi_188_111 (by rw [eh20, eh19, eh18]; exact t9) (by rfl) rfl ?_
    refine zg_i2l zi_188_112 ?_
    refine zg_lmul zi_188_113 ?_
    refine zg_ladd zi_188_114 ?_
    obtain ⟨hb, hw⟩ := hw
    refine zg_lastore (h1 := zuL h20 r13 3 ((zL h20 r13 3) + (x12 * ((zI h20 a0 24 : Int32).toInt64)))) zi_188_115 (by rw [eh20, eh19, eh18]; exact t17) hb rfl ?_
    refine zg_nameH fun h21 eh21 => ?_
    have hw := hw h21 eh21
    refine zg_aload zi_188_116 rfl ?_
    refine zg_getI (v := .int (zI h21 a0 30)) zi_188_117 (by rw [eh21, eh20, eh19, eh18]; exact t9) (by rfl) rfl ?_
    refine zg_const (v := 7371) zi_188_118 (by rfl) ?_
    refine zg_iload zi_188_119 rfl ?_
    refine zg_const (v := 1) zi_188_120 (by rfl) ?_
    refine zg_iadd zi_188_121 ?_
    refine zg_imul zi_188_122 ?_
    refine zg_isub zi_188_123 ?_
    refine zg_nameI fun x22 ex22 => ?_
    have hw := hw x22 ex22
    refine zg_istore (ls1 := [.ref a0, .int a1, .int a2, .int a3, .int a4, .int a5, .int x1, .int x5, .long x12, .retAddr 0, .int x22, .retAddr 0]) zi_188_124 (Nat.le_of_ble_eq_true rfl) rfl ?_
    refine zg_aload zi_188_125 rfl ?_
    refine zg_getR (v := .ref r15) zi_188_126 (by rw [eh21, eh20, eh19, eh18]; exact t9) (by rfl) (by rw [eh21, eh20, eh19, eh18]; show zrv (zR h8 a0 15) = _; rw [er15]; rfl) ?_
    refine zg_const (v := 12) zi_188_127 (by rfl) ?_
    obtain ⟨hb, hw⟩ := hw
    refine zg_iaload (v := .int (zI h21 r15 12)) zi_188_128 (by rw [eh21, eh20, eh19, eh18]; exact t16) hb rfl ?_
    refine zg_const (v := 1) zi_188_129 (by rfl) ?_
    refine zg_icmp_ne zi_188_130 (fun hc => ?_) (fun hc => ?_)
    · have hw := hw.1 hc
      refine zg_const (v := 0) zi_188_148 (by rfl) ?_
      refine zg_istore (ls1 := [.ref a0, .int a1, .int a2, .int a3, .int a4, .int a5, .int x1, .int x5, .long x12, .retAddr 0, .int x22, .int 0]) zi_188_149 (Nat.le_of_ble_eq_true rfl) rfl ?_
      obtain ⟨mm, hw⟩ := hw
      exact Gx.forget (zrk (zrd (zrk (zrk (zrd (zrd (zrd (zrd (zrd (zrk (zrk (zrk zr0)))))))))))) (okl_188_150 mm a0 a2 a3 x22 0 h21 hw)
    · have hw := hw.2 hc
      refine zg_aload zi_188_131 rfl ?_
      obtain ⟨r33, er33, hw⟩ := hw
      refine zg_getR (v := .ref r33) zi_188_132 (by rw [eh21, eh20, eh19, eh18]; exact t9) (by rfl) (by show zrv (zR h21 a0 33) = _; rw [er33]; rfl) ?_
      refine zg_iload zi_188_133 rfl ?_
      refine zg_iload zi_188_134 rfl ?_
      refine zg_iadd zi_188_135 ?_
      refine zg_dup2_11 zi_188_136 rfl ?_
      obtain ⟨t34, hw⟩ := hw
      obtain ⟨hb, hw⟩ := hw
      refine zg_laload (v := .long (zL h21 r33 (x22 + a3 : Int32).toNatClampNeg)) zi_188_137 t34 hb rfl ?_
      refine zg_aload zi_188_138 rfl ?_
      refine zg_getR (v := .ref r10) zi_188_139 (by rw [eh21, eh20, eh19, eh18]; exact t9) (by rfl) (by rw [eh21, eh20, eh19, eh18]; show zrv (zR h8 a0 32) = _; rw [er10]; rfl) ?_
      refine zg_iload zi_188_140 rfl ?_
      obtain ⟨hb, hw⟩ := hw
      refine zg_laload (v := .long (zL h21 r10 a2.toNatClampNeg)) zi_188_141 (by rw [eh21, eh20, eh19, eh18]; exact t11) hb rfl ?_
      refine zg_iload zi_188_142 rfl ?_
      refine zg_i2l zi_188_143 ?_
      refine zg_lmul zi_188_144 ?_
      refine zg_ladd zi_188_145 ?_
      obtain ⟨t35, hw⟩ := hw
      obtain ⟨hb, hw⟩ := hw
      refine zg_lastore (h1 := zuL h21 r33 (x22 + a3 : Int32).toNatClampNeg ((zL h21 r33 (x22 + a3 : Int32).toNatClampNeg) + ((zL h21 r10 a2.toNatClampNeg) * a4.toInt64))) zi_188_146 t35 hb rfl ?_
      refine zg_nameH fun h36 eh36 => ?_
      have hw := hw h36 eh36
      refine zg_goto zi_188_147 ?_
      exact zg_return zi_188_180 hw
  refine zg_if_eq zi_188_94 (fun hc94 => ?_) (fun hc94 => ?_)
  · skip
    refine zg_lconst (v := 0) zi_188_101 (by rfl) ?_
    have hg := g94
    simp only [if_pos hc94] at hg
    exact hg
  · skip
    refine zg_lload zi_188_95 rfl ?_
    refine zg_aload zi_188_96 rfl ?_
    refine zg_getI (v := .int (zI h19 a0 25)) zi_188_97 (by rw [eh19, eh18]; exact t9) (by rfl) rfl ?_
    refine zg_i2l zi_188_98 ?_
    refine zg_lmul zi_188_99 ?_
    refine zg_goto zi_188_100 ?_
    have hg := g94
    simp only [if_neg hc94] at hg
    exact hg
theorem zq_187 : zQ 187 2 5 11 := by unfold zQ; decide +kernel
theorem zi_187_0 : (zM 187).1[0]? = some (.iconst 0) := by rfl
theorem zi_187_1 : (zM 187).1[1]? = some (.istore 2) := by rfl
theorem zi_187_2 : (zM 187).1[2]? = some (.iload 2) := by rfl
theorem zi_187_3 : (zM 187).1[3]? = some (.iconst 7371) := by rfl
theorem zi_187_4 : (zM 187).1[4]? = some (.if_icmp .ge ((12 : Nat) : Int)) := by rfl
theorem zi_187_5 : (zM 187).1[5]? = some (.aload 0) := by rfl
theorem zi_187_6 : (zM 187).1[6]? = some (.getfield 11233) := by rfl
theorem zi_187_7 : (zM 187).1[7]? = some (.iload 2) := by rfl
theorem zi_187_8 : (zM 187).1[8]? = some (.jsr_w 0) := by rfl
theorem zi_187_9 : (zM 187).1[9]? = some (.lastore) := by rfl
theorem zi_187_10 : (zM 187).1[10]? = some (.iinc 2 1) := by rfl
theorem zi_187_11 : (zM 187).1[11]? = some (.goto ((2 : Nat) : Int)) := by rfl
theorem zi_187_12 : (zM 187).1[12]? = some (.iconst 0) := by rfl
theorem zi_187_13 : (zM 187).1[13]? = some (.istore 2) := by rfl
theorem zi_187_14 : (zM 187).1[14]? = some (.iload 2) := by rfl
theorem zi_187_15 : (zM 187).1[15]? = some (.iconst 7371) := by rfl
theorem zi_187_16 : (zM 187).1[16]? = some (.if_icmp .ge ((77 : Nat) : Int)) := by rfl
theorem zi_187_17 : (zM 187).1[17]? = some (.aload 0) := by rfl
theorem zi_187_18 : (zM 187).1[18]? = some (.getfield 11232) := by rfl
theorem zi_187_19 : (zM 187).1[19]? = some (.iload 2) := by rfl
theorem zi_187_20 : (zM 187).1[20]? = some (.laload) := by rfl
theorem zi_187_21 : (zM 187).1[21]? = some (.jsr_w 0) := by rfl
theorem zi_187_22 : (zM 187).1[22]? = some (.lcmp) := by rfl
theorem zi_187_23 : (zM 187).1[23]? = some (.ifCond .le ((75 : Nat) : Int)) := by rfl
theorem zi_187_24 : (zM 187).1[24]? = some (.iload 2) := by rfl
theorem zi_187_25 : (zM 187).1[25]? = some (.iconst 3) := by rfl
theorem zi_187_26 : (zM 187).1[26]? = some (.irem) := by rfl
theorem zi_187_27 : (zM 187).1[27]? = some (.istore 3) := by rfl
theorem zi_187_28 : (zM 187).1[28]? = some (.aload 0) := by rfl
theorem zi_187_29 : (zM 187).1[29]? = some (.getfield 11215) := by rfl
theorem zi_187_30 : (zM 187).1[30]? = some (.iconst 12) := by rfl
theorem zi_187_31 : (zM 187).1[31]? = some (.iaload) := by rfl
theorem zi_187_32 : (zM 187).1[32]? = some (.ifCond .ne ((41 : Nat) : Int)) := by rfl
theorem zi_187_33 : (zM 187).1[33]? = some (.aload 0) := by rfl
theorem zi_187_34 : (zM 187).1[34]? = some (.iload 1) := by rfl
theorem zi_187_35 : (zM 187).1[35]? = some (.iload 2) := by rfl
theorem zi_187_36 : (zM 187).1[36]? = some (.iload 3) := by rfl
theorem zi_187_37 : (zM 187).1[37]? = some (.iconst 1) := by rfl
theorem zi_187_38 : (zM 187).1[38]? = some (.iconst 0) := by rfl
theorem zi_187_39 : (zM 187).1[39]? = some (.invokevirtual 188) := by rfl
theorem zi_187_40 : (zM 187).1[40]? = some (.goto ((75 : Nat) : Int)) := by rfl
theorem zi_187_41 : (zM 187).1[41]? = some (.iconst 0) := by rfl
theorem zi_187_42 : (zM 187).1[42]? = some (.istore 4) := by rfl
theorem zi_187_43 : (zM 187).1[43]? = some (.iload 4) := by rfl
theorem zi_187_44 : (zM 187).1[44]? = some (.iconst 3) := by rfl
theorem zi_187_45 : (zM 187).1[45]? = some (.if_icmp .ge ((75 : Nat) : Int)) := by rfl
theorem zi_187_46 : (zM 187).1[46]? = some (.aload 0) := by rfl
theorem zi_187_47 : (zM 187).1[47]? = some (.getfield 11215) := by rfl
theorem zi_187_48 : (zM 187).1[48]? = some (.iconst 19) := by rfl
theorem zi_187_49 : (zM 187).1[49]? = some (.iconst 3) := by rfl
theorem zi_187_50 : (zM 187).1[50]? = some (.iload 3) := by rfl
theorem zi_187_51 : (zM 187).1[51]? = some (.imul) := by rfl
theorem zi_187_52 : (zM 187).1[52]? = some (.iadd) := by rfl
theorem zi_187_53 : (zM 187).1[53]? = some (.iload 4) := by rfl
theorem zi_187_54 : (zM 187).1[54]? = some (.iadd) := by rfl
theorem zi_187_55 : (zM 187).1[55]? = some (.iaload) := by rfl
theorem zi_187_56 : (zM 187).1[56]? = some (.ifCond .le ((73 : Nat) : Int)) := by rfl
theorem zi_187_57 : (zM 187).1[57]? = some (.aload 0) := by rfl
theorem zi_187_58 : (zM 187).1[58]? = some (.iload 1) := by rfl
theorem zi_187_59 : (zM 187).1[59]? = some (.iload 2) := by rfl
theorem zi_187_60 : (zM 187).1[60]? = some (.iload 4) := by rfl
theorem zi_187_61 : (zM 187).1[61]? = some (.aload 0) := by rfl
theorem zi_187_62 : (zM 187).1[62]? = some (.getfield 11215) := by rfl
theorem zi_187_63 : (zM 187).1[63]? = some (.iconst 19) := by rfl
theorem zi_187_64 : (zM 187).1[64]? = some (.iconst 3) := by rfl
theorem zi_187_65 : (zM 187).1[65]? = some (.iload 3) := by rfl
theorem zi_187_66 : (zM 187).1[66]? = some (.imul) := by rfl
theorem zi_187_67 : (zM 187).1[67]? = some (.iadd) := by rfl
theorem zi_187_68 : (zM 187).1[68]? = some (.iload 4) := by rfl
theorem zi_187_69 : (zM 187).1[69]? = some (.iadd) := by rfl
theorem zi_187_70 : (zM 187).1[70]? = some (.iaload) := by rfl
theorem zi_187_71 : (zM 187).1[71]? = some (.iconst 1) := by rfl
theorem zi_187_72 : (zM 187).1[72]? = some (.invokevirtual 188) := by rfl
theorem zi_187_73 : (zM 187).1[73]? = some (.iinc 4 1) := by rfl
theorem zi_187_74 : (zM 187).1[74]? = some (.goto ((43 : Nat) : Int)) := by rfl
theorem zi_187_75 : (zM 187).1[75]? = some (.iinc 2 1) := by rfl
theorem zi_187_76 : (zM 187).1[76]? = some (.goto ((14 : Nat) : Int)) := by rfl
theorem zi_187_77 : (zM 187).1[77]? = some (.iconst 0) := by rfl
theorem zi_187_78 : (zM 187).1[78]? = some (.istore 2) := by rfl
theorem zi_187_79 : (zM 187).1[79]? = some (.iload 2) := by rfl
theorem zi_187_80 : (zM 187).1[80]? = some (.iconst 7371) := by rfl
theorem zi_187_81 : (zM 187).1[81]? = some (.if_icmp .ge ((92 : Nat) : Int)) := by rfl
theorem zi_187_82 : (zM 187).1[82]? = some (.aload 0) := by rfl
theorem zi_187_83 : (zM 187).1[83]? = some (.getfield 11232) := by rfl
theorem zi_187_84 : (zM 187).1[84]? = some (.iload 2) := by rfl
theorem zi_187_85 : (zM 187).1[85]? = some (.aload 0) := by rfl
theorem zi_187_86 : (zM 187).1[86]? = some (.getfield 11233) := by rfl
theorem zi_187_87 : (zM 187).1[87]? = some (.iload 2) := by rfl
theorem zi_187_88 : (zM 187).1[88]? = some (.laload) := by rfl
theorem zi_187_89 : (zM 187).1[89]? = some (.lastore) := by rfl
theorem zi_187_90 : (zM 187).1[90]? = some (.iinc 2 1) := by rfl
theorem zi_187_91 : (zM 187).1[91]? = some (.goto ((79 : Nat) : Int)) := by rfl
theorem zi_187_92 : (zM 187).1[92]? = some (.return_) := by rfl
def wl_187_79 (E : Nat → Nat) (d : Nat) (Q : Option Value → ZH → Prop) : Nat → Nat → Int32 → ZH → Prop
  | 0, _, _, _ => False
  | n + 1, a0, a2, h => (7371 ≤ a2 → (Q none h)) ∧ (¬ (7371 ≤ a2) → (ztag h a0 = 11 ∧ ∃ r2 : Nat, zR h a0 32 = r2 + 1 ∧ ∃ r3 : Nat, zR h a0 33 = r3 + 1 ∧ ztag h r3 = 14 ∧ zin a2 (zlen h r3) = true ∧ ztag h r2 = 14 ∧ zin a2 (zlen h r2) = true ∧ ∀ h6 : ZH, h6 = (zuL h r2 a2.toNatClampNeg (zL h r3 a2.toNatClampNeg)) → ∀ x7 : Int32, x7 = (a2 + 1) → wl_187_79 E d Q n a0 x7 h6))
set_option maxRecDepth 20000 in
theorem okl_187_79 {E : Nat → Nat} {d : Nat} {Q : Option Value → ZH → Prop} : ∀ (n : Nat) (a0 : Nat) (a2 : Int32) (h : ZH), wl_187_79 E d Q n a0 a2 h → Gx E (d + 1) 187 79 [.ref a0, .retAddr 0, .int a2, .retAddr 0, .retAddr 0] [] h Q := by
  intro n
  induction n with
  | zero => intro a0 a2 h hw; exact hw.elim
  | succ n ih =>
    intro a0 a2 h hw
    rw [wl_187_79] at hw
    refine zg_iload zi_187_79 rfl ?_
    refine zg_const (v := 7371) zi_187_80 (by rfl) ?_
    refine zg_icmp_ge zi_187_81 (fun hc => ?_) (fun hc => ?_)
    · have hw := hw.1 hc
      exact zg_return zi_187_92 hw
    · have hw := hw.2 hc
      refine zg_aload zi_187_82 rfl ?_
      obtain ⟨t1, hw⟩ := hw
      obtain ⟨r2, er2, hw⟩ := hw
      refine zg_getR (v := .ref r2) zi_187_83 t1 (by rfl) (by show zrv (zR h a0 32) = _; rw [er2]; rfl) ?_
      refine zg_iload zi_187_84 rfl ?_
      refine zg_aload zi_187_85 rfl ?_
      obtain ⟨r3, er3, hw⟩ := hw
      refine zg_getR (v := .ref r3) zi_187_86 t1 (by rfl) (by show zrv (zR h a0 33) = _; rw [er3]; rfl) ?_
      refine zg_iload zi_187_87 rfl ?_
      obtain ⟨t4, hw⟩ := hw
      obtain ⟨hb, hw⟩ := hw
      refine zg_laload (v := .long (zL h r3 a2.toNatClampNeg)) zi_187_88 t4 hb rfl ?_
      obtain ⟨t5, hw⟩ := hw
      obtain ⟨hb, hw⟩ := hw
      refine zg_lastore (h1 := zuL h r2 a2.toNatClampNeg (zL h r3 a2.toNatClampNeg)) zi_187_89 t5 hb rfl ?_
      refine zg_nameH fun h6 eh6 => ?_
      have hw := hw h6 eh6
      obtain ⟨x7, ex7⟩ : ∃ x : Int32, x = a2 + 1 := ⟨_, rfl⟩
      have hw := hw x7 ex7
      refine zg_iinc (v := x7) (ls1 := [.ref a0, .retAddr 0, .int x7, .retAddr 0, .retAddr 0]) zi_187_90 rfl (by rw [ex7]; rfl) rfl ?_
      refine zg_goto zi_187_91 ?_
      exact ih a0 x7 h6 hw
def wb_187_77 (E : Nat → Nat) (d : Nat) (Q : Option Value → ZH → Prop) (a0 : Nat) (h : ZH) : Prop := ∃ mm : Nat, wl_187_79 E d Q mm a0 0 h
set_option maxRecDepth 20000 in
theorem okb_187_77 {E : Nat → Nat} {d : Nat} {Q : Option Value → ZH → Prop} {a0 : Nat} {h : ZH} (hw : wb_187_77 E d Q a0 h) : Gx E (d + 1) 187 77 [.ref a0, .retAddr 0, .retAddr 0, .retAddr 0, .retAddr 0] [] h Q := by
  unfold wb_187_77 at hw
  refine zg_const (v := 0) zi_187_77 (by rfl) ?_
  refine zg_istore (ls1 := [.ref a0, .retAddr 0, .int 0, .retAddr 0, .retAddr 0]) zi_187_78 (Nat.le_of_ble_eq_true rfl) rfl ?_
  obtain ⟨mm, hw⟩ := hw
  exact okl_187_79 mm a0 0 h hw
def wb_187_75 (E : Nat → Nat) (d : Nat) (Q : Option Value → ZH → Prop) (L_14 : Nat → Int32 → Int32 → ZH → Prop) (a0 : Nat) (a1 : Int32) (a2 : Int32) (h : ZH) : Prop := ∀ x11 : Int32, x11 = (a2 + 1) → L_14 a0 a1 x11 h
set_option maxRecDepth 20000 in
theorem okb_187_75 {E : Nat → Nat} {d : Nat} {Q : Option Value → ZH → Prop} {L_14 : Nat → Int32 → Int32 → ZH → Prop} (hL_14 : ∀ (b0 : Nat) (b1 : Int32) (b2 : Int32) (h : ZH), L_14 b0 b1 b2 h → Gx E (d + 1) 187 14 [.ref b0, .int b1, .int b2, .retAddr 0, .retAddr 0] [] h Q) {a0 : Nat} {a1 : Int32} {a2 : Int32} {h : ZH} (hw : wb_187_75 E d Q L_14 a0 a1 a2 h) : Gx E (d + 1) 187 75 [.ref a0, .int a1, .int a2, .retAddr 0, .retAddr 0] [] h Q := by
  unfold wb_187_75 at hw
  obtain ⟨x11, ex11⟩ : ∃ x : Int32, x = a2 + 1 := ⟨_, rfl⟩
  have hw := hw x11 ex11
  refine zg_iinc (v := x11) (ls1 := [.ref a0, .int a1, .int x11, .retAddr 0, .retAddr 0]) zi_187_75 rfl (by rw [ex11]; rfl) rfl ?_
  refine zg_goto zi_187_76 ?_
  exact hL_14 a0 a1 x11 h hw
def wb_187_73 (E : Nat → Nat) (d : Nat) (Q : Option Value → ZH → Prop) (L_14 : Nat → Int32 → Int32 → ZH → Prop) (L_43 : Nat → Int32 → Int32 → Int32 → Int32 → ZH → Prop) (a0 : Nat) (a1 : Int32) (a2 : Int32) (a3 : Int32) (a4 : Int32) (h : ZH) : Prop := ∀ x18 : Int32, x18 = (a4 + 1) → L_43 a0 a1 a2 a3 x18 h
set_option maxRecDepth 20000 in
theorem okb_187_73 {E : Nat → Nat} {d : Nat} {Q : Option Value → ZH → Prop} {L_14 : Nat → Int32 → Int32 → ZH → Prop} {L_43 : Nat → Int32 → Int32 → Int32 → Int32 → ZH → Prop} (hL_14 : ∀ (b0 : Nat) (b1 : Int32) (b2 : Int32) (h : ZH), L_14 b0 b1 b2 h → Gx E (d + 1) 187 14 [.ref b0, .int b1, .int b2, .retAddr 0, .retAddr 0] [] h Q) (hL_43 : ∀ (b0 : Nat) (b1 : Int32) (b2 : Int32) (b3 : Int32) (b4 : Int32) (h : ZH), L_43 b0 b1 b2 b3 b4 h → Gx E (d + 1) 187 43 [.ref b0, .int b1, .int b2, .int b3, .int b4] [] h Q) {a0 : Nat} {a1 : Int32} {a2 : Int32} {a3 : Int32} {a4 : Int32} {h : ZH} (hw : wb_187_73 E d Q L_14 L_43 a0 a1 a2 a3 a4 h) : Gx E (d + 1) 187 73 [.ref a0, .int a1, .int a2, .int a3, .int a4] [] h Q := by
  unfold wb_187_73 at hw
  obtain ⟨x18, ex18⟩ : ∃ x : Int32, x = a4 + 1 := ⟨_, rfl⟩
  have hw := hw x18 ex18
  refine zg_iinc (v := x18) (ls1 := [.ref a0, .int a1, .int a2, .int a3, .int x18]) zi_187_73 rfl (by rw [ex18]; rfl) rfl ?_
  refine zg_goto zi_187_74 ?_
  exact hL_43 a0 a1 a2 a3 x18 h hw
def wl_187_43 (E : Nat → Nat) (d : Nat) (Q : Option Value → ZH → Prop) (L_14 : Nat → Int32 → Int32 → ZH → Prop) : Nat → Nat → Int32 → Int32 → Int32 → Int32 → ZH → Prop
  | 0, _, _, _, _, _, _ => False
  | n + 1, a0, a1, a2, a3, a4, h => (3 ≤ a4 → (wb_187_75 E d Q L_14 a0 a1 a2 h)) ∧ (¬ (3 ≤ a4) → (ztag h a0 = 11 ∧ ∃ r16 : Nat, zR h a0 15 = r16 + 1 ∧ (ztag h r16 = 13 ∨ ztag h r16 = 19) ∧ zin ((19 + (3 * a3)) + a4) (zlen h r16) = true ∧ (((zI h r16 ((19 + (3 * a3)) + a4 : Int32).toNatClampNeg : Int32) ≤ 0 → (wb_187_73 E d Q L_14 (wl_187_43 E d Q L_14 n) a0 a1 a2 a3 a4 h)) ∧ (¬ ((zI h r16 ((19 + (3 * a3)) + a4 : Int32).toNatClampNeg : Int32) ≤ 0) → (zin ((19 + (3 * a3)) + a4) (zlen h r16) = true ∧ Ct E d 188 [.ref a0, .int a1, .int a2, .int a4, .int (zI h r16 ((19 + (3 * a3)) + a4 : Int32).toNatClampNeg), .int 1] h (fun v h19 => v = none ∧ wb_187_73 E d Q L_14 (wl_187_43 E d Q L_14 n) a0 a1 a2 a3 a4 h19))))))
set_option maxRecDepth 20000 in
theorem okl_187_43 {E : Nat → Nat} {d : Nat} {Q : Option Value → ZH → Prop} {L_14 : Nat → Int32 → Int32 → ZH → Prop} (hL_14 : ∀ (b0 : Nat) (b1 : Int32) (b2 : Int32) (h : ZH), L_14 b0 b1 b2 h → Gx E (d + 1) 187 14 [.ref b0, .int b1, .int b2, .retAddr 0, .retAddr 0] [] h Q) : ∀ (n : Nat) (a0 : Nat) (a1 : Int32) (a2 : Int32) (a3 : Int32) (a4 : Int32) (h : ZH), wl_187_43 E d Q L_14 n a0 a1 a2 a3 a4 h → Gx E (d + 1) 187 43 [.ref a0, .int a1, .int a2, .int a3, .int a4] [] h Q := by
  intro n
  induction n with
  | zero => intro a0 a1 a2 a3 a4 h hw; exact hw.elim
  | succ n ih =>
    intro a0 a1 a2 a3 a4 h hw
    rw [wl_187_43] at hw
    refine zg_iload zi_187_43 rfl ?_
    refine zg_const (v := 3) zi_187_44 (by rfl) ?_
    refine zg_icmp_ge zi_187_45 (fun hc => ?_) (fun hc => ?_)
    · have hw := hw.1 hc
      exact Gx.forget (zrk (zrk (zrk (zrd (zrd zr0))))) (okb_187_75 hL_14 hw)
    · have hw := hw.2 hc
      refine zg_aload zi_187_46 rfl ?_
      obtain ⟨t15, hw⟩ := hw
      obtain ⟨r16, er16, hw⟩ := hw
      refine zg_getR (v := .ref r16) zi_187_47 t15 (by rfl) (by show zrv (zR h a0 15) = _; rw [er16]; rfl) ?_
      refine zg_const (v := 19) zi_187_48 (by rfl) ?_
      refine zg_const (v := 3) zi_187_49 (by rfl) ?_
      refine zg_iload zi_187_50 rfl ?_
      refine zg_imul zi_187_51 ?_
      refine zg_iadd zi_187_52 ?_
      refine zg_iload zi_187_53 rfl ?_
      refine zg_iadd zi_187_54 ?_
      obtain ⟨t17, hw⟩ := hw
      obtain ⟨hb, hw⟩ := hw
      refine zg_iaload (v := .int (zI h r16 ((19 + (3 * a3)) + a4 : Int32).toNatClampNeg)) zi_187_55 t17 hb rfl ?_
      refine zg_if_le zi_187_56 (fun hc => ?_) (fun hc => ?_)
      · have hw := hw.1 hc
        exact okb_187_73 hL_14 ih hw
      · have hw := hw.2 hc
        refine zg_aload zi_187_57 rfl ?_
        refine zg_iload zi_187_58 rfl ?_
        refine zg_iload zi_187_59 rfl ?_
        refine zg_iload zi_187_60 rfl ?_
        refine zg_aload zi_187_61 rfl ?_
        refine zg_getR (v := .ref r16) zi_187_62 t15 (by rfl) (by show zrv (zR h a0 15) = _; rw [er16]; rfl) ?_
        refine zg_const (v := 19) zi_187_63 (by rfl) ?_
        refine zg_const (v := 3) zi_187_64 (by rfl) ?_
        refine zg_iload zi_187_65 rfl ?_
        refine zg_imul zi_187_66 ?_
        refine zg_iadd zi_187_67 ?_
        refine zg_iload zi_187_68 rfl ?_
        refine zg_iadd zi_187_69 ?_
        obtain ⟨hb, hw⟩ := hw
        refine zg_iaload (v := .int (zI h r16 ((19 + (3 * a3)) + a4 : Int32).toNatClampNeg)) zi_187_70 t17 hb rfl ?_
        refine zg_const (v := 1) zi_187_71 (by rfl) ?_
        refine Gx.call2 (as := [.ref a0, .int a1, .int a2, .int a4, .int (zI h r16 ((19 + (3 * a3)) + a4 : Int32).toNatClampNeg), .int 1]) (rest := []) zq_188 zi_187_72 rfl rfl rfl (Nat.le_of_ble_eq_true rfl) (Nat.le_of_ble_eq_true rfl) (zrv_v t15 rfl rfl) (Nat.le_of_ble_eq_true rfl) ?_
        refine Ct.mono hw ?_
        rintro v h19 ⟨rfl, hw⟩
        show Gx E (d + 1) 187 73 [.ref a0, .int a1, .int a2, .int a3, .int a4] [] h19 Q
        exact okb_187_73 hL_14 ih hw
def wl_187_14 (E : Nat → Nat) (d : Nat) (Q : Option Value → ZH → Prop) : Nat → Nat → Int32 → Int32 → ZH → Prop
  | 0, _, _, _, _ => False
  | n + 1, a0, a1, a2, h => (7371 ≤ a2 → (wb_187_77 E d Q a0 h)) ∧ (¬ (7371 ≤ a2) → (ztag h a0 = 11 ∧ ∃ r9 : Nat, zR h a0 32 = r9 + 1 ∧ ztag h r9 = 14 ∧ zin a2 (zlen h r9) = true ∧ (((zL h r9 a2.toNatClampNeg : Int64) ≤ 0 → (wb_187_75 E d Q (wl_187_14 E d Q n) a0 a1 a2 h)) ∧ (¬ ((zL h r9 a2.toNatClampNeg : Int64) ≤ 0) → (∀ x12 : Int32, x12 = (a2 - a2 / 3 * 3) → ∃ r13 : Nat, zR h a0 15 = r13 + 1 ∧ (ztag h r13 = 13 ∨ ztag h r13 = 19) ∧ zin 12 (zlen h r13) = true ∧ ((¬ (zI h r13 12 : Int32) = 0 → (∃ mm : Nat, wl_187_43 E d Q (wl_187_14 E d Q n) mm a0 a1 a2 x12 0 h)) ∧ (¬ (¬ (zI h r13 12 : Int32) = 0) → (Ct E d 188 [.ref a0, .int a1, .int a2, .int x12, .int 1, .int 0] h (fun v h20 => v = none ∧ wb_187_75 E d Q (wl_187_14 E d Q n) a0 a1 a2 h20)))))))))
set_option maxRecDepth 20000 in
theorem okl_187_14 {E : Nat → Nat} {d : Nat} {Q : Option Value → ZH → Prop} : ∀ (n : Nat) (a0 : Nat) (a1 : Int32) (a2 : Int32) (h : ZH), wl_187_14 E d Q n a0 a1 a2 h → Gx E (d + 1) 187 14 [.ref a0, .int a1, .int a2, .retAddr 0, .retAddr 0] [] h Q := by
  intro n
  induction n with
  | zero => intro a0 a1 a2 h hw; exact hw.elim
  | succ n ih =>
    intro a0 a1 a2 h hw
    rw [wl_187_14] at hw
    refine zg_iload zi_187_14 rfl ?_
    refine zg_const (v := 7371) zi_187_15 (by rfl) ?_
    refine zg_icmp_ge zi_187_16 (fun hc => ?_) (fun hc => ?_)
    · have hw := hw.1 hc
      exact Gx.forget (zrk (zrd (zrd (zrk (zrk zr0))))) (okb_187_77 hw)
    · have hw := hw.2 hc
      refine zg_aload zi_187_17 rfl ?_
      obtain ⟨t8, hw⟩ := hw
      obtain ⟨r9, er9, hw⟩ := hw
      refine zg_getR (v := .ref r9) zi_187_18 t8 (by rfl) (by show zrv (zR h a0 32) = _; rw [er9]; rfl) ?_
      refine zg_iload zi_187_19 rfl ?_
      obtain ⟨t10, hw⟩ := hw
      obtain ⟨hb, hw⟩ := hw
      refine zg_laload (v := .long (zL h r9 a2.toNatClampNeg)) zi_187_20 t10 hb rfl ?_
      refine zg_lconst (v := 0) zi_187_21 (by rfl) ?_
      refine zg_lcmp_le zi_187_22 zi_187_23 (fun hc => ?_) (fun hc => ?_)
      · have hw := hw.1 hc
        exact okb_187_75 ih hw
      · have hw := hw.2 hc
        refine zg_iload zi_187_24 rfl ?_
        refine zg_const (v := 3) zi_187_25 (by rfl) ?_
        refine zg_irem zi_187_26 (by decide) ?_
        refine zg_nameI fun x12 ex12 => ?_
        have hw := hw x12 ex12
        refine zg_istore (ls1 := [.ref a0, .int a1, .int a2, .int x12, .retAddr 0]) zi_187_27 (Nat.le_of_ble_eq_true rfl) rfl ?_
        refine zg_aload zi_187_28 rfl ?_
        obtain ⟨r13, er13, hw⟩ := hw
        refine zg_getR (v := .ref r13) zi_187_29 t8 (by rfl) (by show zrv (zR h a0 15) = _; rw [er13]; rfl) ?_
        refine zg_const (v := 12) zi_187_30 (by rfl) ?_
        obtain ⟨t14, hw⟩ := hw
        obtain ⟨hb, hw⟩ := hw
        refine zg_iaload (v := .int (zI h r13 12)) zi_187_31 t14 hb rfl ?_
        refine zg_if_ne zi_187_32 (fun hc => ?_) (fun hc => ?_)
        · have hw := hw.1 hc
          refine zg_const (v := 0) zi_187_41 (by rfl) ?_
          refine zg_istore (ls1 := [.ref a0, .int a1, .int a2, .int x12, .int 0]) zi_187_42 (Nat.le_of_ble_eq_true rfl) rfl ?_
          obtain ⟨mm, hw⟩ := hw
          exact okl_187_43 ih mm a0 a1 a2 x12 0 h hw
        · have hw := hw.2 hc
          refine zg_aload zi_187_33 rfl ?_
          refine zg_iload zi_187_34 rfl ?_
          refine zg_iload zi_187_35 rfl ?_
          refine zg_iload zi_187_36 rfl ?_
          refine zg_const (v := 1) zi_187_37 (by rfl) ?_
          refine zg_const (v := 0) zi_187_38 (by rfl) ?_
          refine Gx.call2 (as := [.ref a0, .int a1, .int a2, .int x12, .int 1, .int 0]) (rest := []) zq_188 zi_187_39 rfl rfl rfl (Nat.le_of_ble_eq_true rfl) (Nat.le_of_ble_eq_true rfl) (zrv_v t8 rfl rfl) (Nat.le_of_ble_eq_true rfl) ?_
          refine Ct.mono hw ?_
          rintro v h20 ⟨rfl, hw⟩
          show Gx E (d + 1) 187 40 [.ref a0, .int a1, .int a2, .int x12, .retAddr 0] [] h20 Q
          refine zg_goto zi_187_40 ?_
          exact Gx.forget (zrk (zrk (zrk (zrd (zrk zr0))))) (okb_187_75 ih hw)
def wb_187_12 (E : Nat → Nat) (d : Nat) (Q : Option Value → ZH → Prop) (a0 : Nat) (a1 : Int32) (h : ZH) : Prop := ∃ mm : Nat, wl_187_14 E d Q mm a0 a1 0 h
set_option maxRecDepth 20000 in
theorem okb_187_12 {E : Nat → Nat} {d : Nat} {Q : Option Value → ZH → Prop} {a0 : Nat} {a1 : Int32} {h : ZH} (hw : wb_187_12 E d Q a0 a1 h) : Gx E (d + 1) 187 12 [.ref a0, .int a1, .retAddr 0, .retAddr 0, .retAddr 0] [] h Q := by
  unfold wb_187_12 at hw
  refine zg_const (v := 0) zi_187_12 (by rfl) ?_
  refine zg_istore (ls1 := [.ref a0, .int a1, .int 0, .retAddr 0, .retAddr 0]) zi_187_13 (Nat.le_of_ble_eq_true rfl) rfl ?_
  obtain ⟨mm, hw⟩ := hw
  exact okl_187_14 mm a0 a1 0 h hw
def wl_187_2 (E : Nat → Nat) (d : Nat) (Q : Option Value → ZH → Prop) : Nat → Nat → Int32 → Int32 → ZH → Prop
  | 0, _, _, _, _ => False
  | n + 1, a0, a1, a2, h => (7371 ≤ a2 → (wb_187_12 E d Q a0 a1 h)) ∧ (¬ (7371 ≤ a2) → (ztag h a0 = 11 ∧ ∃ r22 : Nat, zR h a0 33 = r22 + 1 ∧ ztag h r22 = 14 ∧ zin a2 (zlen h r22) = true ∧ ∀ h24 : ZH, h24 = (zuL h r22 a2.toNatClampNeg 0) → ∀ x25 : Int32, x25 = (a2 + 1) → wl_187_2 E d Q n a0 a1 x25 h24))
set_option maxRecDepth 20000 in
theorem okl_187_2 {E : Nat → Nat} {d : Nat} {Q : Option Value → ZH → Prop} : ∀ (n : Nat) (a0 : Nat) (a1 : Int32) (a2 : Int32) (h : ZH), wl_187_2 E d Q n a0 a1 a2 h → Gx E (d + 1) 187 2 [.ref a0, .int a1, .int a2, .retAddr 0, .retAddr 0] [] h Q := by
  intro n
  induction n with
  | zero => intro a0 a1 a2 h hw; exact hw.elim
  | succ n ih =>
    intro a0 a1 a2 h hw
    rw [wl_187_2] at hw
    refine zg_iload zi_187_2 rfl ?_
    refine zg_const (v := 7371) zi_187_3 (by rfl) ?_
    refine zg_icmp_ge zi_187_4 (fun hc => ?_) (fun hc => ?_)
    · have hw := hw.1 hc
      exact Gx.forget (zrk (zrk (zrd (zrk (zrk zr0))))) (okb_187_12 hw)
    · have hw := hw.2 hc
      refine zg_aload zi_187_5 rfl ?_
      obtain ⟨t21, hw⟩ := hw
      obtain ⟨r22, er22, hw⟩ := hw
      refine zg_getR (v := .ref r22) zi_187_6 t21 (by rfl) (by show zrv (zR h a0 33) = _; rw [er22]; rfl) ?_
      refine zg_iload zi_187_7 rfl ?_
      refine zg_lconst (v := 0) zi_187_8 (by rfl) ?_
      obtain ⟨t23, hw⟩ := hw
      obtain ⟨hb, hw⟩ := hw
      refine zg_lastore (h1 := zuL h r22 a2.toNatClampNeg 0) zi_187_9 t23 hb rfl ?_
      refine zg_nameH fun h24 eh24 => ?_
      have hw := hw h24 eh24
      obtain ⟨x25, ex25⟩ : ∃ x : Int32, x = a2 + 1 := ⟨_, rfl⟩
      have hw := hw x25 ex25
      refine zg_iinc (v := x25) (ls1 := [.ref a0, .int a1, .int x25, .retAddr 0, .retAddr 0]) zi_187_10 rfl (by rw [ex25]; rfl) rfl ?_
      refine zg_goto zi_187_11 ?_
      exact ih a0 a1 x25 h24 hw
/-- TakeOrPayModel.oneForward(I)V -/
def w_187 (E : Nat → Nat) (d : Nat) (a0 : Nat) (a1 : Int32) (h : ZH) (Q : Option Value → ZH → Prop) : Prop := ∃ mm : Nat, wl_187_2 E d Q mm a0 a1 0 h
set_option maxRecDepth 20000 in
theorem ok_187 {E : Nat → Nat} {d : Nat} {a0 : Nat} {a1 : Int32} {h : ZH} {Q : Option Value → ZH → Prop} (hw : w_187 E d a0 a1 h Q) : Ct E (d + 1) 187 [.ref a0, .int a1] h Q := by
  unfold w_187 at hw
  show Gx E (d + 1) 187 0 [.ref a0, .int a1, .retAddr 0, .retAddr 0, .retAddr 0] [] h Q
  refine zg_const (v := 0) zi_187_0 (by rfl) ?_
  refine zg_istore (ls1 := [.ref a0, .int a1, .int 0, .retAddr 0, .retAddr 0]) zi_187_1 (Nat.le_of_ble_eq_true rfl) rfl ?_
  obtain ⟨mm, hw⟩ := hw
  exact okl_187_2 mm a0 a1 0 h hw
theorem zq_189 : zQ 189 1 2 11 := by unfold zQ; decide +kernel
theorem zi_189_0 : (zM 189).1[0]? = some (.aload 0) := by rfl
theorem zi_189_1 : (zM 189).1[1]? = some (.invokevirtual 182) := by rfl
theorem zi_189_2 : (zM 189).1[2]? = some (.iconst 0) := by rfl
theorem zi_189_3 : (zM 189).1[3]? = some (.istore 1) := by rfl
theorem zi_189_4 : (zM 189).1[4]? = some (.iload 1) := by rfl
theorem zi_189_5 : (zM 189).1[5]? = some (.iconst 4) := by rfl
theorem zi_189_6 : (zM 189).1[6]? = some (.if_icmp .ge ((14 : Nat) : Int)) := by rfl
theorem zi_189_7 : (zM 189).1[7]? = some (.aload 0) := by rfl
theorem zi_189_8 : (zM 189).1[8]? = some (.getfield 11234) := by rfl
theorem zi_189_9 : (zM 189).1[9]? = some (.iload 1) := by rfl
theorem zi_189_10 : (zM 189).1[10]? = some (.jsr_w 0) := by rfl
theorem zi_189_11 : (zM 189).1[11]? = some (.lastore) := by rfl
theorem zi_189_12 : (zM 189).1[12]? = some (.iinc 1 1) := by rfl
theorem zi_189_13 : (zM 189).1[13]? = some (.goto ((4 : Nat) : Int)) := by rfl
theorem zi_189_14 : (zM 189).1[14]? = some (.iconst 0) := by rfl
theorem zi_189_15 : (zM 189).1[15]? = some (.istore 1) := by rfl
theorem zi_189_16 : (zM 189).1[16]? = some (.iload 1) := by rfl
theorem zi_189_17 : (zM 189).1[17]? = some (.iconst 7371) := by rfl
theorem zi_189_18 : (zM 189).1[18]? = some (.if_icmp .ge ((26 : Nat) : Int)) := by rfl
theorem zi_189_19 : (zM 189).1[19]? = some (.aload 0) := by rfl
theorem zi_189_20 : (zM 189).1[20]? = some (.getfield 11232) := by rfl
theorem zi_189_21 : (zM 189).1[21]? = some (.iload 1) := by rfl
theorem zi_189_22 : (zM 189).1[22]? = some (.jsr_w 0) := by rfl
theorem zi_189_23 : (zM 189).1[23]? = some (.lastore) := by rfl
theorem zi_189_24 : (zM 189).1[24]? = some (.iinc 1 1) := by rfl
theorem zi_189_25 : (zM 189).1[25]? = some (.goto ((16 : Nat) : Int)) := by rfl
theorem zi_189_26 : (zM 189).1[26]? = some (.aload 0) := by rfl
theorem zi_189_27 : (zM 189).1[27]? = some (.getfield 11232) := by rfl
theorem zi_189_28 : (zM 189).1[28]? = some (.aload 0) := by rfl
theorem zi_189_29 : (zM 189).1[29]? = some (.getfield 11215) := by rfl
theorem zi_189_30 : (zM 189).1[30]? = some (.iconst 15) := by rfl
theorem zi_189_31 : (zM 189).1[31]? = some (.iaload) := by rfl
theorem zi_189_32 : (zM 189).1[32]? = some (.jsr_w 1) := by rfl
theorem zi_189_33 : (zM 189).1[33]? = some (.lastore) := by rfl
theorem zi_189_34 : (zM 189).1[34]? = some (.iconst 0) := by rfl
theorem zi_189_35 : (zM 189).1[35]? = some (.istore 1) := by rfl
theorem zi_189_36 : (zM 189).1[36]? = some (.iload 1) := by rfl
theorem zi_189_37 : (zM 189).1[37]? = some (.aload 0) := by rfl
theorem zi_189_38 : (zM 189).1[38]? = some (.invokevirtual 152) := by rfl
theorem zi_189_39 : (zM 189).1[39]? = some (.if_icmp .ge ((45 : Nat) : Int)) := by rfl
theorem zi_189_40 : (zM 189).1[40]? = some (.aload 0) := by rfl
theorem zi_189_41 : (zM 189).1[41]? = some (.iload 1) := by rfl
theorem zi_189_42 : (zM 189).1[42]? = some (.invokevirtual 187) := by rfl
theorem zi_189_43 : (zM 189).1[43]? = some (.iinc 1 1) := by rfl
theorem zi_189_44 : (zM 189).1[44]? = some (.goto ((36 : Nat) : Int)) := by rfl
theorem zi_189_45 : (zM 189).1[45]? = some (.return_) := by rfl
def wl_189_36 (E : Nat → Nat) (d : Nat) (Q : Option Value → ZH → Prop) : Nat → Nat → Int32 → ZH → Prop
  | 0, _, _, _ => False
  | n + 1, a0, a1, h => ztag h a0 = 11 ∧ 1 ≤ d ∧ sz_152 E h a0 ∧ (((fz_152 E h a0 : Int32) ≤ a1 → (Q none h)) ∧ (¬ ((fz_152 E h a0 : Int32) ≤ a1) → (Ct E d 187 [.ref a0, .int a1] h (fun v h10 => v = none ∧ ∀ x11 : Int32, x11 = (a1 + 1) → wl_189_36 E d Q n a0 x11 h10))))
set_option maxRecDepth 20000 in
theorem okl_189_36 {E : Nat → Nat} {d : Nat} {Q : Option Value → ZH → Prop} : ∀ (n : Nat) (a0 : Nat) (a1 : Int32) (h : ZH), wl_189_36 E d Q n a0 a1 h → Gx E (d + 1) 189 36 [.ref a0, .int a1] [] h Q := by
  intro n
  induction n with
  | zero => intro a0 a1 h hw; exact hw.elim
  | succ n ih =>
    intro a0 a1 h hw
    rw [wl_189_36] at hw
    refine zg_iload zi_189_36 rfl ?_
    refine zg_aload zi_189_37 rfl ?_
    obtain ⟨t9, hw⟩ := hw
    obtain ⟨hd, hs, hw⟩ := hw
    refine Gx.call2 (as := [.ref a0]) (rest := [.int a1]) zq_152 zi_189_38 rfl rfl rfl (Nat.le_of_ble_eq_true rfl) (Nat.le_of_ble_eq_true rfl) (zrv_v t9 rfl rfl) (Nat.le_of_ble_eq_true rfl) ?_
    refine cz_152 hd hs ?_
    show Gx E (d + 1) 189 39 [.ref a0, .int a1] [.int (fz_152 E h a0), .int a1] h Q
    refine zg_icmp_ge zi_189_39 (fun hc => ?_) (fun hc => ?_)
    · have hw := hw.1 hc
      exact zg_return zi_189_45 hw
    · have hw := hw.2 hc
      refine zg_aload zi_189_40 rfl ?_
      refine zg_iload zi_189_41 rfl ?_
      refine Gx.call2 (as := [.ref a0, .int a1]) (rest := []) zq_187 zi_189_42 rfl rfl rfl (Nat.le_of_ble_eq_true rfl) (Nat.le_of_ble_eq_true rfl) (zrv_v t9 rfl rfl) (Nat.le_of_ble_eq_true rfl) ?_
      refine Ct.mono hw ?_
      rintro v h10 ⟨rfl, hw⟩
      show Gx E (d + 1) 189 43 [.ref a0, .int a1] [] h10 Q
      obtain ⟨x11, ex11⟩ : ∃ x : Int32, x = a1 + 1 := ⟨_, rfl⟩
      have hw := hw x11 ex11
      refine zg_iinc (v := x11) (ls1 := [.ref a0, .int x11]) zi_189_43 rfl (by rw [ex11]; rfl) rfl ?_
      refine zg_goto zi_189_44 ?_
      exact ih a0 x11 h10 hw
def wb_189_26 (E : Nat → Nat) (d : Nat) (Q : Option Value → ZH → Prop) (a0 : Nat) (h : ZH) : Prop := ztag h a0 = 11 ∧ ∃ r4 : Nat, zR h a0 32 = r4 + 1 ∧ ∃ r5 : Nat, zR h a0 15 = r5 + 1 ∧ (ztag h r5 = 13 ∨ ztag h r5 = 19) ∧ zin 15 (zlen h r5) = true ∧ ztag h r4 = 14 ∧ zin (zI h r5 15) (zlen h r4) = true ∧ ∀ h8 : ZH, h8 = (zuL h r4 (zI h r5 15 : Int32).toNatClampNeg 1) → (∃ mm : Nat, wl_189_36 E d Q mm a0 0 h8)
set_option maxRecDepth 20000 in
theorem okb_189_26 {E : Nat → Nat} {d : Nat} {Q : Option Value → ZH → Prop} {a0 : Nat} {h : ZH} (hw : wb_189_26 E d Q a0 h) : Gx E (d + 1) 189 26 [.ref a0, .retAddr 0] [] h Q := by
  unfold wb_189_26 at hw
  refine zg_aload zi_189_26 rfl ?_
  obtain ⟨t3, hw⟩ := hw
  obtain ⟨r4, er4, hw⟩ := hw
  refine zg_getR (v := .ref r4) zi_189_27 t3 (by rfl) (by show zrv (zR h a0 32) = _; rw [er4]; rfl) ?_
  refine zg_aload zi_189_28 rfl ?_
  obtain ⟨r5, er5, hw⟩ := hw
  refine zg_getR (v := .ref r5) zi_189_29 t3 (by rfl) (by show zrv (zR h a0 15) = _; rw [er5]; rfl) ?_
  refine zg_const (v := 15) zi_189_30 (by rfl) ?_
  obtain ⟨t6, hw⟩ := hw
  obtain ⟨hb, hw⟩ := hw
  refine zg_iaload (v := .int (zI h r5 15)) zi_189_31 t6 hb rfl ?_
  refine zg_lconst (v := 1) zi_189_32 (by rfl) ?_
  obtain ⟨t7, hw⟩ := hw
  obtain ⟨hb, hw⟩ := hw
  refine zg_lastore (h1 := zuL h r4 (zI h r5 15 : Int32).toNatClampNeg 1) zi_189_33 t7 hb rfl ?_
  refine zg_nameH fun h8 eh8 => ?_
  have hw := hw h8 eh8
  refine zg_const (v := 0) zi_189_34 (by rfl) ?_
  refine zg_istore (ls1 := [.ref a0, .int 0]) zi_189_35 (Nat.le_of_ble_eq_true rfl) rfl ?_
  obtain ⟨mm, hw⟩ := hw
  exact okl_189_36 mm a0 0 h8 hw
def wl_189_16 (E : Nat → Nat) (d : Nat) (Q : Option Value → ZH → Prop) : Nat → Nat → Int32 → ZH → Prop
  | 0, _, _, _ => False
  | n + 1, a0, a1, h => (7371 ≤ a1 → (wb_189_26 E d Q a0 h)) ∧ (¬ (7371 ≤ a1) → (ztag h a0 = 11 ∧ ∃ r13 : Nat, zR h a0 32 = r13 + 1 ∧ ztag h r13 = 14 ∧ zin a1 (zlen h r13) = true ∧ ∀ h15 : ZH, h15 = (zuL h r13 a1.toNatClampNeg 0) → ∀ x16 : Int32, x16 = (a1 + 1) → wl_189_16 E d Q n a0 x16 h15))
set_option maxRecDepth 20000 in
theorem okl_189_16 {E : Nat → Nat} {d : Nat} {Q : Option Value → ZH → Prop} : ∀ (n : Nat) (a0 : Nat) (a1 : Int32) (h : ZH), wl_189_16 E d Q n a0 a1 h → Gx E (d + 1) 189 16 [.ref a0, .int a1] [] h Q := by
  intro n
  induction n with
  | zero => intro a0 a1 h hw; exact hw.elim
  | succ n ih =>
    intro a0 a1 h hw
    rw [wl_189_16] at hw
    refine zg_iload zi_189_16 rfl ?_
    refine zg_const (v := 7371) zi_189_17 (by rfl) ?_
    refine zg_icmp_ge zi_189_18 (fun hc => ?_) (fun hc => ?_)
    · have hw := hw.1 hc
      exact Gx.forget (zrk (zrd zr0)) (okb_189_26 hw)
    · have hw := hw.2 hc
      refine zg_aload zi_189_19 rfl ?_
      obtain ⟨t12, hw⟩ := hw
      obtain ⟨r13, er13, hw⟩ := hw
      refine zg_getR (v := .ref r13) zi_189_20 t12 (by rfl) (by show zrv (zR h a0 32) = _; rw [er13]; rfl) ?_
      refine zg_iload zi_189_21 rfl ?_
      refine zg_lconst (v := 0) zi_189_22 (by rfl) ?_
      obtain ⟨t14, hw⟩ := hw
      obtain ⟨hb, hw⟩ := hw
      refine zg_lastore (h1 := zuL h r13 a1.toNatClampNeg 0) zi_189_23 t14 hb rfl ?_
      refine zg_nameH fun h15 eh15 => ?_
      have hw := hw h15 eh15
      obtain ⟨x16, ex16⟩ : ∃ x : Int32, x = a1 + 1 := ⟨_, rfl⟩
      have hw := hw x16 ex16
      refine zg_iinc (v := x16) (ls1 := [.ref a0, .int x16]) zi_189_24 rfl (by rw [ex16]; rfl) rfl ?_
      refine zg_goto zi_189_25 ?_
      exact ih a0 x16 h15 hw
def wb_189_14 (E : Nat → Nat) (d : Nat) (Q : Option Value → ZH → Prop) (a0 : Nat) (h : ZH) : Prop := ∃ mm : Nat, wl_189_16 E d Q mm a0 0 h
set_option maxRecDepth 20000 in
theorem okb_189_14 {E : Nat → Nat} {d : Nat} {Q : Option Value → ZH → Prop} {a0 : Nat} {h : ZH} (hw : wb_189_14 E d Q a0 h) : Gx E (d + 1) 189 14 [.ref a0, .retAddr 0] [] h Q := by
  unfold wb_189_14 at hw
  refine zg_const (v := 0) zi_189_14 (by rfl) ?_
  refine zg_istore (ls1 := [.ref a0, .int 0]) zi_189_15 (Nat.le_of_ble_eq_true rfl) rfl ?_
  obtain ⟨mm, hw⟩ := hw
  exact okl_189_16 mm a0 0 h hw
def wl_189_4 (E : Nat → Nat) (d : Nat) (Q : Option Value → ZH → Prop) : Nat → Nat → Int32 → ZH → Prop
  | 0, _, _, _ => False
  | n + 1, a0, a1, h => (4 ≤ a1 → (wb_189_14 E d Q a0 h)) ∧ (¬ (4 ≤ a1) → (ztag h a0 = 11 ∧ ∃ r18 : Nat, zR h a0 34 = r18 + 1 ∧ ztag h r18 = 14 ∧ zin a1 (zlen h r18) = true ∧ ∀ h20 : ZH, h20 = (zuL h r18 a1.toNatClampNeg 0) → ∀ x21 : Int32, x21 = (a1 + 1) → wl_189_4 E d Q n a0 x21 h20))
set_option maxRecDepth 20000 in
theorem okl_189_4 {E : Nat → Nat} {d : Nat} {Q : Option Value → ZH → Prop} : ∀ (n : Nat) (a0 : Nat) (a1 : Int32) (h : ZH), wl_189_4 E d Q n a0 a1 h → Gx E (d + 1) 189 4 [.ref a0, .int a1] [] h Q := by
  intro n
  induction n with
  | zero => intro a0 a1 h hw; exact hw.elim
  | succ n ih =>
    intro a0 a1 h hw
    rw [wl_189_4] at hw
    refine zg_iload zi_189_4 rfl ?_
    refine zg_const (v := 4) zi_189_5 (by rfl) ?_
    refine zg_icmp_ge zi_189_6 (fun hc => ?_) (fun hc => ?_)
    · have hw := hw.1 hc
      exact Gx.forget (zrk (zrd zr0)) (okb_189_14 hw)
    · have hw := hw.2 hc
      refine zg_aload zi_189_7 rfl ?_
      obtain ⟨t17, hw⟩ := hw
      obtain ⟨r18, er18, hw⟩ := hw
      refine zg_getR (v := .ref r18) zi_189_8 t17 (by rfl) (by show zrv (zR h a0 34) = _; rw [er18]; rfl) ?_
      refine zg_iload zi_189_9 rfl ?_
      refine zg_lconst (v := 0) zi_189_10 (by rfl) ?_
      obtain ⟨t19, hw⟩ := hw
      obtain ⟨hb, hw⟩ := hw
      refine zg_lastore (h1 := zuL h r18 a1.toNatClampNeg 0) zi_189_11 t19 hb rfl ?_
      refine zg_nameH fun h20 eh20 => ?_
      have hw := hw h20 eh20
      obtain ⟨x21, ex21⟩ : ∃ x : Int32, x = a1 + 1 := ⟨_, rfl⟩
      have hw := hw x21 ex21
      refine zg_iinc (v := x21) (ls1 := [.ref a0, .int x21]) zi_189_12 rfl (by rw [ex21]; rfl) rfl ?_
      refine zg_goto zi_189_13 ?_
      exact ih a0 x21 h20 hw
/-- TakeOrPayModel.layExpected()V -/
def w_189 (E : Nat → Nat) (d : Nat) (a0 : Nat) (h : ZH) (Q : Option Value → ZH → Prop) : Prop := ztag h a0 = 11 ∧ Ct E d 182 [.ref a0] h (fun v h2 => v = none ∧ (∃ mm : Nat, wl_189_4 E d Q mm a0 0 h2))
set_option maxRecDepth 20000 in
theorem ok_189 {E : Nat → Nat} {d : Nat} {a0 : Nat} {h : ZH} {Q : Option Value → ZH → Prop} (hw : w_189 E d a0 h Q) : Ct E (d + 1) 189 [.ref a0] h Q := by
  unfold w_189 at hw
  show Gx E (d + 1) 189 0 [.ref a0, .retAddr 0] [] h Q
  refine zg_aload zi_189_0 rfl ?_
  obtain ⟨t1, hw⟩ := hw
  refine Gx.call2 (as := [.ref a0]) (rest := []) zq_182 zi_189_1 rfl rfl rfl (Nat.le_of_ble_eq_true rfl) (Nat.le_of_ble_eq_true rfl) (zrv_v t1 rfl rfl) (Nat.le_of_ble_eq_true rfl) ?_
  refine Ct.mono hw ?_
  rintro v h2 ⟨rfl, hw⟩
  show Gx E (d + 1) 189 2 [.ref a0, .retAddr 0] [] h2 Q
  refine zg_const (v := 0) zi_189_2 (by rfl) ?_
  refine zg_istore (ls1 := [.ref a0, .int 0]) zi_189_3 (Nat.le_of_ble_eq_true rfl) rfl ?_
  obtain ⟨mm, hw⟩ := hw
  exact okl_189_4 mm a0 0 h2 hw
theorem zq_190 : zQ 190 2 2 11 := by unfold zQ; decide +kernel
theorem zi_190_0 : (zM 190).1[0]? = some (.aload 0) := by rfl
theorem zi_190_1 : (zM 190).1[1]? = some (.invokevirtual 189) := by rfl
theorem zi_190_2 : (zM 190).1[2]? = some (.iload 1) := by rfl
theorem zi_190_3 : (zM 190).1[3]? = some (.ifCond .ne ((20 : Nat) : Int)) := by rfl
theorem zi_190_4 : (zM 190).1[4]? = some (.aload 0) := by rfl
theorem zi_190_5 : (zM 190).1[5]? = some (.getfield 11227) := by rfl
theorem zi_190_6 : (zM 190).1[6]? = some (.aload 0) := by rfl
theorem zi_190_7 : (zM 190).1[7]? = some (.getfield 11215) := by rfl
theorem zi_190_8 : (zM 190).1[8]? = some (.iconst 15) := by rfl
theorem zi_190_9 : (zM 190).1[9]? = some (.iaload) := by rfl
theorem zi_190_10 : (zM 190).1[10]? = some (.laload) := by rfl
theorem zi_190_11 : (zM 190).1[11]? = some (.iconst 1) := by rfl
theorem zi_190_12 : (zM 190).1[12]? = some (.aload 0) := by rfl
theorem zi_190_13 : (zM 190).1[13]? = some (.getfield 11215) := by rfl
theorem zi_190_14 : (zM 190).1[14]? = some (.iconst 12) := by rfl
theorem zi_190_15 : (zM 190).1[15]? = some (.iaload) := by rfl
theorem zi_190_16 : (zM 190).1[16]? = some (.isub) := by rfl
theorem zi_190_17 : (zM 190).1[17]? = some (.invokestatic 176) := by rfl
theorem zi_190_18 : (zM 190).1[18]? = some (.lmul) := by rfl
theorem zi_190_19 : (zM 190).1[19]? = some (.goto ((24 : Nat) : Int)) := by rfl
theorem zi_190_20 : (zM 190).1[20]? = some (.aload 0) := by rfl
theorem zi_190_21 : (zM 190).1[21]? = some (.getfield 11234) := by rfl
theorem zi_190_22 : (zM 190).1[22]? = some (.iconst 0) := by rfl
theorem zi_190_23 : (zM 190).1[23]? = some (.laload) := by rfl
theorem zi_190_24 : (zM 190).1[24]? = some (.lreturn) := by rfl
/-- TakeOrPayModel.wholeOf(I)J -/
def w_190 (E : Nat → Nat) (d : Nat) (a0 : Nat) (a1 : Int32) (h : ZH) (Q : Option Value → ZH → Prop) : Prop := ztag h a0 = 11 ∧ Ct E d 189 [.ref a0] h (fun v h2 => v = none ∧ (((¬ a1 = 0 → (ztag h2 a0 = 11 ∧ ¬ zR h2 a0 34 = 0 ∧ ztag h2 (zR h2 a0 34 - 1) = 14 ∧ zin 0 (zlen h2 (zR h2 a0 34 - 1)) = true ∧ True)) ∧ (¬ (¬ a1 = 0) → (ztag h2 a0 = 11 ∧ ¬ zR h2 a0 27 = 0 ∧ ¬ zR h2 a0 15 = 0 ∧ (ztag h2 (zR h2 a0 15 - 1) = 13 ∨ ztag h2 (zR h2 a0 15 - 1) = 19) ∧ zin 15 (zlen h2 (zR h2 a0 15 - 1)) = true ∧ ztag h2 (zR h2 a0 27 - 1) = 14 ∧ zin (zI h2 (zR h2 a0 15 - 1) 15) (zlen h2 (zR h2 a0 27 - 1)) = true ∧ ¬ zR h2 a0 15 = 0 ∧ zin 12 (zlen h2 (zR h2 a0 15 - 1)) = true ∧ 1 ≤ d ∧ sz_176 E h2 (1 - (zI h2 (zR h2 a0 15 - 1) 12)) ∧ True))) ∧ Q (some (.long (if ¬ a1 = 0 then zL h2 (zR h2 a0 34 - 1) 0 else (zL h2 (zR h2 a0 27 - 1) (zI h2 (zR h2 a0 15 - 1) 15 : Int32).toNatClampNeg) * (fz_176 E h2 (1 - (zI h2 (zR h2 a0 15 - 1) 12)))))) h2))
set_option maxRecDepth 20000 in
theorem ok_190 {E : Nat → Nat} {d : Nat} {a0 : Nat} {a1 : Int32} {h : ZH} {Q : Option Value → ZH → Prop} (hw : w_190 E d a0 a1 h Q) : Ct E (d + 1) 190 [.ref a0, .int a1] h Q := by
  unfold w_190 at hw
  show Gx E (d + 1) 190 0 [.ref a0, .int a1] [] h Q
  refine zg_aload zi_190_0 rfl ?_
  obtain ⟨t1, hw⟩ := hw
  refine Gx.call2 (as := [.ref a0]) (rest := []) zq_189 zi_190_1 rfl rfl rfl (Nat.le_of_ble_eq_true rfl) (Nat.le_of_ble_eq_true rfl) (zrv_v t1 rfl rfl) (Nat.le_of_ble_eq_true rfl) ?_
  refine Ct.mono hw ?_
  rintro v h2 ⟨rfl, hw⟩
  show Gx E (d + 1) 190 2 [.ref a0, .int a1] [] h2 Q
  refine zg_iload zi_190_2 rfl ?_
  obtain ⟨hsd3, hw⟩ := hw
  have g3 : Gx E (d + 1) 190 24 [.ref a0, .int a1] [.long (if ¬ a1 = 0 then zL h2 (zR h2 a0 34 - 1) 0 else (zL h2 (zR h2 a0 27 - 1) (zI h2 (zR h2 a0 15 - 1) 15 : Int32).toNatClampNeg) * (fz_176 E h2 (1 - (zI h2 (zR h2 a0 15 - 1) 12))))] h2 Q := by
    exact zg_lreturn zi_190_24 hw
  refine zg_if_ne zi_190_3 (fun hc3 => ?_) (fun hc3 => ?_)
  · have hw := hsd3.1 hc3
    refine zg_aload zi_190_20 rfl ?_
    obtain ⟨t3, hw⟩ := hw
    obtain ⟨hr, hw⟩ := hw
    refine zg_getR (v := .ref (zR h2 a0 34 - 1)) zi_190_21 t3 (by rfl) (zrv_p hr) ?_
    refine zg_const (v := 0) zi_190_22 (by rfl) ?_
    obtain ⟨t4, hw⟩ := hw
    obtain ⟨hb, hw⟩ := hw
    refine zg_laload (v := .long (zL h2 (zR h2 a0 34 - 1) 0)) zi_190_23 t4 hb rfl ?_
    have hg := g3
    simp only [if_pos hc3] at hg
    exact hg
  · have hw := hsd3.2 hc3
    refine zg_aload zi_190_4 rfl ?_
    obtain ⟨t5, hw⟩ := hw
    obtain ⟨hr, hw⟩ := hw
    refine zg_getR (v := .ref (zR h2 a0 27 - 1)) zi_190_5 t5 (by rfl) (zrv_p hr) ?_
    refine zg_aload zi_190_6 rfl ?_
    obtain ⟨hr, hw⟩ := hw
    refine zg_getR (v := .ref (zR h2 a0 15 - 1)) zi_190_7 t5 (by rfl) (zrv_p hr) ?_
    refine zg_const (v := 15) zi_190_8 (by rfl) ?_
    obtain ⟨t6, hw⟩ := hw
    obtain ⟨hb, hw⟩ := hw
    refine zg_iaload (v := .int (zI h2 (zR h2 a0 15 - 1) 15)) zi_190_9 t6 hb rfl ?_
    obtain ⟨t7, hw⟩ := hw
    obtain ⟨hb, hw⟩ := hw
    refine zg_laload (v := .long (zL h2 (zR h2 a0 27 - 1) (zI h2 (zR h2 a0 15 - 1) 15 : Int32).toNatClampNeg)) zi_190_10 t7 hb rfl ?_
    refine zg_const (v := 1) zi_190_11 (by rfl) ?_
    refine zg_aload zi_190_12 rfl ?_
    obtain ⟨hr, hw⟩ := hw
    refine zg_getR (v := .ref (zR h2 a0 15 - 1)) zi_190_13 t5 (by rfl) (zrv_p hr) ?_
    refine zg_const (v := 12) zi_190_14 (by rfl) ?_
    obtain ⟨hb, hw⟩ := hw
    refine zg_iaload (v := .int (zI h2 (zR h2 a0 15 - 1) 12)) zi_190_15 t6 hb rfl ?_
    refine zg_isub zi_190_16 ?_
    obtain ⟨hd, hs, hw⟩ := hw
    refine Gx.call2 (as := [.int (1 - (zI h2 (zR h2 a0 15 - 1) 12))]) (rest := [.long (zL h2 (zR h2 a0 27 - 1) (zI h2 (zR h2 a0 15 - 1) 15 : Int32).toNatClampNeg)]) zq_176 zi_190_17 rfl rfl rfl (Nat.le_of_ble_eq_true rfl) (Nat.le_of_ble_eq_true rfl) (rfl) (Nat.le_of_ble_eq_true rfl) ?_
    refine cz_176 hd hs ?_
    show Gx E (d + 1) 190 18 [.ref a0, .int a1] [.long (fz_176 E h2 (1 - (zI h2 (zR h2 a0 15 - 1) 12))), .long (zL h2 (zR h2 a0 27 - 1) (zI h2 (zR h2 a0 15 - 1) 15 : Int32).toNatClampNeg)] h2 Q
    refine zg_lmul zi_190_18 ?_
    refine zg_goto zi_190_19 ?_
    have hg := g3
    simp only [if_neg hc3] at hg
    exact hg
theorem zq_191 : zQ 191 3 3 11 := by unfold zQ; decide +kernel
theorem zi_191_0 : (zM 191).1[0]? = some (.iload 1) := by rfl
theorem zi_191_1 : (zM 191).1[1]? = some (.i2l) := by rfl
theorem zi_191_2 : (zM 191).1[2]? = some (.jsr_w 0) := by rfl
theorem zi_191_3 : (zM 191).1[3]? = some (.jsr_w 1) := by rfl
theorem zi_191_4 : (zM 191).1[4]? = some (.invokestatic 135) := by rfl
theorem zi_191_5 : (zM 191).1[5]? = some (.ifCond .eq ((21 : Nat) : Int)) := by rfl
theorem zi_191_6 : (zM 191).1[6]? = some (.iload 2) := by rfl
theorem zi_191_7 : (zM 191).1[7]? = some (.i2l) := by rfl
theorem zi_191_8 : (zM 191).1[8]? = some (.jsr_w 0) := by rfl
theorem zi_191_9 : (zM 191).1[9]? = some (.jsr_w 1) := by rfl
theorem zi_191_10 : (zM 191).1[10]? = some (.invokestatic 135) := by rfl
theorem zi_191_11 : (zM 191).1[11]? = some (.ifCond .eq ((21 : Nat) : Int)) := by rfl
theorem zi_191_12 : (zM 191).1[12]? = some (.aload 0) := by rfl
theorem zi_191_13 : (zM 191).1[13]? = some (.iload 1) := by rfl
theorem zi_191_14 : (zM 191).1[14]? = some (.invokevirtual 190) := by rfl
theorem zi_191_15 : (zM 191).1[15]? = some (.aload 0) := by rfl
theorem zi_191_16 : (zM 191).1[16]? = some (.invokevirtual 152) := by rfl
theorem zi_191_17 : (zM 191).1[17]? = some (.invokestatic 176) := by rfl
theorem zi_191_18 : (zM 191).1[18]? = some (.iload 2) := by rfl
theorem zi_191_19 : (zM 191).1[19]? = some (.invokestatic 184) := by rfl
theorem zi_191_20 : (zM 191).1[20]? = some (.goto ((22 : Nat) : Int)) := by rfl
theorem zi_191_21 : (zM 191).1[21]? = some (.jsr_w (-9000000000000000001)) := by rfl
theorem zi_191_22 : (zM 191).1[22]? = some (.lreturn) := by rfl
/-- TakeOrPayModel.whole(II)J -/
def w_191 (E : Nat → Nat) (d : Nat) (a0 : Nat) (a1 : Int32) (a2 : Int32) (h : ZH) (Q : Option Value → ZH → Prop) : Prop := 1 ≤ d ∧ sz_135 E h a1.toInt64 0 1 ∧ (((fz_135 E h a1.toInt64 0 1 : Int32) = 0 → (Q (some (.long ((-9000000000000000001)))) h)) ∧ (¬ ((fz_135 E h a1.toInt64 0 1 : Int32) = 0) → (1 ≤ d ∧ sz_135 E h a2.toInt64 0 1 ∧ (((fz_135 E h a2.toInt64 0 1 : Int32) = 0 → (Q (some (.long ((-9000000000000000001)))) h)) ∧ (¬ ((fz_135 E h a2.toInt64 0 1 : Int32) = 0) → (ztag h a0 = 11 ∧ Ct E d 190 [.ref a0, .int a1] h (fun v h2 => ∃ x3 : Int64, v = some (.long x3) ∧ ztag h2 a0 = 11 ∧ 1 ≤ d ∧ sz_152 E h2 a0 ∧ 1 ≤ d ∧ sz_176 E h2 (fz_152 E h2 a0) ∧ Ct E d 184 [.long x3, .long (fz_176 E h2 (fz_152 E h2 a0)), .int a2] h2 (fun v h5 => ∃ x6 : Int64, v = some (.long x6) ∧ Q (some (.long x6)) h5))))))))
set_option maxRecDepth 20000 in
theorem ok_191 {E : Nat → Nat} {d : Nat} {a0 : Nat} {a1 : Int32} {a2 : Int32} {h : ZH} {Q : Option Value → ZH → Prop} (hw : w_191 E d a0 a1 a2 h Q) : Ct E (d + 1) 191 [.ref a0, .int a1, .int a2] h Q := by
  unfold w_191 at hw
  show Gx E (d + 1) 191 0 [.ref a0, .int a1, .int a2] [] h Q
  refine zg_iload zi_191_0 rfl ?_
  refine zg_i2l zi_191_1 ?_
  refine zg_lconst (v := 0) zi_191_2 (by rfl) ?_
  refine zg_lconst (v := 1) zi_191_3 (by rfl) ?_
  obtain ⟨hd, hs, hw⟩ := hw
  refine Gx.call2 (as := [.long a1.toInt64, .long 0, .long 1]) (rest := []) zq_135 zi_191_4 rfl rfl rfl (Nat.le_of_ble_eq_true rfl) (Nat.le_of_ble_eq_true rfl) (rfl) (Nat.le_of_ble_eq_true rfl) ?_
  refine cz_135 hd hs ?_
  show Gx E (d + 1) 191 5 [.ref a0, .int a1, .int a2] [.int (fz_135 E h a1.toInt64 0 1)] h Q
  refine zg_if_eq zi_191_5 (fun hc => ?_) (fun hc => ?_)
  · have hw := hw.1 hc
    refine zg_lconst (v := (-9000000000000000001)) zi_191_21 (by rfl) ?_
    exact zg_lreturn zi_191_22 hw
  · have hw := hw.2 hc
    refine zg_iload zi_191_6 rfl ?_
    refine zg_i2l zi_191_7 ?_
    refine zg_lconst (v := 0) zi_191_8 (by rfl) ?_
    refine zg_lconst (v := 1) zi_191_9 (by rfl) ?_
    obtain ⟨hd, hs, hw⟩ := hw
    refine Gx.call2 (as := [.long a2.toInt64, .long 0, .long 1]) (rest := []) zq_135 zi_191_10 rfl rfl rfl (Nat.le_of_ble_eq_true rfl) (Nat.le_of_ble_eq_true rfl) (rfl) (Nat.le_of_ble_eq_true rfl) ?_
    refine cz_135 hd hs ?_
    show Gx E (d + 1) 191 11 [.ref a0, .int a1, .int a2] [.int (fz_135 E h a2.toInt64 0 1)] h Q
    refine zg_if_eq zi_191_11 (fun hc => ?_) (fun hc => ?_)
    · have hw := hw.1 hc
      refine zg_lconst (v := (-9000000000000000001)) zi_191_21 (by rfl) ?_
      exact zg_lreturn zi_191_22 hw
    · have hw := hw.2 hc
      refine zg_aload zi_191_12 rfl ?_
      refine zg_iload zi_191_13 rfl ?_
      obtain ⟨t1, hw⟩ := hw
      refine Gx.call2 (as := [.ref a0, .int a1]) (rest := []) zq_190 zi_191_14 rfl rfl rfl (Nat.le_of_ble_eq_true rfl) (Nat.le_of_ble_eq_true rfl) (zrv_v t1 rfl rfl) (Nat.le_of_ble_eq_true rfl) ?_
      refine Ct.mono hw ?_
      rintro v h2 ⟨x3, rfl, hw⟩
      show Gx E (d + 1) 191 15 [.ref a0, .int a1, .int a2] [.long x3] h2 Q
      refine zg_aload zi_191_15 rfl ?_
      obtain ⟨t4, hw⟩ := hw
      obtain ⟨hd, hs, hw⟩ := hw
      refine Gx.call2 (as := [.ref a0]) (rest := [.long x3]) zq_152 zi_191_16 rfl rfl rfl (Nat.le_of_ble_eq_true rfl) (Nat.le_of_ble_eq_true rfl) (zrv_v t4 rfl rfl) (Nat.le_of_ble_eq_true rfl) ?_
      refine cz_152 hd hs ?_
      show Gx E (d + 1) 191 17 [.ref a0, .int a1, .int a2] [.int (fz_152 E h2 a0), .long x3] h2 Q
      obtain ⟨hd, hs, hw⟩ := hw
      refine Gx.call2 (as := [.int (fz_152 E h2 a0)]) (rest := [.long x3]) zq_176 zi_191_17 rfl rfl rfl (Nat.le_of_ble_eq_true rfl) (Nat.le_of_ble_eq_true rfl) (rfl) (Nat.le_of_ble_eq_true rfl) ?_
      refine cz_176 hd hs ?_
      show Gx E (d + 1) 191 18 [.ref a0, .int a1, .int a2] [.long (fz_176 E h2 (fz_152 E h2 a0)), .long x3] h2 Q
      refine zg_iload zi_191_18 rfl ?_
      refine Gx.call2 (as := [.long x3, .long (fz_176 E h2 (fz_152 E h2 a0)), .int a2]) (rest := []) zq_184 zi_191_19 rfl rfl rfl (Nat.le_of_ble_eq_true rfl) (Nat.le_of_ble_eq_true rfl) (rfl) (Nat.le_of_ble_eq_true rfl) ?_
      refine Ct.mono hw ?_
      rintro v h5 ⟨x6, rfl, hw⟩
      show Gx E (d + 1) 191 20 [.ref a0, .int a1, .int a2] [.long x6] h5 Q
      refine zg_goto zi_191_20 ?_
      exact zg_lreturn zi_191_22 hw
theorem zq_192 : zQ 192 2 2 11 := by unfold zQ; decide +kernel
theorem zi_192_0 : (zM 192).1[0]? = some (.iload 1) := by rfl
theorem zi_192_1 : (zM 192).1[1]? = some (.i2l) := by rfl
theorem zi_192_2 : (zM 192).1[2]? = some (.jsr_w 0) := by rfl
theorem zi_192_3 : (zM 192).1[3]? = some (.jsr_w 5) := by rfl
theorem zi_192_4 : (zM 192).1[4]? = some (.invokestatic 135) := by rfl
theorem zi_192_5 : (zM 192).1[5]? = some (.ifCond .ne ((8 : Nat) : Int)) := by rfl
theorem zi_192_6 : (zM 192).1[6]? = some (.jsr_w (-1)) := by rfl
theorem zi_192_7 : (zM 192).1[7]? = some (.lreturn) := by rfl
theorem zi_192_8 : (zM 192).1[8]? = some (.aload 0) := by rfl
theorem zi_192_9 : (zM 192).1[9]? = some (.invokevirtual 189) := by rfl
theorem zi_192_10 : (zM 192).1[10]? = some (.aload 0) := by rfl
theorem zi_192_11 : (zM 192).1[11]? = some (.getfield 11234) := by rfl
theorem zi_192_12 : (zM 192).1[12]? = some (.iconst 1) := by rfl
theorem zi_192_13 : (zM 192).1[13]? = some (.iload 1) := by rfl
theorem zi_192_14 : (zM 192).1[14]? = some (.iconst 2) := by rfl
theorem zi_192_15 : (zM 192).1[15]? = some (.idiv) := by rfl
theorem zi_192_16 : (zM 192).1[16]? = some (.iadd) := by rfl
theorem zi_192_17 : (zM 192).1[17]? = some (.laload) := by rfl
theorem zi_192_18 : (zM 192).1[18]? = some (.aload 0) := by rfl
theorem zi_192_19 : (zM 192).1[19]? = some (.invokevirtual 152) := by rfl
theorem zi_192_20 : (zM 192).1[20]? = some (.invokestatic 176) := by rfl
theorem zi_192_21 : (zM 192).1[21]? = some (.iload 1) := by rfl
theorem zi_192_22 : (zM 192).1[22]? = some (.iconst 2) := by rfl
theorem zi_192_23 : (zM 192).1[23]? = some (.irem) := by rfl
theorem zi_192_24 : (zM 192).1[24]? = some (.invokestatic 184) := by rfl
theorem zi_192_25 : (zM 192).1[25]? = some (.lreturn) := by rfl
/-- TakeOrPayModel.units(I)J -/
def w_192 (E : Nat → Nat) (d : Nat) (a0 : Nat) (a1 : Int32) (h : ZH) (Q : Option Value → ZH → Prop) : Prop := 1 ≤ d ∧ sz_135 E h a1.toInt64 0 5 ∧ ((¬ (fz_135 E h a1.toInt64 0 5 : Int32) = 0 → (ztag h a0 = 11 ∧ Ct E d 189 [.ref a0] h (fun v h2 => v = none ∧ ztag h2 a0 = 11 ∧ ∃ r4 : Nat, zR h2 a0 34 = r4 + 1 ∧ ztag h2 r4 = 14 ∧ zin (1 + (a1 / 2)) (zlen h2 r4) = true ∧ 1 ≤ d ∧ sz_152 E h2 a0 ∧ 1 ≤ d ∧ sz_176 E h2 (fz_152 E h2 a0) ∧ Ct E d 184 [.long (zL h2 r4 (1 + (a1 / 2) : Int32).toNatClampNeg), .long (fz_176 E h2 (fz_152 E h2 a0)), .int (a1 - a1 / 2 * 2)] h2 (fun v h6 => ∃ x7 : Int64, v = some (.long x7) ∧ Q (some (.long x7)) h6)))) ∧ (¬ (¬ (fz_135 E h a1.toInt64 0 5 : Int32) = 0) → (Q (some (.long ((-1)))) h)))
set_option maxRecDepth 20000 in
theorem ok_192 {E : Nat → Nat} {d : Nat} {a0 : Nat} {a1 : Int32} {h : ZH} {Q : Option Value → ZH → Prop} (hw : w_192 E d a0 a1 h Q) : Ct E (d + 1) 192 [.ref a0, .int a1] h Q := by
  unfold w_192 at hw
  show Gx E (d + 1) 192 0 [.ref a0, .int a1] [] h Q
  refine zg_iload zi_192_0 rfl ?_
  refine zg_i2l zi_192_1 ?_
  refine zg_lconst (v := 0) zi_192_2 (by rfl) ?_
  refine zg_lconst (v := 5) zi_192_3 (by rfl) ?_
  obtain ⟨hd, hs, hw⟩ := hw
  refine Gx.call2 (as := [.long a1.toInt64, .long 0, .long 5]) (rest := []) zq_135 zi_192_4 rfl rfl rfl (Nat.le_of_ble_eq_true rfl) (Nat.le_of_ble_eq_true rfl) (rfl) (Nat.le_of_ble_eq_true rfl) ?_
  refine cz_135 hd hs ?_
  show Gx E (d + 1) 192 5 [.ref a0, .int a1] [.int (fz_135 E h a1.toInt64 0 5)] h Q
  refine zg_if_ne zi_192_5 (fun hc => ?_) (fun hc => ?_)
  · have hw := hw.1 hc
    refine zg_aload zi_192_8 rfl ?_
    obtain ⟨t1, hw⟩ := hw
    refine Gx.call2 (as := [.ref a0]) (rest := []) zq_189 zi_192_9 rfl rfl rfl (Nat.le_of_ble_eq_true rfl) (Nat.le_of_ble_eq_true rfl) (zrv_v t1 rfl rfl) (Nat.le_of_ble_eq_true rfl) ?_
    refine Ct.mono hw ?_
    rintro v h2 ⟨rfl, hw⟩
    show Gx E (d + 1) 192 10 [.ref a0, .int a1] [] h2 Q
    refine zg_aload zi_192_10 rfl ?_
    obtain ⟨t3, hw⟩ := hw
    obtain ⟨r4, er4, hw⟩ := hw
    refine zg_getR (v := .ref r4) zi_192_11 t3 (by rfl) (by show zrv (zR h2 a0 34) = _; rw [er4]; rfl) ?_
    refine zg_const (v := 1) zi_192_12 (by rfl) ?_
    refine zg_iload zi_192_13 rfl ?_
    refine zg_const (v := 2) zi_192_14 (by rfl) ?_
    refine zg_idiv zi_192_15 (by decide) ?_
    refine zg_iadd zi_192_16 ?_
    obtain ⟨t5, hw⟩ := hw
    obtain ⟨hb, hw⟩ := hw
    refine zg_laload (v := .long (zL h2 r4 (1 + (a1 / 2) : Int32).toNatClampNeg)) zi_192_17 t5 hb rfl ?_
    refine zg_aload zi_192_18 rfl ?_
    obtain ⟨hd, hs, hw⟩ := hw
    refine Gx.call2 (as := [.ref a0]) (rest := [.long (zL h2 r4 (1 + (a1 / 2) : Int32).toNatClampNeg)]) zq_152 zi_192_19 rfl rfl rfl (Nat.le_of_ble_eq_true rfl) (Nat.le_of_ble_eq_true rfl) (zrv_v t3 rfl rfl) (Nat.le_of_ble_eq_true rfl) ?_
    refine cz_152 hd hs ?_
    show Gx E (d + 1) 192 20 [.ref a0, .int a1] [.int (fz_152 E h2 a0), .long (zL h2 r4 (1 + (a1 / 2) : Int32).toNatClampNeg)] h2 Q
    obtain ⟨hd, hs, hw⟩ := hw
    refine Gx.call2 (as := [.int (fz_152 E h2 a0)]) (rest := [.long (zL h2 r4 (1 + (a1 / 2) : Int32).toNatClampNeg)]) zq_176 zi_192_20 rfl rfl rfl (Nat.le_of_ble_eq_true rfl) (Nat.le_of_ble_eq_true rfl) (rfl) (Nat.le_of_ble_eq_true rfl) ?_
    refine cz_176 hd hs ?_
    show Gx E (d + 1) 192 21 [.ref a0, .int a1] [.long (fz_176 E h2 (fz_152 E h2 a0)), .long (zL h2 r4 (1 + (a1 / 2) : Int32).toNatClampNeg)] h2 Q
    refine zg_iload zi_192_21 rfl ?_
    refine zg_const (v := 2) zi_192_22 (by rfl) ?_
    refine zg_irem zi_192_23 (by decide) ?_
    refine Gx.call2 (as := [.long (zL h2 r4 (1 + (a1 / 2) : Int32).toNatClampNeg), .long (fz_176 E h2 (fz_152 E h2 a0)), .int (a1 - a1 / 2 * 2)]) (rest := []) zq_184 zi_192_24 rfl rfl rfl (Nat.le_of_ble_eq_true rfl) (Nat.le_of_ble_eq_true rfl) (rfl) (Nat.le_of_ble_eq_true rfl) ?_
    refine Ct.mono hw ?_
    rintro v h6 ⟨x7, rfl, hw⟩
    show Gx E (d + 1) 192 25 [.ref a0, .int a1] [.long x7] h6 Q
    exact zg_lreturn zi_192_25 hw
  · have hw := hw.2 hc
    refine zg_lconst (v := (-1)) zi_192_6 (by rfl) ?_
    exact zg_lreturn zi_192_7 hw
theorem zq_193 : zQ 193 1 2 11 := by unfold zQ; decide +kernel
theorem zi_193_0 : (zM 193).1[0]? = some (.iconst 0) := by rfl
theorem zi_193_1 : (zM 193).1[1]? = some (.istore 1) := by rfl
theorem zi_193_2 : (zM 193).1[2]? = some (.iload 1) := by rfl
theorem zi_193_3 : (zM 193).1[3]? = some (.iconst 28) := by rfl
theorem zi_193_4 : (zM 193).1[4]? = some (.if_icmp .ge ((15 : Nat) : Int)) := by rfl
theorem zi_193_5 : (zM 193).1[5]? = some (.aload 0) := by rfl
theorem zi_193_6 : (zM 193).1[6]? = some (.getfield 11235) := by rfl
theorem zi_193_7 : (zM 193).1[7]? = some (.iload 1) := by rfl
theorem zi_193_8 : (zM 193).1[8]? = some (.aload 0) := by rfl
theorem zi_193_9 : (zM 193).1[9]? = some (.getfield 11215) := by rfl
theorem zi_193_10 : (zM 193).1[10]? = some (.iload 1) := by rfl
theorem zi_193_11 : (zM 193).1[11]? = some (.iaload) := by rfl
theorem zi_193_12 : (zM 193).1[12]? = some (.iastore) := by rfl
theorem zi_193_13 : (zM 193).1[13]? = some (.iinc 1 1) := by rfl
theorem zi_193_14 : (zM 193).1[14]? = some (.goto ((2 : Nat) : Int)) := by rfl
theorem zi_193_15 : (zM 193).1[15]? = some (.return_) := by rfl
def wl_193_2 (E : Nat → Nat) (d : Nat) (Q : Option Value → ZH → Prop) : Nat → Nat → Int32 → ZH → Prop
  | 0, _, _, _ => False
  | n + 1, a0, a1, h => (28 ≤ a1 → (Q none h)) ∧ (¬ (28 ≤ a1) → (ztag h a0 = 11 ∧ ∃ r2 : Nat, zR h a0 35 = r2 + 1 ∧ ∃ r3 : Nat, zR h a0 15 = r3 + 1 ∧ (ztag h r3 = 13 ∨ ztag h r3 = 19) ∧ zin a1 (zlen h r3) = true ∧ ztag h r2 = 13 ∧ zin a1 (zlen h r2) = true ∧ ∀ h6 : ZH, h6 = (zuI h r2 a1.toNatClampNeg (zI h r3 a1.toNatClampNeg)) → ∀ x7 : Int32, x7 = (a1 + 1) → wl_193_2 E d Q n a0 x7 h6))
set_option maxRecDepth 20000 in
theorem okl_193_2 {E : Nat → Nat} {d : Nat} {Q : Option Value → ZH → Prop} : ∀ (n : Nat) (a0 : Nat) (a1 : Int32) (h : ZH), wl_193_2 E d Q n a0 a1 h → Gx E (d + 1) 193 2 [.ref a0, .int a1] [] h Q := by
  intro n
  induction n with
  | zero => intro a0 a1 h hw; exact hw.elim
  | succ n ih =>
    intro a0 a1 h hw
    rw [wl_193_2] at hw
    refine zg_iload zi_193_2 rfl ?_
    refine zg_const (v := 28) zi_193_3 (by rfl) ?_
    refine zg_icmp_ge zi_193_4 (fun hc => ?_) (fun hc => ?_)
    · have hw := hw.1 hc
      exact zg_return zi_193_15 hw
    · have hw := hw.2 hc
      refine zg_aload zi_193_5 rfl ?_
      obtain ⟨t1, hw⟩ := hw
      obtain ⟨r2, er2, hw⟩ := hw
      refine zg_getR (v := .ref r2) zi_193_6 t1 (by rfl) (by show zrv (zR h a0 35) = _; rw [er2]; rfl) ?_
      refine zg_iload zi_193_7 rfl ?_
      refine zg_aload zi_193_8 rfl ?_
      obtain ⟨r3, er3, hw⟩ := hw
      refine zg_getR (v := .ref r3) zi_193_9 t1 (by rfl) (by show zrv (zR h a0 15) = _; rw [er3]; rfl) ?_
      refine zg_iload zi_193_10 rfl ?_
      obtain ⟨t4, hw⟩ := hw
      obtain ⟨hb, hw⟩ := hw
      refine zg_iaload (v := .int (zI h r3 a1.toNatClampNeg)) zi_193_11 t4 hb rfl ?_
      obtain ⟨t5, hw⟩ := hw
      obtain ⟨hb, hw⟩ := hw
      refine zg_iastore (h1 := zuI h r2 a1.toNatClampNeg (zI h r3 a1.toNatClampNeg)) zi_193_12 t5 hb rfl ?_
      refine zg_nameH fun h6 eh6 => ?_
      have hw := hw h6 eh6
      obtain ⟨x7, ex7⟩ : ∃ x : Int32, x = a1 + 1 := ⟨_, rfl⟩
      have hw := hw x7 ex7
      refine zg_iinc (v := x7) (ls1 := [.ref a0, .int x7]) zi_193_13 rfl (by rw [ex7]; rfl) rfl ?_
      refine zg_goto zi_193_14 ?_
      exact ih a0 x7 h6 hw
/-- TakeOrPayModel.keep()V -/
def w_193 (E : Nat → Nat) (d : Nat) (a0 : Nat) (h : ZH) (Q : Option Value → ZH → Prop) : Prop := ∃ mm : Nat, wl_193_2 E d Q mm a0 0 h
set_option maxRecDepth 20000 in
theorem ok_193 {E : Nat → Nat} {d : Nat} {a0 : Nat} {h : ZH} {Q : Option Value → ZH → Prop} (hw : w_193 E d a0 h Q) : Ct E (d + 1) 193 [.ref a0] h Q := by
  unfold w_193 at hw
  show Gx E (d + 1) 193 0 [.ref a0, .retAddr 0] [] h Q
  refine zg_const (v := 0) zi_193_0 (by rfl) ?_
  refine zg_istore (ls1 := [.ref a0, .int 0]) zi_193_1 (Nat.le_of_ble_eq_true rfl) rfl ?_
  obtain ⟨mm, hw⟩ := hw
  exact okl_193_2 mm a0 0 h hw
theorem zq_194 : zQ 194 1 2 11 := by unfold zQ; decide +kernel
theorem zi_194_0 : (zM 194).1[0]? = some (.iconst 0) := by rfl
theorem zi_194_1 : (zM 194).1[1]? = some (.istore 1) := by rfl
theorem zi_194_2 : (zM 194).1[2]? = some (.iload 1) := by rfl
theorem zi_194_3 : (zM 194).1[3]? = some (.iconst 28) := by rfl
theorem zi_194_4 : (zM 194).1[4]? = some (.if_icmp .ge ((15 : Nat) : Int)) := by rfl
theorem zi_194_5 : (zM 194).1[5]? = some (.aload 0) := by rfl
theorem zi_194_6 : (zM 194).1[6]? = some (.getfield 11215) := by rfl
theorem zi_194_7 : (zM 194).1[7]? = some (.iload 1) := by rfl
theorem zi_194_8 : (zM 194).1[8]? = some (.aload 0) := by rfl
theorem zi_194_9 : (zM 194).1[9]? = some (.getfield 11235) := by rfl
theorem zi_194_10 : (zM 194).1[10]? = some (.iload 1) := by rfl
theorem zi_194_11 : (zM 194).1[11]? = some (.iaload) := by rfl
theorem zi_194_12 : (zM 194).1[12]? = some (.iastore) := by rfl
theorem zi_194_13 : (zM 194).1[13]? = some (.iinc 1 1) := by rfl
theorem zi_194_14 : (zM 194).1[14]? = some (.goto ((2 : Nat) : Int)) := by rfl
theorem zi_194_15 : (zM 194).1[15]? = some (.aload 0) := by rfl
theorem zi_194_16 : (zM 194).1[16]? = some (.iconst 0) := by rfl
theorem zi_194_17 : (zM 194).1[17]? = some (.putfield 11329) := by rfl
theorem zi_194_18 : (zM 194).1[18]? = some (.return_) := by rfl
def wb_194_15 (E : Nat → Nat) (d : Nat) (Q : Option Value → ZH → Prop) (a0 : Nat) (h : ZH) : Prop := ztag h a0 = 11 ∧ ∀ h2 : ZH, h2 = (zuI h a0 29 0) → Q none h2
set_option maxRecDepth 20000 in
theorem okb_194_15 {E : Nat → Nat} {d : Nat} {Q : Option Value → ZH → Prop} {a0 : Nat} {h : ZH} (hw : wb_194_15 E d Q a0 h) : Gx E (d + 1) 194 15 [.ref a0, .retAddr 0] [] h Q := by
  unfold wb_194_15 at hw
  refine zg_aload zi_194_15 rfl ?_
  refine zg_const (v := 0) zi_194_16 (by rfl) ?_
  obtain ⟨t1, hw⟩ := hw
  refine zg_putZ (h1 := zuI h a0 29 0) zi_194_17 t1 (by rfl) (by decide) rfl ?_
  refine zg_nameH fun h2 eh2 => ?_
  have hw := hw h2 eh2
  exact zg_return zi_194_18 hw
def wl_194_2 (E : Nat → Nat) (d : Nat) (Q : Option Value → ZH → Prop) : Nat → Nat → Int32 → ZH → Prop
  | 0, _, _, _ => False
  | n + 1, a0, a1, h => (28 ≤ a1 → (wb_194_15 E d Q a0 h)) ∧ (¬ (28 ≤ a1) → (ztag h a0 = 11 ∧ ∃ r4 : Nat, zR h a0 15 = r4 + 1 ∧ ∃ r5 : Nat, zR h a0 35 = r5 + 1 ∧ (ztag h r5 = 13 ∨ ztag h r5 = 19) ∧ zin a1 (zlen h r5) = true ∧ ztag h r4 = 13 ∧ zin a1 (zlen h r4) = true ∧ ∀ h8 : ZH, h8 = (zuI h r4 a1.toNatClampNeg (zI h r5 a1.toNatClampNeg)) → ∀ x9 : Int32, x9 = (a1 + 1) → wl_194_2 E d Q n a0 x9 h8))
set_option maxRecDepth 20000 in
theorem okl_194_2 {E : Nat → Nat} {d : Nat} {Q : Option Value → ZH → Prop} : ∀ (n : Nat) (a0 : Nat) (a1 : Int32) (h : ZH), wl_194_2 E d Q n a0 a1 h → Gx E (d + 1) 194 2 [.ref a0, .int a1] [] h Q := by
  intro n
  induction n with
  | zero => intro a0 a1 h hw; exact hw.elim
  | succ n ih =>
    intro a0 a1 h hw
    rw [wl_194_2] at hw
    refine zg_iload zi_194_2 rfl ?_
    refine zg_const (v := 28) zi_194_3 (by rfl) ?_
    refine zg_icmp_ge zi_194_4 (fun hc => ?_) (fun hc => ?_)
    · have hw := hw.1 hc
      exact Gx.forget (zrk (zrd zr0)) (okb_194_15 hw)
    · have hw := hw.2 hc
      refine zg_aload zi_194_5 rfl ?_
      obtain ⟨t3, hw⟩ := hw
      obtain ⟨r4, er4, hw⟩ := hw
      refine zg_getR (v := .ref r4) zi_194_6 t3 (by rfl) (by show zrv (zR h a0 15) = _; rw [er4]; rfl) ?_
      refine zg_iload zi_194_7 rfl ?_
      refine zg_aload zi_194_8 rfl ?_
      obtain ⟨r5, er5, hw⟩ := hw
      refine zg_getR (v := .ref r5) zi_194_9 t3 (by rfl) (by show zrv (zR h a0 35) = _; rw [er5]; rfl) ?_
      refine zg_iload zi_194_10 rfl ?_
      obtain ⟨t6, hw⟩ := hw
      obtain ⟨hb, hw⟩ := hw
      refine zg_iaload (v := .int (zI h r5 a1.toNatClampNeg)) zi_194_11 t6 hb rfl ?_
      obtain ⟨t7, hw⟩ := hw
      obtain ⟨hb, hw⟩ := hw
      refine zg_iastore (h1 := zuI h r4 a1.toNatClampNeg (zI h r5 a1.toNatClampNeg)) zi_194_12 t7 hb rfl ?_
      refine zg_nameH fun h8 eh8 => ?_
      have hw := hw h8 eh8
      obtain ⟨x9, ex9⟩ : ∃ x : Int32, x = a1 + 1 := ⟨_, rfl⟩
      have hw := hw x9 ex9
      refine zg_iinc (v := x9) (ls1 := [.ref a0, .int x9]) zi_194_13 rfl (by rw [ex9]; rfl) rfl ?_
      refine zg_goto zi_194_14 ?_
      exact ih a0 x9 h8 hw
/-- TakeOrPayModel.goBack()V -/
def w_194 (E : Nat → Nat) (d : Nat) (a0 : Nat) (h : ZH) (Q : Option Value → ZH → Prop) : Prop := ∃ mm : Nat, wl_194_2 E d Q mm a0 0 h
set_option maxRecDepth 20000 in
theorem ok_194 {E : Nat → Nat} {d : Nat} {a0 : Nat} {h : ZH} {Q : Option Value → ZH → Prop} (hw : w_194 E d a0 h Q) : Ct E (d + 1) 194 [.ref a0] h Q := by
  unfold w_194 at hw
  show Gx E (d + 1) 194 0 [.ref a0, .retAddr 0] [] h Q
  refine zg_const (v := 0) zi_194_0 (by rfl) ?_
  refine zg_istore (ls1 := [.ref a0, .int 0]) zi_194_1 (Nat.le_of_ble_eq_true rfl) rfl ?_
  obtain ⟨mm, hw⟩ := hw
  exact okl_194_2 mm a0 0 h hw
theorem zq_195 : zQ 195 2 2 11 := by unfold zQ; decide +kernel
theorem zi_195_0 : (zM 195).1[0]? = some (.iload 1) := by rfl
theorem zi_195_1 : (zM 195).1[1]? = some (.tableswitch 49 0 6 #[2, 8, 14, 20, 31, 37, 43]) := by rfl
theorem zi_195_2 : (zM 195).1[2]? = some (.aload 0) := by rfl
theorem zi_195_3 : (zM 195).1[3]? = some (.getfield 11215) := by rfl
theorem zi_195_4 : (zM 195).1[4]? = some (.iconst 5) := by rfl
theorem zi_195_5 : (zM 195).1[5]? = some (.iconst 0) := by rfl
theorem zi_195_6 : (zM 195).1[6]? = some (.iastore) := by rfl
theorem zi_195_7 : (zM 195).1[7]? = some (.goto ((54 : Nat) : Int)) := by rfl
theorem zi_195_8 : (zM 195).1[8]? = some (.aload 0) := by rfl
theorem zi_195_9 : (zM 195).1[9]? = some (.getfield 11215) := by rfl
theorem zi_195_10 : (zM 195).1[10]? = some (.iconst 7) := by rfl
theorem zi_195_11 : (zM 195).1[11]? = some (.iconst 0) := by rfl
theorem zi_195_12 : (zM 195).1[12]? = some (.iastore) := by rfl
theorem zi_195_13 : (zM 195).1[13]? = some (.goto ((54 : Nat) : Int)) := by rfl
theorem zi_195_14 : (zM 195).1[14]? = some (.aload 0) := by rfl
theorem zi_195_15 : (zM 195).1[15]? = some (.getfield 11215) := by rfl
theorem zi_195_16 : (zM 195).1[16]? = some (.iconst 8) := by rfl
theorem zi_195_17 : (zM 195).1[17]? = some (.iconst 0) := by rfl
theorem zi_195_18 : (zM 195).1[18]? = some (.iastore) := by rfl
theorem zi_195_19 : (zM 195).1[19]? = some (.goto ((54 : Nat) : Int)) := by rfl
theorem zi_195_20 : (zM 195).1[20]? = some (.aload 0) := by rfl
theorem zi_195_21 : (zM 195).1[21]? = some (.getfield 11215) := by rfl
theorem zi_195_22 : (zM 195).1[22]? = some (.iconst 9) := by rfl
theorem zi_195_23 : (zM 195).1[23]? = some (.iconst 0) := by rfl
theorem zi_195_24 : (zM 195).1[24]? = some (.iastore) := by rfl
theorem zi_195_25 : (zM 195).1[25]? = some (.aload 0) := by rfl
theorem zi_195_26 : (zM 195).1[26]? = some (.getfield 11215) := by rfl
theorem zi_195_27 : (zM 195).1[27]? = some (.iconst 10) := by rfl
theorem zi_195_28 : (zM 195).1[28]? = some (.iconst 0) := by rfl
theorem zi_195_29 : (zM 195).1[29]? = some (.iastore) := by rfl
theorem zi_195_30 : (zM 195).1[30]? = some (.goto ((54 : Nat) : Int)) := by rfl
theorem zi_195_31 : (zM 195).1[31]? = some (.aload 0) := by rfl
theorem zi_195_32 : (zM 195).1[32]? = some (.getfield 11215) := by rfl
theorem zi_195_33 : (zM 195).1[33]? = some (.iconst 11) := by rfl
theorem zi_195_34 : (zM 195).1[34]? = some (.iconst 0) := by rfl
theorem zi_195_35 : (zM 195).1[35]? = some (.iastore) := by rfl
theorem zi_195_36 : (zM 195).1[36]? = some (.goto ((54 : Nat) : Int)) := by rfl
theorem zi_195_37 : (zM 195).1[37]? = some (.aload 0) := by rfl
theorem zi_195_38 : (zM 195).1[38]? = some (.getfield 11215) := by rfl
theorem zi_195_39 : (zM 195).1[39]? = some (.iconst 12) := by rfl
theorem zi_195_40 : (zM 195).1[40]? = some (.iconst 0) := by rfl
theorem zi_195_41 : (zM 195).1[41]? = some (.iastore) := by rfl
theorem zi_195_42 : (zM 195).1[42]? = some (.goto ((54 : Nat) : Int)) := by rfl
theorem zi_195_43 : (zM 195).1[43]? = some (.aload 0) := by rfl
theorem zi_195_44 : (zM 195).1[44]? = some (.getfield 11215) := by rfl
theorem zi_195_45 : (zM 195).1[45]? = some (.iconst 13) := by rfl
theorem zi_195_46 : (zM 195).1[46]? = some (.iconst 0) := by rfl
theorem zi_195_47 : (zM 195).1[47]? = some (.iastore) := by rfl
theorem zi_195_48 : (zM 195).1[48]? = some (.goto ((54 : Nat) : Int)) := by rfl
theorem zi_195_49 : (zM 195).1[49]? = some (.aload 0) := by rfl
theorem zi_195_50 : (zM 195).1[50]? = some (.getfield 11215) := by rfl
theorem zi_195_51 : (zM 195).1[51]? = some (.iconst 3) := by rfl
theorem zi_195_52 : (zM 195).1[52]? = some (.iconst 0) := by rfl
theorem zi_195_53 : (zM 195).1[53]? = some (.iastore) := by rfl
theorem zi_195_54 : (zM 195).1[54]? = some (.aload 0) := by rfl
theorem zi_195_55 : (zM 195).1[55]? = some (.iconst 0) := by rfl
theorem zi_195_56 : (zM 195).1[56]? = some (.putfield 11329) := by rfl
theorem zi_195_57 : (zM 195).1[57]? = some (.return_) := by rfl
def wb_195_54 (E : Nat → Nat) (d : Nat) (Q : Option Value → ZH → Prop) (a0 : Nat) (h : ZH) : Prop := ztag h a0 = 11 ∧ ∀ h6 : ZH, h6 = (zuI h a0 29 0) → Q none h6
set_option maxRecDepth 20000 in
theorem okb_195_54 {E : Nat → Nat} {d : Nat} {Q : Option Value → ZH → Prop} {a0 : Nat} {h : ZH} (hw : wb_195_54 E d Q a0 h) : Gx E (d + 1) 195 54 [.ref a0, .retAddr 0] [] h Q := by
  unfold wb_195_54 at hw
  refine zg_aload zi_195_54 rfl ?_
  refine zg_const (v := 0) zi_195_55 (by rfl) ?_
  obtain ⟨t5, hw⟩ := hw
  refine zg_putZ (h1 := zuI h a0 29 0) zi_195_56 t5 (by rfl) (by decide) rfl ?_
  refine zg_nameH fun h6 eh6 => ?_
  have hw := hw h6 eh6
  exact zg_return zi_195_57 hw
set_option maxRecDepth 20000 in
theorem zsl_195_1 : ∀ z : Int, ¬ (z < 0 ∨ 6 < z) → ¬ z = 0 → ¬ z = 1 → ¬ z = 2 → ¬ z = 3 → ¬ z = 4 → ¬ z = 5 →  z = 6 := by intros; omega
/-- TakeOrPayModel.strike(I)V -/
def w_195 (E : Nat → Nat) (d : Nat) (a0 : Nat) (a1 : Int32) (h : ZH) (Q : Option Value → ZH → Prop) : Prop := ((a1.toInt < 0 ∨ 6 < a1.toInt) → (ztag h a0 = 11 ∧ ∃ r2 : Nat, zR h a0 15 = r2 + 1 ∧ ztag h r2 = 13 ∧ zin 3 (zlen h r2) = true ∧ ∀ h4 : ZH, h4 = (zuI h r2 3 0) → wb_195_54 E d Q a0 h4)) ∧ (a1.toInt = 0 → (ztag h a0 = 11 ∧ ∃ r8 : Nat, zR h a0 15 = r8 + 1 ∧ ztag h r8 = 13 ∧ zin 5 (zlen h r8) = true ∧ ∀ h10 : ZH, h10 = (zuI h r8 5 0) → wb_195_54 E d Q a0 h10)) ∧ (a1.toInt = 1 → (ztag h a0 = 11 ∧ ∃ r12 : Nat, zR h a0 15 = r12 + 1 ∧ ztag h r12 = 13 ∧ zin 7 (zlen h r12) = true ∧ ∀ h14 : ZH, h14 = (zuI h r12 7 0) → wb_195_54 E d Q a0 h14)) ∧ (a1.toInt = 2 → (ztag h a0 = 11 ∧ ∃ r16 : Nat, zR h a0 15 = r16 + 1 ∧ ztag h r16 = 13 ∧ zin 8 (zlen h r16) = true ∧ ∀ h18 : ZH, h18 = (zuI h r16 8 0) → wb_195_54 E d Q a0 h18)) ∧ (a1.toInt = 3 → (ztag h a0 = 11 ∧ ∃ r20 : Nat, zR h a0 15 = r20 + 1 ∧ ztag h r20 = 13 ∧ zin 9 (zlen h r20) = true ∧ ∀ h22 : ZH, h22 = (zuI h r20 9 0) → zin 10 (zlen h22 r20) = true ∧ ∀ h23 : ZH, h23 = (zuI h22 r20 10 0) → wb_195_54 E d Q a0 h23)) ∧ (a1.toInt = 4 → (ztag h a0 = 11 ∧ ∃ r25 : Nat, zR h a0 15 = r25 + 1 ∧ ztag h r25 = 13 ∧ zin 11 (zlen h r25) = true ∧ ∀ h27 : ZH, h27 = (zuI h r25 11 0) → wb_195_54 E d Q a0 h27)) ∧ (a1.toInt = 5 → (ztag h a0 = 11 ∧ ∃ r29 : Nat, zR h a0 15 = r29 + 1 ∧ ztag h r29 = 13 ∧ zin 12 (zlen h r29) = true ∧ ∀ h31 : ZH, h31 = (zuI h r29 12 0) → wb_195_54 E d Q a0 h31)) ∧ (a1.toInt = 6 → (ztag h a0 = 11 ∧ ∃ r33 : Nat, zR h a0 15 = r33 + 1 ∧ ztag h r33 = 13 ∧ zin 13 (zlen h r33) = true ∧ ∀ h35 : ZH, h35 = (zuI h r33 13 0) → wb_195_54 E d Q a0 h35))
set_option maxRecDepth 20000 in
theorem ok_195 {E : Nat → Nat} {d : Nat} {a0 : Nat} {a1 : Int32} {h : ZH} {Q : Option Value → ZH → Prop} (hw : w_195 E d a0 a1 h Q) : Ct E (d + 1) 195 [.ref a0, .int a1] h Q := by
  unfold w_195 at hw
  show Gx E (d + 1) 195 0 [.ref a0, .int a1] [] h Q
  refine zg_iload zi_195_0 rfl ?_
  by_cases ho : a1.toInt < 0 ∨ 6 < a1.toInt
  · have hw := hw.1 ho
    refine zg_switch (t := 49) zi_195_1 (by unfold zsw; rw [if_pos ho]; rfl) ?_
    refine zg_aload zi_195_49 rfl ?_
    obtain ⟨t1, hw⟩ := hw
    obtain ⟨r2, er2, hw⟩ := hw
    refine zg_getR (v := .ref r2) zi_195_50 t1 (by rfl) (by show zrv (zR h a0 15) = _; rw [er2]; rfl) ?_
    refine zg_const (v := 3) zi_195_51 (by rfl) ?_
    refine zg_const (v := 0) zi_195_52 (by rfl) ?_
    obtain ⟨t3, hw⟩ := hw
    obtain ⟨hb, hw⟩ := hw
    refine zg_iastore (h1 := zuI h r2 3 0) zi_195_53 t3 hb rfl ?_
    refine zg_nameH fun h4 eh4 => ?_
    have hw := hw h4 eh4
    exact Gx.forget (zrk (zrd zr0)) (okb_195_54 hw)
  have hw := hw.2
  by_cases hv0 : a1.toInt = 0
  · have hw := hw.1 hv0
    refine zg_switch (t := 2) zi_195_1 (by rw [hv0]; rfl) ?_
    refine zg_aload zi_195_2 rfl ?_
    obtain ⟨t7, hw⟩ := hw
    obtain ⟨r8, er8, hw⟩ := hw
    refine zg_getR (v := .ref r8) zi_195_3 t7 (by rfl) (by show zrv (zR h a0 15) = _; rw [er8]; rfl) ?_
    refine zg_const (v := 5) zi_195_4 (by rfl) ?_
    refine zg_const (v := 0) zi_195_5 (by rfl) ?_
    obtain ⟨t9, hw⟩ := hw
    obtain ⟨hb, hw⟩ := hw
    refine zg_iastore (h1 := zuI h r8 5 0) zi_195_6 t9 hb rfl ?_
    refine zg_nameH fun h10 eh10 => ?_
    have hw := hw h10 eh10
    refine zg_goto zi_195_7 ?_
    exact Gx.forget (zrk (zrd zr0)) (okb_195_54 hw)
  have hw := hw.2
  by_cases hv1 : a1.toInt = 1
  · have hw := hw.1 hv1
    refine zg_switch (t := 8) zi_195_1 (by rw [hv1]; rfl) ?_
    refine zg_aload zi_195_8 rfl ?_
    obtain ⟨t11, hw⟩ := hw
    obtain ⟨r12, er12, hw⟩ := hw
    refine zg_getR (v := .ref r12) zi_195_9 t11 (by rfl) (by show zrv (zR h a0 15) = _; rw [er12]; rfl) ?_
    refine zg_const (v := 7) zi_195_10 (by rfl) ?_
    refine zg_const (v := 0) zi_195_11 (by rfl) ?_
    obtain ⟨t13, hw⟩ := hw
    obtain ⟨hb, hw⟩ := hw
    refine zg_iastore (h1 := zuI h r12 7 0) zi_195_12 t13 hb rfl ?_
    refine zg_nameH fun h14 eh14 => ?_
    have hw := hw h14 eh14
    refine zg_goto zi_195_13 ?_
    exact Gx.forget (zrk (zrd zr0)) (okb_195_54 hw)
  have hw := hw.2
  by_cases hv2 : a1.toInt = 2
  · have hw := hw.1 hv2
    refine zg_switch (t := 14) zi_195_1 (by rw [hv2]; rfl) ?_
    refine zg_aload zi_195_14 rfl ?_
    obtain ⟨t15, hw⟩ := hw
    obtain ⟨r16, er16, hw⟩ := hw
    refine zg_getR (v := .ref r16) zi_195_15 t15 (by rfl) (by show zrv (zR h a0 15) = _; rw [er16]; rfl) ?_
    refine zg_const (v := 8) zi_195_16 (by rfl) ?_
    refine zg_const (v := 0) zi_195_17 (by rfl) ?_
    obtain ⟨t17, hw⟩ := hw
    obtain ⟨hb, hw⟩ := hw
    refine zg_iastore (h1 := zuI h r16 8 0) zi_195_18 t17 hb rfl ?_
    refine zg_nameH fun h18 eh18 => ?_
    have hw := hw h18 eh18
    refine zg_goto zi_195_19 ?_
    exact Gx.forget (zrk (zrd zr0)) (okb_195_54 hw)
  have hw := hw.2
  by_cases hv3 : a1.toInt = 3
  · have hw := hw.1 hv3
    refine zg_switch (t := 20) zi_195_1 (by rw [hv3]; rfl) ?_
    refine zg_aload zi_195_20 rfl ?_
    obtain ⟨t19, hw⟩ := hw
    obtain ⟨r20, er20, hw⟩ := hw
    refine zg_getR (v := .ref r20) zi_195_21 t19 (by rfl) (by show zrv (zR h a0 15) = _; rw [er20]; rfl) ?_
    refine zg_const (v := 9) zi_195_22 (by rfl) ?_
    refine zg_const (v := 0) zi_195_23 (by rfl) ?_
    obtain ⟨t21, hw⟩ := hw
    obtain ⟨hb, hw⟩ := hw
    refine zg_iastore (h1 := zuI h r20 9 0) zi_195_24 t21 hb rfl ?_
    refine zg_nameH fun h22 eh22 => ?_
    have hw := hw h22 eh22
    refine zg_aload zi_195_25 rfl ?_
    refine zg_getR (v := .ref r20) zi_195_26 (by rw [eh22]; exact t19) (by rfl) (by rw [eh22]; show zrv (zR h a0 15) = _; rw [er20]; rfl) ?_
    refine zg_const (v := 10) zi_195_27 (by rfl) ?_
    refine zg_const (v := 0) zi_195_28 (by rfl) ?_
    obtain ⟨hb, hw⟩ := hw
    refine zg_iastore (h1 := zuI h22 r20 10 0) zi_195_29 (by rw [eh22]; exact t21) hb rfl ?_
    refine zg_nameH fun h23 eh23 => ?_
    have hw := hw h23 eh23
    refine zg_goto zi_195_30 ?_
    exact Gx.forget (zrk (zrd zr0)) (okb_195_54 hw)
  have hw := hw.2
  by_cases hv4 : a1.toInt = 4
  · have hw := hw.1 hv4
    refine zg_switch (t := 31) zi_195_1 (by rw [hv4]; rfl) ?_
    refine zg_aload zi_195_31 rfl ?_
    obtain ⟨t24, hw⟩ := hw
    obtain ⟨r25, er25, hw⟩ := hw
    refine zg_getR (v := .ref r25) zi_195_32 t24 (by rfl) (by show zrv (zR h a0 15) = _; rw [er25]; rfl) ?_
    refine zg_const (v := 11) zi_195_33 (by rfl) ?_
    refine zg_const (v := 0) zi_195_34 (by rfl) ?_
    obtain ⟨t26, hw⟩ := hw
    obtain ⟨hb, hw⟩ := hw
    refine zg_iastore (h1 := zuI h r25 11 0) zi_195_35 t26 hb rfl ?_
    refine zg_nameH fun h27 eh27 => ?_
    have hw := hw h27 eh27
    refine zg_goto zi_195_36 ?_
    exact Gx.forget (zrk (zrd zr0)) (okb_195_54 hw)
  have hw := hw.2
  by_cases hv5 : a1.toInt = 5
  · have hw := hw.1 hv5
    refine zg_switch (t := 37) zi_195_1 (by rw [hv5]; rfl) ?_
    refine zg_aload zi_195_37 rfl ?_
    obtain ⟨t28, hw⟩ := hw
    obtain ⟨r29, er29, hw⟩ := hw
    refine zg_getR (v := .ref r29) zi_195_38 t28 (by rfl) (by show zrv (zR h a0 15) = _; rw [er29]; rfl) ?_
    refine zg_const (v := 12) zi_195_39 (by rfl) ?_
    refine zg_const (v := 0) zi_195_40 (by rfl) ?_
    obtain ⟨t30, hw⟩ := hw
    obtain ⟨hb, hw⟩ := hw
    refine zg_iastore (h1 := zuI h r29 12 0) zi_195_41 t30 hb rfl ?_
    refine zg_nameH fun h31 eh31 => ?_
    have hw := hw h31 eh31
    refine zg_goto zi_195_42 ?_
    exact Gx.forget (zrk (zrd zr0)) (okb_195_54 hw)
  have hw := hw.2
  have hv6 : a1.toInt = 6 := zsl_195_1 _ ho hv0 hv1 hv2 hv3 hv4 hv5
  have hw := hw hv6
  refine zg_switch (t := 43) zi_195_1 (by rw [hv6]; rfl) ?_
  refine zg_aload zi_195_43 rfl ?_
  obtain ⟨t32, hw⟩ := hw
  obtain ⟨r33, er33, hw⟩ := hw
  refine zg_getR (v := .ref r33) zi_195_44 t32 (by rfl) (by show zrv (zR h a0 15) = _; rw [er33]; rfl) ?_
  refine zg_const (v := 13) zi_195_45 (by rfl) ?_
  refine zg_const (v := 0) zi_195_46 (by rfl) ?_
  obtain ⟨t34, hw⟩ := hw
  obtain ⟨hb, hw⟩ := hw
  refine zg_iastore (h1 := zuI h r33 13 0) zi_195_47 t34 hb rfl ?_
  refine zg_nameH fun h35 eh35 => ?_
  have hw := hw h35 eh35
  refine zg_goto zi_195_48 ?_
  exact Gx.forget (zrk (zrd zr0)) (okb_195_54 hw)
theorem zq_196 : zQ 196 4 8 11 := by unfold zQ; decide +kernel
theorem zi_196_0 : (zM 196).1[0]? = some (.iload 1) := by rfl
theorem zi_196_1 : (zM 196).1[1]? = some (.i2l) := by rfl
theorem zi_196_2 : (zM 196).1[2]? = some (.jsr_w 0) := by rfl
theorem zi_196_3 : (zM 196).1[3]? = some (.jsr_w 7) := by rfl
theorem zi_196_4 : (zM 196).1[4]? = some (.invokestatic 135) := by rfl
theorem zi_196_5 : (zM 196).1[5]? = some (.ifCond .eq ((18 : Nat) : Int)) := by rfl
theorem zi_196_6 : (zM 196).1[6]? = some (.iload 2) := by rfl
theorem zi_196_7 : (zM 196).1[7]? = some (.i2l) := by rfl
theorem zi_196_8 : (zM 196).1[8]? = some (.jsr_w 0) := by rfl
theorem zi_196_9 : (zM 196).1[9]? = some (.jsr_w 1) := by rfl
theorem zi_196_10 : (zM 196).1[10]? = some (.invokestatic 135) := by rfl
theorem zi_196_11 : (zM 196).1[11]? = some (.ifCond .eq ((18 : Nat) : Int)) := by rfl
theorem zi_196_12 : (zM 196).1[12]? = some (.iload 3) := by rfl
theorem zi_196_13 : (zM 196).1[13]? = some (.i2l) := by rfl
theorem zi_196_14 : (zM 196).1[14]? = some (.jsr_w 0) := by rfl
theorem zi_196_15 : (zM 196).1[15]? = some (.jsr_w 1) := by rfl
theorem zi_196_16 : (zM 196).1[16]? = some (.invokestatic 135) := by rfl
theorem zi_196_17 : (zM 196).1[17]? = some (.ifCond .ne ((20 : Nat) : Int)) := by rfl
theorem zi_196_18 : (zM 196).1[18]? = some (.jsr_w (-9000000000000000001)) := by rfl
theorem zi_196_19 : (zM 196).1[19]? = some (.lreturn) := by rfl
theorem zi_196_20 : (zM 196).1[20]? = some (.aload 0) := by rfl
theorem zi_196_21 : (zM 196).1[21]? = some (.iload 2) := by rfl
theorem zi_196_22 : (zM 196).1[22]? = some (.invokevirtual 190) := by rfl
theorem zi_196_23 : (zM 196).1[23]? = some (.lstore 4) := by rfl
theorem zi_196_24 : (zM 196).1[24]? = some (.aload 0) := by rfl
theorem zi_196_25 : (zM 196).1[25]? = some (.invokevirtual 193) := by rfl
theorem zi_196_26 : (zM 196).1[26]? = some (.aload 0) := by rfl
theorem zi_196_27 : (zM 196).1[27]? = some (.iload 1) := by rfl
theorem zi_196_28 : (zM 196).1[28]? = some (.invokevirtual 195) := by rfl
theorem zi_196_29 : (zM 196).1[29]? = some (.aload 0) := by rfl
theorem zi_196_30 : (zM 196).1[30]? = some (.iload 2) := by rfl
theorem zi_196_31 : (zM 196).1[31]? = some (.invokevirtual 190) := by rfl
theorem zi_196_32 : (zM 196).1[32]? = some (.lstore 6) := by rfl
theorem zi_196_33 : (zM 196).1[33]? = some (.aload 0) := by rfl
theorem zi_196_34 : (zM 196).1[34]? = some (.invokevirtual 194) := by rfl
theorem zi_196_35 : (zM 196).1[35]? = some (.lload 6) := by rfl
theorem zi_196_36 : (zM 196).1[36]? = some (.lload 4) := by rfl
theorem zi_196_37 : (zM 196).1[37]? = some (.lsub) := by rfl
theorem zi_196_38 : (zM 196).1[38]? = some (.aload 0) := by rfl
theorem zi_196_39 : (zM 196).1[39]? = some (.invokevirtual 152) := by rfl
theorem zi_196_40 : (zM 196).1[40]? = some (.invokestatic 176) := by rfl
theorem zi_196_41 : (zM 196).1[41]? = some (.iload 3) := by rfl
theorem zi_196_42 : (zM 196).1[42]? = some (.invokestatic 184) := by rfl
theorem zi_196_43 : (zM 196).1[43]? = some (.lreturn) := by rfl
/-- TakeOrPayModel.without(III)J -/
def w_196 (E : Nat → Nat) (d : Nat) (a0 : Nat) (a1 : Int32) (a2 : Int32) (a3 : Int32) (h : ZH) (Q : Option Value → ZH → Prop) : Prop := 1 ≤ d ∧ sz_135 E h a1.toInt64 0 7 ∧ (((fz_135 E h a1.toInt64 0 7 : Int32) = 0 → (Q (some (.long ((-9000000000000000001)))) h)) ∧ (¬ ((fz_135 E h a1.toInt64 0 7 : Int32) = 0) → (1 ≤ d ∧ sz_135 E h a2.toInt64 0 1 ∧ (((fz_135 E h a2.toInt64 0 1 : Int32) = 0 → (Q (some (.long ((-9000000000000000001)))) h)) ∧ (¬ ((fz_135 E h a2.toInt64 0 1 : Int32) = 0) → (1 ≤ d ∧ sz_135 E h a3.toInt64 0 1 ∧ ((¬ (fz_135 E h a3.toInt64 0 1 : Int32) = 0 → (ztag h a0 = 11 ∧ Ct E d 190 [.ref a0, .int a2] h (fun v h2 => ∃ x3 : Int64, v = some (.long x3) ∧ ztag h2 a0 = 11 ∧ Ct E d 193 [.ref a0] h2 (fun v h5 => v = none ∧ ztag h5 a0 = 11 ∧ Ct E d 195 [.ref a0, .int a1] h5 (fun v h7 => v = none ∧ ztag h7 a0 = 11 ∧ Ct E d 190 [.ref a0, .int a2] h7 (fun v h9 => ∃ x10 : Int64, v = some (.long x10) ∧ ztag h9 a0 = 11 ∧ Ct E d 194 [.ref a0] h9 (fun v h12 => v = none ∧ ztag h12 a0 = 11 ∧ 1 ≤ d ∧ sz_152 E h12 a0 ∧ 1 ≤ d ∧ sz_176 E h12 (fz_152 E h12 a0) ∧ Ct E d 184 [.long (x10 - x3), .long (fz_176 E h12 (fz_152 E h12 a0)), .int a3] h12 (fun v h14 => ∃ x15 : Int64, v = some (.long x15) ∧ Q (some (.long x15)) h14)))))))) ∧ (¬ (¬ (fz_135 E h a3.toInt64 0 1 : Int32) = 0) → (Q (some (.long ((-9000000000000000001)))) h)))))))))
set_option maxRecDepth 20000 in
theorem ok_196 {E : Nat → Nat} {d : Nat} {a0 : Nat} {a1 : Int32} {a2 : Int32} {a3 : Int32} {h : ZH} {Q : Option Value → ZH → Prop} (hw : w_196 E d a0 a1 a2 a3 h Q) : Ct E (d + 1) 196 [.ref a0, .int a1, .int a2, .int a3] h Q := by
  unfold w_196 at hw
  show Gx E (d + 1) 196 0 [.ref a0, .int a1, .int a2, .int a3, .retAddr 0, .retAddr 0, .retAddr 0, .retAddr 0] [] h Q
  refine zg_iload zi_196_0 rfl ?_
  refine zg_i2l zi_196_1 ?_
  refine zg_lconst (v := 0) zi_196_2 (by rfl) ?_
  refine zg_lconst (v := 7) zi_196_3 (by rfl) ?_
  obtain ⟨hd, hs, hw⟩ := hw
  refine Gx.call2 (as := [.long a1.toInt64, .long 0, .long 7]) (rest := []) zq_135 zi_196_4 rfl rfl rfl (Nat.le_of_ble_eq_true rfl) (Nat.le_of_ble_eq_true rfl) (rfl) (Nat.le_of_ble_eq_true rfl) ?_
  refine cz_135 hd hs ?_
  show Gx E (d + 1) 196 5 [.ref a0, .int a1, .int a2, .int a3, .retAddr 0, .retAddr 0, .retAddr 0, .retAddr 0] [.int (fz_135 E h a1.toInt64 0 7)] h Q
  refine zg_if_eq zi_196_5 (fun hc => ?_) (fun hc => ?_)
  · have hw := hw.1 hc
    refine zg_lconst (v := (-9000000000000000001)) zi_196_18 (by rfl) ?_
    exact zg_lreturn zi_196_19 hw
  · have hw := hw.2 hc
    refine zg_iload zi_196_6 rfl ?_
    refine zg_i2l zi_196_7 ?_
    refine zg_lconst (v := 0) zi_196_8 (by rfl) ?_
    refine zg_lconst (v := 1) zi_196_9 (by rfl) ?_
    obtain ⟨hd, hs, hw⟩ := hw
    refine Gx.call2 (as := [.long a2.toInt64, .long 0, .long 1]) (rest := []) zq_135 zi_196_10 rfl rfl rfl (Nat.le_of_ble_eq_true rfl) (Nat.le_of_ble_eq_true rfl) (rfl) (Nat.le_of_ble_eq_true rfl) ?_
    refine cz_135 hd hs ?_
    show Gx E (d + 1) 196 11 [.ref a0, .int a1, .int a2, .int a3, .retAddr 0, .retAddr 0, .retAddr 0, .retAddr 0] [.int (fz_135 E h a2.toInt64 0 1)] h Q
    refine zg_if_eq zi_196_11 (fun hc => ?_) (fun hc => ?_)
    · have hw := hw.1 hc
      refine zg_lconst (v := (-9000000000000000001)) zi_196_18 (by rfl) ?_
      exact zg_lreturn zi_196_19 hw
    · have hw := hw.2 hc
      refine zg_iload zi_196_12 rfl ?_
      refine zg_i2l zi_196_13 ?_
      refine zg_lconst (v := 0) zi_196_14 (by rfl) ?_
      refine zg_lconst (v := 1) zi_196_15 (by rfl) ?_
      obtain ⟨hd, hs, hw⟩ := hw
      refine Gx.call2 (as := [.long a3.toInt64, .long 0, .long 1]) (rest := []) zq_135 zi_196_16 rfl rfl rfl (Nat.le_of_ble_eq_true rfl) (Nat.le_of_ble_eq_true rfl) (rfl) (Nat.le_of_ble_eq_true rfl) ?_
      refine cz_135 hd hs ?_
      show Gx E (d + 1) 196 17 [.ref a0, .int a1, .int a2, .int a3, .retAddr 0, .retAddr 0, .retAddr 0, .retAddr 0] [.int (fz_135 E h a3.toInt64 0 1)] h Q
      refine zg_if_ne zi_196_17 (fun hc => ?_) (fun hc => ?_)
      · have hw := hw.1 hc
        refine zg_aload zi_196_20 rfl ?_
        refine zg_iload zi_196_21 rfl ?_
        obtain ⟨t1, hw⟩ := hw
        refine Gx.call2 (as := [.ref a0, .int a2]) (rest := []) zq_190 zi_196_22 rfl rfl rfl (Nat.le_of_ble_eq_true rfl) (Nat.le_of_ble_eq_true rfl) (zrv_v t1 rfl rfl) (Nat.le_of_ble_eq_true rfl) ?_
        refine Ct.mono hw ?_
        rintro v h2 ⟨x3, rfl, hw⟩
        show Gx E (d + 1) 196 23 [.ref a0, .int a1, .int a2, .int a3, .retAddr 0, .retAddr 0, .retAddr 0, .retAddr 0] [.long x3] h2 Q
        refine zg_lstore (ls1 := [.ref a0, .int a1, .int a2, .int a3, .long x3, .retAddr 0, .retAddr 0, .retAddr 0]) zi_196_23 (Nat.le_of_ble_eq_true rfl) rfl ?_
        refine zg_aload zi_196_24 rfl ?_
        obtain ⟨t4, hw⟩ := hw
        refine Gx.call2 (as := [.ref a0]) (rest := []) zq_193 zi_196_25 rfl rfl rfl (Nat.le_of_ble_eq_true rfl) (Nat.le_of_ble_eq_true rfl) (zrv_v t4 rfl rfl) (Nat.le_of_ble_eq_true rfl) ?_
        refine Ct.mono hw ?_
        rintro v h5 ⟨rfl, hw⟩
        show Gx E (d + 1) 196 26 [.ref a0, .int a1, .int a2, .int a3, .long x3, .retAddr 0, .retAddr 0, .retAddr 0] [] h5 Q
        refine zg_aload zi_196_26 rfl ?_
        refine zg_iload zi_196_27 rfl ?_
        obtain ⟨t6, hw⟩ := hw
        refine Gx.call2 (as := [.ref a0, .int a1]) (rest := []) zq_195 zi_196_28 rfl rfl rfl (Nat.le_of_ble_eq_true rfl) (Nat.le_of_ble_eq_true rfl) (zrv_v t6 rfl rfl) (Nat.le_of_ble_eq_true rfl) ?_
        refine Ct.mono hw ?_
        rintro v h7 ⟨rfl, hw⟩
        show Gx E (d + 1) 196 29 [.ref a0, .int a1, .int a2, .int a3, .long x3, .retAddr 0, .retAddr 0, .retAddr 0] [] h7 Q
        refine zg_aload zi_196_29 rfl ?_
        refine zg_iload zi_196_30 rfl ?_
        obtain ⟨t8, hw⟩ := hw
        refine Gx.call2 (as := [.ref a0, .int a2]) (rest := []) zq_190 zi_196_31 rfl rfl rfl (Nat.le_of_ble_eq_true rfl) (Nat.le_of_ble_eq_true rfl) (zrv_v t8 rfl rfl) (Nat.le_of_ble_eq_true rfl) ?_
        refine Ct.mono hw ?_
        rintro v h9 ⟨x10, rfl, hw⟩
        show Gx E (d + 1) 196 32 [.ref a0, .int a1, .int a2, .int a3, .long x3, .retAddr 0, .retAddr 0, .retAddr 0] [.long x10] h9 Q
        refine zg_lstore (ls1 := [.ref a0, .int a1, .int a2, .int a3, .long x3, .retAddr 0, .long x10, .retAddr 0]) zi_196_32 (Nat.le_of_ble_eq_true rfl) rfl ?_
        refine zg_aload zi_196_33 rfl ?_
        obtain ⟨t11, hw⟩ := hw
        refine Gx.call2 (as := [.ref a0]) (rest := []) zq_194 zi_196_34 rfl rfl rfl (Nat.le_of_ble_eq_true rfl) (Nat.le_of_ble_eq_true rfl) (zrv_v t11 rfl rfl) (Nat.le_of_ble_eq_true rfl) ?_
        refine Ct.mono hw ?_
        rintro v h12 ⟨rfl, hw⟩
        show Gx E (d + 1) 196 35 [.ref a0, .int a1, .int a2, .int a3, .long x3, .retAddr 0, .long x10, .retAddr 0] [] h12 Q
        refine zg_lload zi_196_35 rfl ?_
        refine zg_lload zi_196_36 rfl ?_
        refine zg_lsub zi_196_37 ?_
        refine zg_aload zi_196_38 rfl ?_
        obtain ⟨t13, hw⟩ := hw
        obtain ⟨hd, hs, hw⟩ := hw
        refine Gx.call2 (as := [.ref a0]) (rest := [.long (x10 - x3)]) zq_152 zi_196_39 rfl rfl rfl (Nat.le_of_ble_eq_true rfl) (Nat.le_of_ble_eq_true rfl) (zrv_v t13 rfl rfl) (Nat.le_of_ble_eq_true rfl) ?_
        refine cz_152 hd hs ?_
        show Gx E (d + 1) 196 40 [.ref a0, .int a1, .int a2, .int a3, .long x3, .retAddr 0, .long x10, .retAddr 0] [.int (fz_152 E h12 a0), .long (x10 - x3)] h12 Q
        obtain ⟨hd, hs, hw⟩ := hw
        refine Gx.call2 (as := [.int (fz_152 E h12 a0)]) (rest := [.long (x10 - x3)]) zq_176 zi_196_40 rfl rfl rfl (Nat.le_of_ble_eq_true rfl) (Nat.le_of_ble_eq_true rfl) (rfl) (Nat.le_of_ble_eq_true rfl) ?_
        refine cz_176 hd hs ?_
        show Gx E (d + 1) 196 41 [.ref a0, .int a1, .int a2, .int a3, .long x3, .retAddr 0, .long x10, .retAddr 0] [.long (fz_176 E h12 (fz_152 E h12 a0)), .long (x10 - x3)] h12 Q
        refine zg_iload zi_196_41 rfl ?_
        refine Gx.call2 (as := [.long (x10 - x3), .long (fz_176 E h12 (fz_152 E h12 a0)), .int a3]) (rest := []) zq_184 zi_196_42 rfl rfl rfl (Nat.le_of_ble_eq_true rfl) (Nat.le_of_ble_eq_true rfl) (rfl) (Nat.le_of_ble_eq_true rfl) ?_
        refine Ct.mono hw ?_
        rintro v h14 ⟨x15, rfl, hw⟩
        show Gx E (d + 1) 196 43 [.ref a0, .int a1, .int a2, .int a3, .long x3, .retAddr 0, .long x10, .retAddr 0] [.long x15] h14 Q
        exact zg_lreturn zi_196_43 hw
      · have hw := hw.2 hc
        refine zg_lconst (v := (-9000000000000000001)) zi_196_18 (by rfl) ?_
        exact zg_lreturn zi_196_19 hw
theorem zq_197 : zQ 197 6 11 11 := by unfold zQ; decide +kernel
theorem zi_197_0 : (zM 197).1[0]? = some (.aload 0) := by rfl
theorem zi_197_1 : (zM 197).1[1]? = some (.iload 1) := by rfl
theorem zi_197_2 : (zM 197).1[2]? = some (.iconst 0) := by rfl
theorem zi_197_3 : (zM 197).1[3]? = some (.iload 2) := by rfl
theorem zi_197_4 : (zM 197).1[4]? = some (.iload 3) := by rfl
theorem zi_197_5 : (zM 197).1[5]? = some (.iload 4) := by rfl
theorem zi_197_6 : (zM 197).1[6]? = some (.invokevirtual 169) := by rfl
theorem zi_197_7 : (zM 197).1[7]? = some (.ifCond .eq ((14 : Nat) : Int)) := by rfl
theorem zi_197_8 : (zM 197).1[8]? = some (.iload 5) := by rfl
theorem zi_197_9 : (zM 197).1[9]? = some (.i2l) := by rfl
theorem zi_197_10 : (zM 197).1[10]? = some (.jsr_w 0) := by rfl
theorem zi_197_11 : (zM 197).1[11]? = some (.jsr_w 1) := by rfl
theorem zi_197_12 : (zM 197).1[12]? = some (.invokestatic 135) := by rfl
theorem zi_197_13 : (zM 197).1[13]? = some (.ifCond .ne ((16 : Nat) : Int)) := by rfl
theorem zi_197_14 : (zM 197).1[14]? = some (.iconst (-1)) := by rfl
theorem zi_197_15 : (zM 197).1[15]? = some (.ireturn) := by rfl
theorem zi_197_16 : (zM 197).1[16]? = some (.aload 0) := by rfl
theorem zi_197_17 : (zM 197).1[17]? = some (.getfield 11220) := by rfl
theorem zi_197_18 : (zM 197).1[18]? = some (.iload 1) := by rfl
theorem zi_197_19 : (zM 197).1[19]? = some (.iaload) := by rfl
theorem zi_197_20 : (zM 197).1[20]? = some (.iconst (-4)) := by rfl
theorem zi_197_21 : (zM 197).1[21]? = some (.if_icmp .eq ((24 : Nat) : Int)) := by rfl
theorem zi_197_22 : (zM 197).1[22]? = some (.iconst (-2)) := by rfl
theorem zi_197_23 : (zM 197).1[23]? = some (.ireturn) := by rfl
theorem zi_197_24 : (zM 197).1[24]? = some (.aload 0) := by rfl
theorem zi_197_25 : (zM 197).1[25]? = some (.invokevirtual 182) := by rfl
theorem zi_197_26 : (zM 197).1[26]? = some (.iconst 0) := by rfl
theorem zi_197_27 : (zM 197).1[27]? = some (.istore 6) := by rfl
theorem zi_197_28 : (zM 197).1[28]? = some (.iconst (-4)) := by rfl
theorem zi_197_29 : (zM 197).1[29]? = some (.istore 7) := by rfl
theorem zi_197_30 : (zM 197).1[30]? = some (.aload 0) := by rfl
theorem zi_197_31 : (zM 197).1[31]? = some (.getfield 11228) := by rfl
theorem zi_197_32 : (zM 197).1[32]? = some (.iload 1) := by rfl
theorem zi_197_33 : (zM 197).1[33]? = some (.iconst 0) := by rfl
theorem zi_197_34 : (zM 197).1[34]? = some (.iload 2) := by rfl
theorem zi_197_35 : (zM 197).1[35]? = some (.iload 3) := by rfl
theorem zi_197_36 : (zM 197).1[36]? = some (.iload 4) := by rfl
theorem zi_197_37 : (zM 197).1[37]? = some (.invokestatic 175) := by rfl
theorem zi_197_38 : (zM 197).1[38]? = some (.iaload) := by rfl
theorem zi_197_39 : (zM 197).1[39]? = some (.istore 8) := by rfl
theorem zi_197_40 : (zM 197).1[40]? = some (.iconst 20) := by rfl
theorem zi_197_41 : (zM 197).1[41]? = some (.istore 9) := by rfl
theorem zi_197_42 : (zM 197).1[42]? = some (.iload 9) := by rfl
theorem zi_197_43 : (zM 197).1[43]? = some (.ifCond .lt ((81 : Nat) : Int)) := by rfl
theorem zi_197_44 : (zM 197).1[44]? = some (.aload 0) := by rfl
theorem zi_197_45 : (zM 197).1[45]? = some (.getfield 11228) := by rfl
theorem zi_197_46 : (zM 197).1[46]? = some (.iload 1) := by rfl
theorem zi_197_47 : (zM 197).1[47]? = some (.iload 9) := by rfl
theorem zi_197_48 : (zM 197).1[48]? = some (.iload 2) := by rfl
theorem zi_197_49 : (zM 197).1[49]? = some (.iload 3) := by rfl
theorem zi_197_50 : (zM 197).1[50]? = some (.iload 4) := by rfl
theorem zi_197_51 : (zM 197).1[51]? = some (.invokestatic 175) := by rfl
theorem zi_197_52 : (zM 197).1[52]? = some (.iaload) := by rfl
theorem zi_197_53 : (zM 197).1[53]? = some (.istore 10) := by rfl
theorem zi_197_54 : (zM 197).1[54]? = some (.iload 6) := by rfl
theorem zi_197_55 : (zM 197).1[55]? = some (.iload 10) := by rfl
theorem zi_197_56 : (zM 197).1[56]? = some (.aload 0) := by rfl
theorem zi_197_57 : (zM 197).1[57]? = some (.getfield 11215) := by rfl
theorem zi_197_58 : (zM 197).1[58]? = some (.iconst 3) := by rfl
theorem zi_197_59 : (zM 197).1[59]? = some (.iaload) := by rfl
theorem zi_197_60 : (zM 197).1[60]? = some (.if_icmp .eq ((69 : Nat) : Int)) := by rfl
theorem zi_197_61 : (zM 197).1[61]? = some (.iload 10) := by rfl
theorem zi_197_62 : (zM 197).1[62]? = some (.aload 0) := by rfl
theorem zi_197_63 : (zM 197).1[63]? = some (.getfield 11215) := by rfl
theorem zi_197_64 : (zM 197).1[64]? = some (.iconst 4) := by rfl
theorem zi_197_65 : (zM 197).1[65]? = some (.iaload) := by rfl
theorem zi_197_66 : (zM 197).1[66]? = some (.if_icmp .eq ((69 : Nat) : Int)) := by rfl
theorem zi_197_67 : (zM 197).1[67]? = some (.iconst 1) := by rfl
theorem zi_197_68 : (zM 197).1[68]? = some (.goto ((70 : Nat) : Int)) := by rfl
theorem zi_197_69 : (zM 197).1[69]? = some (.iconst 0) := by rfl
theorem zi_197_70 : (zM 197).1[70]? = some (.iadd) := by rfl
theorem zi_197_71 : (zM 197).1[71]? = some (.istore 6) := by rfl
theorem zi_197_72 : (zM 197).1[72]? = some (.iload 10) := by rfl
theorem zi_197_73 : (zM 197).1[73]? = some (.iload 8) := by rfl
theorem zi_197_74 : (zM 197).1[74]? = some (.if_icmp .eq ((77 : Nat) : Int)) := by rfl
theorem zi_197_75 : (zM 197).1[75]? = some (.iload 9) := by rfl
theorem zi_197_76 : (zM 197).1[76]? = some (.goto ((78 : Nat) : Int)) := by rfl
theorem zi_197_77 : (zM 197).1[77]? = some (.iload 7) := by rfl
theorem zi_197_78 : (zM 197).1[78]? = some (.istore 7) := by rfl
theorem zi_197_79 : (zM 197).1[79]? = some (.iinc 9 (-1)) := by rfl
theorem zi_197_80 : (zM 197).1[80]? = some (.goto ((42 : Nat) : Int)) := by rfl
theorem zi_197_81 : (zM 197).1[81]? = some (.iload 5) := by rfl
theorem zi_197_82 : (zM 197).1[82]? = some (.ifCond .ne ((85 : Nat) : Int)) := by rfl
theorem zi_197_83 : (zM 197).1[83]? = some (.iload 6) := by rfl
theorem zi_197_84 : (zM 197).1[84]? = some (.goto ((86 : Nat) : Int)) := by rfl
theorem zi_197_85 : (zM 197).1[85]? = some (.iload 7) := by rfl
theorem zi_197_86 : (zM 197).1[86]? = some (.ireturn) := by rfl
def wb_197_81 (E : Nat → Nat) (d : Nat) (Q : Option Value → ZH → Prop) (a5 : Int32) (a6 : Int32) (a7 : Int32) (h : ZH) : Prop := Q (some (.int (if ¬ a5 = 0 then a7 else a6))) h
set_option maxRecDepth 20000 in
theorem okb_197_81 {E : Nat → Nat} {d : Nat} {Q : Option Value → ZH → Prop} {a5 : Int32} {a6 : Int32} {a7 : Int32} {h : ZH} (hw : wb_197_81 E d Q a5 a6 a7 h) : Gx E (d + 1) 197 81 [.retAddr 0, .retAddr 0, .retAddr 0, .retAddr 0, .retAddr 0, .int a5, .int a6, .int a7, .retAddr 0, .retAddr 0, .retAddr 0] [] h Q := by
  unfold wb_197_81 at hw
  refine zg_iload zi_197_81 rfl ?_
  have g82 : Gx E (d + 1) 197 86 [.retAddr 0, .retAddr 0, .retAddr 0, .retAddr 0, .retAddr 0, .int a5, .int a6, .int a7, .retAddr 0, .retAddr 0, .retAddr 0] [.int (if ¬ a5 = 0 then a7 else a6)] h Q := by
    exact zg_ireturn zi_197_86 (by decide) hw
  refine zg_if_ne zi_197_82 (fun hc82 => ?_) (fun hc82 => ?_)
  · skip
    refine zg_iload zi_197_85 rfl ?_
    have hg := g82
    simp only [if_pos hc82] at hg
    exact hg
  · skip
    refine zg_iload zi_197_83 rfl ?_
    refine zg_goto zi_197_84 ?_
    have hg := g82
    simp only [if_neg hc82] at hg
    exact hg
def wl_197_42 (E : Nat → Nat) (d : Nat) (Q : Option Value → ZH → Prop) : Nat → Nat → Int32 → Int32 → Int32 → Int32 → Int32 → Int32 → Int32 → Int32 → Int32 → ZH → Prop
  | 0, _, _, _, _, _, _, _, _, _, _, _ => False
  | n + 1, a0, a1, a2, a3, a4, a5, a6, a7, a8, a9, h => (a9 < 0 → (wb_197_81 E d Q a5 a6 a7 h)) ∧ (¬ (a9 < 0) → (ztag h a0 = 11 ∧ ∃ r11 : Nat, zR h a0 28 = r11 + 1 ∧ 1 ≤ d ∧ sz_175 E h a1 a9 a2 a3 a4 ∧ (ztag h r11 = 13 ∨ ztag h r11 = 19) ∧ zin (fz_175 E h a1 a9 a2 a3 a4) (zlen h r11) = true ∧ ∀ x13 : Int32, x13 = (zI h r11 (fz_175 E h a1 a9 a2 a3 a4 : Int32).toNatClampNeg) → ∃ r14 : Nat, zR h a0 15 = r14 + 1 ∧ (ztag h r14 = 13 ∨ ztag h r14 = 19) ∧ zin 3 (zlen h r14) = true ∧ (((x13 = (zI h r14 3 : Int32) → (True)) ∧ (¬ (x13 = (zI h r14 3 : Int32)) → (zin 4 (zlen h r14) = true ∧ True))) ∧ ∀ x16 : Int32, x16 = (a6 + (if x13 = (zI h r14 3 : Int32) then 0 else if x13 = (zI h r14 4 : Int32) then 0 else 1)) → ∀ x17 : Int32, x17 = (if x13 = a8 then a7 else a9) → ∀ x18 : Int32, x18 = (a9 + (-1)) → wl_197_42 E d Q n a0 a1 a2 a3 a4 a5 x16 x17 a8 x18 h)))
set_option maxRecDepth 20000 in
theorem okl_197_42 {E : Nat → Nat} {d : Nat} {Q : Option Value → ZH → Prop} : ∀ (n : Nat) (a0 : Nat) (a1 : Int32) (a2 : Int32) (a3 : Int32) (a4 : Int32) (a5 : Int32) (a6 : Int32) (a7 : Int32) (a8 : Int32) (a9 : Int32) (h : ZH), wl_197_42 E d Q n a0 a1 a2 a3 a4 a5 a6 a7 a8 a9 h → Gx E (d + 1) 197 42 [.ref a0, .int a1, .int a2, .int a3, .int a4, .int a5, .int a6, .int a7, .int a8, .int a9, .retAddr 0] [] h Q := by
  intro n
  induction n with
  | zero => intro a0 a1 a2 a3 a4 a5 a6 a7 a8 a9 h hw; exact hw.elim
  | succ n ih =>
    intro a0 a1 a2 a3 a4 a5 a6 a7 a8 a9 h hw
    rw [wl_197_42] at hw
    refine zg_iload zi_197_42 rfl ?_
    refine zg_if_lt zi_197_43 (fun hc => ?_) (fun hc => ?_)
    · have hw := hw.1 hc
      exact Gx.forget (zrd (zrd (zrd (zrd (zrd (zrk (zrk (zrk (zrd (zrd (zrk zr0))))))))))) (okb_197_81 hw)
    · have hw := hw.2 hc
      refine zg_aload zi_197_44 rfl ?_
      obtain ⟨t10, hw⟩ := hw
      obtain ⟨r11, er11, hw⟩ := hw
      refine zg_getR (v := .ref r11) zi_197_45 t10 (by rfl) (by show zrv (zR h a0 28) = _; rw [er11]; rfl) ?_
      refine zg_iload zi_197_46 rfl ?_
      refine zg_iload zi_197_47 rfl ?_
      refine zg_iload zi_197_48 rfl ?_
      refine zg_iload zi_197_49 rfl ?_
      refine zg_iload zi_197_50 rfl ?_
      obtain ⟨hd, hs, hw⟩ := hw
      refine Gx.call2 (as := [.int a1, .int a9, .int a2, .int a3, .int a4]) (rest := [.ref r11]) zq_175 zi_197_51 rfl rfl rfl (Nat.le_of_ble_eq_true rfl) (Nat.le_of_ble_eq_true rfl) (rfl) (Nat.le_of_ble_eq_true rfl) ?_
      refine cz_175 hd hs ?_
      show Gx E (d + 1) 197 52 [.ref a0, .int a1, .int a2, .int a3, .int a4, .int a5, .int a6, .int a7, .int a8, .int a9, .retAddr 0] [.int (fz_175 E h a1 a9 a2 a3 a4), .ref r11] h Q
      obtain ⟨t12, hw⟩ := hw
      obtain ⟨hb, hw⟩ := hw
      refine zg_iaload (v := .int (zI h r11 (fz_175 E h a1 a9 a2 a3 a4 : Int32).toNatClampNeg)) zi_197_52 t12 hb rfl ?_
      refine zg_nameI fun x13 ex13 => ?_
      have hw := hw x13 ex13
      refine zg_istore (ls1 := [.ref a0, .int a1, .int a2, .int a3, .int a4, .int a5, .int a6, .int a7, .int a8, .int a9, .int x13]) zi_197_53 (Nat.le_of_ble_eq_true rfl) rfl ?_
      refine zg_iload zi_197_54 rfl ?_
      refine zg_iload zi_197_55 rfl ?_
      refine zg_aload zi_197_56 rfl ?_
      obtain ⟨r14, er14, hw⟩ := hw
      refine zg_getR (v := .ref r14) zi_197_57 t10 (by rfl) (by show zrv (zR h a0 15) = _; rw [er14]; rfl) ?_
      refine zg_const (v := 3) zi_197_58 (by rfl) ?_
      obtain ⟨t15, hw⟩ := hw
      obtain ⟨hb, hw⟩ := hw
      refine zg_iaload (v := .int (zI h r14 3)) zi_197_59 t15 hb rfl ?_
      obtain ⟨hsd60, hw⟩ := hw
      have g60 : Gx E (d + 1) 197 70 [.ref a0, .int a1, .int a2, .int a3, .int a4, .int a5, .int a6, .int a7, .int a8, .int a9, .int x13] [.int (if x13 = (zI h r14 3 : Int32) then 0 else if x13 = (zI h r14 4 : Int32) then 0 else 1), .int a6] h Q := by
        refine zg_iadd zi_197_70 ?_
        refine zg_nameI fun x16 ex16 => ?_
        have hw := hw x16 ex16
        refine zg_istore (ls1 := [.ref a0, .int a1, .int a2, .int a3, .int a4, .int a5, .int x16, .int a7, .int a8, .int a9, .int x13]) zi_197_71 (Nat.le_of_ble_eq_true rfl) rfl ?_
        refine zg_iload zi_197_72 rfl ?_
        refine zg_iload zi_197_73 rfl ?_
        have g74 : Gx E (d + 1) 197 78 [.ref a0, .int a1, .int a2, .int a3, .int a4, .int a5, .int x16, .int a7, .int a8, .int a9, .int x13] [.int (if x13 = a8 then a7 else a9)] h Q := by
          refine zg_nameI fun x17 ex17 => ?_
          have hw := hw x17 ex17
          refine zg_istore (ls1 := [.ref a0, .int a1, .int a2, .int a3, .int a4, .int a5, .int x16, .int x17, .int a8, .int a9, .int x13]) zi_197_78 (Nat.le_of_ble_eq_true rfl) rfl ?_
          obtain ⟨x18, ex18⟩ : ∃ x : Int32, x = a9 + (-1) := ⟨_, rfl⟩
          have hw := hw x18 ex18
          refine zg_iinc (v := x18) (ls1 := [.ref a0, .int a1, .int a2, .int a3, .int a4, .int a5, .int x16, .int x17, .int a8, .int x18, .int x13]) zi_197_79 rfl (by rw [ex18]; rfl) rfl ?_
          refine zg_goto zi_197_80 ?_
          exact Gx.forget (zrk (zrk (zrk (zrk (zrk (zrk (zrk (zrk (zrk (zrk (zrd zr0))))))))))) (ih a0 a1 a2 a3 a4 a5 x16 x17 a8 x18 h hw)
        refine zg_icmp_eq zi_197_74 (fun hc74 => ?_) (fun hc74 => ?_)
        · skip
          refine zg_iload zi_197_77 rfl ?_
          have hg := g74
          simp only [if_pos hc74] at hg
          exact hg
        · skip
          refine zg_iload zi_197_75 rfl ?_
          refine zg_goto zi_197_76 ?_
          have hg := g74
          simp only [if_neg hc74] at hg
          exact hg
      refine zg_icmp_eq zi_197_60 (fun hc60 => ?_) (fun hc60 => ?_)
      · have hw := hsd60.1 hc60
        refine zg_const (v := 0) zi_197_69 (by rfl) ?_
        have hg := g60
        simp only [if_pos hc60] at hg
        exact hg
      · have hw := hsd60.2 hc60
        refine zg_iload zi_197_61 rfl ?_
        refine zg_aload zi_197_62 rfl ?_
        refine zg_getR (v := .ref r14) zi_197_63 t10 (by rfl) (by show zrv (zR h a0 15) = _; rw [er14]; rfl) ?_
        refine zg_const (v := 4) zi_197_64 (by rfl) ?_
        obtain ⟨hb, hw⟩ := hw
        refine zg_iaload (v := .int (zI h r14 4)) zi_197_65 t15 hb rfl ?_
        have g66 : Gx E (d + 1) 197 70 [.ref a0, .int a1, .int a2, .int a3, .int a4, .int a5, .int a6, .int a7, .int a8, .int a9, .int x13] [.int (if x13 = (zI h r14 4 : Int32) then 0 else 1), .int a6] h Q := by
          have hg := g60
          simp only [if_neg hc60] at hg
          exact hg
        refine zg_icmp_eq zi_197_66 (fun hc66 => ?_) (fun hc66 => ?_)
        · skip
          refine zg_const (v := 0) zi_197_69 (by rfl) ?_
          have hg := g66
          simp only [if_pos hc66] at hg
          exact hg
        · skip
          refine zg_const (v := 1) zi_197_67 (by rfl) ?_
          refine zg_goto zi_197_68 ?_
          have hg := g66
          simp only [if_neg hc66] at hg
          exact hg
/-- TakeOrPayModel.jumps(IIIII)I -/
def w_197 (E : Nat → Nat) (d : Nat) (a0 : Nat) (a1 : Int32) (a2 : Int32) (a3 : Int32) (a4 : Int32) (a5 : Int32) (h : ZH) (Q : Option Value → ZH → Prop) : Prop := ztag h a0 = 11 ∧ 3 ≤ d ∧ sz_169 E h a0 a1 0 a2 a3 a4 ∧ (((fz_169 E h a0 a1 0 a2 a3 a4 : Int32) = 0 → (Q (some (.int ((-1)))) h)) ∧ (¬ ((fz_169 E h a0 a1 0 a2 a3 a4 : Int32) = 0) → (1 ≤ d ∧ sz_135 E h a5.toInt64 0 1 ∧ ((¬ (fz_135 E h a5.toInt64 0 1 : Int32) = 0 → (∃ r2 : Nat, zR h a0 20 = r2 + 1 ∧ (ztag h r2 = 13 ∨ ztag h r2 = 19) ∧ zin a1 (zlen h r2) = true ∧ (((zI h r2 a1.toNatClampNeg : Int32) = ((-4) : Int32) → (Ct E d 182 [.ref a0] h (fun v h4 => v = none ∧ ∀ x5 : Int32, x5 = ((-4)) → ztag h4 a0 = 11 ∧ ∃ r7 : Nat, zR h4 a0 28 = r7 + 1 ∧ 1 ≤ d ∧ sz_175 E h4 a1 0 a2 a3 a4 ∧ (ztag h4 r7 = 13 ∨ ztag h4 r7 = 19) ∧ zin (fz_175 E h4 a1 0 a2 a3 a4) (zlen h4 r7) = true ∧ ∀ x9 : Int32, x9 = (zI h4 r7 (fz_175 E h4 a1 0 a2 a3 a4 : Int32).toNatClampNeg) → (∃ mm : Nat, wl_197_42 E d Q mm a0 a1 a2 a3 a4 a5 0 x5 x9 20 h4)))) ∧ (¬ ((zI h r2 a1.toNatClampNeg : Int32) = ((-4) : Int32)) → (Q (some (.int ((-2)))) h))))) ∧ (¬ (¬ (fz_135 E h a5.toInt64 0 1 : Int32) = 0) → (Q (some (.int ((-1)))) h))))))
set_option maxRecDepth 20000 in
theorem ok_197 {E : Nat → Nat} {d : Nat} {a0 : Nat} {a1 : Int32} {a2 : Int32} {a3 : Int32} {a4 : Int32} {a5 : Int32} {h : ZH} {Q : Option Value → ZH → Prop} (hw : w_197 E d a0 a1 a2 a3 a4 a5 h Q) : Ct E (d + 1) 197 [.ref a0, .int a1, .int a2, .int a3, .int a4, .int a5] h Q := by
  unfold w_197 at hw
  show Gx E (d + 1) 197 0 [.ref a0, .int a1, .int a2, .int a3, .int a4, .int a5, .retAddr 0, .retAddr 0, .retAddr 0, .retAddr 0, .retAddr 0] [] h Q
  refine zg_aload zi_197_0 rfl ?_
  refine zg_iload zi_197_1 rfl ?_
  refine zg_const (v := 0) zi_197_2 (by rfl) ?_
  refine zg_iload zi_197_3 rfl ?_
  refine zg_iload zi_197_4 rfl ?_
  refine zg_iload zi_197_5 rfl ?_
  obtain ⟨t1, hw⟩ := hw
  obtain ⟨hd, hs, hw⟩ := hw
  refine Gx.call2 (as := [.ref a0, .int a1, .int 0, .int a2, .int a3, .int a4]) (rest := []) zq_169 zi_197_6 rfl rfl rfl (Nat.le_of_ble_eq_true rfl) (Nat.le_of_ble_eq_true rfl) (zrv_v t1 rfl rfl) (Nat.le_of_ble_eq_true rfl) ?_
  refine cz_169 hd hs ?_
  show Gx E (d + 1) 197 7 [.ref a0, .int a1, .int a2, .int a3, .int a4, .int a5, .retAddr 0, .retAddr 0, .retAddr 0, .retAddr 0, .retAddr 0] [.int (fz_169 E h a0 a1 0 a2 a3 a4)] h Q
  refine zg_if_eq zi_197_7 (fun hc => ?_) (fun hc => ?_)
  · have hw := hw.1 hc
    refine zg_const (v := (-1)) zi_197_14 (by rfl) ?_
    exact zg_ireturn zi_197_15 (by decide) hw
  · have hw := hw.2 hc
    refine zg_iload zi_197_8 rfl ?_
    refine zg_i2l zi_197_9 ?_
    refine zg_lconst (v := 0) zi_197_10 (by rfl) ?_
    refine zg_lconst (v := 1) zi_197_11 (by rfl) ?_
    obtain ⟨hd, hs, hw⟩ := hw
    refine Gx.call2 (as := [.long a5.toInt64, .long 0, .long 1]) (rest := []) zq_135 zi_197_12 rfl rfl rfl (Nat.le_of_ble_eq_true rfl) (Nat.le_of_ble_eq_true rfl) (rfl) (Nat.le_of_ble_eq_true rfl) ?_
    refine cz_135 hd hs ?_
    show Gx E (d + 1) 197 13 [.ref a0, .int a1, .int a2, .int a3, .int a4, .int a5, .retAddr 0, .retAddr 0, .retAddr 0, .retAddr 0, .retAddr 0] [.int (fz_135 E h a5.toInt64 0 1)] h Q
    refine zg_if_ne zi_197_13 (fun hc => ?_) (fun hc => ?_)
    · have hw := hw.1 hc
      refine zg_aload zi_197_16 rfl ?_
      obtain ⟨r2, er2, hw⟩ := hw
      refine zg_getR (v := .ref r2) zi_197_17 t1 (by rfl) (by show zrv (zR h a0 20) = _; rw [er2]; rfl) ?_
      refine zg_iload zi_197_18 rfl ?_
      obtain ⟨t3, hw⟩ := hw
      obtain ⟨hb, hw⟩ := hw
      refine zg_iaload (v := .int (zI h r2 a1.toNatClampNeg)) zi_197_19 t3 hb rfl ?_
      refine zg_const (v := (-4)) zi_197_20 (by rfl) ?_
      refine zg_icmp_eq zi_197_21 (fun hc => ?_) (fun hc => ?_)
      · have hw := hw.1 hc
        refine zg_aload zi_197_24 rfl ?_
        refine Gx.call2 (as := [.ref a0]) (rest := []) zq_182 zi_197_25 rfl rfl rfl (Nat.le_of_ble_eq_true rfl) (Nat.le_of_ble_eq_true rfl) (zrv_v t1 rfl rfl) (Nat.le_of_ble_eq_true rfl) ?_
        refine Ct.mono hw ?_
        rintro v h4 ⟨rfl, hw⟩
        show Gx E (d + 1) 197 26 [.ref a0, .int a1, .int a2, .int a3, .int a4, .int a5, .retAddr 0, .retAddr 0, .retAddr 0, .retAddr 0, .retAddr 0] [] h4 Q
        refine zg_const (v := 0) zi_197_26 (by rfl) ?_
        refine zg_istore (ls1 := [.ref a0, .int a1, .int a2, .int a3, .int a4, .int a5, .int 0, .retAddr 0, .retAddr 0, .retAddr 0, .retAddr 0]) zi_197_27 (Nat.le_of_ble_eq_true rfl) rfl ?_
        refine zg_const (v := (-4)) zi_197_28 (by rfl) ?_
        refine zg_nameI fun x5 ex5 => ?_
        have hw := hw x5 ex5
        refine zg_istore (ls1 := [.ref a0, .int a1, .int a2, .int a3, .int a4, .int a5, .int 0, .int x5, .retAddr 0, .retAddr 0, .retAddr 0]) zi_197_29 (Nat.le_of_ble_eq_true rfl) rfl ?_
        refine zg_aload zi_197_30 rfl ?_
        obtain ⟨t6, hw⟩ := hw
        obtain ⟨r7, er7, hw⟩ := hw
        refine zg_getR (v := .ref r7) zi_197_31 t6 (by rfl) (by show zrv (zR h4 a0 28) = _; rw [er7]; rfl) ?_
        refine zg_iload zi_197_32 rfl ?_
        refine zg_const (v := 0) zi_197_33 (by rfl) ?_
        refine zg_iload zi_197_34 rfl ?_
        refine zg_iload zi_197_35 rfl ?_
        refine zg_iload zi_197_36 rfl ?_
        obtain ⟨hd, hs, hw⟩ := hw
        refine Gx.call2 (as := [.int a1, .int 0, .int a2, .int a3, .int a4]) (rest := [.ref r7]) zq_175 zi_197_37 rfl rfl rfl (Nat.le_of_ble_eq_true rfl) (Nat.le_of_ble_eq_true rfl) (rfl) (Nat.le_of_ble_eq_true rfl) ?_
        refine cz_175 hd hs ?_
        show Gx E (d + 1) 197 38 [.ref a0, .int a1, .int a2, .int a3, .int a4, .int a5, .int 0, .int x5, .retAddr 0, .retAddr 0, .retAddr 0] [.int (fz_175 E h4 a1 0 a2 a3 a4), .ref r7] h4 Q
        obtain ⟨t8, hw⟩ := hw
        obtain ⟨hb, hw⟩ := hw
        refine zg_iaload (v := .int (zI h4 r7 (fz_175 E h4 a1 0 a2 a3 a4 : Int32).toNatClampNeg)) zi_197_38 t8 hb rfl ?_
        refine zg_nameI fun x9 ex9 => ?_
        have hw := hw x9 ex9
        refine zg_istore (ls1 := [.ref a0, .int a1, .int a2, .int a3, .int a4, .int a5, .int 0, .int x5, .int x9, .retAddr 0, .retAddr 0]) zi_197_39 (Nat.le_of_ble_eq_true rfl) rfl ?_
        refine zg_const (v := 20) zi_197_40 (by rfl) ?_
        refine zg_istore (ls1 := [.ref a0, .int a1, .int a2, .int a3, .int a4, .int a5, .int 0, .int x5, .int x9, .int 20, .retAddr 0]) zi_197_41 (Nat.le_of_ble_eq_true rfl) rfl ?_
        obtain ⟨mm, hw⟩ := hw
        exact okl_197_42 mm a0 a1 a2 a3 a4 a5 0 x5 x9 20 h4 hw
      · have hw := hw.2 hc
        refine zg_const (v := (-2)) zi_197_22 (by rfl) ?_
        exact zg_ireturn zi_197_23 (by decide) hw
    · have hw := hw.2 hc
      refine zg_const (v := (-1)) zi_197_14 (by rfl) ?_
      exact zg_ireturn zi_197_15 (by decide) hw
theorem zq_198 : zQ 198 2 16 11 := by unfold zQ; decide +kernel
theorem zi_198_0 : (zM 198).1[0]? = some (.iload 1) := by rfl
theorem zi_198_1 : (zM 198).1[1]? = some (.i2l) := by rfl
theorem zi_198_2 : (zM 198).1[2]? = some (.jsr_w 0) := by rfl
theorem zi_198_3 : (zM 198).1[3]? = some (.jsr_w 4) := by rfl
theorem zi_198_4 : (zM 198).1[4]? = some (.invokestatic 135) := by rfl
theorem zi_198_5 : (zM 198).1[5]? = some (.ifCond .ne ((8 : Nat) : Int)) := by rfl
theorem zi_198_6 : (zM 198).1[6]? = some (.jsr_w (-9000000000000000001)) := by rfl
theorem zi_198_7 : (zM 198).1[7]? = some (.lreturn) := by rfl
theorem zi_198_8 : (zM 198).1[8]? = some (.aload 0) := by rfl
theorem zi_198_9 : (zM 198).1[9]? = some (.iconst 0) := by rfl
theorem zi_198_10 : (zM 198).1[10]? = some (.invokevirtual 190) := by rfl
theorem zi_198_11 : (zM 198).1[11]? = some (.lstore 2) := by rfl
theorem zi_198_12 : (zM 198).1[12]? = some (.aload 0) := by rfl
theorem zi_198_13 : (zM 198).1[13]? = some (.getfield 11234) := by rfl
theorem zi_198_14 : (zM 198).1[14]? = some (.iconst 0) := by rfl
theorem zi_198_15 : (zM 198).1[15]? = some (.laload) := by rfl
theorem zi_198_16 : (zM 198).1[16]? = some (.lstore 4) := by rfl
theorem zi_198_17 : (zM 198).1[17]? = some (.aload 0) := by rfl
theorem zi_198_18 : (zM 198).1[18]? = some (.invokevirtual 193) := by rfl
theorem zi_198_19 : (zM 198).1[19]? = some (.jsr_w 0) := by rfl
theorem zi_198_20 : (zM 198).1[20]? = some (.lstore 6) := by rfl
theorem zi_198_21 : (zM 198).1[21]? = some (.iconst 0) := by rfl
theorem zi_198_22 : (zM 198).1[22]? = some (.istore 8) := by rfl
theorem zi_198_23 : (zM 198).1[23]? = some (.iconst 0) := by rfl
theorem zi_198_24 : (zM 198).1[24]? = some (.istore 9) := by rfl
theorem zi_198_25 : (zM 198).1[25]? = some (.jsr_w 0) := by rfl
theorem zi_198_26 : (zM 198).1[26]? = some (.lstore 10) := by rfl
theorem zi_198_27 : (zM 198).1[27]? = some (.iconst 0) := by rfl
theorem zi_198_28 : (zM 198).1[28]? = some (.istore 12) := by rfl
theorem zi_198_29 : (zM 198).1[29]? = some (.iload 12) := by rfl
theorem zi_198_30 : (zM 198).1[30]? = some (.iconst 9) := by rfl
theorem zi_198_31 : (zM 198).1[31]? = some (.if_icmp .ge ((129 : Nat) : Int)) := by rfl
theorem zi_198_32 : (zM 198).1[32]? = some (.aload 0) := by rfl
theorem zi_198_33 : (zM 198).1[33]? = some (.getfield 11235) := by rfl
theorem zi_198_34 : (zM 198).1[34]? = some (.iconst 5) := by rfl
theorem zi_198_35 : (zM 198).1[35]? = some (.iaload) := by rfl
theorem zi_198_36 : (zM 198).1[36]? = some (.iconst 20) := by rfl
theorem zi_198_37 : (zM 198).1[37]? = some (.iload 12) := by rfl
theorem zi_198_38 : (zM 198).1[38]? = some (.iconst 3) := by rfl
theorem zi_198_39 : (zM 198).1[39]? = some (.idiv) := by rfl
theorem zi_198_40 : (zM 198).1[40]? = some (.iconst 1) := by rfl
theorem zi_198_41 : (zM 198).1[41]? = some (.isub) := by rfl
theorem zi_198_42 : (zM 198).1[42]? = some (.imul) := by rfl
theorem zi_198_43 : (zM 198).1[43]? = some (.iadd) := by rfl
theorem zi_198_44 : (zM 198).1[44]? = some (.istore 13) := by rfl
theorem zi_198_45 : (zM 198).1[45]? = some (.aload 0) := by rfl
theorem zi_198_46 : (zM 198).1[46]? = some (.getfield 11235) := by rfl
theorem zi_198_47 : (zM 198).1[47]? = some (.iconst 6) := by rfl
theorem zi_198_48 : (zM 198).1[48]? = some (.iaload) := by rfl
theorem zi_198_49 : (zM 198).1[49]? = some (.iload 12) := by rfl
theorem zi_198_50 : (zM 198).1[50]? = some (.iconst 3) := by rfl
theorem zi_198_51 : (zM 198).1[51]? = some (.irem) := by rfl
theorem zi_198_52 : (zM 198).1[52]? = some (.iadd) := by rfl
theorem zi_198_53 : (zM 198).1[53]? = some (.iconst 1) := by rfl
theorem zi_198_54 : (zM 198).1[54]? = some (.isub) := by rfl
theorem zi_198_55 : (zM 198).1[55]? = some (.istore 14) := by rfl
theorem zi_198_56 : (zM 198).1[56]? = some (.iload 13) := by rfl
theorem zi_198_57 : (zM 198).1[57]? = some (.i2l) := by rfl
theorem zi_198_58 : (zM 198).1[58]? = some (.jsr_w 0) := by rfl
theorem zi_198_59 : (zM 198).1[59]? = some (.jsr_w 100) := by rfl
theorem zi_198_60 : (zM 198).1[60]? = some (.invokestatic 135) := by rfl
theorem zi_198_61 : (zM 198).1[61]? = some (.ifCond .eq ((127 : Nat) : Int)) := by rfl
theorem zi_198_62 : (zM 198).1[62]? = some (.iload 14) := by rfl
theorem zi_198_63 : (zM 198).1[63]? = some (.i2l) := by rfl
theorem zi_198_64 : (zM 198).1[64]? = some (.jsr_w 1) := by rfl
theorem zi_198_65 : (zM 198).1[65]? = some (.jsr_w 60) := by rfl
theorem zi_198_66 : (zM 198).1[66]? = some (.invokestatic 135) := by rfl
theorem zi_198_67 : (zM 198).1[67]? = some (.ifCond .eq ((127 : Nat) : Int)) := by rfl
theorem zi_198_68 : (zM 198).1[68]? = some (.aload 0) := by rfl
theorem zi_198_69 : (zM 198).1[69]? = some (.getfield 11215) := by rfl
theorem zi_198_70 : (zM 198).1[70]? = some (.iconst 5) := by rfl
theorem zi_198_71 : (zM 198).1[71]? = some (.iload 13) := by rfl
theorem zi_198_72 : (zM 198).1[72]? = some (.iastore) := by rfl
theorem zi_198_73 : (zM 198).1[73]? = some (.aload 0) := by rfl
theorem zi_198_74 : (zM 198).1[74]? = some (.getfield 11215) := by rfl
theorem zi_198_75 : (zM 198).1[75]? = some (.iconst 6) := by rfl
theorem zi_198_76 : (zM 198).1[76]? = some (.iload 14) := by rfl
theorem zi_198_77 : (zM 198).1[77]? = some (.iastore) := by rfl
theorem zi_198_78 : (zM 198).1[78]? = some (.aload 0) := by rfl
theorem zi_198_79 : (zM 198).1[79]? = some (.iconst 0) := by rfl
theorem zi_198_80 : (zM 198).1[80]? = some (.putfield 11329) := by rfl
theorem zi_198_81 : (zM 198).1[81]? = some (.aload 0) := by rfl
theorem zi_198_82 : (zM 198).1[82]? = some (.iconst 0) := by rfl
theorem zi_198_83 : (zM 198).1[83]? = some (.invokevirtual 190) := by rfl
theorem zi_198_84 : (zM 198).1[84]? = some (.lload 2) := by rfl
theorem zi_198_85 : (zM 198).1[85]? = some (.lcmp) := by rfl
theorem zi_198_86 : (zM 198).1[86]? = some (.ifCond .lt ((127 : Nat) : Int)) := by rfl
theorem zi_198_87 : (zM 198).1[87]? = some (.lload 6) := by rfl
theorem zi_198_88 : (zM 198).1[88]? = some (.jsr_w 1) := by rfl
theorem zi_198_89 : (zM 198).1[89]? = some (.ladd) := by rfl
theorem zi_198_90 : (zM 198).1[90]? = some (.lstore 6) := by rfl
theorem zi_198_91 : (zM 198).1[91]? = some (.lload 6) := by rfl
theorem zi_198_92 : (zM 198).1[92]? = some (.jsr_w 1) := by rfl
theorem zi_198_93 : (zM 198).1[93]? = some (.lcmp) := by rfl
theorem zi_198_94 : (zM 198).1[94]? = some (.ifCond .eq ((102 : Nat) : Int)) := by rfl
theorem zi_198_95 : (zM 198).1[95]? = some (.aload 0) := by rfl
theorem zi_198_96 : (zM 198).1[96]? = some (.getfield 11234) := by rfl
theorem zi_198_97 : (zM 198).1[97]? = some (.iconst 0) := by rfl
theorem zi_198_98 : (zM 198).1[98]? = some (.laload) := by rfl
theorem zi_198_99 : (zM 198).1[99]? = some (.lload 10) := by rfl
theorem zi_198_100 : (zM 198).1[100]? = some (.lcmp) := by rfl
theorem zi_198_101 : (zM 198).1[101]? = some (.ifCond .le ((104 : Nat) : Int)) := by rfl
theorem zi_198_102 : (zM 198).1[102]? = some (.iconst 1) := by rfl
theorem zi_198_103 : (zM 198).1[103]? = some (.goto ((105 : Nat) : Int)) := by rfl
theorem zi_198_104 : (zM 198).1[104]? = some (.iconst 0) := by rfl
theorem zi_198_105 : (zM 198).1[105]? = some (.istore 15) := by rfl
theorem zi_198_106 : (zM 198).1[106]? = some (.iload 15) := by rfl
theorem zi_198_107 : (zM 198).1[107]? = some (.ifCond .eq ((110 : Nat) : Int)) := by rfl
theorem zi_198_108 : (zM 198).1[108]? = some (.iload 13) := by rfl
theorem zi_198_109 : (zM 198).1[109]? = some (.goto ((111 : Nat) : Int)) := by rfl
theorem zi_198_110 : (zM 198).1[110]? = some (.iload 8) := by rfl
theorem zi_198_111 : (zM 198).1[111]? = some (.istore 8) := by rfl
theorem zi_198_112 : (zM 198).1[112]? = some (.iload 15) := by rfl
theorem zi_198_113 : (zM 198).1[113]? = some (.ifCond .eq ((116 : Nat) : Int)) := by rfl
theorem zi_198_114 : (zM 198).1[114]? = some (.iload 14) := by rfl
theorem zi_198_115 : (zM 198).1[115]? = some (.goto ((117 : Nat) : Int)) := by rfl
theorem zi_198_116 : (zM 198).1[116]? = some (.iload 9) := by rfl
theorem zi_198_117 : (zM 198).1[117]? = some (.istore 9) := by rfl
theorem zi_198_118 : (zM 198).1[118]? = some (.iload 15) := by rfl
theorem zi_198_119 : (zM 198).1[119]? = some (.ifCond .eq ((125 : Nat) : Int)) := by rfl
theorem zi_198_120 : (zM 198).1[120]? = some (.aload 0) := by rfl
theorem zi_198_121 : (zM 198).1[121]? = some (.getfield 11234) := by rfl
theorem zi_198_122 : (zM 198).1[122]? = some (.iconst 0) := by rfl
theorem zi_198_123 : (zM 198).1[123]? = some (.laload) := by rfl
theorem zi_198_124 : (zM 198).1[124]? = some (.goto ((126 : Nat) : Int)) := by rfl
theorem zi_198_125 : (zM 198).1[125]? = some (.lload 10) := by rfl
theorem zi_198_126 : (zM 198).1[126]? = some (.lstore 10) := by rfl
theorem zi_198_127 : (zM 198).1[127]? = some (.iinc 12 1) := by rfl
theorem zi_198_128 : (zM 198).1[128]? = some (.goto ((29 : Nat) : Int)) := by rfl
theorem zi_198_129 : (zM 198).1[129]? = some (.aload 0) := by rfl
theorem zi_198_130 : (zM 198).1[130]? = some (.invokevirtual 194) := by rfl
theorem zi_198_131 : (zM 198).1[131]? = some (.iload 1) := by rfl
theorem zi_198_132 : (zM 198).1[132]? = some (.ifCond .ne ((135 : Nat) : Int)) := by rfl
theorem zi_198_133 : (zM 198).1[133]? = some (.lload 6) := by rfl
theorem zi_198_134 : (zM 198).1[134]? = some (.goto ((157 : Nat) : Int)) := by rfl
theorem zi_198_135 : (zM 198).1[135]? = some (.iload 1) := by rfl
theorem zi_198_136 : (zM 198).1[136]? = some (.iconst 1) := by rfl
theorem zi_198_137 : (zM 198).1[137]? = some (.if_icmp .ne ((141 : Nat) : Int)) := by rfl
theorem zi_198_138 : (zM 198).1[138]? = some (.iload 8) := by rfl
theorem zi_198_139 : (zM 198).1[139]? = some (.i2l) := by rfl
theorem zi_198_140 : (zM 198).1[140]? = some (.goto ((157 : Nat) : Int)) := by rfl
theorem zi_198_141 : (zM 198).1[141]? = some (.iload 1) := by rfl
theorem zi_198_142 : (zM 198).1[142]? = some (.iconst 2) := by rfl
theorem zi_198_143 : (zM 198).1[143]? = some (.if_icmp .ne ((147 : Nat) : Int)) := by rfl
theorem zi_198_144 : (zM 198).1[144]? = some (.iload 9) := by rfl
theorem zi_198_145 : (zM 198).1[145]? = some (.i2l) := by rfl
theorem zi_198_146 : (zM 198).1[146]? = some (.goto ((157 : Nat) : Int)) := by rfl
theorem zi_198_147 : (zM 198).1[147]? = some (.lload 10) := by rfl
theorem zi_198_148 : (zM 198).1[148]? = some (.lload 4) := by rfl
theorem zi_198_149 : (zM 198).1[149]? = some (.lsub) := by rfl
theorem zi_198_150 : (zM 198).1[150]? = some (.aload 0) := by rfl
theorem zi_198_151 : (zM 198).1[151]? = some (.invokevirtual 152) := by rfl
theorem zi_198_152 : (zM 198).1[152]? = some (.invokestatic 176) := by rfl
theorem zi_198_153 : (zM 198).1[153]? = some (.iload 1) := by rfl
theorem zi_198_154 : (zM 198).1[154]? = some (.iconst 3) := by rfl
theorem zi_198_155 : (zM 198).1[155]? = some (.isub) := by rfl
theorem zi_198_156 : (zM 198).1[156]? = some (.invokestatic 184) := by rfl
theorem zi_198_157 : (zM 198).1[157]? = some (.lreturn) := by rfl
def wb_198_129 (E : Nat → Nat) (d : Nat) (Q : Option Value → ZH → Prop) (a0 : Nat) (a1 : Int32) (a4 : Int64) (a6 : Int64) (a8 : Int32) (a9 : Int32) (a10 : Int64) (h : ZH) : Prop := ztag h a0 = 11 ∧ Ct E d 194 [.ref a0] h (fun v h10 => v = none ∧ ((¬ a1 = 0 → ((¬ a1 = 1 → ((¬ a1 = 2 → (ztag h10 a0 = 11 ∧ 1 ≤ d ∧ sz_152 E h10 a0 ∧ 1 ≤ d ∧ sz_176 E h10 (fz_152 E h10 a0) ∧ Ct E d 184 [.long (a10 - a4), .long (fz_176 E h10 (fz_152 E h10 a0)), .int (a1 - 3)] h10 (fun v h12 => ∃ x13 : Int64, v = some (.long x13) ∧ Q (some (.long x13)) h12))) ∧ (¬ (¬ a1 = 2) → (Q (some (.long a9.toInt64)) h10)))) ∧ (¬ (¬ a1 = 1) → (Q (some (.long a8.toInt64)) h10)))) ∧ (¬ (¬ a1 = 0) → (Q (some (.long a6)) h10))))
set_option maxRecDepth 20000 in
theorem okb_198_129 {E : Nat → Nat} {d : Nat} {Q : Option Value → ZH → Prop} {a0 : Nat} {a1 : Int32} {a4 : Int64} {a6 : Int64} {a8 : Int32} {a9 : Int32} {a10 : Int64} {h : ZH} (hw : wb_198_129 E d Q a0 a1 a4 a6 a8 a9 a10 h) : Gx E (d + 1) 198 129 [.ref a0, .int a1, .retAddr 0, .retAddr 0, .long a4, .retAddr 0, .long a6, .retAddr 0, .int a8, .int a9, .long a10, .retAddr 0, .retAddr 0, .retAddr 0, .retAddr 0, .retAddr 0] [] h Q := by
  unfold wb_198_129 at hw
  refine zg_aload zi_198_129 rfl ?_
  obtain ⟨t9, hw⟩ := hw
  refine Gx.call2 (as := [.ref a0]) (rest := []) zq_194 zi_198_130 rfl rfl rfl (Nat.le_of_ble_eq_true rfl) (Nat.le_of_ble_eq_true rfl) (zrv_v t9 rfl rfl) (Nat.le_of_ble_eq_true rfl) ?_
  refine Ct.mono hw ?_
  rintro v h10 ⟨rfl, hw⟩
  show Gx E (d + 1) 198 131 [.ref a0, .int a1, .retAddr 0, .retAddr 0, .long a4, .retAddr 0, .long a6, .retAddr 0, .int a8, .int a9, .long a10, .retAddr 0, .retAddr 0, .retAddr 0, .retAddr 0, .retAddr 0] [] h10 Q
  refine zg_iload zi_198_131 rfl ?_
  refine zg_if_ne zi_198_132 (fun hc => ?_) (fun hc => ?_)
  · have hw := hw.1 hc
    refine zg_iload zi_198_135 rfl ?_
    refine zg_const (v := 1) zi_198_136 (by rfl) ?_
    refine zg_icmp_ne zi_198_137 (fun hc => ?_) (fun hc => ?_)
    · have hw := hw.1 hc
      refine zg_iload zi_198_141 rfl ?_
      refine zg_const (v := 2) zi_198_142 (by rfl) ?_
      refine zg_icmp_ne zi_198_143 (fun hc => ?_) (fun hc => ?_)
      · have hw := hw.1 hc
        refine zg_lload zi_198_147 rfl ?_
        refine zg_lload zi_198_148 rfl ?_
        refine zg_lsub zi_198_149 ?_
        refine zg_aload zi_198_150 rfl ?_
        obtain ⟨t11, hw⟩ := hw
        obtain ⟨hd, hs, hw⟩ := hw
        refine Gx.call2 (as := [.ref a0]) (rest := [.long (a10 - a4)]) zq_152 zi_198_151 rfl rfl rfl (Nat.le_of_ble_eq_true rfl) (Nat.le_of_ble_eq_true rfl) (zrv_v t11 rfl rfl) (Nat.le_of_ble_eq_true rfl) ?_
        refine cz_152 hd hs ?_
        show Gx E (d + 1) 198 152 [.ref a0, .int a1, .retAddr 0, .retAddr 0, .long a4, .retAddr 0, .long a6, .retAddr 0, .int a8, .int a9, .long a10, .retAddr 0, .retAddr 0, .retAddr 0, .retAddr 0, .retAddr 0] [.int (fz_152 E h10 a0), .long (a10 - a4)] h10 Q
        obtain ⟨hd, hs, hw⟩ := hw
        refine Gx.call2 (as := [.int (fz_152 E h10 a0)]) (rest := [.long (a10 - a4)]) zq_176 zi_198_152 rfl rfl rfl (Nat.le_of_ble_eq_true rfl) (Nat.le_of_ble_eq_true rfl) (rfl) (Nat.le_of_ble_eq_true rfl) ?_
        refine cz_176 hd hs ?_
        show Gx E (d + 1) 198 153 [.ref a0, .int a1, .retAddr 0, .retAddr 0, .long a4, .retAddr 0, .long a6, .retAddr 0, .int a8, .int a9, .long a10, .retAddr 0, .retAddr 0, .retAddr 0, .retAddr 0, .retAddr 0] [.long (fz_176 E h10 (fz_152 E h10 a0)), .long (a10 - a4)] h10 Q
        refine zg_iload zi_198_153 rfl ?_
        refine zg_const (v := 3) zi_198_154 (by rfl) ?_
        refine zg_isub zi_198_155 ?_
        refine Gx.call2 (as := [.long (a10 - a4), .long (fz_176 E h10 (fz_152 E h10 a0)), .int (a1 - 3)]) (rest := []) zq_184 zi_198_156 rfl rfl rfl (Nat.le_of_ble_eq_true rfl) (Nat.le_of_ble_eq_true rfl) (rfl) (Nat.le_of_ble_eq_true rfl) ?_
        refine Ct.mono hw ?_
        rintro v h12 ⟨x13, rfl, hw⟩
        show Gx E (d + 1) 198 157 [.ref a0, .int a1, .retAddr 0, .retAddr 0, .long a4, .retAddr 0, .long a6, .retAddr 0, .int a8, .int a9, .long a10, .retAddr 0, .retAddr 0, .retAddr 0, .retAddr 0, .retAddr 0] [.long x13] h12 Q
        exact zg_lreturn zi_198_157 hw
      · have hw := hw.2 hc
        refine zg_iload zi_198_144 rfl ?_
        refine zg_i2l zi_198_145 ?_
        refine zg_goto zi_198_146 ?_
        exact zg_lreturn zi_198_157 hw
    · have hw := hw.2 hc
      refine zg_iload zi_198_138 rfl ?_
      refine zg_i2l zi_198_139 ?_
      refine zg_goto zi_198_140 ?_
      exact zg_lreturn zi_198_157 hw
  · have hw := hw.2 hc
    refine zg_lload zi_198_133 rfl ?_
    refine zg_goto zi_198_134 ?_
    exact zg_lreturn zi_198_157 hw
def wb_198_127 (E : Nat → Nat) (d : Nat) (Q : Option Value → ZH → Prop) (L_29 : Nat → Int32 → Int64 → Int64 → Int64 → Int32 → Int32 → Int64 → Int32 → ZH → Prop) (a0 : Nat) (a1 : Int32) (a2 : Int64) (a4 : Int64) (a6 : Int64) (a8 : Int32) (a9 : Int32) (a10 : Int64) (a12 : Int32) (h : ZH) : Prop := ∀ x19 : Int32, x19 = (a12 + 1) → L_29 a0 a1 a2 a4 a6 a8 a9 a10 x19 h
set_option maxRecDepth 20000 in
theorem okb_198_127 {E : Nat → Nat} {d : Nat} {Q : Option Value → ZH → Prop} {L_29 : Nat → Int32 → Int64 → Int64 → Int64 → Int32 → Int32 → Int64 → Int32 → ZH → Prop} (hL_29 : ∀ (b0 : Nat) (b1 : Int32) (b2 : Int64) (b4 : Int64) (b6 : Int64) (b8 : Int32) (b9 : Int32) (b10 : Int64) (b12 : Int32) (h : ZH), L_29 b0 b1 b2 b4 b6 b8 b9 b10 b12 h → Gx E (d + 1) 198 29 [.ref b0, .int b1, .long b2, .retAddr 0, .long b4, .retAddr 0, .long b6, .retAddr 0, .int b8, .int b9, .long b10, .retAddr 0, .int b12, .retAddr 0, .retAddr 0, .retAddr 0] [] h Q) {a0 : Nat} {a1 : Int32} {a2 : Int64} {a4 : Int64} {a6 : Int64} {a8 : Int32} {a9 : Int32} {a10 : Int64} {a12 : Int32} {h : ZH} (hw : wb_198_127 E d Q L_29 a0 a1 a2 a4 a6 a8 a9 a10 a12 h) : Gx E (d + 1) 198 127 [.ref a0, .int a1, .long a2, .retAddr 0, .long a4, .retAddr 0, .long a6, .retAddr 0, .int a8, .int a9, .long a10, .retAddr 0, .int a12, .retAddr 0, .retAddr 0, .retAddr 0] [] h Q := by
  unfold wb_198_127 at hw
  obtain ⟨x19, ex19⟩ : ∃ x : Int32, x = a12 + 1 := ⟨_, rfl⟩
  have hw := hw x19 ex19
  refine zg_iinc (v := x19) (ls1 := [.ref a0, .int a1, .long a2, .retAddr 0, .long a4, .retAddr 0, .long a6, .retAddr 0, .int a8, .int a9, .long a10, .retAddr 0, .int x19, .retAddr 0, .retAddr 0, .retAddr 0]) zi_198_127 rfl (by rw [ex19]; rfl) rfl ?_
  refine zg_goto zi_198_128 ?_
  exact hL_29 a0 a1 a2 a4 a6 a8 a9 a10 x19 h hw
def wl_198_29 (E : Nat → Nat) (d : Nat) (Q : Option Value → ZH → Prop) : Nat → Nat → Int32 → Int64 → Int64 → Int64 → Int32 → Int32 → Int64 → Int32 → ZH → Prop
  | 0, _, _, _, _, _, _, _, _, _, _ => False
  | n + 1, a0, a1, a2, a4, a6, a8, a9, a10, a12, h => (9 ≤ a12 → (wb_198_129 E d Q a0 a1 a4 a6 a8 a9 a10 h)) ∧ (¬ (9 ≤ a12) → (ztag h a0 = 11 ∧ ∃ r15 : Nat, zR h a0 35 = r15 + 1 ∧ (ztag h r15 = 13 ∨ ztag h r15 = 19) ∧ zin 5 (zlen h r15) = true ∧ ∀ x17 : Int32, x17 = ((zI h r15 5) + (20 * ((a12 / 3) - 1))) → zin 6 (zlen h r15) = true ∧ ∀ x18 : Int32, x18 = (((zI h r15 6) + (a12 - a12 / 3 * 3)) - 1) → 1 ≤ d ∧ sz_135 E h x17.toInt64 0 100 ∧ (((fz_135 E h x17.toInt64 0 100 : Int32) = 0 → (wb_198_127 E d Q (wl_198_29 E d Q n) a0 a1 a2 a4 a6 a8 a9 a10 a12 h)) ∧ (¬ ((fz_135 E h x17.toInt64 0 100 : Int32) = 0) → (1 ≤ d ∧ sz_135 E h x18.toInt64 1 60 ∧ (((fz_135 E h x18.toInt64 1 60 : Int32) = 0 → (wb_198_127 E d Q (wl_198_29 E d Q n) a0 a1 a2 a4 a6 a8 a9 a10 a12 h)) ∧ (¬ ((fz_135 E h x18.toInt64 1 60 : Int32) = 0) → (∃ r20 : Nat, zR h a0 15 = r20 + 1 ∧ ztag h r20 = 13 ∧ zin 5 (zlen h r20) = true ∧ ∀ h22 : ZH, h22 = (zuI h r20 5 x17) → zin 6 (zlen h22 r20) = true ∧ ∀ h23 : ZH, h23 = (zuI h22 r20 6 x18) → ∀ h24 : ZH, h24 = (zuI h23 a0 29 0) → Ct E d 190 [.ref a0, .int 0] h24 (fun v h25 => ∃ x26 : Int64, v = some (.long x26) ∧ (((x26 < a2 → (True)) ∧ (¬ (x26 < a2) → ((((a6 + 1 : Int64) = 1 → (True)) ∧ (¬ ((a6 + 1 : Int64) = 1) → (ztag h25 a0 = 11 ∧ ¬ zR h25 a0 34 = 0 ∧ ztag h25 (zR h25 a0 34 - 1) = 14 ∧ zin 0 (zlen h25 (zR h25 a0 34 - 1)) = true ∧ True))) ∧ ((((if (a6 + 1 : Int64) = 1 then 1 else if (zL h25 (zR h25 a0 34 - 1) 0 : Int64) ≤ a10 then 0 else 1 : Int32) = 0 → (True)) ∧ (¬ ((if (a6 + 1 : Int64) = 1 then 1 else if (zL h25 (zR h25 a0 34 - 1) 0 : Int64) ≤ a10 then 0 else 1 : Int32) = 0) → (ztag h25 a0 = 11 ∧ ¬ zR h25 a0 34 = 0 ∧ ztag h25 (zR h25 a0 34 - 1) = 14 ∧ zin 0 (zlen h25 (zR h25 a0 34 - 1)) = true ∧ True))) ∧ True)))) ∧ wb_198_127 E d Q (wl_198_29 E d Q n) a0 a1 a2 a4 (if x26 < a2 then a6 else a6 + 1) (if x26 < a2 then a8 else if (if (a6 + 1 : Int64) = 1 then 1 else if (zL h25 (zR h25 a0 34 - 1) 0 : Int64) ≤ a10 then 0 else 1 : Int32) = 0 then a8 else x17) (if x26 < a2 then a9 else if (if (a6 + 1 : Int64) = 1 then 1 else if (zL h25 (zR h25 a0 34 - 1) 0 : Int64) ≤ a10 then 0 else 1 : Int32) = 0 then a9 else x18) (if x26 < a2 then a10 else if (if (a6 + 1 : Int64) = 1 then 1 else if (zL h25 (zR h25 a0 34 - 1) 0 : Int64) ≤ a10 then 0 else 1 : Int32) = 0 then a10 else zL h25 (zR h25 a0 34 - 1) 0) a12 h25))))))))))
set_option maxRecDepth 20000 in
theorem okl_198_29 {E : Nat → Nat} {d : Nat} {Q : Option Value → ZH → Prop} : ∀ (n : Nat) (a0 : Nat) (a1 : Int32) (a2 : Int64) (a4 : Int64) (a6 : Int64) (a8 : Int32) (a9 : Int32) (a10 : Int64) (a12 : Int32) (h : ZH), wl_198_29 E d Q n a0 a1 a2 a4 a6 a8 a9 a10 a12 h → Gx E (d + 1) 198 29 [.ref a0, .int a1, .long a2, .retAddr 0, .long a4, .retAddr 0, .long a6, .retAddr 0, .int a8, .int a9, .long a10, .retAddr 0, .int a12, .retAddr 0, .retAddr 0, .retAddr 0] [] h Q := by
  intro n
  induction n with
  | zero => intro a0 a1 a2 a4 a6 a8 a9 a10 a12 h hw; exact hw.elim
  | succ n ih =>
    intro a0 a1 a2 a4 a6 a8 a9 a10 a12 h hw
    rw [wl_198_29] at hw
    refine zg_iload zi_198_29 rfl ?_
    refine zg_const (v := 9) zi_198_30 (by rfl) ?_
    refine zg_icmp_ge zi_198_31 (fun hc => ?_) (fun hc => ?_)
    · have hw := hw.1 hc
      exact Gx.forget (zrk (zrk (zrd (zrk (zrk (zrk (zrk (zrk (zrk (zrk (zrk (zrk (zrd (zrk (zrk (zrk zr0)))))))))))))))) (okb_198_129 hw)
    · have hw := hw.2 hc
      refine zg_aload zi_198_32 rfl ?_
      obtain ⟨t14, hw⟩ := hw
      obtain ⟨r15, er15, hw⟩ := hw
      refine zg_getR (v := .ref r15) zi_198_33 t14 (by rfl) (by show zrv (zR h a0 35) = _; rw [er15]; rfl) ?_
      refine zg_const (v := 5) zi_198_34 (by rfl) ?_
      obtain ⟨t16, hw⟩ := hw
      obtain ⟨hb, hw⟩ := hw
      refine zg_iaload (v := .int (zI h r15 5)) zi_198_35 t16 hb rfl ?_
      refine zg_const (v := 20) zi_198_36 (by rfl) ?_
      refine zg_iload zi_198_37 rfl ?_
      refine zg_const (v := 3) zi_198_38 (by rfl) ?_
      refine zg_idiv zi_198_39 (by decide) ?_
      refine zg_const (v := 1) zi_198_40 (by rfl) ?_
      refine zg_isub zi_198_41 ?_
      refine zg_imul zi_198_42 ?_
      refine zg_iadd zi_198_43 ?_
      refine zg_nameI fun x17 ex17 => ?_
      have hw := hw x17 ex17
      refine zg_istore (ls1 := [.ref a0, .int a1, .long a2, .retAddr 0, .long a4, .retAddr 0, .long a6, .retAddr 0, .int a8, .int a9, .long a10, .retAddr 0, .int a12, .int x17, .retAddr 0, .retAddr 0]) zi_198_44 (Nat.le_of_ble_eq_true rfl) rfl ?_
      refine zg_aload zi_198_45 rfl ?_
      refine zg_getR (v := .ref r15) zi_198_46 t14 (by rfl) (by show zrv (zR h a0 35) = _; rw [er15]; rfl) ?_
      refine zg_const (v := 6) zi_198_47 (by rfl) ?_
      obtain ⟨hb, hw⟩ := hw
      refine zg_iaload (v := .int (zI h r15 6)) zi_198_48 t16 hb rfl ?_
      refine zg_iload zi_198_49 rfl ?_
      refine zg_const (v := 3) zi_198_50 (by rfl) ?_
      refine zg_irem zi_198_51 (by decide) ?_
      refine zg_iadd zi_198_52 ?_
      refine zg_const (v := 1) zi_198_53 (by rfl) ?_
      refine zg_isub zi_198_54 ?_
      refine zg_nameI fun x18 ex18 => ?_
      have hw := hw x18 ex18
      refine zg_istore (ls1 := [.ref a0, .int a1, .long a2, .retAddr 0, .long a4, .retAddr 0, .long a6, .retAddr 0, .int a8, .int a9, .long a10, .retAddr 0, .int a12, .int x17, .int x18, .retAddr 0]) zi_198_55 (Nat.le_of_ble_eq_true rfl) rfl ?_
      refine zg_iload zi_198_56 rfl ?_
      refine zg_i2l zi_198_57 ?_
      refine zg_lconst (v := 0) zi_198_58 (by rfl) ?_
      refine zg_lconst (v := 100) zi_198_59 (by rfl) ?_
      obtain ⟨hd, hs, hw⟩ := hw
      refine Gx.call2 (as := [.long x17.toInt64, .long 0, .long 100]) (rest := []) zq_135 zi_198_60 rfl rfl rfl (Nat.le_of_ble_eq_true rfl) (Nat.le_of_ble_eq_true rfl) (rfl) (Nat.le_of_ble_eq_true rfl) ?_
      refine cz_135 hd hs ?_
      show Gx E (d + 1) 198 61 [.ref a0, .int a1, .long a2, .retAddr 0, .long a4, .retAddr 0, .long a6, .retAddr 0, .int a8, .int a9, .long a10, .retAddr 0, .int a12, .int x17, .int x18, .retAddr 0] [.int (fz_135 E h x17.toInt64 0 100)] h Q
      refine zg_if_eq zi_198_61 (fun hc => ?_) (fun hc => ?_)
      · have hw := hw.1 hc
        exact Gx.forget (zrk (zrk (zrk (zrk (zrk (zrk (zrk (zrk (zrk (zrk (zrk (zrk (zrk (zrd (zrd (zrk zr0)))))))))))))))) (okb_198_127 ih hw)
      · have hw := hw.2 hc
        refine zg_iload zi_198_62 rfl ?_
        refine zg_i2l zi_198_63 ?_
        refine zg_lconst (v := 1) zi_198_64 (by rfl) ?_
        refine zg_lconst (v := 60) zi_198_65 (by rfl) ?_
        obtain ⟨hd, hs, hw⟩ := hw
        refine Gx.call2 (as := [.long x18.toInt64, .long 1, .long 60]) (rest := []) zq_135 zi_198_66 rfl rfl rfl (Nat.le_of_ble_eq_true rfl) (Nat.le_of_ble_eq_true rfl) (rfl) (Nat.le_of_ble_eq_true rfl) ?_
        refine cz_135 hd hs ?_
        show Gx E (d + 1) 198 67 [.ref a0, .int a1, .long a2, .retAddr 0, .long a4, .retAddr 0, .long a6, .retAddr 0, .int a8, .int a9, .long a10, .retAddr 0, .int a12, .int x17, .int x18, .retAddr 0] [.int (fz_135 E h x18.toInt64 1 60)] h Q
        refine zg_if_eq zi_198_67 (fun hc => ?_) (fun hc => ?_)
        · have hw := hw.1 hc
          exact Gx.forget (zrk (zrk (zrk (zrk (zrk (zrk (zrk (zrk (zrk (zrk (zrk (zrk (zrk (zrd (zrd (zrk zr0)))))))))))))))) (okb_198_127 ih hw)
        · have hw := hw.2 hc
          refine zg_aload zi_198_68 rfl ?_
          obtain ⟨r20, er20, hw⟩ := hw
          refine zg_getR (v := .ref r20) zi_198_69 t14 (by rfl) (by show zrv (zR h a0 15) = _; rw [er20]; rfl) ?_
          refine zg_const (v := 5) zi_198_70 (by rfl) ?_
          refine zg_iload zi_198_71 rfl ?_
          obtain ⟨t21, hw⟩ := hw
          obtain ⟨hb, hw⟩ := hw
          refine zg_iastore (h1 := zuI h r20 5 x17) zi_198_72 t21 hb rfl ?_
          refine zg_nameH fun h22 eh22 => ?_
          have hw := hw h22 eh22
          refine zg_aload zi_198_73 rfl ?_
          refine zg_getR (v := .ref r20) zi_198_74 (by rw [eh22]; exact t14) (by rfl) (by rw [eh22]; show zrv (zR h a0 15) = _; rw [er20]; rfl) ?_
          refine zg_const (v := 6) zi_198_75 (by rfl) ?_
          refine zg_iload zi_198_76 rfl ?_
          obtain ⟨hb, hw⟩ := hw
          refine zg_iastore (h1 := zuI h22 r20 6 x18) zi_198_77 (by rw [eh22]; exact t21) hb rfl ?_
          refine zg_nameH fun h23 eh23 => ?_
          have hw := hw h23 eh23
          refine zg_aload zi_198_78 rfl ?_
          refine zg_const (v := 0) zi_198_79 (by rfl) ?_
          refine zg_putZ (h1 := zuI h23 a0 29 0) zi_198_80 (by rw [eh23, eh22]; exact t14) (by rfl) (by decide) rfl ?_
          refine zg_nameH fun h24 eh24 => ?_
          have hw := hw h24 eh24
          refine zg_aload zi_198_81 rfl ?_
          refine zg_const (v := 0) zi_198_82 (by rfl) ?_
          refine Gx.call2 (as := [.ref a0, .int 0]) (rest := []) zq_190 zi_198_83 rfl rfl rfl (Nat.le_of_ble_eq_true rfl) (Nat.le_of_ble_eq_true rfl) (zrv_v (by rw [eh24, eh23, eh22]; exact t14) rfl rfl) (Nat.le_of_ble_eq_true rfl) ?_
          refine Ct.mono hw ?_
          rintro v h25 ⟨x26, rfl, hw⟩
          show Gx E (d + 1) 198 84 [.ref a0, .int a1, .long a2, .retAddr 0, .long a4, .retAddr 0, .long a6, .retAddr 0, .int a8, .int a9, .long a10, .retAddr 0, .int a12, .int x17, .int x18, .retAddr 0] [.long x26] h25 Q
          refine zg_lload zi_198_84 rfl ?_
          obtain ⟨hsd86, hw⟩ := hw
          have g86 : Gx E (d + 1) 198 127 [.ref a0, .int a1, .long a2, .retAddr 0, .long a4, .retAddr 0, .long (if x26 < a2 then a6 else a6 + 1), .retAddr 0, .int (if x26 < a2 then a8 else if (if (a6 + 1 : Int64) = 1 then 1 else if (zL h25 (zR h25 a0 34 - 1) 0 : Int64) ≤ a10 then 0 else 1 : Int32) = 0 then a8 else x17), .int (if x26 < a2 then a9 else if (if (a6 + 1 : Int64) = 1 then 1 else if (zL h25 (zR h25 a0 34 - 1) 0 : Int64) ≤ a10 then 0 else 1 : Int32) = 0 then a9 else x18), .long (if x26 < a2 then a10 else if (if (a6 + 1 : Int64) = 1 then 1 else if (zL h25 (zR h25 a0 34 - 1) 0 : Int64) ≤ a10 then 0 else 1 : Int32) = 0 then a10 else zL h25 (zR h25 a0 34 - 1) 0), .retAddr 0, .int a12, .int x17, .int x18, .retAddr 0] [] h25 Q := by
            exact Gx.forget (zrk (zrk (zrk (zrk (zrk (zrk (zrk (zrk (zrk (zrk (zrk (zrk (zrk (zrd (zrd (zrk zr0)))))))))))))))) (okb_198_127 ih hw)
          refine zg_lcmp_lt zi_198_85 zi_198_86 (fun hc86 => ?_) (fun hc86 => ?_)
          · have hw := hsd86.1 hc86
            have hg := g86
            simp only [if_pos hc86] at hg ⊢
            exact hg
          · have hw := hsd86.2 hc86
            refine zg_lload zi_198_87 rfl ?_
            refine zg_lconst (v := 1) zi_198_88 (by rfl) ?_
            refine zg_ladd zi_198_89 ?_
            refine zg_lstore (ls1 := [.ref a0, .int a1, .long a2, .retAddr 0, .long a4, .retAddr 0, .long (a6 + 1), .retAddr 0, .int a8, .int a9, .long a10, .retAddr 0, .int a12, .int x17, .int x18, .retAddr 0]) zi_198_90 (Nat.le_of_ble_eq_true rfl) rfl ?_
            refine zg_lload zi_198_91 rfl ?_
            refine zg_lconst (v := 1) zi_198_92 (by rfl) ?_
            obtain ⟨hsd94, hw⟩ := hw
            have g94 : Gx E (d + 1) 198 105 [.ref a0, .int a1, .long a2, .retAddr 0, .long a4, .retAddr 0, .long (a6 + 1), .retAddr 0, .int a8, .int a9, .long a10, .retAddr 0, .int a12, .int x17, .int x18, .retAddr 0] [.int (if (a6 + 1 : Int64) = 1 then 1 else if (zL h25 (zR h25 a0 34 - 1) 0 : Int64) ≤ a10 then 0 else 1)] h25 Q := by
              refine zg_istore (ls1 := [.ref a0, .int a1, .long a2, .retAddr 0, .long a4, .retAddr 0, .long (a6 + 1), .retAddr 0, .int a8, .int a9, .long a10, .retAddr 0, .int a12, .int x17, .int x18, .int (if (a6 + 1 : Int64) = 1 then 1 else if (zL h25 (zR h25 a0 34 - 1) 0 : Int64) ≤ a10 then 0 else 1)]) zi_198_105 (Nat.le_of_ble_eq_true rfl) rfl ?_
              refine zg_iload zi_198_106 rfl ?_
              have g107 : Gx E (d + 1) 198 111 [.ref a0, .int a1, .long a2, .retAddr 0, .long a4, .retAddr 0, .long (a6 + 1), .retAddr 0, .int a8, .int a9, .long a10, .retAddr 0, .int a12, .int x17, .int x18, .int (if (a6 + 1 : Int64) = 1 then 1 else if (zL h25 (zR h25 a0 34 - 1) 0 : Int64) ≤ a10 then 0 else 1)] [.int (if (if (a6 + 1 : Int64) = 1 then 1 else if (zL h25 (zR h25 a0 34 - 1) 0 : Int64) ≤ a10 then 0 else 1 : Int32) = 0 then a8 else x17)] h25 Q := by
                refine zg_istore (ls1 := [.ref a0, .int a1, .long a2, .retAddr 0, .long a4, .retAddr 0, .long (a6 + 1), .retAddr 0, .int (if (if (a6 + 1 : Int64) = 1 then 1 else if (zL h25 (zR h25 a0 34 - 1) 0 : Int64) ≤ a10 then 0 else 1 : Int32) = 0 then a8 else x17), .int a9, .long a10, .retAddr 0, .int a12, .int x17, .int x18, .int (if (a6 + 1 : Int64) = 1 then 1 else if (zL h25 (zR h25 a0 34 - 1) 0 : Int64) ≤ a10 then 0 else 1)]) zi_198_111 (Nat.le_of_ble_eq_true rfl) rfl ?_
                refine zg_iload zi_198_112 rfl ?_
                have g113 : Gx E (d + 1) 198 117 [.ref a0, .int a1, .long a2, .retAddr 0, .long a4, .retAddr 0, .long (a6 + 1), .retAddr 0, .int (if (if (a6 + 1 : Int64) = 1 then 1 else if (zL h25 (zR h25 a0 34 - 1) 0 : Int64) ≤ a10 then 0 else 1 : Int32) = 0 then a8 else x17), .int a9, .long a10, .retAddr 0, .int a12, .int x17, .int x18, .int (if (a6 + 1 : Int64) = 1 then 1 else if (zL h25 (zR h25 a0 34 - 1) 0 : Int64) ≤ a10 then 0 else 1)] [.int (if (if (a6 + 1 : Int64) = 1 then 1 else if (zL h25 (zR h25 a0 34 - 1) 0 : Int64) ≤ a10 then 0 else 1 : Int32) = 0 then a9 else x18)] h25 Q := by
                  refine zg_istore (ls1 := [.ref a0, .int a1, .long a2, .retAddr 0, .long a4, .retAddr 0, .long (a6 + 1), .retAddr 0, .int (if (if (a6 + 1 : Int64) = 1 then 1 else if (zL h25 (zR h25 a0 34 - 1) 0 : Int64) ≤ a10 then 0 else 1 : Int32) = 0 then a8 else x17), .int (if (if (a6 + 1 : Int64) = 1 then 1 else if (zL h25 (zR h25 a0 34 - 1) 0 : Int64) ≤ a10 then 0 else 1 : Int32) = 0 then a9 else x18), .long a10, .retAddr 0, .int a12, .int x17, .int x18, .int (if (a6 + 1 : Int64) = 1 then 1 else if (zL h25 (zR h25 a0 34 - 1) 0 : Int64) ≤ a10 then 0 else 1)]) zi_198_117 (Nat.le_of_ble_eq_true rfl) rfl ?_
                  refine zg_iload zi_198_118 rfl ?_
                  obtain ⟨hsd119, hw⟩ := hw
                  have g119 : Gx E (d + 1) 198 126 [.ref a0, .int a1, .long a2, .retAddr 0, .long a4, .retAddr 0, .long (a6 + 1), .retAddr 0, .int (if (if (a6 + 1 : Int64) = 1 then 1 else if (zL h25 (zR h25 a0 34 - 1) 0 : Int64) ≤ a10 then 0 else 1 : Int32) = 0 then a8 else x17), .int (if (if (a6 + 1 : Int64) = 1 then 1 else if (zL h25 (zR h25 a0 34 - 1) 0 : Int64) ≤ a10 then 0 else 1 : Int32) = 0 then a9 else x18), .long a10, .retAddr 0, .int a12, .int x17, .int x18, .int (if (a6 + 1 : Int64) = 1 then 1 else if (zL h25 (zR h25 a0 34 - 1) 0 : Int64) ≤ a10 then 0 else 1)] [.long (if (if (a6 + 1 : Int64) = 1 then 1 else if (zL h25 (zR h25 a0 34 - 1) 0 : Int64) ≤ a10 then 0 else 1 : Int32) = 0 then a10 else zL h25 (zR h25 a0 34 - 1) 0)] h25 Q := by
                    refine zg_lstore (ls1 := [.ref a0, .int a1, .long a2, .retAddr 0, .long a4, .retAddr 0, .long (a6 + 1), .retAddr 0, .int (if (if (a6 + 1 : Int64) = 1 then 1 else if (zL h25 (zR h25 a0 34 - 1) 0 : Int64) ≤ a10 then 0 else 1 : Int32) = 0 then a8 else x17), .int (if (if (a6 + 1 : Int64) = 1 then 1 else if (zL h25 (zR h25 a0 34 - 1) 0 : Int64) ≤ a10 then 0 else 1 : Int32) = 0 then a9 else x18), .long (if (if (a6 + 1 : Int64) = 1 then 1 else if (zL h25 (zR h25 a0 34 - 1) 0 : Int64) ≤ a10 then 0 else 1 : Int32) = 0 then a10 else zL h25 (zR h25 a0 34 - 1) 0), .retAddr 0, .int a12, .int x17, .int x18, .int (if (a6 + 1 : Int64) = 1 then 1 else if (zL h25 (zR h25 a0 34 - 1) 0 : Int64) ≤ a10 then 0 else 1)]) zi_198_126 (Nat.le_of_ble_eq_true rfl) rfl ?_
                    have hg := g86
                    simp only [if_neg hc86] at hg ⊢
                    exact Gx.forget (zrk (zrk (zrk (zrk (zrk (zrk (zrk (zrk (zrk (zrk (zrk (zrk (zrk (zrk (zrk (zrd zr0)))))))))))))))) hg
                  refine zg_if_eq zi_198_119 (fun hc119 => ?_) (fun hc119 => ?_)
                  · have hw := hsd119.1 hc119
                    refine zg_lload zi_198_125 rfl ?_
                    have hg := g119
                    simp only [if_pos hc119] at hg ⊢
                    exact hg
                  · have hw := hsd119.2 hc119
                    refine zg_aload zi_198_120 rfl ?_
                    obtain ⟨t29, hw⟩ := hw
                    obtain ⟨hr, hw⟩ := hw
                    refine zg_getR (v := .ref (zR h25 a0 34 - 1)) zi_198_121 t29 (by rfl) (zrv_p hr) ?_
                    refine zg_const (v := 0) zi_198_122 (by rfl) ?_
                    obtain ⟨t30, hw⟩ := hw
                    obtain ⟨hb, hw⟩ := hw
                    refine zg_laload (v := .long (zL h25 (zR h25 a0 34 - 1) 0)) zi_198_123 t30 hb rfl ?_
                    refine zg_goto zi_198_124 ?_
                    have hg := g119
                    simp only [if_neg hc119] at hg ⊢
                    exact hg
                refine zg_if_eq zi_198_113 (fun hc113 => ?_) (fun hc113 => ?_)
                · skip
                  refine zg_iload zi_198_116 rfl ?_
                  have hg := g113
                  simp only [if_pos hc113] at hg ⊢
                  exact hg
                · skip
                  refine zg_iload zi_198_114 rfl ?_
                  refine zg_goto zi_198_115 ?_
                  have hg := g113
                  simp only [if_neg hc113] at hg ⊢
                  exact hg
              refine zg_if_eq zi_198_107 (fun hc107 => ?_) (fun hc107 => ?_)
              · skip
                refine zg_iload zi_198_110 rfl ?_
                have hg := g107
                simp only [if_pos hc107] at hg ⊢
                exact hg
              · skip
                refine zg_iload zi_198_108 rfl ?_
                refine zg_goto zi_198_109 ?_
                have hg := g107
                simp only [if_neg hc107] at hg ⊢
                exact hg
            refine zg_lcmp_eq zi_198_93 zi_198_94 (fun hc94 => ?_) (fun hc94 => ?_)
            · have hw := hsd94.1 hc94
              refine zg_const (v := 1) zi_198_102 (by rfl) ?_
              refine zg_goto zi_198_103 ?_
              have hg := g94
              simp only [if_pos hc94] at hg ⊢
              exact hg
            · have hw := hsd94.2 hc94
              refine zg_aload zi_198_95 rfl ?_
              obtain ⟨t27, hw⟩ := hw
              obtain ⟨hr, hw⟩ := hw
              refine zg_getR (v := .ref (zR h25 a0 34 - 1)) zi_198_96 t27 (by rfl) (zrv_p hr) ?_
              refine zg_const (v := 0) zi_198_97 (by rfl) ?_
              obtain ⟨t28, hw⟩ := hw
              obtain ⟨hb, hw⟩ := hw
              refine zg_laload (v := .long (zL h25 (zR h25 a0 34 - 1) 0)) zi_198_98 t28 hb rfl ?_
              refine zg_lload zi_198_99 rfl ?_
              have g101 : Gx E (d + 1) 198 105 [.ref a0, .int a1, .long a2, .retAddr 0, .long a4, .retAddr 0, .long (a6 + 1), .retAddr 0, .int a8, .int a9, .long a10, .retAddr 0, .int a12, .int x17, .int x18, .retAddr 0] [.int (if (zL h25 (zR h25 a0 34 - 1) 0 : Int64) ≤ a10 then 0 else 1)] h25 Q := by
                have hg := g94
                simp only [if_neg hc94] at hg ⊢
                exact hg
              refine zg_lcmp_le zi_198_100 zi_198_101 (fun hc101 => ?_) (fun hc101 => ?_)
              · skip
                refine zg_const (v := 0) zi_198_104 (by rfl) ?_
                have hg := g101
                simp only [if_pos hc101] at hg ⊢
                exact hg
              · skip
                refine zg_const (v := 1) zi_198_102 (by rfl) ?_
                refine zg_goto zi_198_103 ?_
                have hg := g101
                simp only [if_neg hc101] at hg ⊢
                exact hg
/-- TakeOrPayModel.offers(I)J -/
def w_198 (E : Nat → Nat) (d : Nat) (a0 : Nat) (a1 : Int32) (h : ZH) (Q : Option Value → ZH → Prop) : Prop := 1 ≤ d ∧ sz_135 E h a1.toInt64 0 4 ∧ ((¬ (fz_135 E h a1.toInt64 0 4 : Int32) = 0 → (ztag h a0 = 11 ∧ Ct E d 190 [.ref a0, .int 0] h (fun v h2 => ∃ x3 : Int64, v = some (.long x3) ∧ ztag h2 a0 = 11 ∧ ∃ r5 : Nat, zR h2 a0 34 = r5 + 1 ∧ ztag h2 r5 = 14 ∧ zin 0 (zlen h2 r5) = true ∧ ∀ x7 : Int64, x7 = (zL h2 r5 0) → Ct E d 193 [.ref a0] h2 (fun v h8 => v = none ∧ (∃ mm : Nat, wl_198_29 E d Q mm a0 a1 x3 x7 0 0 0 0 0 h8))))) ∧ (¬ (¬ (fz_135 E h a1.toInt64 0 4 : Int32) = 0) → (Q (some (.long ((-9000000000000000001)))) h)))
set_option maxRecDepth 20000 in
theorem ok_198 {E : Nat → Nat} {d : Nat} {a0 : Nat} {a1 : Int32} {h : ZH} {Q : Option Value → ZH → Prop} (hw : w_198 E d a0 a1 h Q) : Ct E (d + 1) 198 [.ref a0, .int a1] h Q := by
  unfold w_198 at hw
  show Gx E (d + 1) 198 0 [.ref a0, .int a1, .retAddr 0, .retAddr 0, .retAddr 0, .retAddr 0, .retAddr 0, .retAddr 0, .retAddr 0, .retAddr 0, .retAddr 0, .retAddr 0, .retAddr 0, .retAddr 0, .retAddr 0, .retAddr 0] [] h Q
  refine zg_iload zi_198_0 rfl ?_
  refine zg_i2l zi_198_1 ?_
  refine zg_lconst (v := 0) zi_198_2 (by rfl) ?_
  refine zg_lconst (v := 4) zi_198_3 (by rfl) ?_
  obtain ⟨hd, hs, hw⟩ := hw
  refine Gx.call2 (as := [.long a1.toInt64, .long 0, .long 4]) (rest := []) zq_135 zi_198_4 rfl rfl rfl (Nat.le_of_ble_eq_true rfl) (Nat.le_of_ble_eq_true rfl) (rfl) (Nat.le_of_ble_eq_true rfl) ?_
  refine cz_135 hd hs ?_
  show Gx E (d + 1) 198 5 [.ref a0, .int a1, .retAddr 0, .retAddr 0, .retAddr 0, .retAddr 0, .retAddr 0, .retAddr 0, .retAddr 0, .retAddr 0, .retAddr 0, .retAddr 0, .retAddr 0, .retAddr 0, .retAddr 0, .retAddr 0] [.int (fz_135 E h a1.toInt64 0 4)] h Q
  refine zg_if_ne zi_198_5 (fun hc => ?_) (fun hc => ?_)
  · have hw := hw.1 hc
    refine zg_aload zi_198_8 rfl ?_
    refine zg_const (v := 0) zi_198_9 (by rfl) ?_
    obtain ⟨t1, hw⟩ := hw
    refine Gx.call2 (as := [.ref a0, .int 0]) (rest := []) zq_190 zi_198_10 rfl rfl rfl (Nat.le_of_ble_eq_true rfl) (Nat.le_of_ble_eq_true rfl) (zrv_v t1 rfl rfl) (Nat.le_of_ble_eq_true rfl) ?_
    refine Ct.mono hw ?_
    rintro v h2 ⟨x3, rfl, hw⟩
    show Gx E (d + 1) 198 11 [.ref a0, .int a1, .retAddr 0, .retAddr 0, .retAddr 0, .retAddr 0, .retAddr 0, .retAddr 0, .retAddr 0, .retAddr 0, .retAddr 0, .retAddr 0, .retAddr 0, .retAddr 0, .retAddr 0, .retAddr 0] [.long x3] h2 Q
    refine zg_lstore (ls1 := [.ref a0, .int a1, .long x3, .retAddr 0, .retAddr 0, .retAddr 0, .retAddr 0, .retAddr 0, .retAddr 0, .retAddr 0, .retAddr 0, .retAddr 0, .retAddr 0, .retAddr 0, .retAddr 0, .retAddr 0]) zi_198_11 (Nat.le_of_ble_eq_true rfl) rfl ?_
    refine zg_aload zi_198_12 rfl ?_
    obtain ⟨t4, hw⟩ := hw
    obtain ⟨r5, er5, hw⟩ := hw
    refine zg_getR (v := .ref r5) zi_198_13 t4 (by rfl) (by show zrv (zR h2 a0 34) = _; rw [er5]; rfl) ?_
    refine zg_const (v := 0) zi_198_14 (by rfl) ?_
    obtain ⟨t6, hw⟩ := hw
    obtain ⟨hb, hw⟩ := hw
    refine zg_laload (v := .long (zL h2 r5 0)) zi_198_15 t6 hb rfl ?_
    refine zg_nameL fun x7 ex7 => ?_
    have hw := hw x7 ex7
    refine zg_lstore (ls1 := [.ref a0, .int a1, .long x3, .retAddr 0, .long x7, .retAddr 0, .retAddr 0, .retAddr 0, .retAddr 0, .retAddr 0, .retAddr 0, .retAddr 0, .retAddr 0, .retAddr 0, .retAddr 0, .retAddr 0]) zi_198_16 (Nat.le_of_ble_eq_true rfl) rfl ?_
    refine zg_aload zi_198_17 rfl ?_
    refine Gx.call2 (as := [.ref a0]) (rest := []) zq_193 zi_198_18 rfl rfl rfl (Nat.le_of_ble_eq_true rfl) (Nat.le_of_ble_eq_true rfl) (zrv_v t4 rfl rfl) (Nat.le_of_ble_eq_true rfl) ?_
    refine Ct.mono hw ?_
    rintro v h8 ⟨rfl, hw⟩
    show Gx E (d + 1) 198 19 [.ref a0, .int a1, .long x3, .retAddr 0, .long x7, .retAddr 0, .retAddr 0, .retAddr 0, .retAddr 0, .retAddr 0, .retAddr 0, .retAddr 0, .retAddr 0, .retAddr 0, .retAddr 0, .retAddr 0] [] h8 Q
    refine zg_lconst (v := 0) zi_198_19 (by rfl) ?_
    refine zg_lstore (ls1 := [.ref a0, .int a1, .long x3, .retAddr 0, .long x7, .retAddr 0, .long 0, .retAddr 0, .retAddr 0, .retAddr 0, .retAddr 0, .retAddr 0, .retAddr 0, .retAddr 0, .retAddr 0, .retAddr 0]) zi_198_20 (Nat.le_of_ble_eq_true rfl) rfl ?_
    refine zg_const (v := 0) zi_198_21 (by rfl) ?_
    refine zg_istore (ls1 := [.ref a0, .int a1, .long x3, .retAddr 0, .long x7, .retAddr 0, .long 0, .retAddr 0, .int 0, .retAddr 0, .retAddr 0, .retAddr 0, .retAddr 0, .retAddr 0, .retAddr 0, .retAddr 0]) zi_198_22 (Nat.le_of_ble_eq_true rfl) rfl ?_
    refine zg_const (v := 0) zi_198_23 (by rfl) ?_
    refine zg_istore (ls1 := [.ref a0, .int a1, .long x3, .retAddr 0, .long x7, .retAddr 0, .long 0, .retAddr 0, .int 0, .int 0, .retAddr 0, .retAddr 0, .retAddr 0, .retAddr 0, .retAddr 0, .retAddr 0]) zi_198_24 (Nat.le_of_ble_eq_true rfl) rfl ?_
    refine zg_lconst (v := 0) zi_198_25 (by rfl) ?_
    refine zg_lstore (ls1 := [.ref a0, .int a1, .long x3, .retAddr 0, .long x7, .retAddr 0, .long 0, .retAddr 0, .int 0, .int 0, .long 0, .retAddr 0, .retAddr 0, .retAddr 0, .retAddr 0, .retAddr 0]) zi_198_26 (Nat.le_of_ble_eq_true rfl) rfl ?_
    refine zg_const (v := 0) zi_198_27 (by rfl) ?_
    refine zg_istore (ls1 := [.ref a0, .int a1, .long x3, .retAddr 0, .long x7, .retAddr 0, .long 0, .retAddr 0, .int 0, .int 0, .long 0, .retAddr 0, .int 0, .retAddr 0, .retAddr 0, .retAddr 0]) zi_198_28 (Nat.le_of_ble_eq_true rfl) rfl ?_
    obtain ⟨mm, hw⟩ := hw
    exact okl_198_29 mm a0 a1 x3 x7 0 0 0 0 0 h8 hw
  · have hw := hw.2 hc
    refine zg_lconst (v := (-9000000000000000001)) zi_198_6 (by rfl) ?_
    exact zg_lreturn zi_198_7 hw
theorem zq_199 : zQ 199 3 3 11 := by unfold zQ; decide +kernel
theorem zi_199_0 : (zM 199).1[0]? = some (.iload 1) := by rfl
theorem zi_199_1 : (zM 199).1[1]? = some (.i2l) := by rfl
theorem zi_199_2 : (zM 199).1[2]? = some (.jsr_w 0) := by rfl
theorem zi_199_3 : (zM 199).1[3]? = some (.jsr_w 2) := by rfl
theorem zi_199_4 : (zM 199).1[4]? = some (.invokestatic 135) := by rfl
theorem zi_199_5 : (zM 199).1[5]? = some (.ifCond .eq ((12 : Nat) : Int)) := by rfl
theorem zi_199_6 : (zM 199).1[6]? = some (.iload 2) := by rfl
theorem zi_199_7 : (zM 199).1[7]? = some (.i2l) := by rfl
theorem zi_199_8 : (zM 199).1[8]? = some (.jsr_w 0) := by rfl
theorem zi_199_9 : (zM 199).1[9]? = some (.jsr_w 9) := by rfl
theorem zi_199_10 : (zM 199).1[10]? = some (.invokestatic 135) := by rfl
theorem zi_199_11 : (zM 199).1[11]? = some (.ifCond .ne ((14 : Nat) : Int)) := by rfl
theorem zi_199_12 : (zM 199).1[12]? = some (.iconst (-1)) := by rfl
theorem zi_199_13 : (zM 199).1[13]? = some (.ireturn) := by rfl
theorem zi_199_14 : (zM 199).1[14]? = some (.aload 0) := by rfl
theorem zi_199_15 : (zM 199).1[15]? = some (.getfield 11036) := by rfl
theorem zi_199_16 : (zM 199).1[16]? = some (.aload 0) := by rfl
theorem zi_199_17 : (zM 199).1[17]? = some (.invokevirtual 152) := by rfl
theorem zi_199_18 : (zM 199).1[18]? = some (.if_icmp .ne ((21 : Nat) : Int)) := by rfl
theorem zi_199_19 : (zM 199).1[19]? = some (.iconst (-3)) := by rfl
theorem zi_199_20 : (zM 199).1[20]? = some (.ireturn) := by rfl
theorem zi_199_21 : (zM 199).1[21]? = some (.aload 0) := by rfl
theorem zi_199_22 : (zM 199).1[22]? = some (.getfield 11237) := by rfl
theorem zi_199_23 : (zM 199).1[23]? = some (.aload 0) := by rfl
theorem zi_199_24 : (zM 199).1[24]? = some (.getfield 11036) := by rfl
theorem zi_199_25 : (zM 199).1[25]? = some (.iload 1) := by rfl
theorem zi_199_26 : (zM 199).1[26]? = some (.iastore) := by rfl
theorem zi_199_27 : (zM 199).1[27]? = some (.aload 0) := by rfl
theorem zi_199_28 : (zM 199).1[28]? = some (.getfield 11238) := by rfl
theorem zi_199_29 : (zM 199).1[29]? = some (.aload 0) := by rfl
theorem zi_199_30 : (zM 199).1[30]? = some (.getfield 11036) := by rfl
theorem zi_199_31 : (zM 199).1[31]? = some (.iload 2) := by rfl
theorem zi_199_32 : (zM 199).1[32]? = some (.iastore) := by rfl
theorem zi_199_33 : (zM 199).1[33]? = some (.aload 0) := by rfl
theorem zi_199_34 : (zM 199).1[34]? = some (.dup) := by rfl
theorem zi_199_35 : (zM 199).1[35]? = some (.getfield 11036) := by rfl
theorem zi_199_36 : (zM 199).1[36]? = some (.iconst 1) := by rfl
theorem zi_199_37 : (zM 199).1[37]? = some (.iadd) := by rfl
theorem zi_199_38 : (zM 199).1[38]? = some (.putfield 11036) := by rfl
theorem zi_199_39 : (zM 199).1[39]? = some (.aload 0) := by rfl
theorem zi_199_40 : (zM 199).1[40]? = some (.getfield 11036) := by rfl
theorem zi_199_41 : (zM 199).1[41]? = some (.ireturn) := by rfl
/-- TakeOrPayModel.day(II)I -/
def w_199 (E : Nat → Nat) (d : Nat) (a0 : Nat) (a1 : Int32) (a2 : Int32) (h : ZH) (Q : Option Value → ZH → Prop) : Prop := 1 ≤ d ∧ sz_135 E h a1.toInt64 0 2 ∧ (((fz_135 E h a1.toInt64 0 2 : Int32) = 0 → (Q (some (.int ((-1)))) h)) ∧ (¬ ((fz_135 E h a1.toInt64 0 2 : Int32) = 0) → (1 ≤ d ∧ sz_135 E h a2.toInt64 0 9 ∧ ((¬ (fz_135 E h a2.toInt64 0 9 : Int32) = 0 → (ztag h a0 = 11 ∧ 1 ≤ d ∧ sz_152 E h a0 ∧ ((¬ (zI h a0 36 : Int32) = (fz_152 E h a0 : Int32) → (∃ r2 : Nat, zR h a0 37 = r2 + 1 ∧ ztag h r2 = 13 ∧ zin (zI h a0 36) (zlen h r2) = true ∧ ∀ h4 : ZH, h4 = (zuI h r2 (zI h a0 36 : Int32).toNatClampNeg a1) → ∃ r5 : Nat, zR h4 a0 38 = r5 + 1 ∧ ztag h4 r5 = 13 ∧ zin (zI h4 a0 36) (zlen h4 r5) = true ∧ ∀ h7 : ZH, h7 = (zuI h4 r5 (zI h4 a0 36 : Int32).toNatClampNeg a2) → ∀ h8 : ZH, h8 = (zuI h7 a0 36 ((zI h7 a0 36) + 1)) → Q (some (.int (zI h8 a0 36))) h8)) ∧ (¬ (¬ (zI h a0 36 : Int32) = (fz_152 E h a0 : Int32)) → (Q (some (.int ((-3)))) h))))) ∧ (¬ (¬ (fz_135 E h a2.toInt64 0 9 : Int32) = 0) → (Q (some (.int ((-1)))) h))))))
set_option maxRecDepth 20000 in
theorem ok_199 {E : Nat → Nat} {d : Nat} {a0 : Nat} {a1 : Int32} {a2 : Int32} {h : ZH} {Q : Option Value → ZH → Prop} (hw : w_199 E d a0 a1 a2 h Q) : Ct E (d + 1) 199 [.ref a0, .int a1, .int a2] h Q := by
  unfold w_199 at hw
  show Gx E (d + 1) 199 0 [.ref a0, .int a1, .int a2] [] h Q
  refine zg_iload zi_199_0 rfl ?_
  refine zg_i2l zi_199_1 ?_
  refine zg_lconst (v := 0) zi_199_2 (by rfl) ?_
  refine zg_lconst (v := 2) zi_199_3 (by rfl) ?_
  obtain ⟨hd, hs, hw⟩ := hw
  refine Gx.call2 (as := [.long a1.toInt64, .long 0, .long 2]) (rest := []) zq_135 zi_199_4 rfl rfl rfl (Nat.le_of_ble_eq_true rfl) (Nat.le_of_ble_eq_true rfl) (rfl) (Nat.le_of_ble_eq_true rfl) ?_
  refine cz_135 hd hs ?_
  show Gx E (d + 1) 199 5 [.ref a0, .int a1, .int a2] [.int (fz_135 E h a1.toInt64 0 2)] h Q
  refine zg_if_eq zi_199_5 (fun hc => ?_) (fun hc => ?_)
  · have hw := hw.1 hc
    refine zg_const (v := (-1)) zi_199_12 (by rfl) ?_
    exact zg_ireturn zi_199_13 (by decide) hw
  · have hw := hw.2 hc
    refine zg_iload zi_199_6 rfl ?_
    refine zg_i2l zi_199_7 ?_
    refine zg_lconst (v := 0) zi_199_8 (by rfl) ?_
    refine zg_lconst (v := 9) zi_199_9 (by rfl) ?_
    obtain ⟨hd, hs, hw⟩ := hw
    refine Gx.call2 (as := [.long a2.toInt64, .long 0, .long 9]) (rest := []) zq_135 zi_199_10 rfl rfl rfl (Nat.le_of_ble_eq_true rfl) (Nat.le_of_ble_eq_true rfl) (rfl) (Nat.le_of_ble_eq_true rfl) ?_
    refine cz_135 hd hs ?_
    show Gx E (d + 1) 199 11 [.ref a0, .int a1, .int a2] [.int (fz_135 E h a2.toInt64 0 9)] h Q
    refine zg_if_ne zi_199_11 (fun hc => ?_) (fun hc => ?_)
    · have hw := hw.1 hc
      refine zg_aload zi_199_14 rfl ?_
      obtain ⟨t1, hw⟩ := hw
      refine zg_getI (v := .int (zI h a0 36)) zi_199_15 t1 (by rfl) rfl ?_
      refine zg_aload zi_199_16 rfl ?_
      obtain ⟨hd, hs, hw⟩ := hw
      refine Gx.call2 (as := [.ref a0]) (rest := [.int (zI h a0 36)]) zq_152 zi_199_17 rfl rfl rfl (Nat.le_of_ble_eq_true rfl) (Nat.le_of_ble_eq_true rfl) (zrv_v t1 rfl rfl) (Nat.le_of_ble_eq_true rfl) ?_
      refine cz_152 hd hs ?_
      show Gx E (d + 1) 199 18 [.ref a0, .int a1, .int a2] [.int (fz_152 E h a0), .int (zI h a0 36)] h Q
      refine zg_icmp_ne zi_199_18 (fun hc => ?_) (fun hc => ?_)
      · have hw := hw.1 hc
        refine zg_aload zi_199_21 rfl ?_
        obtain ⟨r2, er2, hw⟩ := hw
        refine zg_getR (v := .ref r2) zi_199_22 t1 (by rfl) (by show zrv (zR h a0 37) = _; rw [er2]; rfl) ?_
        refine zg_aload zi_199_23 rfl ?_
        refine zg_getI (v := .int (zI h a0 36)) zi_199_24 t1 (by rfl) rfl ?_
        refine zg_iload zi_199_25 rfl ?_
        obtain ⟨t3, hw⟩ := hw
        obtain ⟨hb, hw⟩ := hw
        refine zg_iastore (h1 := zuI h r2 (zI h a0 36 : Int32).toNatClampNeg a1) zi_199_26 t3 hb rfl ?_
        refine zg_nameH fun h4 eh4 => ?_
        have hw := hw h4 eh4
        refine zg_aload zi_199_27 rfl ?_
        obtain ⟨r5, er5, hw⟩ := hw
        refine zg_getR (v := .ref r5) zi_199_28 (by rw [eh4]; exact t1) (by rfl) (by show zrv (zR h4 a0 38) = _; rw [er5]; rfl) ?_
        refine zg_aload zi_199_29 rfl ?_
        refine zg_getI (v := .int (zI h4 a0 36)) zi_199_30 (by rw [eh4]; exact t1) (by rfl) rfl ?_
        refine zg_iload zi_199_31 rfl ?_
        obtain ⟨t6, hw⟩ := hw
        obtain ⟨hb, hw⟩ := hw
        refine zg_iastore (h1 := zuI h4 r5 (zI h4 a0 36 : Int32).toNatClampNeg a2) zi_199_32 t6 hb rfl ?_
        refine zg_nameH fun h7 eh7 => ?_
        have hw := hw h7 eh7
        refine zg_aload zi_199_33 rfl ?_
        refine zg_dup zi_199_34 rfl ?_
        refine zg_getI (v := .int (zI h7 a0 36)) zi_199_35 (by rw [eh7, eh4]; exact t1) (by rfl) rfl ?_
        refine zg_const (v := 1) zi_199_36 (by rfl) ?_
        refine zg_iadd zi_199_37 ?_
        refine zg_putI (h1 := zuI h7 a0 36 ((zI h7 a0 36) + 1)) zi_199_38 (by rw [eh7, eh4]; exact t1) (by rfl) rfl ?_
        refine zg_nameH fun h8 eh8 => ?_
        have hw := hw h8 eh8
        refine zg_aload zi_199_39 rfl ?_
        refine zg_getI (v := .int (zI h8 a0 36)) zi_199_40 (by rw [eh8, eh7, eh4]; exact t1) (by rfl) rfl ?_
        exact zg_ireturn zi_199_41 (by decide) hw
      · have hw := hw.2 hc
        refine zg_const (v := (-3)) zi_199_19 (by rfl) ?_
        exact zg_ireturn zi_199_20 (by decide) hw
    · have hw := hw.2 hc
      refine zg_const (v := (-1)) zi_199_12 (by rfl) ?_
      exact zg_ireturn zi_199_13 (by decide) hw
theorem zq_200 : zQ 200 1 1 11 := by unfold zQ; decide +kernel
theorem zi_200_0 : (zM 200).1[0]? = some (.aload 0) := by rfl
theorem zi_200_1 : (zM 200).1[1]? = some (.getfield 11036) := by rfl
theorem zi_200_2 : (zM 200).1[2]? = some (.ifCond .ne ((5 : Nat) : Int)) := by rfl
theorem zi_200_3 : (zM 200).1[3]? = some (.iconst (-4)) := by rfl
theorem zi_200_4 : (zM 200).1[4]? = some (.ireturn) := by rfl
theorem zi_200_5 : (zM 200).1[5]? = some (.aload 0) := by rfl
theorem zi_200_6 : (zM 200).1[6]? = some (.dup) := by rfl
theorem zi_200_7 : (zM 200).1[7]? = some (.getfield 11036) := by rfl
theorem zi_200_8 : (zM 200).1[8]? = some (.iconst 1) := by rfl
theorem zi_200_9 : (zM 200).1[9]? = some (.isub) := by rfl
theorem zi_200_10 : (zM 200).1[10]? = some (.putfield 11036) := by rfl
theorem zi_200_11 : (zM 200).1[11]? = some (.aload 0) := by rfl
theorem zi_200_12 : (zM 200).1[12]? = some (.getfield 11036) := by rfl
theorem zi_200_13 : (zM 200).1[13]? = some (.ireturn) := by rfl
/-- TakeOrPayModel.back()I -/
def w_200 (E : Nat → Nat) (d : Nat) (a0 : Nat) (h : ZH) (Q : Option Value → ZH → Prop) : Prop := ztag h a0 = 11 ∧ ((¬ (zI h a0 36 : Int32) = 0 → (∀ h2 : ZH, h2 = (zuI h a0 36 ((zI h a0 36) - 1)) → Q (some (.int (zI h2 a0 36))) h2)) ∧ (¬ (¬ (zI h a0 36 : Int32) = 0) → (Q (some (.int ((-4)))) h)))
set_option maxRecDepth 20000 in
theorem ok_200 {E : Nat → Nat} {d : Nat} {a0 : Nat} {h : ZH} {Q : Option Value → ZH → Prop} (hw : w_200 E d a0 h Q) : Ct E (d + 1) 200 [.ref a0] h Q := by
  unfold w_200 at hw
  show Gx E (d + 1) 200 0 [.ref a0] [] h Q
  refine zg_aload zi_200_0 rfl ?_
  obtain ⟨t1, hw⟩ := hw
  refine zg_getI (v := .int (zI h a0 36)) zi_200_1 t1 (by rfl) rfl ?_
  refine zg_if_ne zi_200_2 (fun hc => ?_) (fun hc => ?_)
  · have hw := hw.1 hc
    refine zg_aload zi_200_5 rfl ?_
    refine zg_dup zi_200_6 rfl ?_
    refine zg_getI (v := .int (zI h a0 36)) zi_200_7 t1 (by rfl) rfl ?_
    refine zg_const (v := 1) zi_200_8 (by rfl) ?_
    refine zg_isub zi_200_9 ?_
    refine zg_putI (h1 := zuI h a0 36 ((zI h a0 36) - 1)) zi_200_10 t1 (by rfl) rfl ?_
    refine zg_nameH fun h2 eh2 => ?_
    have hw := hw h2 eh2
    refine zg_aload zi_200_11 rfl ?_
    refine zg_getI (v := .int (zI h2 a0 36)) zi_200_12 (by rw [eh2]; exact t1) (by rfl) rfl ?_
    exact zg_ireturn zi_200_13 (by decide) hw
  · have hw := hw.2 hc
    refine zg_const (v := (-4)) zi_200_3 (by rfl) ?_
    exact zg_ireturn zi_200_4 (by decide) hw
theorem zq_201 : zQ 201 1 1 11 := by unfold zQ; decide +kernel
theorem zi_201_0 : (zM 201).1[0]? = some (.aload 0) := by rfl
theorem zi_201_1 : (zM 201).1[1]? = some (.iconst 0) := by rfl
theorem zi_201_2 : (zM 201).1[2]? = some (.putfield 11041) := by rfl
theorem zi_201_3 : (zM 201).1[3]? = some (.aload 0) := by rfl
theorem zi_201_4 : (zM 201).1[4]? = some (.iconst 0) := by rfl
theorem zi_201_5 : (zM 201).1[5]? = some (.putfield 11042) := by rfl
theorem zi_201_6 : (zM 201).1[6]? = some (.aload 0) := by rfl
theorem zi_201_7 : (zM 201).1[7]? = some (.iconst 0) := by rfl
theorem zi_201_8 : (zM 201).1[8]? = some (.putfield 11043) := by rfl
theorem zi_201_9 : (zM 201).1[9]? = some (.aload 0) := by rfl
theorem zi_201_10 : (zM 201).1[10]? = some (.iconst 0) := by rfl
theorem zi_201_11 : (zM 201).1[11]? = some (.putfield 11044) := by rfl
theorem zi_201_12 : (zM 201).1[12]? = some (.aload 0) := by rfl
theorem zi_201_13 : (zM 201).1[13]? = some (.iconst 0) := by rfl
theorem zi_201_14 : (zM 201).1[14]? = some (.putfield 11045) := by rfl
theorem zi_201_15 : (zM 201).1[15]? = some (.aload 0) := by rfl
theorem zi_201_16 : (zM 201).1[16]? = some (.iconst 0) := by rfl
theorem zi_201_17 : (zM 201).1[17]? = some (.putfield 11046) := by rfl
theorem zi_201_18 : (zM 201).1[18]? = some (.return_) := by rfl
/-- TakeOrPayModel.begin()V -/
def w_201 (E : Nat → Nat) (d : Nat) (a0 : Nat) (h : ZH) (Q : Option Value → ZH → Prop) : Prop := ztag h a0 = 11 ∧ ∀ h2 : ZH, h2 = (zuI h a0 41 0) → ∀ h3 : ZH, h3 = (zuI h2 a0 42 0) → ∀ h4 : ZH, h4 = (zuI h3 a0 43 0) → ∀ h5 : ZH, h5 = (zuI h4 a0 44 0) → ∀ h6 : ZH, h6 = (zuI h5 a0 45 0) → ∀ h7 : ZH, h7 = (zuI h6 a0 46 0) → Q none h7
set_option maxRecDepth 20000 in
theorem ok_201 {E : Nat → Nat} {d : Nat} {a0 : Nat} {h : ZH} {Q : Option Value → ZH → Prop} (hw : w_201 E d a0 h Q) : Ct E (d + 1) 201 [.ref a0] h Q := by
  unfold w_201 at hw
  show Gx E (d + 1) 201 0 [.ref a0] [] h Q
  refine zg_aload zi_201_0 rfl ?_
  refine zg_const (v := 0) zi_201_1 (by rfl) ?_
  obtain ⟨t1, hw⟩ := hw
  refine zg_putI (h1 := zuI h a0 41 0) zi_201_2 t1 (by rfl) rfl ?_
  refine zg_nameH fun h2 eh2 => ?_
  have hw := hw h2 eh2
  refine zg_aload zi_201_3 rfl ?_
  refine zg_const (v := 0) zi_201_4 (by rfl) ?_
  refine zg_putI (h1 := zuI h2 a0 42 0) zi_201_5 (by rw [eh2]; exact t1) (by rfl) rfl ?_
  refine zg_nameH fun h3 eh3 => ?_
  have hw := hw h3 eh3
  refine zg_aload zi_201_6 rfl ?_
  refine zg_const (v := 0) zi_201_7 (by rfl) ?_
  refine zg_putI (h1 := zuI h3 a0 43 0) zi_201_8 (by rw [eh3, eh2]; exact t1) (by rfl) rfl ?_
  refine zg_nameH fun h4 eh4 => ?_
  have hw := hw h4 eh4
  refine zg_aload zi_201_9 rfl ?_
  refine zg_const (v := 0) zi_201_10 (by rfl) ?_
  refine zg_putI (h1 := zuI h4 a0 44 0) zi_201_11 (by rw [eh4, eh3, eh2]; exact t1) (by rfl) rfl ?_
  refine zg_nameH fun h5 eh5 => ?_
  have hw := hw h5 eh5
  refine zg_aload zi_201_12 rfl ?_
  refine zg_const (v := 0) zi_201_13 (by rfl) ?_
  refine zg_putI (h1 := zuI h5 a0 45 0) zi_201_14 (by rw [eh5, eh4, eh3, eh2]; exact t1) (by rfl) rfl ?_
  refine zg_nameH fun h6 eh6 => ?_
  have hw := hw h6 eh6
  refine zg_aload zi_201_15 rfl ?_
  refine zg_const (v := 0) zi_201_16 (by rfl) ?_
  refine zg_putI (h1 := zuI h6 a0 46 0) zi_201_17 (by rw [eh6, eh5, eh4, eh3, eh2]; exact t1) (by rfl) rfl ?_
  refine zg_nameH fun h7 eh7 => ?_
  have hw := hw h7 eh7
  exact zg_return zi_201_18 hw
theorem zq_202 : zQ 202 4 4 11 := by unfold zQ; decide +kernel
theorem zi_202_0 : (zM 202).1[0]? = some (.aload 0) := by rfl
theorem zi_202_1 : (zM 202).1[1]? = some (.iload 1) := by rfl
theorem zi_202_2 : (zM 202).1[2]? = some (.aload 0) := by rfl
theorem zi_202_3 : (zM 202).1[3]? = some (.getfield 11041) := by rfl
theorem zi_202_4 : (zM 202).1[4]? = some (.aload 0) := by rfl
theorem zi_202_5 : (zM 202).1[5]? = some (.getfield 11042) := by rfl
theorem zi_202_6 : (zM 202).1[6]? = some (.aload 0) := by rfl
theorem zi_202_7 : (zM 202).1[7]? = some (.getfield 11043) := by rfl
theorem zi_202_8 : (zM 202).1[8]? = some (.iload 2) := by rfl
theorem zi_202_9 : (zM 202).1[9]? = some (.iload 3) := by rfl
theorem zi_202_10 : (zM 202).1[10]? = some (.invokevirtual 167) := by rfl
theorem zi_202_11 : (zM 202).1[11]? = some (.aload 0) := by rfl
theorem zi_202_12 : (zM 202).1[12]? = some (.aload 0) := by rfl
theorem zi_202_13 : (zM 202).1[13]? = some (.getfield 11021) := by rfl
theorem zi_202_14 : (zM 202).1[14]? = some (.iconst 20) := by rfl
theorem zi_202_15 : (zM 202).1[15]? = some (.invokestatic 164) := by rfl
theorem zi_202_16 : (zM 202).1[16]? = some (.putfield 11041) := by rfl
theorem zi_202_17 : (zM 202).1[17]? = some (.aload 0) := by rfl
theorem zi_202_18 : (zM 202).1[18]? = some (.aload 0) := by rfl
theorem zi_202_19 : (zM 202).1[19]? = some (.getfield 11022) := by rfl
theorem zi_202_20 : (zM 202).1[20]? = some (.putfield 11042) := by rfl
theorem zi_202_21 : (zM 202).1[21]? = some (.aload 0) := by rfl
theorem zi_202_22 : (zM 202).1[22]? = some (.dup) := by rfl
theorem zi_202_23 : (zM 202).1[23]? = some (.getfield 11044) := by rfl
theorem zi_202_24 : (zM 202).1[24]? = some (.aload 0) := by rfl
theorem zi_202_25 : (zM 202).1[25]? = some (.getfield 11023) := by rfl
theorem zi_202_26 : (zM 202).1[26]? = some (.iadd) := by rfl
theorem zi_202_27 : (zM 202).1[27]? = some (.putfield 11044) := by rfl
theorem zi_202_28 : (zM 202).1[28]? = some (.aload 0) := by rfl
theorem zi_202_29 : (zM 202).1[29]? = some (.dup) := by rfl
theorem zi_202_30 : (zM 202).1[30]? = some (.getfield 11045) := by rfl
theorem zi_202_31 : (zM 202).1[31]? = some (.aload 0) := by rfl
theorem zi_202_32 : (zM 202).1[32]? = some (.iload 2) := by rfl
theorem zi_202_33 : (zM 202).1[33]? = some (.iload 3) := by rfl
theorem zi_202_34 : (zM 202).1[34]? = some (.invokevirtual 168) := by rfl
theorem zi_202_35 : (zM 202).1[35]? = some (.iadd) := by rfl
theorem zi_202_36 : (zM 202).1[36]? = some (.putfield 11045) := by rfl
theorem zi_202_37 : (zM 202).1[37]? = some (.aload 0) := by rfl
theorem zi_202_38 : (zM 202).1[38]? = some (.iload 1) := by rfl
theorem zi_202_39 : (zM 202).1[39]? = some (.invokevirtual 177) := by rfl
theorem zi_202_40 : (zM 202).1[40]? = some (.ifCond .eq ((91 : Nat) : Int)) := by rfl
theorem zi_202_41 : (zM 202).1[41]? = some (.aload 0) := by rfl
theorem zi_202_42 : (zM 202).1[42]? = some (.iload 1) := by rfl
theorem zi_202_43 : (zM 202).1[43]? = some (.aload 0) := by rfl
theorem zi_202_44 : (zM 202).1[44]? = some (.getfield 11215) := by rfl
theorem zi_202_45 : (zM 202).1[45]? = some (.iconst 1) := by rfl
theorem zi_202_46 : (zM 202).1[46]? = some (.iaload) := by rfl
theorem zi_202_47 : (zM 202).1[47]? = some (.idiv) := by rfl
theorem zi_202_48 : (zM 202).1[48]? = some (.aload 0) := by rfl
theorem zi_202_49 : (zM 202).1[49]? = some (.getfield 11041) := by rfl
theorem zi_202_50 : (zM 202).1[50]? = some (.aload 0) := by rfl
theorem zi_202_51 : (zM 202).1[51]? = some (.getfield 11043) := by rfl
theorem zi_202_52 : (zM 202).1[52]? = some (.invokevirtual 171) := by rfl
theorem zi_202_53 : (zM 202).1[53]? = some (.aload 0) := by rfl
theorem zi_202_54 : (zM 202).1[54]? = some (.dup) := by rfl
theorem zi_202_55 : (zM 202).1[55]? = some (.getfield 11044) := by rfl
theorem zi_202_56 : (zM 202).1[56]? = some (.aload 0) := by rfl
theorem zi_202_57 : (zM 202).1[57]? = some (.invokevirtual 172) := by rfl
theorem zi_202_58 : (zM 202).1[58]? = some (.iadd) := by rfl
theorem zi_202_59 : (zM 202).1[59]? = some (.putfield 11044) := by rfl
theorem zi_202_60 : (zM 202).1[60]? = some (.aload 0) := by rfl
theorem zi_202_61 : (zM 202).1[61]? = some (.dup) := by rfl
theorem zi_202_62 : (zM 202).1[62]? = some (.getfield 11045) := by rfl
theorem zi_202_63 : (zM 202).1[63]? = some (.aload 0) := by rfl
theorem zi_202_64 : (zM 202).1[64]? = some (.invokevirtual 172) := by rfl
theorem zi_202_65 : (zM 202).1[65]? = some (.isub) := by rfl
theorem zi_202_66 : (zM 202).1[66]? = some (.putfield 11045) := by rfl
theorem zi_202_67 : (zM 202).1[67]? = some (.aload 0) := by rfl
theorem zi_202_68 : (zM 202).1[68]? = some (.dup) := by rfl
theorem zi_202_69 : (zM 202).1[69]? = some (.getfield 11046) := by rfl
theorem zi_202_70 : (zM 202).1[70]? = some (.aload 0) := by rfl
theorem zi_202_71 : (zM 202).1[71]? = some (.getfield 11025) := by rfl
theorem zi_202_72 : (zM 202).1[72]? = some (.iadd) := by rfl
theorem zi_202_73 : (zM 202).1[73]? = some (.putfield 11046) := by rfl
theorem zi_202_74 : (zM 202).1[74]? = some (.iload 1) := by rfl
theorem zi_202_75 : (zM 202).1[75]? = some (.iconst 1) := by rfl
theorem zi_202_76 : (zM 202).1[76]? = some (.iadd) := by rfl
theorem zi_202_77 : (zM 202).1[77]? = some (.aload 0) := by rfl
theorem zi_202_78 : (zM 202).1[78]? = some (.invokevirtual 152) := by rfl
theorem zi_202_79 : (zM 202).1[79]? = some (.if_icmp .ge ((91 : Nat) : Int)) := by rfl
theorem zi_202_80 : (zM 202).1[80]? = some (.aload 0) := by rfl
theorem zi_202_81 : (zM 202).1[81]? = some (.iconst 0) := by rfl
theorem zi_202_82 : (zM 202).1[82]? = some (.putfield 11041) := by rfl
theorem zi_202_83 : (zM 202).1[83]? = some (.aload 0) := by rfl
theorem zi_202_84 : (zM 202).1[84]? = some (.aload 0) := by rfl
theorem zi_202_85 : (zM 202).1[85]? = some (.invokevirtual 173) := by rfl
theorem zi_202_86 : (zM 202).1[86]? = some (.putfield 11042) := by rfl
theorem zi_202_87 : (zM 202).1[87]? = some (.aload 0) := by rfl
theorem zi_202_88 : (zM 202).1[88]? = some (.aload 0) := by rfl
theorem zi_202_89 : (zM 202).1[89]? = some (.getfield 11026) := by rfl
theorem zi_202_90 : (zM 202).1[90]? = some (.putfield 11043) := by rfl
theorem zi_202_91 : (zM 202).1[91]? = some (.return_) := by rfl
/-- TakeOrPayModel.goBy(III)V -/
def w_202 (E : Nat → Nat) (d : Nat) (a0 : Nat) (a1 : Int32) (a2 : Int32) (a3 : Int32) (h : ZH) (Q : Option Value → ZH → Prop) : Prop := ztag h a0 = 11 ∧ Ct E d 167 [.ref a0, .int a1, .int (zI h a0 41), .int (zI h a0 42), .int (zI h a0 43), .int a2, .int a3] h (fun v h2 => v = none ∧ ztag h2 a0 = 11 ∧ 1 ≤ d ∧ sz_164 E h2 (zI h2 a0 21) 20 ∧ ∀ h4 : ZH, h4 = (zuI h2 a0 41 (fz_164 E h2 (zI h2 a0 21) 20)) → ∀ h5 : ZH, h5 = (zuI h4 a0 42 (zI h4 a0 22)) → ∀ h6 : ZH, h6 = (zuI h5 a0 44 ((zI h5 a0 44) + (zI h5 a0 23))) → 2 ≤ d ∧ sz_168 E h6 a0 a2 a3 ∧ ∀ h7 : ZH, h7 = (zuI h6 a0 45 ((zI h6 a0 45) + (fz_168 E h6 a0 a2 a3))) → 1 ≤ d ∧ sz_177 E h7 a0 a1 ∧ (((fz_177 E h7 a0 a1 : Int32) = 0 → (Q none h7)) ∧ (¬ ((fz_177 E h7 a0 a1 : Int32) = 0) → (∃ r8 : Nat, zR h7 a0 15 = r8 + 1 ∧ (ztag h7 r8 = 13 ∨ ztag h7 r8 = 19) ∧ zin 1 (zlen h7 r8) = true ∧ ¬ (zI h7 r8 1) = 0 ∧ Ct E d 171 [.ref a0, .int (a1 / (zI h7 r8 1)), .int (zI h7 a0 41), .int (zI h7 a0 43)] h7 (fun v h10 => v = none ∧ ztag h10 a0 = 11 ∧ 1 ≤ d ∧ sz_172 E h10 a0 ∧ ∀ h12 : ZH, h12 = (zuI h10 a0 44 ((zI h10 a0 44) + (fz_172 E h10 a0))) → 1 ≤ d ∧ sz_172 E h12 a0 ∧ ∀ h13 : ZH, h13 = (zuI h12 a0 45 ((zI h12 a0 45) - (fz_172 E h12 a0))) → ∀ h14 : ZH, h14 = (zuI h13 a0 46 ((zI h13 a0 46) + (zI h13 a0 25))) → 1 ≤ d ∧ sz_152 E h14 a0 ∧ (((fz_152 E h14 a0 : Int32) ≤ (a1 + 1 : Int32) → (Q none h14)) ∧ (¬ ((fz_152 E h14 a0 : Int32) ≤ (a1 + 1 : Int32)) → (∀ h15 : ZH, h15 = (zuI h14 a0 41 0) → 1 ≤ d ∧ sz_173 E h15 a0 ∧ ∀ h16 : ZH, h16 = (zuI h15 a0 42 (fz_173 E h15 a0)) → ∀ h17 : ZH, h17 = (zuI h16 a0 43 (zI h16 a0 26)) → Q none h17))))))))
set_option maxRecDepth 20000 in
theorem ok_202 {E : Nat → Nat} {d : Nat} {a0 : Nat} {a1 : Int32} {a2 : Int32} {a3 : Int32} {h : ZH} {Q : Option Value → ZH → Prop} (hw : w_202 E d a0 a1 a2 a3 h Q) : Ct E (d + 1) 202 [.ref a0, .int a1, .int a2, .int a3] h Q := by
  unfold w_202 at hw
  show Gx E (d + 1) 202 0 [.ref a0, .int a1, .int a2, .int a3] [] h Q
  refine zg_aload zi_202_0 rfl ?_
  refine zg_iload zi_202_1 rfl ?_
  refine zg_aload zi_202_2 rfl ?_
  obtain ⟨t1, hw⟩ := hw
  refine zg_getI (v := .int (zI h a0 41)) zi_202_3 t1 (by rfl) rfl ?_
  refine zg_aload zi_202_4 rfl ?_
  refine zg_getI (v := .int (zI h a0 42)) zi_202_5 t1 (by rfl) rfl ?_
  refine zg_aload zi_202_6 rfl ?_
  refine zg_getI (v := .int (zI h a0 43)) zi_202_7 t1 (by rfl) rfl ?_
  refine zg_iload zi_202_8 rfl ?_
  refine zg_iload zi_202_9 rfl ?_
  refine Gx.call2 (as := [.ref a0, .int a1, .int (zI h a0 41), .int (zI h a0 42), .int (zI h a0 43), .int a2, .int a3]) (rest := []) zq_167 zi_202_10 rfl rfl rfl (Nat.le_of_ble_eq_true rfl) (Nat.le_of_ble_eq_true rfl) (zrv_v t1 rfl rfl) (Nat.le_of_ble_eq_true rfl) ?_
  refine Ct.mono hw ?_
  rintro v h2 ⟨rfl, hw⟩
  show Gx E (d + 1) 202 11 [.ref a0, .int a1, .int a2, .int a3] [] h2 Q
  refine zg_aload zi_202_11 rfl ?_
  refine zg_aload zi_202_12 rfl ?_
  obtain ⟨t3, hw⟩ := hw
  refine zg_getI (v := .int (zI h2 a0 21)) zi_202_13 t3 (by rfl) rfl ?_
  refine zg_const (v := 20) zi_202_14 (by rfl) ?_
  obtain ⟨hd, hs, hw⟩ := hw
  refine Gx.call2 (as := [.int (zI h2 a0 21), .int 20]) (rest := [.ref a0]) zq_164 zi_202_15 rfl rfl rfl (Nat.le_of_ble_eq_true rfl) (Nat.le_of_ble_eq_true rfl) (rfl) (Nat.le_of_ble_eq_true rfl) ?_
  refine cz_164 hd hs ?_
  show Gx E (d + 1) 202 16 [.ref a0, .int a1, .int a2, .int a3] [.int (fz_164 E h2 (zI h2 a0 21) 20), .ref a0] h2 Q
  refine zg_putI (h1 := zuI h2 a0 41 (fz_164 E h2 (zI h2 a0 21) 20)) zi_202_16 t3 (by rfl) rfl ?_
  refine zg_nameH fun h4 eh4 => ?_
  have hw := hw h4 eh4
  refine zg_aload zi_202_17 rfl ?_
  refine zg_aload zi_202_18 rfl ?_
  refine zg_getI (v := .int (zI h4 a0 22)) zi_202_19 (by rw [eh4]; exact t3) (by rfl) rfl ?_
  refine zg_putI (h1 := zuI h4 a0 42 (zI h4 a0 22)) zi_202_20 (by rw [eh4]; exact t3) (by rfl) rfl ?_
  refine zg_nameH fun h5 eh5 => ?_
  have hw := hw h5 eh5
  refine zg_aload zi_202_21 rfl ?_
  refine zg_dup zi_202_22 rfl ?_
  refine zg_getI (v := .int (zI h5 a0 44)) zi_202_23 (by rw [eh5, eh4]; exact t3) (by rfl) rfl ?_
  refine zg_aload zi_202_24 rfl ?_
  refine zg_getI (v := .int (zI h5 a0 23)) zi_202_25 (by rw [eh5, eh4]; exact t3) (by rfl) rfl ?_
  refine zg_iadd zi_202_26 ?_
  refine zg_putI (h1 := zuI h5 a0 44 ((zI h5 a0 44) + (zI h5 a0 23))) zi_202_27 (by rw [eh5, eh4]; exact t3) (by rfl) rfl ?_
  refine zg_nameH fun h6 eh6 => ?_
  have hw := hw h6 eh6
  refine zg_aload zi_202_28 rfl ?_
  refine zg_dup zi_202_29 rfl ?_
  refine zg_getI (v := .int (zI h6 a0 45)) zi_202_30 (by rw [eh6, eh5, eh4]; exact t3) (by rfl) rfl ?_
  refine zg_aload zi_202_31 rfl ?_
  refine zg_iload zi_202_32 rfl ?_
  refine zg_iload zi_202_33 rfl ?_
  obtain ⟨hd, hs, hw⟩ := hw
  refine Gx.call2 (as := [.ref a0, .int a2, .int a3]) (rest := [.int (zI h6 a0 45), .ref a0]) zq_168 zi_202_34 rfl rfl rfl (Nat.le_of_ble_eq_true rfl) (Nat.le_of_ble_eq_true rfl) (zrv_v (by rw [eh6, eh5, eh4]; exact t3) rfl rfl) (Nat.le_of_ble_eq_true rfl) ?_
  refine cz_168 hd hs ?_
  show Gx E (d + 1) 202 35 [.ref a0, .int a1, .int a2, .int a3] [.int (fz_168 E h6 a0 a2 a3), .int (zI h6 a0 45), .ref a0] h6 Q
  refine zg_iadd zi_202_35 ?_
  refine zg_putI (h1 := zuI h6 a0 45 ((zI h6 a0 45) + (fz_168 E h6 a0 a2 a3))) zi_202_36 (by rw [eh6, eh5, eh4]; exact t3) (by rfl) rfl ?_
  refine zg_nameH fun h7 eh7 => ?_
  have hw := hw h7 eh7
  refine zg_aload zi_202_37 rfl ?_
  refine zg_iload zi_202_38 rfl ?_
  obtain ⟨hd, hs, hw⟩ := hw
  refine Gx.call2 (as := [.ref a0, .int a1]) (rest := []) zq_177 zi_202_39 rfl rfl rfl (Nat.le_of_ble_eq_true rfl) (Nat.le_of_ble_eq_true rfl) (zrv_v (by rw [eh7, eh6, eh5, eh4]; exact t3) rfl rfl) (Nat.le_of_ble_eq_true rfl) ?_
  refine cz_177 hd hs ?_
  show Gx E (d + 1) 202 40 [.ref a0, .int a1, .int a2, .int a3] [.int (fz_177 E h7 a0 a1)] h7 Q
  refine zg_if_eq zi_202_40 (fun hc => ?_) (fun hc => ?_)
  · have hw := hw.1 hc
    exact zg_return zi_202_91 hw
  · have hw := hw.2 hc
    refine zg_aload zi_202_41 rfl ?_
    refine zg_iload zi_202_42 rfl ?_
    refine zg_aload zi_202_43 rfl ?_
    obtain ⟨r8, er8, hw⟩ := hw
    refine zg_getR (v := .ref r8) zi_202_44 (by rw [eh7, eh6, eh5, eh4]; exact t3) (by rfl) (by show zrv (zR h7 a0 15) = _; rw [er8]; rfl) ?_
    refine zg_const (v := 1) zi_202_45 (by rfl) ?_
    obtain ⟨t9, hw⟩ := hw
    obtain ⟨hb, hw⟩ := hw
    refine zg_iaload (v := .int (zI h7 r8 1)) zi_202_46 t9 hb rfl ?_
    obtain ⟨hc, hw⟩ := hw
    refine zg_idiv zi_202_47 hc ?_
    refine zg_aload zi_202_48 rfl ?_
    refine zg_getI (v := .int (zI h7 a0 41)) zi_202_49 (by rw [eh7, eh6, eh5, eh4]; exact t3) (by rfl) rfl ?_
    refine zg_aload zi_202_50 rfl ?_
    refine zg_getI (v := .int (zI h7 a0 43)) zi_202_51 (by rw [eh7, eh6, eh5, eh4]; exact t3) (by rfl) rfl ?_
    refine Gx.call2 (as := [.ref a0, .int (a1 / (zI h7 r8 1)), .int (zI h7 a0 41), .int (zI h7 a0 43)]) (rest := []) zq_171 zi_202_52 rfl rfl rfl (Nat.le_of_ble_eq_true rfl) (Nat.le_of_ble_eq_true rfl) (zrv_v (by rw [eh7, eh6, eh5, eh4]; exact t3) rfl rfl) (Nat.le_of_ble_eq_true rfl) ?_
    refine Ct.mono hw ?_
    rintro v h10 ⟨rfl, hw⟩
    show Gx E (d + 1) 202 53 [.ref a0, .int a1, .int a2, .int a3] [] h10 Q
    refine zg_aload zi_202_53 rfl ?_
    refine zg_dup zi_202_54 rfl ?_
    obtain ⟨t11, hw⟩ := hw
    refine zg_getI (v := .int (zI h10 a0 44)) zi_202_55 t11 (by rfl) rfl ?_
    refine zg_aload zi_202_56 rfl ?_
    obtain ⟨hd, hs, hw⟩ := hw
    refine Gx.call2 (as := [.ref a0]) (rest := [.int (zI h10 a0 44), .ref a0]) zq_172 zi_202_57 rfl rfl rfl (Nat.le_of_ble_eq_true rfl) (Nat.le_of_ble_eq_true rfl) (zrv_v t11 rfl rfl) (Nat.le_of_ble_eq_true rfl) ?_
    refine cz_172 hd hs ?_
    show Gx E (d + 1) 202 58 [.ref a0, .int a1, .int a2, .int a3] [.int (fz_172 E h10 a0), .int (zI h10 a0 44), .ref a0] h10 Q
    refine zg_iadd zi_202_58 ?_
    refine zg_putI (h1 := zuI h10 a0 44 ((zI h10 a0 44) + (fz_172 E h10 a0))) zi_202_59 t11 (by rfl) rfl ?_
    refine zg_nameH fun h12 eh12 => ?_
    have hw := hw h12 eh12
    refine zg_aload zi_202_60 rfl ?_
    refine zg_dup zi_202_61 rfl ?_
    refine zg_getI (v := .int (zI h12 a0 45)) zi_202_62 (by rw [eh12]; exact t11) (by rfl) rfl ?_
    refine zg_aload zi_202_63 rfl ?_
    obtain ⟨hd, hs, hw⟩ := hw
    refine Gx.call2 (as := [.ref a0]) (rest := [.int (zI h12 a0 45), .ref a0]) zq_172 zi_202_64 rfl rfl rfl (Nat.le_of_ble_eq_true rfl) (Nat.le_of_ble_eq_true rfl) (zrv_v (by rw [eh12]; exact t11) rfl rfl) (Nat.le_of_ble_eq_true rfl) ?_
    refine cz_172 hd hs ?_
    show Gx E (d + 1) 202 65 [.ref a0, .int a1, .int a2, .int a3] [.int (fz_172 E h12 a0), .int (zI h12 a0 45), .ref a0] h12 Q
    refine zg_isub zi_202_65 ?_
    refine zg_putI (h1 := zuI h12 a0 45 ((zI h12 a0 45) - (fz_172 E h12 a0))) zi_202_66 (by rw [eh12]; exact t11) (by rfl) rfl ?_
    refine zg_nameH fun h13 eh13 => ?_
    have hw := hw h13 eh13
    refine zg_aload zi_202_67 rfl ?_
    refine zg_dup zi_202_68 rfl ?_
    refine zg_getI (v := .int (zI h13 a0 46)) zi_202_69 (by rw [eh13, eh12]; exact t11) (by rfl) rfl ?_
    refine zg_aload zi_202_70 rfl ?_
    refine zg_getI (v := .int (zI h13 a0 25)) zi_202_71 (by rw [eh13, eh12]; exact t11) (by rfl) rfl ?_
    refine zg_iadd zi_202_72 ?_
    refine zg_putI (h1 := zuI h13 a0 46 ((zI h13 a0 46) + (zI h13 a0 25))) zi_202_73 (by rw [eh13, eh12]; exact t11) (by rfl) rfl ?_
    refine zg_nameH fun h14 eh14 => ?_
    have hw := hw h14 eh14
    refine zg_iload zi_202_74 rfl ?_
    refine zg_const (v := 1) zi_202_75 (by rfl) ?_
    refine zg_iadd zi_202_76 ?_
    refine zg_aload zi_202_77 rfl ?_
    obtain ⟨hd, hs, hw⟩ := hw
    refine Gx.call2 (as := [.ref a0]) (rest := [.int (a1 + 1)]) zq_152 zi_202_78 rfl rfl rfl (Nat.le_of_ble_eq_true rfl) (Nat.le_of_ble_eq_true rfl) (zrv_v (by rw [eh14, eh13, eh12]; exact t11) rfl rfl) (Nat.le_of_ble_eq_true rfl) ?_
    refine cz_152 hd hs ?_
    show Gx E (d + 1) 202 79 [.ref a0, .int a1, .int a2, .int a3] [.int (fz_152 E h14 a0), .int (a1 + 1)] h14 Q
    refine zg_icmp_ge zi_202_79 (fun hc => ?_) (fun hc => ?_)
    · have hw := hw.1 hc
      exact zg_return zi_202_91 hw
    · have hw := hw.2 hc
      refine zg_aload zi_202_80 rfl ?_
      refine zg_const (v := 0) zi_202_81 (by rfl) ?_
      refine zg_putI (h1 := zuI h14 a0 41 0) zi_202_82 (by rw [eh14, eh13, eh12]; exact t11) (by rfl) rfl ?_
      refine zg_nameH fun h15 eh15 => ?_
      have hw := hw h15 eh15
      refine zg_aload zi_202_83 rfl ?_
      refine zg_aload zi_202_84 rfl ?_
      obtain ⟨hd, hs, hw⟩ := hw
      refine Gx.call2 (as := [.ref a0]) (rest := [.ref a0]) zq_173 zi_202_85 rfl rfl rfl (Nat.le_of_ble_eq_true rfl) (Nat.le_of_ble_eq_true rfl) (zrv_v (by rw [eh15, eh14, eh13, eh12]; exact t11) rfl rfl) (Nat.le_of_ble_eq_true rfl) ?_
      refine cz_173 hd hs ?_
      show Gx E (d + 1) 202 86 [.ref a0, .int a1, .int a2, .int a3] [.int (fz_173 E h15 a0), .ref a0] h15 Q
      refine zg_putI (h1 := zuI h15 a0 42 (fz_173 E h15 a0)) zi_202_86 (by rw [eh15, eh14, eh13, eh12]; exact t11) (by rfl) rfl ?_
      refine zg_nameH fun h16 eh16 => ?_
      have hw := hw h16 eh16
      refine zg_aload zi_202_87 rfl ?_
      refine zg_aload zi_202_88 rfl ?_
      refine zg_getI (v := .int (zI h16 a0 26)) zi_202_89 (by rw [eh16, eh15, eh14, eh13, eh12]; exact t11) (by rfl) rfl ?_
      refine zg_putI (h1 := zuI h16 a0 43 (zI h16 a0 26)) zi_202_90 (by rw [eh16, eh15, eh14, eh13, eh12]; exact t11) (by rfl) rfl ?_
      refine zg_nameH fun h17 eh17 => ?_
      have hw := hw h17 eh17
      exact zg_return zi_202_91 hw
theorem zq_203 : zQ 203 1 2 11 := by unfold zQ; decide +kernel
theorem zi_203_0 : (zM 203).1[0]? = some (.aload 0) := by rfl
theorem zi_203_1 : (zM 203).1[1]? = some (.invokevirtual 201) := by rfl
theorem zi_203_2 : (zM 203).1[2]? = some (.iconst 0) := by rfl
theorem zi_203_3 : (zM 203).1[3]? = some (.istore 1) := by rfl
theorem zi_203_4 : (zM 203).1[4]? = some (.iload 1) := by rfl
theorem zi_203_5 : (zM 203).1[5]? = some (.aload 0) := by rfl
theorem zi_203_6 : (zM 203).1[6]? = some (.getfield 11036) := by rfl
theorem zi_203_7 : (zM 203).1[7]? = some (.if_icmp .ge ((33 : Nat) : Int)) := by rfl
theorem zi_203_8 : (zM 203).1[8]? = some (.aload 0) := by rfl
theorem zi_203_9 : (zM 203).1[9]? = some (.iload 1) := by rfl
theorem zi_203_10 : (zM 203).1[10]? = some (.aload 0) := by rfl
theorem zi_203_11 : (zM 203).1[11]? = some (.getfield 11237) := by rfl
theorem zi_203_12 : (zM 203).1[12]? = some (.iload 1) := by rfl
theorem zi_203_13 : (zM 203).1[13]? = some (.iaload) := by rfl
theorem zi_203_14 : (zM 203).1[14]? = some (.aload 0) := by rfl
theorem zi_203_15 : (zM 203).1[15]? = some (.getfield 11238) := by rfl
theorem zi_203_16 : (zM 203).1[16]? = some (.iload 1) := by rfl
theorem zi_203_17 : (zM 203).1[17]? = some (.iaload) := by rfl
theorem zi_203_18 : (zM 203).1[18]? = some (.invokevirtual 202) := by rfl
theorem zi_203_19 : (zM 203).1[19]? = some (.aload 0) := by rfl
theorem zi_203_20 : (zM 203).1[20]? = some (.getfield 11239) := by rfl
theorem zi_203_21 : (zM 203).1[21]? = some (.iload 1) := by rfl
theorem zi_203_22 : (zM 203).1[22]? = some (.aload 0) := by rfl
theorem zi_203_23 : (zM 203).1[23]? = some (.getfield 11023) := by rfl
theorem zi_203_24 : (zM 203).1[24]? = some (.iastore) := by rfl
theorem zi_203_25 : (zM 203).1[25]? = some (.aload 0) := by rfl
theorem zi_203_26 : (zM 203).1[26]? = some (.getfield 11240) := by rfl
theorem zi_203_27 : (zM 203).1[27]? = some (.iload 1) := by rfl
theorem zi_203_28 : (zM 203).1[28]? = some (.aload 0) := by rfl
theorem zi_203_29 : (zM 203).1[29]? = some (.getfield 11024) := by rfl
theorem zi_203_30 : (zM 203).1[30]? = some (.iastore) := by rfl
theorem zi_203_31 : (zM 203).1[31]? = some (.iinc 1 1) := by rfl
theorem zi_203_32 : (zM 203).1[32]? = some (.goto ((4 : Nat) : Int)) := by rfl
theorem zi_203_33 : (zM 203).1[33]? = some (.return_) := by rfl
def wl_203_4 (E : Nat → Nat) (d : Nat) (Q : Option Value → ZH → Prop) : Nat → Nat → Int32 → ZH → Prop
  | 0, _, _, _ => False
  | n + 1, a0, a1, h => ztag h a0 = 11 ∧ (((zI h a0 36 : Int32) ≤ a1 → (Q none h)) ∧ (¬ ((zI h a0 36 : Int32) ≤ a1) → (∃ r4 : Nat, zR h a0 37 = r4 + 1 ∧ (ztag h r4 = 13 ∨ ztag h r4 = 19) ∧ zin a1 (zlen h r4) = true ∧ ∃ r6 : Nat, zR h a0 38 = r6 + 1 ∧ (ztag h r6 = 13 ∨ ztag h r6 = 19) ∧ zin a1 (zlen h r6) = true ∧ Ct E d 202 [.ref a0, .int a1, .int (zI h r4 a1.toNatClampNeg), .int (zI h r6 a1.toNatClampNeg)] h (fun v h8 => v = none ∧ ztag h8 a0 = 11 ∧ ∃ r10 : Nat, zR h8 a0 39 = r10 + 1 ∧ ztag h8 r10 = 13 ∧ zin a1 (zlen h8 r10) = true ∧ ∀ h12 : ZH, h12 = (zuI h8 r10 a1.toNatClampNeg (zI h8 a0 23)) → ∃ r13 : Nat, zR h12 a0 40 = r13 + 1 ∧ ztag h12 r13 = 13 ∧ zin a1 (zlen h12 r13) = true ∧ ∀ h15 : ZH, h15 = (zuI h12 r13 a1.toNatClampNeg (zI h12 a0 24)) → ∀ x16 : Int32, x16 = (a1 + 1) → wl_203_4 E d Q n a0 x16 h15))))
set_option maxRecDepth 20000 in
theorem okl_203_4 {E : Nat → Nat} {d : Nat} {Q : Option Value → ZH → Prop} : ∀ (n : Nat) (a0 : Nat) (a1 : Int32) (h : ZH), wl_203_4 E d Q n a0 a1 h → Gx E (d + 1) 203 4 [.ref a0, .int a1] [] h Q := by
  intro n
  induction n with
  | zero => intro a0 a1 h hw; exact hw.elim
  | succ n ih =>
    intro a0 a1 h hw
    rw [wl_203_4] at hw
    refine zg_iload zi_203_4 rfl ?_
    refine zg_aload zi_203_5 rfl ?_
    obtain ⟨t3, hw⟩ := hw
    refine zg_getI (v := .int (zI h a0 36)) zi_203_6 t3 (by rfl) rfl ?_
    refine zg_icmp_ge zi_203_7 (fun hc => ?_) (fun hc => ?_)
    · have hw := hw.1 hc
      exact zg_return zi_203_33 hw
    · have hw := hw.2 hc
      refine zg_aload zi_203_8 rfl ?_
      refine zg_iload zi_203_9 rfl ?_
      refine zg_aload zi_203_10 rfl ?_
      obtain ⟨r4, er4, hw⟩ := hw
      refine zg_getR (v := .ref r4) zi_203_11 t3 (by rfl) (by show zrv (zR h a0 37) = _; rw [er4]; rfl) ?_
      refine zg_iload zi_203_12 rfl ?_
      obtain ⟨t5, hw⟩ := hw
      obtain ⟨hb, hw⟩ := hw
      refine zg_iaload (v := .int (zI h r4 a1.toNatClampNeg)) zi_203_13 t5 hb rfl ?_
      refine zg_aload zi_203_14 rfl ?_
      obtain ⟨r6, er6, hw⟩ := hw
      refine zg_getR (v := .ref r6) zi_203_15 t3 (by rfl) (by show zrv (zR h a0 38) = _; rw [er6]; rfl) ?_
      refine zg_iload zi_203_16 rfl ?_
      obtain ⟨t7, hw⟩ := hw
      obtain ⟨hb, hw⟩ := hw
      refine zg_iaload (v := .int (zI h r6 a1.toNatClampNeg)) zi_203_17 t7 hb rfl ?_
      refine Gx.call2 (as := [.ref a0, .int a1, .int (zI h r4 a1.toNatClampNeg), .int (zI h r6 a1.toNatClampNeg)]) (rest := []) zq_202 zi_203_18 rfl rfl rfl (Nat.le_of_ble_eq_true rfl) (Nat.le_of_ble_eq_true rfl) (zrv_v t3 rfl rfl) (Nat.le_of_ble_eq_true rfl) ?_
      refine Ct.mono hw ?_
      rintro v h8 ⟨rfl, hw⟩
      show Gx E (d + 1) 203 19 [.ref a0, .int a1] [] h8 Q
      refine zg_aload zi_203_19 rfl ?_
      obtain ⟨t9, hw⟩ := hw
      obtain ⟨r10, er10, hw⟩ := hw
      refine zg_getR (v := .ref r10) zi_203_20 t9 (by rfl) (by show zrv (zR h8 a0 39) = _; rw [er10]; rfl) ?_
      refine zg_iload zi_203_21 rfl ?_
      refine zg_aload zi_203_22 rfl ?_
      refine zg_getI (v := .int (zI h8 a0 23)) zi_203_23 t9 (by rfl) rfl ?_
      obtain ⟨t11, hw⟩ := hw
      obtain ⟨hb, hw⟩ := hw
      refine zg_iastore (h1 := zuI h8 r10 a1.toNatClampNeg (zI h8 a0 23)) zi_203_24 t11 hb rfl ?_
      refine zg_nameH fun h12 eh12 => ?_
      have hw := hw h12 eh12
      refine zg_aload zi_203_25 rfl ?_
      obtain ⟨r13, er13, hw⟩ := hw
      refine zg_getR (v := .ref r13) zi_203_26 (by rw [eh12]; exact t9) (by rfl) (by show zrv (zR h12 a0 40) = _; rw [er13]; rfl) ?_
      refine zg_iload zi_203_27 rfl ?_
      refine zg_aload zi_203_28 rfl ?_
      refine zg_getI (v := .int (zI h12 a0 24)) zi_203_29 (by rw [eh12]; exact t9) (by rfl) rfl ?_
      obtain ⟨t14, hw⟩ := hw
      obtain ⟨hb, hw⟩ := hw
      refine zg_iastore (h1 := zuI h12 r13 a1.toNatClampNeg (zI h12 a0 24)) zi_203_30 t14 hb rfl ?_
      refine zg_nameH fun h15 eh15 => ?_
      have hw := hw h15 eh15
      obtain ⟨x16, ex16⟩ : ∃ x : Int32, x = a1 + 1 := ⟨_, rfl⟩
      have hw := hw x16 ex16
      refine zg_iinc (v := x16) (ls1 := [.ref a0, .int x16]) zi_203_31 rfl (by rw [ex16]; rfl) rfl ?_
      refine zg_goto zi_203_32 ?_
      exact ih a0 x16 h15 hw
/-- TakeOrPayModel.layRow()V -/
def w_203 (E : Nat → Nat) (d : Nat) (a0 : Nat) (h : ZH) (Q : Option Value → ZH → Prop) : Prop := ztag h a0 = 11 ∧ Ct E d 201 [.ref a0] h (fun v h2 => v = none ∧ (∃ mm : Nat, wl_203_4 E d Q mm a0 0 h2))
set_option maxRecDepth 20000 in
theorem ok_203 {E : Nat → Nat} {d : Nat} {a0 : Nat} {h : ZH} {Q : Option Value → ZH → Prop} (hw : w_203 E d a0 h Q) : Ct E (d + 1) 203 [.ref a0] h Q := by
  unfold w_203 at hw
  show Gx E (d + 1) 203 0 [.ref a0, .retAddr 0] [] h Q
  refine zg_aload zi_203_0 rfl ?_
  obtain ⟨t1, hw⟩ := hw
  refine Gx.call2 (as := [.ref a0]) (rest := []) zq_201 zi_203_1 rfl rfl rfl (Nat.le_of_ble_eq_true rfl) (Nat.le_of_ble_eq_true rfl) (zrv_v t1 rfl rfl) (Nat.le_of_ble_eq_true rfl) ?_
  refine Ct.mono hw ?_
  rintro v h2 ⟨rfl, hw⟩
  show Gx E (d + 1) 203 2 [.ref a0, .retAddr 0] [] h2 Q
  refine zg_const (v := 0) zi_203_2 (by rfl) ?_
  refine zg_istore (ls1 := [.ref a0, .int 0]) zi_203_3 (Nat.le_of_ble_eq_true rfl) rfl ?_
  obtain ⟨mm, hw⟩ := hw
  exact okl_203_4 mm a0 0 h2 hw
theorem zq_204 : zQ 204 1 2 11 := by unfold zQ; decide +kernel
theorem zi_204_0 : (zM 204).1[0]? = some (.iconst 0) := by rfl
theorem zi_204_1 : (zM 204).1[1]? = some (.istore 1) := by rfl
theorem zi_204_2 : (zM 204).1[2]? = some (.iload 1) := by rfl
theorem zi_204_3 : (zM 204).1[3]? = some (.aload 0) := by rfl
theorem zi_204_4 : (zM 204).1[4]? = some (.getfield 11036) := by rfl
theorem zi_204_5 : (zM 204).1[5]? = some (.if_icmp .ge ((18 : Nat) : Int)) := by rfl
theorem zi_204_6 : (zM 204).1[6]? = some (.aload 0) := by rfl
theorem zi_204_7 : (zM 204).1[7]? = some (.iload 1) := by rfl
theorem zi_204_8 : (zM 204).1[8]? = some (.aload 0) := by rfl
theorem zi_204_9 : (zM 204).1[9]? = some (.getfield 11238) := by rfl
theorem zi_204_10 : (zM 204).1[10]? = some (.iload 1) := by rfl
theorem zi_204_11 : (zM 204).1[11]? = some (.iaload) := by rfl
theorem zi_204_12 : (zM 204).1[12]? = some (.invokevirtual 163) := by rfl
theorem zi_204_13 : (zM 204).1[13]? = some (.ifCond .ne ((16 : Nat) : Int)) := by rfl
theorem zi_204_14 : (zM 204).1[14]? = some (.iload 1) := by rfl
theorem zi_204_15 : (zM 204).1[15]? = some (.ireturn) := by rfl
theorem zi_204_16 : (zM 204).1[16]? = some (.iinc 1 1) := by rfl
theorem zi_204_17 : (zM 204).1[17]? = some (.goto ((2 : Nat) : Int)) := by rfl
theorem zi_204_18 : (zM 204).1[18]? = some (.iconst (-4)) := by rfl
theorem zi_204_19 : (zM 204).1[19]? = some (.ireturn) := by rfl
def wl_204_2 (E : Nat → Nat) (d : Nat) (Q : Option Value → ZH → Prop) : Nat → Nat → Int32 → ZH → Prop
  | 0, _, _, _ => False
  | n + 1, a0, a1, h => ztag h a0 = 11 ∧ (((zI h a0 36 : Int32) ≤ a1 → (Q (some (.int ((-4)))) h)) ∧ (¬ ((zI h a0 36 : Int32) ≤ a1) → (∃ r2 : Nat, zR h a0 38 = r2 + 1 ∧ (ztag h r2 = 13 ∨ ztag h r2 = 19) ∧ zin a1 (zlen h r2) = true ∧ 2 ≤ d ∧ sz_163 E h a0 a1 (zI h r2 a1.toNatClampNeg) ∧ ((¬ (fz_163 E h a0 a1 (zI h r2 a1.toNatClampNeg) : Int32) = 0 → (∀ x4 : Int32, x4 = (a1 + 1) → wl_204_2 E d Q n a0 x4 h)) ∧ (¬ (¬ (fz_163 E h a0 a1 (zI h r2 a1.toNatClampNeg) : Int32) = 0) → (Q (some (.int a1)) h))))))
set_option maxRecDepth 20000 in
theorem okl_204_2 {E : Nat → Nat} {d : Nat} {Q : Option Value → ZH → Prop} : ∀ (n : Nat) (a0 : Nat) (a1 : Int32) (h : ZH), wl_204_2 E d Q n a0 a1 h → Gx E (d + 1) 204 2 [.ref a0, .int a1] [] h Q := by
  intro n
  induction n with
  | zero => intro a0 a1 h hw; exact hw.elim
  | succ n ih =>
    intro a0 a1 h hw
    rw [wl_204_2] at hw
    refine zg_iload zi_204_2 rfl ?_
    refine zg_aload zi_204_3 rfl ?_
    obtain ⟨t1, hw⟩ := hw
    refine zg_getI (v := .int (zI h a0 36)) zi_204_4 t1 (by rfl) rfl ?_
    refine zg_icmp_ge zi_204_5 (fun hc => ?_) (fun hc => ?_)
    · have hw := hw.1 hc
      refine zg_const (v := (-4)) zi_204_18 (by rfl) ?_
      exact zg_ireturn zi_204_19 (by decide) hw
    · have hw := hw.2 hc
      refine zg_aload zi_204_6 rfl ?_
      refine zg_iload zi_204_7 rfl ?_
      refine zg_aload zi_204_8 rfl ?_
      obtain ⟨r2, er2, hw⟩ := hw
      refine zg_getR (v := .ref r2) zi_204_9 t1 (by rfl) (by show zrv (zR h a0 38) = _; rw [er2]; rfl) ?_
      refine zg_iload zi_204_10 rfl ?_
      obtain ⟨t3, hw⟩ := hw
      obtain ⟨hb, hw⟩ := hw
      refine zg_iaload (v := .int (zI h r2 a1.toNatClampNeg)) zi_204_11 t3 hb rfl ?_
      obtain ⟨hd, hs, hw⟩ := hw
      refine Gx.call2 (as := [.ref a0, .int a1, .int (zI h r2 a1.toNatClampNeg)]) (rest := []) zq_163 zi_204_12 rfl rfl rfl (Nat.le_of_ble_eq_true rfl) (Nat.le_of_ble_eq_true rfl) (zrv_v t1 rfl rfl) (Nat.le_of_ble_eq_true rfl) ?_
      refine cz_163 hd hs ?_
      show Gx E (d + 1) 204 13 [.ref a0, .int a1] [.int (fz_163 E h a0 a1 (zI h r2 a1.toNatClampNeg))] h Q
      refine zg_if_ne zi_204_13 (fun hc => ?_) (fun hc => ?_)
      · have hw := hw.1 hc
        obtain ⟨x4, ex4⟩ : ∃ x : Int32, x = a1 + 1 := ⟨_, rfl⟩
        have hw := hw x4 ex4
        refine zg_iinc (v := x4) (ls1 := [.ref a0, .int x4]) zi_204_16 rfl (by rw [ex4]; rfl) rfl ?_
        refine zg_goto zi_204_17 ?_
        exact ih a0 x4 h hw
      · have hw := hw.2 hc
        refine zg_iload zi_204_14 rfl ?_
        exact zg_ireturn zi_204_15 (by decide) hw
/-- TakeOrPayModel.firstWrong()I -/
def w_204 (E : Nat → Nat) (d : Nat) (a0 : Nat) (h : ZH) (Q : Option Value → ZH → Prop) : Prop := ∃ mm : Nat, wl_204_2 E d Q mm a0 0 h
set_option maxRecDepth 20000 in
theorem ok_204 {E : Nat → Nat} {d : Nat} {a0 : Nat} {h : ZH} {Q : Option Value → ZH → Prop} (hw : w_204 E d a0 h Q) : Ct E (d + 1) 204 [.ref a0] h Q := by
  unfold w_204 at hw
  show Gx E (d + 1) 204 0 [.ref a0, .retAddr 0] [] h Q
  refine zg_const (v := 0) zi_204_0 (by rfl) ?_
  refine zg_istore (ls1 := [.ref a0, .int 0]) zi_204_1 (Nat.le_of_ble_eq_true rfl) rfl ?_
  obtain ⟨mm, hw⟩ := hw
  exact okl_204_2 mm a0 0 h hw
theorem zq_205 : zQ 205 2 2 11 := by unfold zQ; decide +kernel
theorem zi_205_0 : (zM 205).1[0]? = some (.aload 0) := by rfl
theorem zi_205_1 : (zM 205).1[1]? = some (.invokevirtual 203) := by rfl
theorem zi_205_2 : (zM 205).1[2]? = some (.iload 1) := by rfl
theorem zi_205_3 : (zM 205).1[3]? = some (.tableswitch 28 0 7 #[4, 7, 10, 13, 16, 19, 22, 25]) := by rfl
theorem zi_205_4 : (zM 205).1[4]? = some (.aload 0) := by rfl
theorem zi_205_5 : (zM 205).1[5]? = some (.getfield 11036) := by rfl
theorem zi_205_6 : (zM 205).1[6]? = some (.ireturn) := by rfl
theorem zi_205_7 : (zM 205).1[7]? = some (.aload 0) := by rfl
theorem zi_205_8 : (zM 205).1[8]? = some (.invokevirtual 204) := by rfl
theorem zi_205_9 : (zM 205).1[9]? = some (.ireturn) := by rfl
theorem zi_205_10 : (zM 205).1[10]? = some (.aload 0) := by rfl
theorem zi_205_11 : (zM 205).1[11]? = some (.getfield 11041) := by rfl
theorem zi_205_12 : (zM 205).1[12]? = some (.ireturn) := by rfl
theorem zi_205_13 : (zM 205).1[13]? = some (.aload 0) := by rfl
theorem zi_205_14 : (zM 205).1[14]? = some (.getfield 11042) := by rfl
theorem zi_205_15 : (zM 205).1[15]? = some (.ireturn) := by rfl
theorem zi_205_16 : (zM 205).1[16]? = some (.aload 0) := by rfl
theorem zi_205_17 : (zM 205).1[17]? = some (.getfield 11043) := by rfl
theorem zi_205_18 : (zM 205).1[18]? = some (.ireturn) := by rfl
theorem zi_205_19 : (zM 205).1[19]? = some (.aload 0) := by rfl
theorem zi_205_20 : (zM 205).1[20]? = some (.getfield 11044) := by rfl
theorem zi_205_21 : (zM 205).1[21]? = some (.ireturn) := by rfl
theorem zi_205_22 : (zM 205).1[22]? = some (.aload 0) := by rfl
theorem zi_205_23 : (zM 205).1[23]? = some (.getfield 11045) := by rfl
theorem zi_205_24 : (zM 205).1[24]? = some (.ireturn) := by rfl
theorem zi_205_25 : (zM 205).1[25]? = some (.aload 0) := by rfl
theorem zi_205_26 : (zM 205).1[26]? = some (.getfield 11046) := by rfl
theorem zi_205_27 : (zM 205).1[27]? = some (.ireturn) := by rfl
theorem zi_205_28 : (zM 205).1[28]? = some (.iconst (-1000000)) := by rfl
theorem zi_205_29 : (zM 205).1[29]? = some (.ireturn) := by rfl
set_option maxRecDepth 20000 in
theorem zsl_205_3 : ∀ z : Int, ¬ (z < 0 ∨ 7 < z) → ¬ z = 0 → ¬ z = 1 → ¬ z = 2 → ¬ z = 3 → ¬ z = 4 → ¬ z = 5 → ¬ z = 6 →  z = 7 := by intros; omega
/-- TakeOrPayModel.row(I)I -/
def w_205 (E : Nat → Nat) (d : Nat) (a0 : Nat) (a1 : Int32) (h : ZH) (Q : Option Value → ZH → Prop) : Prop := ztag h a0 = 11 ∧ Ct E d 203 [.ref a0] h (fun v h2 => v = none ∧ (((a1.toInt < 0 ∨ 7 < a1.toInt) → (Q (some (.int ((-1000000)))) h2)) ∧ (a1.toInt = 0 → (ztag h2 a0 = 11 ∧ Q (some (.int (zI h2 a0 36))) h2)) ∧ (a1.toInt = 1 → (ztag h2 a0 = 11 ∧ Ct E d 204 [.ref a0] h2 (fun v h5 => ∃ x6 : Int32, v = some (.int x6) ∧ Q (some (.int x6)) h5))) ∧ (a1.toInt = 2 → (ztag h2 a0 = 11 ∧ Q (some (.int (zI h2 a0 41))) h2)) ∧ (a1.toInt = 3 → (ztag h2 a0 = 11 ∧ Q (some (.int (zI h2 a0 42))) h2)) ∧ (a1.toInt = 4 → (ztag h2 a0 = 11 ∧ Q (some (.int (zI h2 a0 43))) h2)) ∧ (a1.toInt = 5 → (ztag h2 a0 = 11 ∧ Q (some (.int (zI h2 a0 44))) h2)) ∧ (a1.toInt = 6 → (ztag h2 a0 = 11 ∧ Q (some (.int (zI h2 a0 45))) h2)) ∧ (a1.toInt = 7 → (ztag h2 a0 = 11 ∧ Q (some (.int (zI h2 a0 46))) h2))))
set_option maxRecDepth 20000 in
theorem ok_205 {E : Nat → Nat} {d : Nat} {a0 : Nat} {a1 : Int32} {h : ZH} {Q : Option Value → ZH → Prop} (hw : w_205 E d a0 a1 h Q) : Ct E (d + 1) 205 [.ref a0, .int a1] h Q := by
  unfold w_205 at hw
  show Gx E (d + 1) 205 0 [.ref a0, .int a1] [] h Q
  refine zg_aload zi_205_0 rfl ?_
  obtain ⟨t1, hw⟩ := hw
  refine Gx.call2 (as := [.ref a0]) (rest := []) zq_203 zi_205_1 rfl rfl rfl (Nat.le_of_ble_eq_true rfl) (Nat.le_of_ble_eq_true rfl) (zrv_v t1 rfl rfl) (Nat.le_of_ble_eq_true rfl) ?_
  refine Ct.mono hw ?_
  rintro v h2 ⟨rfl, hw⟩
  show Gx E (d + 1) 205 2 [.ref a0, .int a1] [] h2 Q
  refine zg_iload zi_205_2 rfl ?_
  by_cases ho : a1.toInt < 0 ∨ 7 < a1.toInt
  · have hw := hw.1 ho
    refine zg_switch (t := 28) zi_205_3 (by unfold zsw; rw [if_pos ho]; rfl) ?_
    refine zg_const (v := (-1000000)) zi_205_28 (by rfl) ?_
    exact zg_ireturn zi_205_29 (by decide) hw
  have hw := hw.2
  by_cases hv0 : a1.toInt = 0
  · have hw := hw.1 hv0
    refine zg_switch (t := 4) zi_205_3 (by rw [hv0]; rfl) ?_
    refine zg_aload zi_205_4 rfl ?_
    obtain ⟨t3, hw⟩ := hw
    refine zg_getI (v := .int (zI h2 a0 36)) zi_205_5 t3 (by rfl) rfl ?_
    exact zg_ireturn zi_205_6 (by decide) hw
  have hw := hw.2
  by_cases hv1 : a1.toInt = 1
  · have hw := hw.1 hv1
    refine zg_switch (t := 7) zi_205_3 (by rw [hv1]; rfl) ?_
    refine zg_aload zi_205_7 rfl ?_
    obtain ⟨t4, hw⟩ := hw
    refine Gx.call2 (as := [.ref a0]) (rest := []) zq_204 zi_205_8 rfl rfl rfl (Nat.le_of_ble_eq_true rfl) (Nat.le_of_ble_eq_true rfl) (zrv_v t4 rfl rfl) (Nat.le_of_ble_eq_true rfl) ?_
    refine Ct.mono hw ?_
    rintro v h5 ⟨x6, rfl, hw⟩
    show Gx E (d + 1) 205 9 [.ref a0, .int a1] [.int x6] h5 Q
    exact zg_ireturn zi_205_9 (by decide) hw
  have hw := hw.2
  by_cases hv2 : a1.toInt = 2
  · have hw := hw.1 hv2
    refine zg_switch (t := 10) zi_205_3 (by rw [hv2]; rfl) ?_
    refine zg_aload zi_205_10 rfl ?_
    obtain ⟨t7, hw⟩ := hw
    refine zg_getI (v := .int (zI h2 a0 41)) zi_205_11 t7 (by rfl) rfl ?_
    exact zg_ireturn zi_205_12 (by decide) hw
  have hw := hw.2
  by_cases hv3 : a1.toInt = 3
  · have hw := hw.1 hv3
    refine zg_switch (t := 13) zi_205_3 (by rw [hv3]; rfl) ?_
    refine zg_aload zi_205_13 rfl ?_
    obtain ⟨t8, hw⟩ := hw
    refine zg_getI (v := .int (zI h2 a0 42)) zi_205_14 t8 (by rfl) rfl ?_
    exact zg_ireturn zi_205_15 (by decide) hw
  have hw := hw.2
  by_cases hv4 : a1.toInt = 4
  · have hw := hw.1 hv4
    refine zg_switch (t := 16) zi_205_3 (by rw [hv4]; rfl) ?_
    refine zg_aload zi_205_16 rfl ?_
    obtain ⟨t9, hw⟩ := hw
    refine zg_getI (v := .int (zI h2 a0 43)) zi_205_17 t9 (by rfl) rfl ?_
    exact zg_ireturn zi_205_18 (by decide) hw
  have hw := hw.2
  by_cases hv5 : a1.toInt = 5
  · have hw := hw.1 hv5
    refine zg_switch (t := 19) zi_205_3 (by rw [hv5]; rfl) ?_
    refine zg_aload zi_205_19 rfl ?_
    obtain ⟨t10, hw⟩ := hw
    refine zg_getI (v := .int (zI h2 a0 44)) zi_205_20 t10 (by rfl) rfl ?_
    exact zg_ireturn zi_205_21 (by decide) hw
  have hw := hw.2
  by_cases hv6 : a1.toInt = 6
  · have hw := hw.1 hv6
    refine zg_switch (t := 22) zi_205_3 (by rw [hv6]; rfl) ?_
    refine zg_aload zi_205_22 rfl ?_
    obtain ⟨t11, hw⟩ := hw
    refine zg_getI (v := .int (zI h2 a0 45)) zi_205_23 t11 (by rfl) rfl ?_
    exact zg_ireturn zi_205_24 (by decide) hw
  have hw := hw.2
  have hv7 : a1.toInt = 7 := zsl_205_3 _ ho hv0 hv1 hv2 hv3 hv4 hv5 hv6
  have hw := hw hv7
  refine zg_switch (t := 25) zi_205_3 (by rw [hv7]; rfl) ?_
  refine zg_aload zi_205_25 rfl ?_
  obtain ⟨t12, hw⟩ := hw
  refine zg_getI (v := .int (zI h2 a0 46)) zi_205_26 t12 (by rfl) rfl ?_
  exact zg_ireturn zi_205_27 (by decide) hw
theorem zq_206 : zQ 206 3 3 11 := by unfold zQ; decide +kernel
theorem zi_206_0 : (zM 206).1[0]? = some (.iload 1) := by rfl
theorem zi_206_1 : (zM 206).1[1]? = some (.i2l) := by rfl
theorem zi_206_2 : (zM 206).1[2]? = some (.jsr_w 0) := by rfl
theorem zi_206_3 : (zM 206).1[3]? = some (.aload 0) := by rfl
theorem zi_206_4 : (zM 206).1[4]? = some (.getfield 11036) := by rfl
theorem zi_206_5 : (zM 206).1[5]? = some (.iconst 1) := by rfl
theorem zi_206_6 : (zM 206).1[6]? = some (.isub) := by rfl
theorem zi_206_7 : (zM 206).1[7]? = some (.i2l) := by rfl
theorem zi_206_8 : (zM 206).1[8]? = some (.invokestatic 135) := by rfl
theorem zi_206_9 : (zM 206).1[9]? = some (.ifCond .eq ((16 : Nat) : Int)) := by rfl
theorem zi_206_10 : (zM 206).1[10]? = some (.iload 2) := by rfl
theorem zi_206_11 : (zM 206).1[11]? = some (.i2l) := by rfl
theorem zi_206_12 : (zM 206).1[12]? = some (.jsr_w 0) := by rfl
theorem zi_206_13 : (zM 206).1[13]? = some (.jsr_w 3) := by rfl
theorem zi_206_14 : (zM 206).1[14]? = some (.invokestatic 135) := by rfl
theorem zi_206_15 : (zM 206).1[15]? = some (.ifCond .ne ((18 : Nat) : Int)) := by rfl
theorem zi_206_16 : (zM 206).1[16]? = some (.iconst (-1)) := by rfl
theorem zi_206_17 : (zM 206).1[17]? = some (.ireturn) := by rfl
theorem zi_206_18 : (zM 206).1[18]? = some (.aload 0) := by rfl
theorem zi_206_19 : (zM 206).1[19]? = some (.invokevirtual 203) := by rfl
theorem zi_206_20 : (zM 206).1[20]? = some (.iload 2) := by rfl
theorem zi_206_21 : (zM 206).1[21]? = some (.ifCond .ne ((27 : Nat) : Int)) := by rfl
theorem zi_206_22 : (zM 206).1[22]? = some (.aload 0) := by rfl
theorem zi_206_23 : (zM 206).1[23]? = some (.getfield 11237) := by rfl
theorem zi_206_24 : (zM 206).1[24]? = some (.iload 1) := by rfl
theorem zi_206_25 : (zM 206).1[25]? = some (.iaload) := by rfl
theorem zi_206_26 : (zM 206).1[26]? = some (.goto ((47 : Nat) : Int)) := by rfl
theorem zi_206_27 : (zM 206).1[27]? = some (.iload 2) := by rfl
theorem zi_206_28 : (zM 206).1[28]? = some (.iconst 1) := by rfl
theorem zi_206_29 : (zM 206).1[29]? = some (.if_icmp .ne ((35 : Nat) : Int)) := by rfl
theorem zi_206_30 : (zM 206).1[30]? = some (.aload 0) := by rfl
theorem zi_206_31 : (zM 206).1[31]? = some (.getfield 11238) := by rfl
theorem zi_206_32 : (zM 206).1[32]? = some (.iload 1) := by rfl
theorem zi_206_33 : (zM 206).1[33]? = some (.iaload) := by rfl
theorem zi_206_34 : (zM 206).1[34]? = some (.goto ((47 : Nat) : Int)) := by rfl
theorem zi_206_35 : (zM 206).1[35]? = some (.iload 2) := by rfl
theorem zi_206_36 : (zM 206).1[36]? = some (.iconst 2) := by rfl
theorem zi_206_37 : (zM 206).1[37]? = some (.if_icmp .ne ((43 : Nat) : Int)) := by rfl
theorem zi_206_38 : (zM 206).1[38]? = some (.aload 0) := by rfl
theorem zi_206_39 : (zM 206).1[39]? = some (.getfield 11239) := by rfl
theorem zi_206_40 : (zM 206).1[40]? = some (.iload 1) := by rfl
theorem zi_206_41 : (zM 206).1[41]? = some (.iaload) := by rfl
theorem zi_206_42 : (zM 206).1[42]? = some (.goto ((47 : Nat) : Int)) := by rfl
theorem zi_206_43 : (zM 206).1[43]? = some (.aload 0) := by rfl
theorem zi_206_44 : (zM 206).1[44]? = some (.getfield 11240) := by rfl
theorem zi_206_45 : (zM 206).1[45]? = some (.iload 1) := by rfl
theorem zi_206_46 : (zM 206).1[46]? = some (.iaload) := by rfl
theorem zi_206_47 : (zM 206).1[47]? = some (.ireturn) := by rfl
/-- TakeOrPayModel.rowOf(II)I -/
def w_206 (E : Nat → Nat) (d : Nat) (a0 : Nat) (a1 : Int32) (a2 : Int32) (h : ZH) (Q : Option Value → ZH → Prop) : Prop := ztag h a0 = 11 ∧ 1 ≤ d ∧ sz_135 E h a1.toInt64 0 (((zI h a0 36) - 1 : Int32).toInt64) ∧ (((fz_135 E h a1.toInt64 0 (((zI h a0 36) - 1 : Int32).toInt64) : Int32) = 0 → (Q (some (.int ((-1)))) h)) ∧ (¬ ((fz_135 E h a1.toInt64 0 (((zI h a0 36) - 1 : Int32).toInt64) : Int32) = 0) → (1 ≤ d ∧ sz_135 E h a2.toInt64 0 3 ∧ ((¬ (fz_135 E h a2.toInt64 0 3 : Int32) = 0 → (Ct E d 203 [.ref a0] h (fun v h2 => v = none ∧ (((¬ a2 = 0 → (((¬ a2 = 1 → (((¬ a2 = 2 → (ztag h2 a0 = 11 ∧ ¬ zR h2 a0 40 = 0 ∧ (ztag h2 (zR h2 a0 40 - 1) = 13 ∨ ztag h2 (zR h2 a0 40 - 1) = 19) ∧ zin a1 (zlen h2 (zR h2 a0 40 - 1)) = true ∧ True)) ∧ (¬ (¬ a2 = 2) → (ztag h2 a0 = 11 ∧ ¬ zR h2 a0 39 = 0 ∧ (ztag h2 (zR h2 a0 39 - 1) = 13 ∨ ztag h2 (zR h2 a0 39 - 1) = 19) ∧ zin a1 (zlen h2 (zR h2 a0 39 - 1)) = true ∧ True))) ∧ True)) ∧ (¬ (¬ a2 = 1) → (ztag h2 a0 = 11 ∧ ¬ zR h2 a0 38 = 0 ∧ (ztag h2 (zR h2 a0 38 - 1) = 13 ∨ ztag h2 (zR h2 a0 38 - 1) = 19) ∧ zin a1 (zlen h2 (zR h2 a0 38 - 1)) = true ∧ True))) ∧ True)) ∧ (¬ (¬ a2 = 0) → (ztag h2 a0 = 11 ∧ ¬ zR h2 a0 37 = 0 ∧ (ztag h2 (zR h2 a0 37 - 1) = 13 ∨ ztag h2 (zR h2 a0 37 - 1) = 19) ∧ zin a1 (zlen h2 (zR h2 a0 37 - 1)) = true ∧ True))) ∧ Q (some (.int (if ¬ a2 = 0 then if ¬ a2 = 1 then if ¬ a2 = 2 then zI h2 (zR h2 a0 40 - 1) a1.toNatClampNeg else zI h2 (zR h2 a0 39 - 1) a1.toNatClampNeg else zI h2 (zR h2 a0 38 - 1) a1.toNatClampNeg else zI h2 (zR h2 a0 37 - 1) a1.toNatClampNeg))) h2)))) ∧ (¬ (¬ (fz_135 E h a2.toInt64 0 3 : Int32) = 0) → (Q (some (.int ((-1)))) h))))))
set_option maxRecDepth 20000 in
theorem ok_206 {E : Nat → Nat} {d : Nat} {a0 : Nat} {a1 : Int32} {a2 : Int32} {h : ZH} {Q : Option Value → ZH → Prop} (hw : w_206 E d a0 a1 a2 h Q) : Ct E (d + 1) 206 [.ref a0, .int a1, .int a2] h Q := by
  unfold w_206 at hw
  show Gx E (d + 1) 206 0 [.ref a0, .int a1, .int a2] [] h Q
  refine zg_iload zi_206_0 rfl ?_
  refine zg_i2l zi_206_1 ?_
  refine zg_lconst (v := 0) zi_206_2 (by rfl) ?_
  refine zg_aload zi_206_3 rfl ?_
  obtain ⟨t1, hw⟩ := hw
  refine zg_getI (v := .int (zI h a0 36)) zi_206_4 t1 (by rfl) rfl ?_
  refine zg_const (v := 1) zi_206_5 (by rfl) ?_
  refine zg_isub zi_206_6 ?_
  refine zg_i2l zi_206_7 ?_
  obtain ⟨hd, hs, hw⟩ := hw
  refine Gx.call2 (as := [.long a1.toInt64, .long 0, .long (((zI h a0 36) - 1 : Int32).toInt64)]) (rest := []) zq_135 zi_206_8 rfl rfl rfl (Nat.le_of_ble_eq_true rfl) (Nat.le_of_ble_eq_true rfl) (rfl) (Nat.le_of_ble_eq_true rfl) ?_
  refine cz_135 hd hs ?_
  show Gx E (d + 1) 206 9 [.ref a0, .int a1, .int a2] [.int (fz_135 E h a1.toInt64 0 (((zI h a0 36) - 1 : Int32).toInt64))] h Q
  refine zg_if_eq zi_206_9 (fun hc => ?_) (fun hc => ?_)
  · have hw := hw.1 hc
    refine zg_const (v := (-1)) zi_206_16 (by rfl) ?_
    exact zg_ireturn zi_206_17 (by decide) hw
  · have hw := hw.2 hc
    refine zg_iload zi_206_10 rfl ?_
    refine zg_i2l zi_206_11 ?_
    refine zg_lconst (v := 0) zi_206_12 (by rfl) ?_
    refine zg_lconst (v := 3) zi_206_13 (by rfl) ?_
    obtain ⟨hd, hs, hw⟩ := hw
    refine Gx.call2 (as := [.long a2.toInt64, .long 0, .long 3]) (rest := []) zq_135 zi_206_14 rfl rfl rfl (Nat.le_of_ble_eq_true rfl) (Nat.le_of_ble_eq_true rfl) (rfl) (Nat.le_of_ble_eq_true rfl) ?_
    refine cz_135 hd hs ?_
    show Gx E (d + 1) 206 15 [.ref a0, .int a1, .int a2] [.int (fz_135 E h a2.toInt64 0 3)] h Q
    refine zg_if_ne zi_206_15 (fun hc => ?_) (fun hc => ?_)
    · have hw := hw.1 hc
      refine zg_aload zi_206_18 rfl ?_
      refine Gx.call2 (as := [.ref a0]) (rest := []) zq_203 zi_206_19 rfl rfl rfl (Nat.le_of_ble_eq_true rfl) (Nat.le_of_ble_eq_true rfl) (zrv_v t1 rfl rfl) (Nat.le_of_ble_eq_true rfl) ?_
      refine Ct.mono hw ?_
      rintro v h2 ⟨rfl, hw⟩
      show Gx E (d + 1) 206 20 [.ref a0, .int a1, .int a2] [] h2 Q
      refine zg_iload zi_206_20 rfl ?_
      obtain ⟨hsd21, hw⟩ := hw
      have g21 : Gx E (d + 1) 206 47 [.ref a0, .int a1, .int a2] [.int (if ¬ a2 = 0 then if ¬ a2 = 1 then if ¬ a2 = 2 then zI h2 (zR h2 a0 40 - 1) a1.toNatClampNeg else zI h2 (zR h2 a0 39 - 1) a1.toNatClampNeg else zI h2 (zR h2 a0 38 - 1) a1.toNatClampNeg else zI h2 (zR h2 a0 37 - 1) a1.toNatClampNeg)] h2 Q := by
        exact zg_ireturn zi_206_47 (by decide) hw
      refine zg_if_ne zi_206_21 (fun hc21 => ?_) (fun hc21 => ?_)
      · have hw := hsd21.1 hc21
        refine zg_iload zi_206_27 rfl ?_
        refine zg_const (v := 1) zi_206_28 (by rfl) ?_
        obtain ⟨hsd29, hw⟩ := hw
        have g29 : Gx E (d + 1) 206 47 [.ref a0, .int a1, .int a2] [.int (if ¬ a2 = 1 then if ¬ a2 = 2 then zI h2 (zR h2 a0 40 - 1) a1.toNatClampNeg else zI h2 (zR h2 a0 39 - 1) a1.toNatClampNeg else zI h2 (zR h2 a0 38 - 1) a1.toNatClampNeg)] h2 Q := by
          have hg := g21
          simp only [if_pos hc21] at hg
          exact hg
        refine zg_icmp_ne zi_206_29 (fun hc29 => ?_) (fun hc29 => ?_)
        · have hw := hsd29.1 hc29
          refine zg_iload zi_206_35 rfl ?_
          refine zg_const (v := 2) zi_206_36 (by rfl) ?_
          obtain ⟨hsd37, hw⟩ := hw
          have g37 : Gx E (d + 1) 206 47 [.ref a0, .int a1, .int a2] [.int (if ¬ a2 = 2 then zI h2 (zR h2 a0 40 - 1) a1.toNatClampNeg else zI h2 (zR h2 a0 39 - 1) a1.toNatClampNeg)] h2 Q := by
            have hg := g29
            simp only [if_pos hc29] at hg
            exact hg
          refine zg_icmp_ne zi_206_37 (fun hc37 => ?_) (fun hc37 => ?_)
          · have hw := hsd37.1 hc37
            refine zg_aload zi_206_43 rfl ?_
            obtain ⟨t3, hw⟩ := hw
            obtain ⟨hr, hw⟩ := hw
            refine zg_getR (v := .ref (zR h2 a0 40 - 1)) zi_206_44 t3 (by rfl) (zrv_p hr) ?_
            refine zg_iload zi_206_45 rfl ?_
            obtain ⟨t4, hw⟩ := hw
            obtain ⟨hb, hw⟩ := hw
            refine zg_iaload (v := .int (zI h2 (zR h2 a0 40 - 1) a1.toNatClampNeg)) zi_206_46 t4 hb rfl ?_
            have hg := g37
            simp only [if_pos hc37] at hg
            exact hg
          · have hw := hsd37.2 hc37
            refine zg_aload zi_206_38 rfl ?_
            obtain ⟨t5, hw⟩ := hw
            obtain ⟨hr, hw⟩ := hw
            refine zg_getR (v := .ref (zR h2 a0 39 - 1)) zi_206_39 t5 (by rfl) (zrv_p hr) ?_
            refine zg_iload zi_206_40 rfl ?_
            obtain ⟨t6, hw⟩ := hw
            obtain ⟨hb, hw⟩ := hw
            refine zg_iaload (v := .int (zI h2 (zR h2 a0 39 - 1) a1.toNatClampNeg)) zi_206_41 t6 hb rfl ?_
            refine zg_goto zi_206_42 ?_
            have hg := g37
            simp only [if_neg hc37] at hg
            exact hg
        · have hw := hsd29.2 hc29
          refine zg_aload zi_206_30 rfl ?_
          obtain ⟨t7, hw⟩ := hw
          obtain ⟨hr, hw⟩ := hw
          refine zg_getR (v := .ref (zR h2 a0 38 - 1)) zi_206_31 t7 (by rfl) (zrv_p hr) ?_
          refine zg_iload zi_206_32 rfl ?_
          obtain ⟨t8, hw⟩ := hw
          obtain ⟨hb, hw⟩ := hw
          refine zg_iaload (v := .int (zI h2 (zR h2 a0 38 - 1) a1.toNatClampNeg)) zi_206_33 t8 hb rfl ?_
          refine zg_goto zi_206_34 ?_
          have hg := g29
          simp only [if_neg hc29] at hg
          exact hg
      · have hw := hsd21.2 hc21
        refine zg_aload zi_206_22 rfl ?_
        obtain ⟨t9, hw⟩ := hw
        obtain ⟨hr, hw⟩ := hw
        refine zg_getR (v := .ref (zR h2 a0 37 - 1)) zi_206_23 t9 (by rfl) (zrv_p hr) ?_
        refine zg_iload zi_206_24 rfl ?_
        obtain ⟨t10, hw⟩ := hw
        obtain ⟨hb, hw⟩ := hw
        refine zg_iaload (v := .int (zI h2 (zR h2 a0 37 - 1) a1.toNatClampNeg)) zi_206_25 t10 hb rfl ?_
        refine zg_goto zi_206_26 ?_
        have hg := g21
        simp only [if_neg hc21] at hg
        exact hg
    · have hw := hw.2 hc
      refine zg_const (v := (-1)) zi_206_16 (by rfl) ?_
      exact zg_ireturn zi_206_17 (by decide) hw
theorem zq_207 : zQ 207 2 2 11 := by unfold zQ; decide +kernel
theorem zi_207_0 : (zM 207).1[0]? = some (.aload 0) := by rfl
theorem zi_207_1 : (zM 207).1[1]? = some (.getfield 11215) := by rfl
theorem zi_207_2 : (zM 207).1[2]? = some (.iconst 12) := by rfl
theorem zi_207_3 : (zM 207).1[3]? = some (.iaload) := by rfl
theorem zi_207_4 : (zM 207).1[4]? = some (.ifCond .ne ((10 : Nat) : Int)) := by rfl
theorem zi_207_5 : (zM 207).1[5]? = some (.aload 0) := by rfl
theorem zi_207_6 : (zM 207).1[6]? = some (.getfield 11237) := by rfl
theorem zi_207_7 : (zM 207).1[7]? = some (.iload 1) := by rfl
theorem zi_207_8 : (zM 207).1[8]? = some (.iaload) := by rfl
theorem zi_207_9 : (zM 207).1[9]? = some (.goto ((23 : Nat) : Int)) := by rfl
theorem zi_207_10 : (zM 207).1[10]? = some (.iload 1) := by rfl
theorem zi_207_11 : (zM 207).1[11]? = some (.ifCond .ne ((17 : Nat) : Int)) := by rfl
theorem zi_207_12 : (zM 207).1[12]? = some (.aload 0) := by rfl
theorem zi_207_13 : (zM 207).1[13]? = some (.getfield 11215) := by rfl
theorem zi_207_14 : (zM 207).1[14]? = some (.iconst 15) := by rfl
theorem zi_207_15 : (zM 207).1[15]? = some (.iaload) := by rfl
theorem zi_207_16 : (zM 207).1[16]? = some (.goto ((23 : Nat) : Int)) := by rfl
theorem zi_207_17 : (zM 207).1[17]? = some (.aload 0) := by rfl
theorem zi_207_18 : (zM 207).1[18]? = some (.getfield 11237) := by rfl
theorem zi_207_19 : (zM 207).1[19]? = some (.iload 1) := by rfl
theorem zi_207_20 : (zM 207).1[20]? = some (.iconst 1) := by rfl
theorem zi_207_21 : (zM 207).1[21]? = some (.isub) := by rfl
theorem zi_207_22 : (zM 207).1[22]? = some (.iaload) := by rfl
theorem zi_207_23 : (zM 207).1[23]? = some (.ireturn) := by rfl
/-- TakeOrPayModel.known(I)I -/
def w_207 (E : Nat → Nat) (d : Nat) (a0 : Nat) (a1 : Int32) (h : ZH) (Q : Option Value → ZH → Prop) : Prop := ztag h a0 = 11 ∧ ∃ r2 : Nat, zR h a0 15 = r2 + 1 ∧ (ztag h r2 = 13 ∨ ztag h r2 = 19) ∧ zin 12 (zlen h r2) = true ∧ (((¬ (zI h r2 12 : Int32) = 0 → (((¬ a1 = 0 → (¬ zR h a0 37 = 0 ∧ (ztag h (zR h a0 37 - 1) = 13 ∨ ztag h (zR h a0 37 - 1) = 19) ∧ zin (a1 - 1) (zlen h (zR h a0 37 - 1)) = true ∧ True)) ∧ (¬ (¬ a1 = 0) → (zin 15 (zlen h r2) = true ∧ True))) ∧ True)) ∧ (¬ (¬ (zI h r2 12 : Int32) = 0) → (¬ zR h a0 37 = 0 ∧ (ztag h (zR h a0 37 - 1) = 13 ∨ ztag h (zR h a0 37 - 1) = 19) ∧ zin a1 (zlen h (zR h a0 37 - 1)) = true ∧ True))) ∧ Q (some (.int (if ¬ (zI h r2 12 : Int32) = 0 then if ¬ a1 = 0 then zI h (zR h a0 37 - 1) (a1 - 1 : Int32).toNatClampNeg else zI h r2 15 else zI h (zR h a0 37 - 1) a1.toNatClampNeg))) h)
set_option maxRecDepth 20000 in
theorem ok_207 {E : Nat → Nat} {d : Nat} {a0 : Nat} {a1 : Int32} {h : ZH} {Q : Option Value → ZH → Prop} (hw : w_207 E d a0 a1 h Q) : Ct E (d + 1) 207 [.ref a0, .int a1] h Q := by
  unfold w_207 at hw
  show Gx E (d + 1) 207 0 [.ref a0, .int a1] [] h Q
  refine zg_aload zi_207_0 rfl ?_
  obtain ⟨t1, hw⟩ := hw
  obtain ⟨r2, er2, hw⟩ := hw
  refine zg_getR (v := .ref r2) zi_207_1 t1 (by rfl) (by show zrv (zR h a0 15) = _; rw [er2]; rfl) ?_
  refine zg_const (v := 12) zi_207_2 (by rfl) ?_
  obtain ⟨t3, hw⟩ := hw
  obtain ⟨hb, hw⟩ := hw
  refine zg_iaload (v := .int (zI h r2 12)) zi_207_3 t3 hb rfl ?_
  obtain ⟨hsd4, hw⟩ := hw
  have g4 : Gx E (d + 1) 207 23 [.ref a0, .int a1] [.int (if ¬ (zI h r2 12 : Int32) = 0 then if ¬ a1 = 0 then zI h (zR h a0 37 - 1) (a1 - 1 : Int32).toNatClampNeg else zI h r2 15 else zI h (zR h a0 37 - 1) a1.toNatClampNeg)] h Q := by
    exact zg_ireturn zi_207_23 (by decide) hw
  refine zg_if_ne zi_207_4 (fun hc4 => ?_) (fun hc4 => ?_)
  · have hw := hsd4.1 hc4
    refine zg_iload zi_207_10 rfl ?_
    obtain ⟨hsd11, hw⟩ := hw
    have g11 : Gx E (d + 1) 207 23 [.ref a0, .int a1] [.int (if ¬ a1 = 0 then zI h (zR h a0 37 - 1) (a1 - 1 : Int32).toNatClampNeg else zI h r2 15)] h Q := by
      have hg := g4
      simp only [if_pos hc4] at hg
      exact hg
    refine zg_if_ne zi_207_11 (fun hc11 => ?_) (fun hc11 => ?_)
    · have hw := hsd11.1 hc11
      refine zg_aload zi_207_17 rfl ?_
      obtain ⟨hr, hw⟩ := hw
      refine zg_getR (v := .ref (zR h a0 37 - 1)) zi_207_18 t1 (by rfl) (zrv_p hr) ?_
      refine zg_iload zi_207_19 rfl ?_
      refine zg_const (v := 1) zi_207_20 (by rfl) ?_
      refine zg_isub zi_207_21 ?_
      obtain ⟨t4, hw⟩ := hw
      obtain ⟨hb, hw⟩ := hw
      refine zg_iaload (v := .int (zI h (zR h a0 37 - 1) (a1 - 1 : Int32).toNatClampNeg)) zi_207_22 t4 hb rfl ?_
      have hg := g11
      simp only [if_pos hc11] at hg
      exact hg
    · have hw := hsd11.2 hc11
      refine zg_aload zi_207_12 rfl ?_
      refine zg_getR (v := .ref r2) zi_207_13 t1 (by rfl) (by show zrv (zR h a0 15) = _; rw [er2]; rfl) ?_
      refine zg_const (v := 15) zi_207_14 (by rfl) ?_
      obtain ⟨hb, hw⟩ := hw
      refine zg_iaload (v := .int (zI h r2 15)) zi_207_15 t3 hb rfl ?_
      refine zg_goto zi_207_16 ?_
      have hg := g11
      simp only [if_neg hc11] at hg
      exact hg
  · have hw := hsd4.2 hc4
    refine zg_aload zi_207_5 rfl ?_
    obtain ⟨hr, hw⟩ := hw
    refine zg_getR (v := .ref (zR h a0 37 - 1)) zi_207_6 t1 (by rfl) (zrv_p hr) ?_
    refine zg_iload zi_207_7 rfl ?_
    obtain ⟨t5, hw⟩ := hw
    obtain ⟨hb, hw⟩ := hw
    refine zg_iaload (v := .int (zI h (zR h a0 37 - 1) a1.toNatClampNeg)) zi_207_8 t5 hb rfl ?_
    refine zg_goto zi_207_9 ?_
    have hg := g4
    simp only [if_neg hc4] at hg
    exact hg
def fz_207 (E : Nat → Nat) (h : ZH) (a0 : Nat) (a1 : Int32) : Int32 := (fun r2 : Nat => if ¬ (zI h r2 12 : Int32) = 0 then if ¬ a1 = 0 then zI h (zR h a0 37 - 1) (a1 - 1 : Int32).toNatClampNeg else zI h r2 15 else zI h (zR h a0 37 - 1) a1.toNatClampNeg) (zR h a0 15 - 1)
def sz_207 (E : Nat → Nat) (h : ZH) (a0 : Nat) (a1 : Int32) : Prop := ztag h a0 = 11 ∧ ∃ r2 : Nat, zR h a0 15 = r2 + 1 ∧ (ztag h r2 = 13 ∨ ztag h r2 = 19) ∧ zin 12 (zlen h r2) = true ∧ (((¬ (zI h r2 12 : Int32) = 0 → (((¬ a1 = 0 → (¬ zR h a0 37 = 0 ∧ (ztag h (zR h a0 37 - 1) = 13 ∨ ztag h (zR h a0 37 - 1) = 19) ∧ zin (a1 - 1) (zlen h (zR h a0 37 - 1)) = true ∧ True)) ∧ (¬ (¬ a1 = 0) → (zin 15 (zlen h r2) = true ∧ True))) ∧ True)) ∧ (¬ (¬ (zI h r2 12 : Int32) = 0) → (¬ zR h a0 37 = 0 ∧ (ztag h (zR h a0 37 - 1) = 13 ∨ ztag h (zR h a0 37 - 1) = 19) ∧ zin a1 (zlen h (zR h a0 37 - 1)) = true ∧ True))) ∧ True)
set_option maxRecDepth 20000 in
theorem cz_207 {E : Nat → Nat} {d : Nat} {a0 : Nat} {a1 : Int32} {h : ZH} {Q : Option Value → ZH → Prop} (hd : 1 ≤ d) (hs : sz_207 E h a0 a1) (hq : Q (some (.int (fz_207 E h a0 a1))) h) : Ct E d 207 [.ref a0, .int a1] h Q := by
  obtain ⟨d, rfl⟩ : ∃ n, d = n + 1 := ⟨d - 1, by omega⟩
  refine ok_207 ?_
  unfold w_207
  unfold sz_207 at hs
  unfold fz_207 at hq
  refine ⟨hs.1, ?_⟩
  have hs := hs.2
  obtain ⟨r2, hr, hs⟩ := hs
  refine ⟨r2, hr, ?_⟩
  rw [hr] at hq
  simp only [Nat.add_sub_cancel] at hq
  refine ⟨hs.1, ?_⟩
  have hs := hs.2
  refine ⟨hs.1, ?_⟩
  have hs := hs.2
  refine ⟨⟨fun hc => ?_, fun hc => ?_⟩, ?_⟩
  · have hs := hs.1.1 hc
    refine ⟨⟨fun hc => ?_, fun hc => ?_⟩, ?_⟩
    · have hs := hs.1.1 hc
      refine ⟨hs.1, ?_⟩
      have hs := hs.2
      refine ⟨hs.1, ?_⟩
      have hs := hs.2
      refine ⟨hs.1, ?_⟩
      have hs := hs.2
      trivial
    · have hs := hs.1.2 hc
      refine ⟨hs.1, ?_⟩
      have hs := hs.2
      trivial
    have hs := hs.2
    trivial
  · have hs := hs.1.2 hc
    refine ⟨hs.1, ?_⟩
    have hs := hs.2
    refine ⟨hs.1, ?_⟩
    have hs := hs.2
    refine ⟨hs.1, ?_⟩
    have hs := hs.2
    trivial
  have hs := hs.2
  exact hq
theorem zq_208 : zQ 208 2 2 11 := by unfold zQ; decide +kernel
theorem zi_208_0 : (zM 208).1[0]? = some (.aload 0) := by rfl
theorem zi_208_1 : (zM 208).1[1]? = some (.getfield 11228) := by rfl
theorem zi_208_2 : (zM 208).1[2]? = some (.iload 1) := by rfl
theorem zi_208_3 : (zM 208).1[3]? = some (.aload 0) := by rfl
theorem zi_208_4 : (zM 208).1[4]? = some (.getfield 11041) := by rfl
theorem zi_208_5 : (zM 208).1[5]? = some (.iconst 20) := by rfl
theorem zi_208_6 : (zM 208).1[6]? = some (.invokestatic 164) := by rfl
theorem zi_208_7 : (zM 208).1[7]? = some (.aload 0) := by rfl
theorem zi_208_8 : (zM 208).1[8]? = some (.getfield 11042) := by rfl
theorem zi_208_9 : (zM 208).1[9]? = some (.aload 0) := by rfl
theorem zi_208_10 : (zM 208).1[10]? = some (.getfield 11043) := by rfl
theorem zi_208_11 : (zM 208).1[11]? = some (.aload 0) := by rfl
theorem zi_208_12 : (zM 208).1[12]? = some (.iload 1) := by rfl
theorem zi_208_13 : (zM 208).1[13]? = some (.invokevirtual 207) := by rfl
theorem zi_208_14 : (zM 208).1[14]? = some (.invokestatic 175) := by rfl
theorem zi_208_15 : (zM 208).1[15]? = some (.iaload) := by rfl
theorem zi_208_16 : (zM 208).1[16]? = some (.ireturn) := by rfl
/-- TakeOrPayModel.bestNow(I)I -/
def w_208 (E : Nat → Nat) (d : Nat) (a0 : Nat) (a1 : Int32) (h : ZH) (Q : Option Value → ZH → Prop) : Prop := ztag h a0 = 11 ∧ ∃ r2 : Nat, zR h a0 28 = r2 + 1 ∧ 1 ≤ d ∧ sz_164 E h (zI h a0 41) 20 ∧ 1 ≤ d ∧ sz_207 E h a0 a1 ∧ 1 ≤ d ∧ sz_175 E h a1 (fz_164 E h (zI h a0 41) 20) (zI h a0 42) (zI h a0 43) (fz_207 E h a0 a1) ∧ (ztag h r2 = 13 ∨ ztag h r2 = 19) ∧ zin (fz_175 E h a1 (fz_164 E h (zI h a0 41) 20) (zI h a0 42) (zI h a0 43) (fz_207 E h a0 a1)) (zlen h r2) = true ∧ Q (some (.int (zI h r2 (fz_175 E h a1 (fz_164 E h (zI h a0 41) 20) (zI h a0 42) (zI h a0 43) (fz_207 E h a0 a1) : Int32).toNatClampNeg))) h
set_option maxRecDepth 20000 in
theorem ok_208 {E : Nat → Nat} {d : Nat} {a0 : Nat} {a1 : Int32} {h : ZH} {Q : Option Value → ZH → Prop} (hw : w_208 E d a0 a1 h Q) : Ct E (d + 1) 208 [.ref a0, .int a1] h Q := by
  unfold w_208 at hw
  show Gx E (d + 1) 208 0 [.ref a0, .int a1] [] h Q
  refine zg_aload zi_208_0 rfl ?_
  obtain ⟨t1, hw⟩ := hw
  obtain ⟨r2, er2, hw⟩ := hw
  refine zg_getR (v := .ref r2) zi_208_1 t1 (by rfl) (by show zrv (zR h a0 28) = _; rw [er2]; rfl) ?_
  refine zg_iload zi_208_2 rfl ?_
  refine zg_aload zi_208_3 rfl ?_
  refine zg_getI (v := .int (zI h a0 41)) zi_208_4 t1 (by rfl) rfl ?_
  refine zg_const (v := 20) zi_208_5 (by rfl) ?_
  obtain ⟨hd, hs, hw⟩ := hw
  refine Gx.call2 (as := [.int (zI h a0 41), .int 20]) (rest := [.int a1, .ref r2]) zq_164 zi_208_6 rfl rfl rfl (Nat.le_of_ble_eq_true rfl) (Nat.le_of_ble_eq_true rfl) (rfl) (Nat.le_of_ble_eq_true rfl) ?_
  refine cz_164 hd hs ?_
  show Gx E (d + 1) 208 7 [.ref a0, .int a1] [.int (fz_164 E h (zI h a0 41) 20), .int a1, .ref r2] h Q
  refine zg_aload zi_208_7 rfl ?_
  refine zg_getI (v := .int (zI h a0 42)) zi_208_8 t1 (by rfl) rfl ?_
  refine zg_aload zi_208_9 rfl ?_
  refine zg_getI (v := .int (zI h a0 43)) zi_208_10 t1 (by rfl) rfl ?_
  refine zg_aload zi_208_11 rfl ?_
  refine zg_iload zi_208_12 rfl ?_
  obtain ⟨hd, hs, hw⟩ := hw
  refine Gx.call2 (as := [.ref a0, .int a1]) (rest := [.int (zI h a0 43), .int (zI h a0 42), .int (fz_164 E h (zI h a0 41) 20), .int a1, .ref r2]) zq_207 zi_208_13 rfl rfl rfl (Nat.le_of_ble_eq_true rfl) (Nat.le_of_ble_eq_true rfl) (zrv_v t1 rfl rfl) (Nat.le_of_ble_eq_true rfl) ?_
  refine cz_207 hd hs ?_
  show Gx E (d + 1) 208 14 [.ref a0, .int a1] [.int (fz_207 E h a0 a1), .int (zI h a0 43), .int (zI h a0 42), .int (fz_164 E h (zI h a0 41) 20), .int a1, .ref r2] h Q
  obtain ⟨hd, hs, hw⟩ := hw
  refine Gx.call2 (as := [.int a1, .int (fz_164 E h (zI h a0 41) 20), .int (zI h a0 42), .int (zI h a0 43), .int (fz_207 E h a0 a1)]) (rest := [.ref r2]) zq_175 zi_208_14 rfl rfl rfl (Nat.le_of_ble_eq_true rfl) (Nat.le_of_ble_eq_true rfl) (rfl) (Nat.le_of_ble_eq_true rfl) ?_
  refine cz_175 hd hs ?_
  show Gx E (d + 1) 208 15 [.ref a0, .int a1] [.int (fz_175 E h a1 (fz_164 E h (zI h a0 41) 20) (zI h a0 42) (zI h a0 43) (fz_207 E h a0 a1)), .ref r2] h Q
  obtain ⟨t3, hw⟩ := hw
  obtain ⟨hb, hw⟩ := hw
  refine zg_iaload (v := .int (zI h r2 (fz_175 E h a1 (fz_164 E h (zI h a0 41) 20) (zI h a0 42) (zI h a0 43) (fz_207 E h a0 a1) : Int32).toNatClampNeg)) zi_208_15 t3 hb rfl ?_
  exact zg_ireturn zi_208_16 (by decide) hw
def fz_208 (E : Nat → Nat) (h : ZH) (a0 : Nat) (a1 : Int32) : Int32 := (fun r2 : Nat => zI h r2 (fz_175 E h a1 (fz_164 E h (zI h a0 41) 20) (zI h a0 42) (zI h a0 43) (fz_207 E h a0 a1) : Int32).toNatClampNeg) (zR h a0 28 - 1)
def sz_208 (E : Nat → Nat) (h : ZH) (a0 : Nat) (a1 : Int32) : Prop := ztag h a0 = 11 ∧ ∃ r2 : Nat, zR h a0 28 = r2 + 1 ∧ sz_164 E h (zI h a0 41) 20 ∧ sz_207 E h a0 a1 ∧ sz_175 E h a1 (fz_164 E h (zI h a0 41) 20) (zI h a0 42) (zI h a0 43) (fz_207 E h a0 a1) ∧ (ztag h r2 = 13 ∨ ztag h r2 = 19) ∧ zin (fz_175 E h a1 (fz_164 E h (zI h a0 41) 20) (zI h a0 42) (zI h a0 43) (fz_207 E h a0 a1)) (zlen h r2) = true ∧ True
set_option maxRecDepth 20000 in
theorem cz_208 {E : Nat → Nat} {d : Nat} {a0 : Nat} {a1 : Int32} {h : ZH} {Q : Option Value → ZH → Prop} (hd : 2 ≤ d) (hs : sz_208 E h a0 a1) (hq : Q (some (.int (fz_208 E h a0 a1))) h) : Ct E d 208 [.ref a0, .int a1] h Q := by
  obtain ⟨d, rfl⟩ : ∃ n, d = n + 1 := ⟨d - 1, by omega⟩
  refine ok_208 ?_
  unfold w_208
  unfold sz_208 at hs
  unfold fz_208 at hq
  refine ⟨hs.1, ?_⟩
  have hs := hs.2
  obtain ⟨r2, hr, hs⟩ := hs
  refine ⟨r2, hr, ?_⟩
  rw [hr] at hq
  simp only [Nat.add_sub_cancel] at hq
  refine ⟨by omega, ?_⟩
  refine ⟨hs.1, ?_⟩
  have hs := hs.2
  refine ⟨by omega, ?_⟩
  refine ⟨hs.1, ?_⟩
  have hs := hs.2
  refine ⟨by omega, ?_⟩
  refine ⟨hs.1, ?_⟩
  have hs := hs.2
  refine ⟨hs.1, ?_⟩
  have hs := hs.2
  refine ⟨hs.1, ?_⟩
  have hs := hs.2
  exact hq
