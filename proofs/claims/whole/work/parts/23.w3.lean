/-! what each method needs and does, printed by wip/whole/dec.py: part 3 -/
theorem zq_105 : zQ 105 4 4 10 := by unfold zQ; decide +kernel
theorem zi_105_0 : (zM 105).1[0]? = some (.iload 1) := by rfl
theorem zi_105_1 : (zM 105).1[1]? = some (.ifCond .lt ((13 : Nat) : Int)) := by rfl
theorem zi_105_2 : (zM 105).1[2]? = some (.iload 1) := by rfl
theorem zi_105_3 : (zM 105).1[3]? = some (.iconst 8) := by rfl
theorem zi_105_4 : (zM 105).1[4]? = some (.if_icmp .ge ((13 : Nat) : Int)) := by rfl
theorem zi_105_5 : (zM 105).1[5]? = some (.iload 2) := by rfl
theorem zi_105_6 : (zM 105).1[6]? = some (.ifCond .lt ((13 : Nat) : Int)) := by rfl
theorem zi_105_7 : (zM 105).1[7]? = some (.iload 2) := by rfl
theorem zi_105_8 : (zM 105).1[8]? = some (.iconst 1) := by rfl
theorem zi_105_9 : (zM 105).1[9]? = some (.if_icmp .gt ((13 : Nat) : Int)) := by rfl
theorem zi_105_10 : (zM 105).1[10]? = some (.iload 3) := by rfl
theorem zi_105_11 : (zM 105).1[11]? = some (.invokestatic 123) := by rfl
theorem zi_105_12 : (zM 105).1[12]? = some (.ifCond .ne ((15 : Nat) : Int)) := by rfl
theorem zi_105_13 : (zM 105).1[13]? = some (.jsr_w (-9000000000000000001)) := by rfl
theorem zi_105_14 : (zM 105).1[14]? = some (.lreturn) := by rfl
theorem zi_105_15 : (zM 105).1[15]? = some (.aload 0) := by rfl
theorem zi_105_16 : (zM 105).1[16]? = some (.getfield 10206) := by rfl
theorem zi_105_17 : (zM 105).1[17]? = some (.iload 1) := by rfl
theorem zi_105_18 : (zM 105).1[18]? = some (.invokevirtual 19) := by rfl
theorem zi_105_19 : (zM 105).1[19]? = some (.aload 0) := by rfl
theorem zi_105_20 : (zM 105).1[20]? = some (.getfield 10206) := by rfl
theorem zi_105_21 : (zM 105).1[21]? = some (.getfield 1213) := by rfl
theorem zi_105_22 : (zM 105).1[22]? = some (.iconst 2) := by rfl
theorem zi_105_23 : (zM 105).1[23]? = some (.iload 1) := by rfl
theorem zi_105_24 : (zM 105).1[24]? = some (.imul) := by rfl
theorem zi_105_25 : (zM 105).1[25]? = some (.iload 2) := by rfl
theorem zi_105_26 : (zM 105).1[26]? = some (.iadd) := by rfl
theorem zi_105_27 : (zM 105).1[27]? = some (.laload) := by rfl
theorem zi_105_28 : (zM 105).1[28]? = some (.aload 0) := by rfl
theorem zi_105_29 : (zM 105).1[29]? = some (.getfield 10200) := by rfl
theorem zi_105_30 : (zM 105).1[30]? = some (.getfield 3006) := by rfl
theorem zi_105_31 : (zM 105).1[31]? = some (.iload 3) := by rfl
theorem zi_105_32 : (zM 105).1[32]? = some (.invokestatic 128) := by rfl
theorem zi_105_33 : (zM 105).1[33]? = some (.lreturn) := by rfl
/-- TakeOrPay.without(III)J -/
def w_105 (E : Nat → Nat) (d : Nat) (a0 : Nat) (a1 : Int32) (a2 : Int32) (a3 : Int32) (h : ZH) (Q : Option Value → ZH → Prop) : Prop := (a1 < 0 → (Q (some (.long ((-9000000000000000001)))) h)) ∧ (¬ (a1 < 0) → ((8 ≤ a1 → (Q (some (.long ((-9000000000000000001)))) h)) ∧ (¬ (8 ≤ a1) → ((a2 < 0 → (Q (some (.long ((-9000000000000000001)))) h)) ∧ (¬ (a2 < 0) → ((1 < a2 → (Q (some (.long ((-9000000000000000001)))) h)) ∧ (¬ (1 < a2) → (1 ≤ d ∧ sz_123 E h a3 ∧ ((¬ (fz_123 E h a3 : Int32) = 0 → (ztag h a0 = 10 ∧ ∃ r2 : Nat, zR h a0 6 = r2 + 1 ∧ ztag h r2 = 1 ∧ Ct E d 19 [.ref r2, .int a1] h (fun v h4 => v = none ∧ ztag h4 a0 = 10 ∧ ∃ r6 : Nat, zR h4 a0 6 = r6 + 1 ∧ ztag h4 r6 = 1 ∧ ∃ r8 : Nat, zR h4 r6 13 = r8 + 1 ∧ ztag h4 r8 = 14 ∧ zin ((2 * a1) + a2) (zlen h4 r8) = true ∧ ∃ r10 : Nat, zR h4 a0 0 = r10 + 1 ∧ ztag h4 r10 = 3 ∧ Ct E d 128 [.long (zL h4 r8 ((2 * a1) + a2 : Int32).toNatClampNeg), .int (zI h4 r10 6), .int a3] h4 (fun v h12 => ∃ x13 : Int64, v = some (.long x13) ∧ Q (some (.long x13)) h12)))) ∧ (¬ (¬ (fz_123 E h a3 : Int32) = 0) → (Q (some (.long ((-9000000000000000001)))) h)))))))))))
set_option maxRecDepth 20000 in
theorem ok_105 {E : Nat → Nat} {d : Nat} {a0 : Nat} {a1 : Int32} {a2 : Int32} {a3 : Int32} {h : ZH} {Q : Option Value → ZH → Prop} (hw : w_105 E d a0 a1 a2 a3 h Q) : Ct E (d + 1) 105 [.ref a0, .int a1, .int a2, .int a3] h Q := by
  unfold w_105 at hw
  show Gx E (d + 1) 105 0 [.ref a0, .int a1, .int a2, .int a3] [] h Q
  refine zg_iload zi_105_0 rfl ?_
  refine zg_if_lt zi_105_1 (fun hc => ?_) (fun hc => ?_)
  · have hw := hw.1 hc
    refine zg_lconst (v := (-9000000000000000001)) zi_105_13 (by rfl) ?_
    exact zg_lreturn zi_105_14 hw
  · have hw := hw.2 hc
    refine zg_iload zi_105_2 rfl ?_
    refine zg_const (v := 8) zi_105_3 (by rfl) ?_
    refine zg_icmp_ge zi_105_4 (fun hc => ?_) (fun hc => ?_)
    · have hw := hw.1 hc
      refine zg_lconst (v := (-9000000000000000001)) zi_105_13 (by rfl) ?_
      exact zg_lreturn zi_105_14 hw
    · have hw := hw.2 hc
      refine zg_iload zi_105_5 rfl ?_
      refine zg_if_lt zi_105_6 (fun hc => ?_) (fun hc => ?_)
      · have hw := hw.1 hc
        refine zg_lconst (v := (-9000000000000000001)) zi_105_13 (by rfl) ?_
        exact zg_lreturn zi_105_14 hw
      · have hw := hw.2 hc
        refine zg_iload zi_105_7 rfl ?_
        refine zg_const (v := 1) zi_105_8 (by rfl) ?_
        refine zg_icmp_gt zi_105_9 (fun hc => ?_) (fun hc => ?_)
        · have hw := hw.1 hc
          refine zg_lconst (v := (-9000000000000000001)) zi_105_13 (by rfl) ?_
          exact zg_lreturn zi_105_14 hw
        · have hw := hw.2 hc
          refine zg_iload zi_105_10 rfl ?_
          obtain ⟨hd, hs, hw⟩ := hw
          refine Gx.call2 (as := [.int a3]) (rest := []) zq_123 zi_105_11 rfl rfl rfl (Nat.le_of_ble_eq_true rfl) (Nat.le_of_ble_eq_true rfl) (rfl) (Nat.le_of_ble_eq_true rfl) ?_
          refine cz_123 hd hs ?_
          show Gx E (d + 1) 105 12 [.ref a0, .int a1, .int a2, .int a3] [.int (fz_123 E h a3)] h Q
          refine zg_if_ne zi_105_12 (fun hc => ?_) (fun hc => ?_)
          · have hw := hw.1 hc
            refine zg_aload zi_105_15 rfl ?_
            obtain ⟨t1, hw⟩ := hw
            obtain ⟨r2, er2, hw⟩ := hw
            refine zg_getR (v := .ref r2) zi_105_16 t1 (by rfl) (by show zrv (zR h a0 6) = _; rw [er2]; rfl) ?_
            refine zg_iload zi_105_17 rfl ?_
            obtain ⟨t3, hw⟩ := hw
            refine Gx.call2 (as := [.ref r2, .int a1]) (rest := []) zq_19 zi_105_18 rfl rfl rfl (Nat.le_of_ble_eq_true rfl) (Nat.le_of_ble_eq_true rfl) (zrv_v t3 rfl rfl) (Nat.le_of_ble_eq_true rfl) ?_
            refine Ct.mono hw ?_
            rintro v h4 ⟨rfl, hw⟩
            show Gx E (d + 1) 105 19 [.ref a0, .int a1, .int a2, .int a3] [] h4 Q
            refine zg_aload zi_105_19 rfl ?_
            obtain ⟨t5, hw⟩ := hw
            obtain ⟨r6, er6, hw⟩ := hw
            refine zg_getR (v := .ref r6) zi_105_20 t5 (by rfl) (by show zrv (zR h4 a0 6) = _; rw [er6]; rfl) ?_
            obtain ⟨t7, hw⟩ := hw
            obtain ⟨r8, er8, hw⟩ := hw
            refine zg_getR (v := .ref r8) zi_105_21 t7 (by rfl) (by show zrv (zR h4 r6 13) = _; rw [er8]; rfl) ?_
            refine zg_const (v := 2) zi_105_22 (by rfl) ?_
            refine zg_iload zi_105_23 rfl ?_
            refine zg_imul zi_105_24 ?_
            refine zg_iload zi_105_25 rfl ?_
            refine zg_iadd zi_105_26 ?_
            obtain ⟨t9, hw⟩ := hw
            obtain ⟨hb, hw⟩ := hw
            refine zg_laload (v := .long (zL h4 r8 ((2 * a1) + a2 : Int32).toNatClampNeg)) zi_105_27 t9 hb rfl ?_
            refine zg_aload zi_105_28 rfl ?_
            obtain ⟨r10, er10, hw⟩ := hw
            refine zg_getR (v := .ref r10) zi_105_29 t5 (by rfl) (by show zrv (zR h4 a0 0) = _; rw [er10]; rfl) ?_
            obtain ⟨t11, hw⟩ := hw
            refine zg_getI (v := .int (zI h4 r10 6)) zi_105_30 t11 (by rfl) rfl ?_
            refine zg_iload zi_105_31 rfl ?_
            refine Gx.call2 (as := [.long (zL h4 r8 ((2 * a1) + a2 : Int32).toNatClampNeg), .int (zI h4 r10 6), .int a3]) (rest := []) zq_128 zi_105_32 rfl rfl rfl (Nat.le_of_ble_eq_true rfl) (Nat.le_of_ble_eq_true rfl) (rfl) (Nat.le_of_ble_eq_true rfl) ?_
            refine Ct.mono hw ?_
            rintro v h12 ⟨x13, rfl, hw⟩
            show Gx E (d + 1) 105 33 [.ref a0, .int a1, .int a2, .int a3] [.long x13] h12 Q
            exact zg_lreturn zi_105_33 hw
          · have hw := hw.2 hc
            refine zg_lconst (v := (-9000000000000000001)) zi_105_13 (by rfl) ?_
            exact zg_lreturn zi_105_14 hw
theorem zq_129 : zQ 129 5 8 10 := by unfold zQ; decide +kernel
theorem zi_129_0 : (zM 129).1[0]? = some (.iconst 0) := by rfl
theorem zi_129_1 : (zM 129).1[1]? = some (.istore 5) := by rfl
theorem zi_129_2 : (zM 129).1[2]? = some (.iconst 0) := by rfl
theorem zi_129_3 : (zM 129).1[3]? = some (.istore 6) := by rfl
theorem zi_129_4 : (zM 129).1[4]? = some (.iload 6) := by rfl
theorem zi_129_5 : (zM 129).1[5]? = some (.iconst 20) := by rfl
theorem zi_129_6 : (zM 129).1[6]? = some (.if_icmp .gt ((32 : Nat) : Int)) := by rfl
theorem zi_129_7 : (zM 129).1[7]? = some (.aload 0) := by rfl
theorem zi_129_8 : (zM 129).1[8]? = some (.iload 1) := by rfl
theorem zi_129_9 : (zM 129).1[9]? = some (.iload 6) := by rfl
theorem zi_129_10 : (zM 129).1[10]? = some (.iload 2) := by rfl
theorem zi_129_11 : (zM 129).1[11]? = some (.iload 3) := by rfl
theorem zi_129_12 : (zM 129).1[12]? = some (.iload 4) := by rfl
theorem zi_129_13 : (zM 129).1[13]? = some (.invokevirtual 100) := by rfl
theorem zi_129_14 : (zM 129).1[14]? = some (.istore 7) := by rfl
theorem zi_129_15 : (zM 129).1[15]? = some (.iload 7) := by rfl
theorem zi_129_16 : (zM 129).1[16]? = some (.aload 0) := by rfl
theorem zi_129_17 : (zM 129).1[17]? = some (.getfield 10200) := by rfl
theorem zi_129_18 : (zM 129).1[18]? = some (.getfield 3200) := by rfl
theorem zi_129_19 : (zM 129).1[19]? = some (.iconst 3) := by rfl
theorem zi_129_20 : (zM 129).1[20]? = some (.iaload) := by rfl
theorem zi_129_21 : (zM 129).1[21]? = some (.if_icmp .eq ((30 : Nat) : Int)) := by rfl
theorem zi_129_22 : (zM 129).1[22]? = some (.iload 7) := by rfl
theorem zi_129_23 : (zM 129).1[23]? = some (.aload 0) := by rfl
theorem zi_129_24 : (zM 129).1[24]? = some (.getfield 10200) := by rfl
theorem zi_129_25 : (zM 129).1[25]? = some (.getfield 3200) := by rfl
theorem zi_129_26 : (zM 129).1[26]? = some (.iconst 4) := by rfl
theorem zi_129_27 : (zM 129).1[27]? = some (.iaload) := by rfl
theorem zi_129_28 : (zM 129).1[28]? = some (.if_icmp .eq ((30 : Nat) : Int)) := by rfl
theorem zi_129_29 : (zM 129).1[29]? = some (.iinc 5 1) := by rfl
theorem zi_129_30 : (zM 129).1[30]? = some (.iinc 6 1) := by rfl
theorem zi_129_31 : (zM 129).1[31]? = some (.goto ((4 : Nat) : Int)) := by rfl
theorem zi_129_32 : (zM 129).1[32]? = some (.iload 5) := by rfl
theorem zi_129_33 : (zM 129).1[33]? = some (.ireturn) := by rfl
def wb_129_32 (E : Nat → Nat) (d : Nat) (Q : Option Value → ZH → Prop) (a5 : Int32) (h : ZH) : Prop := Q (some (.int a5)) h
set_option maxRecDepth 20000 in
theorem okb_129_32 {E : Nat → Nat} {d : Nat} {Q : Option Value → ZH → Prop} {a5 : Int32} {h : ZH} (hw : wb_129_32 E d Q a5 h) : Gx E (d + 1) 129 32 [.retAddr 0, .retAddr 0, .retAddr 0, .retAddr 0, .retAddr 0, .int a5, .retAddr 0, .retAddr 0] [] h Q := by
  unfold wb_129_32 at hw
  refine zg_iload zi_129_32 rfl ?_
  exact zg_ireturn zi_129_33 (by decide) hw
def wl_129_4 (E : Nat → Nat) (d : Nat) (Q : Option Value → ZH → Prop) : Nat → Nat → Int32 → Int32 → Int32 → Int32 → Int32 → Int32 → ZH → Prop
  | 0, _, _, _, _, _, _, _, _ => False
  | n + 1, a0, a1, a2, a3, a4, a5, a6, h => (20 < a6 → (wb_129_32 E d Q a5 h)) ∧ (¬ (20 < a6) → (ztag h a0 = 10 ∧ Ct E d 100 [.ref a0, .int a1, .int a6, .int a2, .int a3, .int a4] h (fun v h2 => ∃ x3 : Int32, v = some (.int x3) ∧ ztag h2 a0 = 10 ∧ ∃ r5 : Nat, zR h2 a0 0 = r5 + 1 ∧ ztag h2 r5 = 3 ∧ ∃ r7 : Nat, zR h2 r5 0 = r7 + 1 ∧ (ztag h2 r7 = 13 ∨ ztag h2 r7 = 19) ∧ zin 3 (zlen h2 r7) = true ∧ (((x3 = (zI h2 r7 3 : Int32) → (True)) ∧ (¬ (x3 = (zI h2 r7 3 : Int32)) → (zin 4 (zlen h2 r7) = true ∧ True))) ∧ ∀ x9 : Int32, x9 = (a6 + 1) → wl_129_4 E d Q n a0 a1 a2 a3 a4 (if x3 = (zI h2 r7 3 : Int32) then a5 else if x3 = (zI h2 r7 4 : Int32) then a5 else a5 + 1) x9 h2))))
set_option maxRecDepth 20000 in
theorem okl_129_4 {E : Nat → Nat} {d : Nat} {Q : Option Value → ZH → Prop} : ∀ (n : Nat) (a0 : Nat) (a1 : Int32) (a2 : Int32) (a3 : Int32) (a4 : Int32) (a5 : Int32) (a6 : Int32) (h : ZH), wl_129_4 E d Q n a0 a1 a2 a3 a4 a5 a6 h → Gx E (d + 1) 129 4 [.ref a0, .int a1, .int a2, .int a3, .int a4, .int a5, .int a6, .retAddr 0] [] h Q := by
  intro n
  induction n with
  | zero => intro a0 a1 a2 a3 a4 a5 a6 h hw; exact hw.elim
  | succ n ih =>
    intro a0 a1 a2 a3 a4 a5 a6 h hw
    rw [wl_129_4] at hw
    refine zg_iload zi_129_4 rfl ?_
    refine zg_const (v := 20) zi_129_5 (by rfl) ?_
    refine zg_icmp_gt zi_129_6 (fun hc => ?_) (fun hc => ?_)
    · have hw := hw.1 hc
      exact Gx.forget (zrd (zrd (zrd (zrd (zrd (zrk (zrd (zrk zr0)))))))) (okb_129_32 hw)
    · have hw := hw.2 hc
      refine zg_aload zi_129_7 rfl ?_
      refine zg_iload zi_129_8 rfl ?_
      refine zg_iload zi_129_9 rfl ?_
      refine zg_iload zi_129_10 rfl ?_
      refine zg_iload zi_129_11 rfl ?_
      refine zg_iload zi_129_12 rfl ?_
      obtain ⟨t1, hw⟩ := hw
      refine Gx.call2 (as := [.ref a0, .int a1, .int a6, .int a2, .int a3, .int a4]) (rest := []) zq_100 zi_129_13 rfl rfl rfl (Nat.le_of_ble_eq_true rfl) (Nat.le_of_ble_eq_true rfl) (zrv_v t1 rfl rfl) (Nat.le_of_ble_eq_true rfl) ?_
      refine Ct.mono hw ?_
      rintro v h2 ⟨x3, rfl, hw⟩
      show Gx E (d + 1) 129 14 [.ref a0, .int a1, .int a2, .int a3, .int a4, .int a5, .int a6, .retAddr 0] [.int x3] h2 Q
      refine zg_istore (ls1 := [.ref a0, .int a1, .int a2, .int a3, .int a4, .int a5, .int a6, .int x3]) zi_129_14 (Nat.le_of_ble_eq_true rfl) rfl ?_
      refine zg_iload zi_129_15 rfl ?_
      refine zg_aload zi_129_16 rfl ?_
      obtain ⟨t4, hw⟩ := hw
      obtain ⟨r5, er5, hw⟩ := hw
      refine zg_getR (v := .ref r5) zi_129_17 t4 (by rfl) (by show zrv (zR h2 a0 0) = _; rw [er5]; rfl) ?_
      obtain ⟨t6, hw⟩ := hw
      obtain ⟨r7, er7, hw⟩ := hw
      refine zg_getR (v := .ref r7) zi_129_18 t6 (by rfl) (by show zrv (zR h2 r5 0) = _; rw [er7]; rfl) ?_
      refine zg_const (v := 3) zi_129_19 (by rfl) ?_
      obtain ⟨t8, hw⟩ := hw
      obtain ⟨hb, hw⟩ := hw
      refine zg_iaload (v := .int (zI h2 r7 3)) zi_129_20 t8 hb rfl ?_
      obtain ⟨hsd21, hw⟩ := hw
      have g21 : Gx E (d + 1) 129 30 [.ref a0, .int a1, .int a2, .int a3, .int a4, .int (if x3 = (zI h2 r7 3 : Int32) then a5 else if x3 = (zI h2 r7 4 : Int32) then a5 else a5 + 1), .int a6, .int x3] [] h2 Q := by
        obtain ⟨x9, ex9⟩ : ∃ x : Int32, x = a6 + 1 := ⟨_, rfl⟩
        have hw := hw x9 ex9
        refine zg_iinc (v := x9) (ls1 := [.ref a0, .int a1, .int a2, .int a3, .int a4, .int (if x3 = (zI h2 r7 3 : Int32) then a5 else if x3 = (zI h2 r7 4 : Int32) then a5 else a5 + 1), .int x9, .int x3]) zi_129_30 rfl (by rw [ex9]; rfl) rfl ?_
        refine zg_goto zi_129_31 ?_
        exact Gx.forget (zrk (zrk (zrk (zrk (zrk (zrk (zrk (zrd zr0)))))))) (ih a0 a1 a2 a3 a4 (if x3 = (zI h2 r7 3 : Int32) then a5 else if x3 = (zI h2 r7 4 : Int32) then a5 else a5 + 1) x9 h2 hw)
      refine zg_icmp_eq zi_129_21 (fun hc21 => ?_) (fun hc21 => ?_)
      · have hw := hsd21.1 hc21
        have hg := g21
        simp only [if_pos hc21] at hg
        exact hg
      · have hw := hsd21.2 hc21
        refine zg_iload zi_129_22 rfl ?_
        refine zg_aload zi_129_23 rfl ?_
        refine zg_getR (v := .ref r5) zi_129_24 t4 (by rfl) (by show zrv (zR h2 a0 0) = _; rw [er5]; rfl) ?_
        refine zg_getR (v := .ref r7) zi_129_25 t6 (by rfl) (by show zrv (zR h2 r5 0) = _; rw [er7]; rfl) ?_
        refine zg_const (v := 4) zi_129_26 (by rfl) ?_
        obtain ⟨hb, hw⟩ := hw
        refine zg_iaload (v := .int (zI h2 r7 4)) zi_129_27 t8 hb rfl ?_
        have g28 : Gx E (d + 1) 129 30 [.ref a0, .int a1, .int a2, .int a3, .int a4, .int (if x3 = (zI h2 r7 4 : Int32) then a5 else a5 + 1), .int a6, .int x3] [] h2 Q := by
          have hg := g21
          simp only [if_neg hc21] at hg
          exact hg
        refine zg_icmp_eq zi_129_28 (fun hc28 => ?_) (fun hc28 => ?_)
        · skip
          have hg := g28
          simp only [if_pos hc28] at hg
          exact hg
        · skip
          refine zg_iinc (v := a5 + 1) (ls1 := [.ref a0, .int a1, .int a2, .int a3, .int a4, .int (a5 + 1), .int a6, .int x3]) zi_129_29 rfl rfl rfl ?_
          have hg := g28
          simp only [if_neg hc28] at hg
          exact hg
/-- TakeOrPay.betweens(IIII)I -/
def w_129 (E : Nat → Nat) (d : Nat) (a0 : Nat) (a1 : Int32) (a2 : Int32) (a3 : Int32) (a4 : Int32) (h : ZH) (Q : Option Value → ZH → Prop) : Prop := ∃ mm : Nat, wl_129_4 E d Q mm a0 a1 a2 a3 a4 0 0 h
set_option maxRecDepth 20000 in
theorem ok_129 {E : Nat → Nat} {d : Nat} {a0 : Nat} {a1 : Int32} {a2 : Int32} {a3 : Int32} {a4 : Int32} {h : ZH} {Q : Option Value → ZH → Prop} (hw : w_129 E d a0 a1 a2 a3 a4 h Q) : Ct E (d + 1) 129 [.ref a0, .int a1, .int a2, .int a3, .int a4] h Q := by
  unfold w_129 at hw
  show Gx E (d + 1) 129 0 [.ref a0, .int a1, .int a2, .int a3, .int a4, .retAddr 0, .retAddr 0, .retAddr 0] [] h Q
  refine zg_const (v := 0) zi_129_0 (by rfl) ?_
  refine zg_istore (ls1 := [.ref a0, .int a1, .int a2, .int a3, .int a4, .int 0, .retAddr 0, .retAddr 0]) zi_129_1 (Nat.le_of_ble_eq_true rfl) rfl ?_
  refine zg_const (v := 0) zi_129_2 (by rfl) ?_
  refine zg_istore (ls1 := [.ref a0, .int a1, .int a2, .int a3, .int a4, .int 0, .int 0, .retAddr 0]) zi_129_3 (Nat.le_of_ble_eq_true rfl) rfl ?_
  obtain ⟨mm, hw⟩ := hw
  exact okl_129_4 mm a0 a1 a2 a3 a4 0 0 h hw
theorem zq_130 : zQ 130 5 7 10 := by unfold zQ; decide +kernel
theorem zi_130_0 : (zM 130).1[0]? = some (.aload 0) := by rfl
theorem zi_130_1 : (zM 130).1[1]? = some (.iload 1) := by rfl
theorem zi_130_2 : (zM 130).1[2]? = some (.iconst 0) := by rfl
theorem zi_130_3 : (zM 130).1[3]? = some (.iload 2) := by rfl
theorem zi_130_4 : (zM 130).1[4]? = some (.iload 3) := by rfl
theorem zi_130_5 : (zM 130).1[5]? = some (.iload 4) := by rfl
theorem zi_130_6 : (zM 130).1[6]? = some (.invokevirtual 100) := by rfl
theorem zi_130_7 : (zM 130).1[7]? = some (.istore 5) := by rfl
theorem zi_130_8 : (zM 130).1[8]? = some (.iconst 1) := by rfl
theorem zi_130_9 : (zM 130).1[9]? = some (.istore 6) := by rfl
theorem zi_130_10 : (zM 130).1[10]? = some (.iload 6) := by rfl
theorem zi_130_11 : (zM 130).1[11]? = some (.iconst 20) := by rfl
theorem zi_130_12 : (zM 130).1[12]? = some (.if_icmp .gt ((26 : Nat) : Int)) := by rfl
theorem zi_130_13 : (zM 130).1[13]? = some (.aload 0) := by rfl
theorem zi_130_14 : (zM 130).1[14]? = some (.iload 1) := by rfl
theorem zi_130_15 : (zM 130).1[15]? = some (.iload 6) := by rfl
theorem zi_130_16 : (zM 130).1[16]? = some (.iload 2) := by rfl
theorem zi_130_17 : (zM 130).1[17]? = some (.iload 3) := by rfl
theorem zi_130_18 : (zM 130).1[18]? = some (.iload 4) := by rfl
theorem zi_130_19 : (zM 130).1[19]? = some (.invokevirtual 100) := by rfl
theorem zi_130_20 : (zM 130).1[20]? = some (.iload 5) := by rfl
theorem zi_130_21 : (zM 130).1[21]? = some (.if_icmp .eq ((24 : Nat) : Int)) := by rfl
theorem zi_130_22 : (zM 130).1[22]? = some (.iload 6) := by rfl
theorem zi_130_23 : (zM 130).1[23]? = some (.ireturn) := by rfl
theorem zi_130_24 : (zM 130).1[24]? = some (.iinc 6 1) := by rfl
theorem zi_130_25 : (zM 130).1[25]? = some (.goto ((10 : Nat) : Int)) := by rfl
theorem zi_130_26 : (zM 130).1[26]? = some (.iconst (-4)) := by rfl
theorem zi_130_27 : (zM 130).1[27]? = some (.ireturn) := by rfl
def wl_130_10 (E : Nat → Nat) (d : Nat) (Q : Option Value → ZH → Prop) : Nat → Nat → Int32 → Int32 → Int32 → Int32 → Int32 → Int32 → ZH → Prop
  | 0, _, _, _, _, _, _, _, _ => False
  | n + 1, a0, a1, a2, a3, a4, a5, a6, h => (20 < a6 → (Q (some (.int ((-4)))) h)) ∧ (¬ (20 < a6) → (ztag h a0 = 10 ∧ Ct E d 100 [.ref a0, .int a1, .int a6, .int a2, .int a3, .int a4] h (fun v h5 => ∃ x6 : Int32, v = some (.int x6) ∧ ((x6 = a5 → (∀ x7 : Int32, x7 = (a6 + 1) → wl_130_10 E d Q n a0 a1 a2 a3 a4 a5 x7 h5)) ∧ (¬ (x6 = a5) → (Q (some (.int a6)) h5))))))
set_option maxRecDepth 20000 in
theorem okl_130_10 {E : Nat → Nat} {d : Nat} {Q : Option Value → ZH → Prop} : ∀ (n : Nat) (a0 : Nat) (a1 : Int32) (a2 : Int32) (a3 : Int32) (a4 : Int32) (a5 : Int32) (a6 : Int32) (h : ZH), wl_130_10 E d Q n a0 a1 a2 a3 a4 a5 a6 h → Gx E (d + 1) 130 10 [.ref a0, .int a1, .int a2, .int a3, .int a4, .int a5, .int a6] [] h Q := by
  intro n
  induction n with
  | zero => intro a0 a1 a2 a3 a4 a5 a6 h hw; exact hw.elim
  | succ n ih =>
    intro a0 a1 a2 a3 a4 a5 a6 h hw
    rw [wl_130_10] at hw
    refine zg_iload zi_130_10 rfl ?_
    refine zg_const (v := 20) zi_130_11 (by rfl) ?_
    refine zg_icmp_gt zi_130_12 (fun hc => ?_) (fun hc => ?_)
    · have hw := hw.1 hc
      refine zg_const (v := (-4)) zi_130_26 (by rfl) ?_
      exact zg_ireturn zi_130_27 (by decide) hw
    · have hw := hw.2 hc
      refine zg_aload zi_130_13 rfl ?_
      refine zg_iload zi_130_14 rfl ?_
      refine zg_iload zi_130_15 rfl ?_
      refine zg_iload zi_130_16 rfl ?_
      refine zg_iload zi_130_17 rfl ?_
      refine zg_iload zi_130_18 rfl ?_
      obtain ⟨t4, hw⟩ := hw
      refine Gx.call2 (as := [.ref a0, .int a1, .int a6, .int a2, .int a3, .int a4]) (rest := []) zq_100 zi_130_19 rfl rfl rfl (Nat.le_of_ble_eq_true rfl) (Nat.le_of_ble_eq_true rfl) (zrv_v t4 rfl rfl) (Nat.le_of_ble_eq_true rfl) ?_
      refine Ct.mono hw ?_
      rintro v h5 ⟨x6, rfl, hw⟩
      show Gx E (d + 1) 130 20 [.ref a0, .int a1, .int a2, .int a3, .int a4, .int a5, .int a6] [.int x6] h5 Q
      refine zg_iload zi_130_20 rfl ?_
      refine zg_icmp_eq zi_130_21 (fun hc => ?_) (fun hc => ?_)
      · have hw := hw.1 hc
        obtain ⟨x7, ex7⟩ : ∃ x : Int32, x = a6 + 1 := ⟨_, rfl⟩
        have hw := hw x7 ex7
        refine zg_iinc (v := x7) (ls1 := [.ref a0, .int a1, .int a2, .int a3, .int a4, .int a5, .int x7]) zi_130_24 rfl (by rw [ex7]; rfl) rfl ?_
        refine zg_goto zi_130_25 ?_
        exact ih a0 a1 a2 a3 a4 a5 x7 h5 hw
      · have hw := hw.2 hc
        refine zg_iload zi_130_22 rfl ?_
        exact zg_ireturn zi_130_23 (by decide) hw
/-- TakeOrPay.firstJump(IIII)I -/
def w_130 (E : Nat → Nat) (d : Nat) (a0 : Nat) (a1 : Int32) (a2 : Int32) (a3 : Int32) (a4 : Int32) (h : ZH) (Q : Option Value → ZH → Prop) : Prop := ztag h a0 = 10 ∧ Ct E d 100 [.ref a0, .int a1, .int 0, .int a2, .int a3, .int a4] h (fun v h2 => ∃ x3 : Int32, v = some (.int x3) ∧ (∃ mm : Nat, wl_130_10 E d Q mm a0 a1 a2 a3 a4 x3 1 h2))
set_option maxRecDepth 20000 in
theorem ok_130 {E : Nat → Nat} {d : Nat} {a0 : Nat} {a1 : Int32} {a2 : Int32} {a3 : Int32} {a4 : Int32} {h : ZH} {Q : Option Value → ZH → Prop} (hw : w_130 E d a0 a1 a2 a3 a4 h Q) : Ct E (d + 1) 130 [.ref a0, .int a1, .int a2, .int a3, .int a4] h Q := by
  unfold w_130 at hw
  show Gx E (d + 1) 130 0 [.ref a0, .int a1, .int a2, .int a3, .int a4, .retAddr 0, .retAddr 0] [] h Q
  refine zg_aload zi_130_0 rfl ?_
  refine zg_iload zi_130_1 rfl ?_
  refine zg_const (v := 0) zi_130_2 (by rfl) ?_
  refine zg_iload zi_130_3 rfl ?_
  refine zg_iload zi_130_4 rfl ?_
  refine zg_iload zi_130_5 rfl ?_
  obtain ⟨t1, hw⟩ := hw
  refine Gx.call2 (as := [.ref a0, .int a1, .int 0, .int a2, .int a3, .int a4]) (rest := []) zq_100 zi_130_6 rfl rfl rfl (Nat.le_of_ble_eq_true rfl) (Nat.le_of_ble_eq_true rfl) (zrv_v t1 rfl rfl) (Nat.le_of_ble_eq_true rfl) ?_
  refine Ct.mono hw ?_
  rintro v h2 ⟨x3, rfl, hw⟩
  show Gx E (d + 1) 130 7 [.ref a0, .int a1, .int a2, .int a3, .int a4, .retAddr 0, .retAddr 0] [.int x3] h2 Q
  refine zg_istore (ls1 := [.ref a0, .int a1, .int a2, .int a3, .int a4, .int x3, .retAddr 0]) zi_130_7 (Nat.le_of_ble_eq_true rfl) rfl ?_
  refine zg_const (v := 1) zi_130_8 (by rfl) ?_
  refine zg_istore (ls1 := [.ref a0, .int a1, .int a2, .int a3, .int a4, .int x3, .int 1]) zi_130_9 (Nat.le_of_ble_eq_true rfl) rfl ?_
  obtain ⟨mm, hw⟩ := hw
  exact okl_130_10 mm a0 a1 a2 a3 a4 x3 1 h2 hw
theorem zq_106 : zQ 106 6 6 10 := by unfold zQ; decide +kernel
theorem zi_106_0 : (zM 106).1[0]? = some (.aload 0) := by rfl
theorem zi_106_1 : (zM 106).1[1]? = some (.iload 1) := by rfl
theorem zi_106_2 : (zM 106).1[2]? = some (.iconst 0) := by rfl
theorem zi_106_3 : (zM 106).1[3]? = some (.iload 2) := by rfl
theorem zi_106_4 : (zM 106).1[4]? = some (.iload 3) := by rfl
theorem zi_106_5 : (zM 106).1[5]? = some (.iload 4) := by rfl
theorem zi_106_6 : (zM 106).1[6]? = some (.invokevirtual 127) := by rfl
theorem zi_106_7 : (zM 106).1[7]? = some (.ifCond .eq ((11 : Nat) : Int)) := by rfl
theorem zi_106_8 : (zM 106).1[8]? = some (.iload 5) := by rfl
theorem zi_106_9 : (zM 106).1[9]? = some (.invokestatic 123) := by rfl
theorem zi_106_10 : (zM 106).1[10]? = some (.ifCond .ne ((13 : Nat) : Int)) := by rfl
theorem zi_106_11 : (zM 106).1[11]? = some (.iconst (-1)) := by rfl
theorem zi_106_12 : (zM 106).1[12]? = some (.ireturn) := by rfl
theorem zi_106_13 : (zM 106).1[13]? = some (.aload 0) := by rfl
theorem zi_106_14 : (zM 106).1[14]? = some (.getfield 10200) := by rfl
theorem zi_106_15 : (zM 106).1[15]? = some (.getfield 3201) := by rfl
theorem zi_106_16 : (zM 106).1[16]? = some (.iload 1) := by rfl
theorem zi_106_17 : (zM 106).1[17]? = some (.iaload) := by rfl
theorem zi_106_18 : (zM 106).1[18]? = some (.iconst (-4)) := by rfl
theorem zi_106_19 : (zM 106).1[19]? = some (.if_icmp .eq ((22 : Nat) : Int)) := by rfl
theorem zi_106_20 : (zM 106).1[20]? = some (.iconst (-2)) := by rfl
theorem zi_106_21 : (zM 106).1[21]? = some (.ireturn) := by rfl
theorem zi_106_22 : (zM 106).1[22]? = some (.iload 5) := by rfl
theorem zi_106_23 : (zM 106).1[23]? = some (.ifCond .ne ((31 : Nat) : Int)) := by rfl
theorem zi_106_24 : (zM 106).1[24]? = some (.aload 0) := by rfl
theorem zi_106_25 : (zM 106).1[25]? = some (.iload 1) := by rfl
theorem zi_106_26 : (zM 106).1[26]? = some (.iload 2) := by rfl
theorem zi_106_27 : (zM 106).1[27]? = some (.iload 3) := by rfl
theorem zi_106_28 : (zM 106).1[28]? = some (.iload 4) := by rfl
theorem zi_106_29 : (zM 106).1[29]? = some (.invokevirtual 129) := by rfl
theorem zi_106_30 : (zM 106).1[30]? = some (.goto ((37 : Nat) : Int)) := by rfl
theorem zi_106_31 : (zM 106).1[31]? = some (.aload 0) := by rfl
theorem zi_106_32 : (zM 106).1[32]? = some (.iload 1) := by rfl
theorem zi_106_33 : (zM 106).1[33]? = some (.iload 2) := by rfl
theorem zi_106_34 : (zM 106).1[34]? = some (.iload 3) := by rfl
theorem zi_106_35 : (zM 106).1[35]? = some (.iload 4) := by rfl
theorem zi_106_36 : (zM 106).1[36]? = some (.invokevirtual 130) := by rfl
theorem zi_106_37 : (zM 106).1[37]? = some (.ireturn) := by rfl
/-- TakeOrPay.jumps(IIIII)I -/
def w_106 (E : Nat → Nat) (d : Nat) (a0 : Nat) (a1 : Int32) (a2 : Int32) (a3 : Int32) (a4 : Int32) (a5 : Int32) (h : ZH) (Q : Option Value → ZH → Prop) : Prop := ztag h a0 = 10 ∧ 2 ≤ d ∧ sz_127 E h a0 a1 0 a2 a3 a4 ∧ (((fz_127 E h a0 a1 0 a2 a3 a4 : Int32) = 0 → (Q (some (.int ((-1)))) h)) ∧ (¬ ((fz_127 E h a0 a1 0 a2 a3 a4 : Int32) = 0) → (1 ≤ d ∧ sz_123 E h a5 ∧ ((¬ (fz_123 E h a5 : Int32) = 0 → (∃ r2 : Nat, zR h a0 0 = r2 + 1 ∧ ztag h r2 = 3 ∧ ∃ r4 : Nat, zR h r2 1 = r4 + 1 ∧ (ztag h r4 = 13 ∨ ztag h r4 = 19) ∧ zin a1 (zlen h r4) = true ∧ (((zI h r4 a1.toNatClampNeg : Int32) = ((-4) : Int32) → ((¬ a5 = 0 → (Ct E d 130 [.ref a0, .int a1, .int a2, .int a3, .int a4] h (fun v h6 => ∃ x7 : Int32, v = some (.int x7) ∧ Q (some (.int x7)) h6))) ∧ (¬ (¬ a5 = 0) → (Ct E d 129 [.ref a0, .int a1, .int a2, .int a3, .int a4] h (fun v h8 => ∃ x9 : Int32, v = some (.int x9) ∧ Q (some (.int x9)) h8))))) ∧ (¬ ((zI h r4 a1.toNatClampNeg : Int32) = ((-4) : Int32)) → (Q (some (.int ((-2)))) h))))) ∧ (¬ (¬ (fz_123 E h a5 : Int32) = 0) → (Q (some (.int ((-1)))) h))))))
set_option maxRecDepth 20000 in
theorem ok_106 {E : Nat → Nat} {d : Nat} {a0 : Nat} {a1 : Int32} {a2 : Int32} {a3 : Int32} {a4 : Int32} {a5 : Int32} {h : ZH} {Q : Option Value → ZH → Prop} (hw : w_106 E d a0 a1 a2 a3 a4 a5 h Q) : Ct E (d + 1) 106 [.ref a0, .int a1, .int a2, .int a3, .int a4, .int a5] h Q := by
  unfold w_106 at hw
  show Gx E (d + 1) 106 0 [.ref a0, .int a1, .int a2, .int a3, .int a4, .int a5] [] h Q
  refine zg_aload zi_106_0 rfl ?_
  refine zg_iload zi_106_1 rfl ?_
  refine zg_const (v := 0) zi_106_2 (by rfl) ?_
  refine zg_iload zi_106_3 rfl ?_
  refine zg_iload zi_106_4 rfl ?_
  refine zg_iload zi_106_5 rfl ?_
  obtain ⟨t1, hw⟩ := hw
  obtain ⟨hd, hs, hw⟩ := hw
  refine Gx.call2 (as := [.ref a0, .int a1, .int 0, .int a2, .int a3, .int a4]) (rest := []) zq_127 zi_106_6 rfl rfl rfl (Nat.le_of_ble_eq_true rfl) (Nat.le_of_ble_eq_true rfl) (zrv_v t1 rfl rfl) (Nat.le_of_ble_eq_true rfl) ?_
  refine cz_127 hd hs ?_
  show Gx E (d + 1) 106 7 [.ref a0, .int a1, .int a2, .int a3, .int a4, .int a5] [.int (fz_127 E h a0 a1 0 a2 a3 a4)] h Q
  refine zg_if_eq zi_106_7 (fun hc => ?_) (fun hc => ?_)
  · have hw := hw.1 hc
    refine zg_const (v := (-1)) zi_106_11 (by rfl) ?_
    exact zg_ireturn zi_106_12 (by decide) hw
  · have hw := hw.2 hc
    refine zg_iload zi_106_8 rfl ?_
    obtain ⟨hd, hs, hw⟩ := hw
    refine Gx.call2 (as := [.int a5]) (rest := []) zq_123 zi_106_9 rfl rfl rfl (Nat.le_of_ble_eq_true rfl) (Nat.le_of_ble_eq_true rfl) (rfl) (Nat.le_of_ble_eq_true rfl) ?_
    refine cz_123 hd hs ?_
    show Gx E (d + 1) 106 10 [.ref a0, .int a1, .int a2, .int a3, .int a4, .int a5] [.int (fz_123 E h a5)] h Q
    refine zg_if_ne zi_106_10 (fun hc => ?_) (fun hc => ?_)
    · have hw := hw.1 hc
      refine zg_aload zi_106_13 rfl ?_
      obtain ⟨r2, er2, hw⟩ := hw
      refine zg_getR (v := .ref r2) zi_106_14 t1 (by rfl) (by show zrv (zR h a0 0) = _; rw [er2]; rfl) ?_
      obtain ⟨t3, hw⟩ := hw
      obtain ⟨r4, er4, hw⟩ := hw
      refine zg_getR (v := .ref r4) zi_106_15 t3 (by rfl) (by show zrv (zR h r2 1) = _; rw [er4]; rfl) ?_
      refine zg_iload zi_106_16 rfl ?_
      obtain ⟨t5, hw⟩ := hw
      obtain ⟨hb, hw⟩ := hw
      refine zg_iaload (v := .int (zI h r4 a1.toNatClampNeg)) zi_106_17 t5 hb rfl ?_
      refine zg_const (v := (-4)) zi_106_18 (by rfl) ?_
      refine zg_icmp_eq zi_106_19 (fun hc => ?_) (fun hc => ?_)
      · have hw := hw.1 hc
        refine zg_iload zi_106_22 rfl ?_
        refine zg_if_ne zi_106_23 (fun hc => ?_) (fun hc => ?_)
        · have hw := hw.1 hc
          refine zg_aload zi_106_31 rfl ?_
          refine zg_iload zi_106_32 rfl ?_
          refine zg_iload zi_106_33 rfl ?_
          refine zg_iload zi_106_34 rfl ?_
          refine zg_iload zi_106_35 rfl ?_
          refine Gx.call2 (as := [.ref a0, .int a1, .int a2, .int a3, .int a4]) (rest := []) zq_130 zi_106_36 rfl rfl rfl (Nat.le_of_ble_eq_true rfl) (Nat.le_of_ble_eq_true rfl) (zrv_v t1 rfl rfl) (Nat.le_of_ble_eq_true rfl) ?_
          refine Ct.mono hw ?_
          rintro v h6 ⟨x7, rfl, hw⟩
          show Gx E (d + 1) 106 37 [.ref a0, .int a1, .int a2, .int a3, .int a4, .int a5] [.int x7] h6 Q
          exact zg_ireturn zi_106_37 (by decide) hw
        · have hw := hw.2 hc
          refine zg_aload zi_106_24 rfl ?_
          refine zg_iload zi_106_25 rfl ?_
          refine zg_iload zi_106_26 rfl ?_
          refine zg_iload zi_106_27 rfl ?_
          refine zg_iload zi_106_28 rfl ?_
          refine Gx.call2 (as := [.ref a0, .int a1, .int a2, .int a3, .int a4]) (rest := []) zq_129 zi_106_29 rfl rfl rfl (Nat.le_of_ble_eq_true rfl) (Nat.le_of_ble_eq_true rfl) (zrv_v t1 rfl rfl) (Nat.le_of_ble_eq_true rfl) ?_
          refine Ct.mono hw ?_
          rintro v h8 ⟨x9, rfl, hw⟩
          show Gx E (d + 1) 106 30 [.ref a0, .int a1, .int a2, .int a3, .int a4, .int a5] [.int x9] h8 Q
          refine zg_goto zi_106_30 ?_
          exact zg_ireturn zi_106_37 (by decide) hw
      · have hw := hw.2 hc
        refine zg_const (v := (-2)) zi_106_20 (by rfl) ?_
        exact zg_ireturn zi_106_21 (by decide) hw
    · have hw := hw.2 hc
      refine zg_const (v := (-1)) zi_106_11 (by rfl) ?_
      exact zg_ireturn zi_106_12 (by decide) hw
theorem zq_107 : zQ 107 2 2 10 := by unfold zQ; decide +kernel
theorem zi_107_0 : (zM 107).1[0]? = some (.iload 1) := by rfl
theorem zi_107_1 : (zM 107).1[1]? = some (.ifCond .lt ((5 : Nat) : Int)) := by rfl
theorem zi_107_2 : (zM 107).1[2]? = some (.iload 1) := by rfl
theorem zi_107_3 : (zM 107).1[3]? = some (.iconst 4) := by rfl
theorem zi_107_4 : (zM 107).1[4]? = some (.if_icmp .le ((7 : Nat) : Int)) := by rfl
theorem zi_107_5 : (zM 107).1[5]? = some (.jsr_w (-9000000000000000001)) := by rfl
theorem zi_107_6 : (zM 107).1[6]? = some (.lreturn) := by rfl
theorem zi_107_7 : (zM 107).1[7]? = some (.aload 0) := by rfl
theorem zi_107_8 : (zM 107).1[8]? = some (.getfield 10206) := by rfl
theorem zi_107_9 : (zM 107).1[9]? = some (.invokevirtual 20) := by rfl
theorem zi_107_10 : (zM 107).1[10]? = some (.iload 1) := by rfl
theorem zi_107_11 : (zM 107).1[11]? = some (.tableswitch 27 0 2 #[12, 17, 22]) := by rfl
theorem zi_107_12 : (zM 107).1[12]? = some (.aload 0) := by rfl
theorem zi_107_13 : (zM 107).1[13]? = some (.getfield 10206) := by rfl
theorem zi_107_14 : (zM 107).1[14]? = some (.getfield 1014) := by rfl
theorem zi_107_15 : (zM 107).1[15]? = some (.i2l) := by rfl
theorem zi_107_16 : (zM 107).1[16]? = some (.lreturn) := by rfl
theorem zi_107_17 : (zM 107).1[17]? = some (.aload 0) := by rfl
theorem zi_107_18 : (zM 107).1[18]? = some (.getfield 10206) := by rfl
theorem zi_107_19 : (zM 107).1[19]? = some (.getfield 1015) := by rfl
theorem zi_107_20 : (zM 107).1[20]? = some (.i2l) := by rfl
theorem zi_107_21 : (zM 107).1[21]? = some (.lreturn) := by rfl
theorem zi_107_22 : (zM 107).1[22]? = some (.aload 0) := by rfl
theorem zi_107_23 : (zM 107).1[23]? = some (.getfield 10206) := by rfl
theorem zi_107_24 : (zM 107).1[24]? = some (.getfield 1016) := by rfl
theorem zi_107_25 : (zM 107).1[25]? = some (.i2l) := by rfl
theorem zi_107_26 : (zM 107).1[26]? = some (.lreturn) := by rfl
theorem zi_107_27 : (zM 107).1[27]? = some (.aload 0) := by rfl
theorem zi_107_28 : (zM 107).1[28]? = some (.getfield 10206) := by rfl
theorem zi_107_29 : (zM 107).1[29]? = some (.getfield 1117) := by rfl
theorem zi_107_30 : (zM 107).1[30]? = some (.aload 0) := by rfl
theorem zi_107_31 : (zM 107).1[31]? = some (.getfield 10200) := by rfl
theorem zi_107_32 : (zM 107).1[32]? = some (.getfield 3006) := by rfl
theorem zi_107_33 : (zM 107).1[33]? = some (.iload 1) := by rfl
theorem zi_107_34 : (zM 107).1[34]? = some (.iconst 3) := by rfl
theorem zi_107_35 : (zM 107).1[35]? = some (.isub) := by rfl
theorem zi_107_36 : (zM 107).1[36]? = some (.invokestatic 128) := by rfl
theorem zi_107_37 : (zM 107).1[37]? = some (.lreturn) := by rfl
set_option maxRecDepth 20000 in
theorem zsl_107_11 : ∀ z : Int, ¬ (z < 0 ∨ 2 < z) → ¬ z = 0 → ¬ z = 1 →  z = 2 := by intros; omega
/-- TakeOrPay.offers(I)J -/
def w_107 (E : Nat → Nat) (d : Nat) (a0 : Nat) (a1 : Int32) (h : ZH) (Q : Option Value → ZH → Prop) : Prop := (a1 < 0 → (Q (some (.long ((-9000000000000000001)))) h)) ∧ (¬ (a1 < 0) → ((a1 ≤ 4 → (ztag h a0 = 10 ∧ ∃ r2 : Nat, zR h a0 6 = r2 + 1 ∧ ztag h r2 = 1 ∧ Ct E d 20 [.ref r2] h (fun v h4 => v = none ∧ (((a1.toInt < 0 ∨ 2 < a1.toInt) → (ztag h4 a0 = 10 ∧ ∃ r6 : Nat, zR h4 a0 6 = r6 + 1 ∧ ztag h4 r6 = 1 ∧ ∃ r8 : Nat, zR h4 a0 0 = r8 + 1 ∧ ztag h4 r8 = 3 ∧ Ct E d 128 [.long (zL h4 r6 17), .int (zI h4 r8 6), .int (a1 - 3)] h4 (fun v h10 => ∃ x11 : Int64, v = some (.long x11) ∧ Q (some (.long x11)) h10))) ∧ (a1.toInt = 0 → (ztag h4 a0 = 10 ∧ ∃ r13 : Nat, zR h4 a0 6 = r13 + 1 ∧ ztag h4 r13 = 1 ∧ Q (some (.long ((zI h4 r13 14 : Int32).toInt64))) h4)) ∧ (a1.toInt = 1 → (ztag h4 a0 = 10 ∧ ∃ r16 : Nat, zR h4 a0 6 = r16 + 1 ∧ ztag h4 r16 = 1 ∧ Q (some (.long ((zI h4 r16 15 : Int32).toInt64))) h4)) ∧ (a1.toInt = 2 → (ztag h4 a0 = 10 ∧ ∃ r19 : Nat, zR h4 a0 6 = r19 + 1 ∧ ztag h4 r19 = 1 ∧ Q (some (.long ((zI h4 r19 16 : Int32).toInt64))) h4)))))) ∧ (¬ (a1 ≤ 4) → (Q (some (.long ((-9000000000000000001)))) h))))
set_option maxRecDepth 20000 in
theorem ok_107 {E : Nat → Nat} {d : Nat} {a0 : Nat} {a1 : Int32} {h : ZH} {Q : Option Value → ZH → Prop} (hw : w_107 E d a0 a1 h Q) : Ct E (d + 1) 107 [.ref a0, .int a1] h Q := by
  unfold w_107 at hw
  show Gx E (d + 1) 107 0 [.ref a0, .int a1] [] h Q
  refine zg_iload zi_107_0 rfl ?_
  refine zg_if_lt zi_107_1 (fun hc => ?_) (fun hc => ?_)
  · have hw := hw.1 hc
    refine zg_lconst (v := (-9000000000000000001)) zi_107_5 (by rfl) ?_
    exact zg_lreturn zi_107_6 hw
  · have hw := hw.2 hc
    refine zg_iload zi_107_2 rfl ?_
    refine zg_const (v := 4) zi_107_3 (by rfl) ?_
    refine zg_icmp_le zi_107_4 (fun hc => ?_) (fun hc => ?_)
    · have hw := hw.1 hc
      refine zg_aload zi_107_7 rfl ?_
      obtain ⟨t1, hw⟩ := hw
      obtain ⟨r2, er2, hw⟩ := hw
      refine zg_getR (v := .ref r2) zi_107_8 t1 (by rfl) (by show zrv (zR h a0 6) = _; rw [er2]; rfl) ?_
      obtain ⟨t3, hw⟩ := hw
      refine Gx.call2 (as := [.ref r2]) (rest := []) zq_20 zi_107_9 rfl rfl rfl (Nat.le_of_ble_eq_true rfl) (Nat.le_of_ble_eq_true rfl) (zrv_v t3 rfl rfl) (Nat.le_of_ble_eq_true rfl) ?_
      refine Ct.mono hw ?_
      rintro v h4 ⟨rfl, hw⟩
      show Gx E (d + 1) 107 10 [.ref a0, .int a1] [] h4 Q
      refine zg_iload zi_107_10 rfl ?_
      by_cases ho : a1.toInt < 0 ∨ 2 < a1.toInt
      · have hw := hw.1 ho
        refine zg_switch (t := 27) zi_107_11 (by unfold zsw; rw [if_pos ho]; rfl) ?_
        refine zg_aload zi_107_27 rfl ?_
        obtain ⟨t5, hw⟩ := hw
        obtain ⟨r6, er6, hw⟩ := hw
        refine zg_getR (v := .ref r6) zi_107_28 t5 (by rfl) (by show zrv (zR h4 a0 6) = _; rw [er6]; rfl) ?_
        obtain ⟨t7, hw⟩ := hw
        refine zg_getL (v := .long (zL h4 r6 17)) zi_107_29 t7 (by rfl) rfl ?_
        refine zg_aload zi_107_30 rfl ?_
        obtain ⟨r8, er8, hw⟩ := hw
        refine zg_getR (v := .ref r8) zi_107_31 t5 (by rfl) (by show zrv (zR h4 a0 0) = _; rw [er8]; rfl) ?_
        obtain ⟨t9, hw⟩ := hw
        refine zg_getI (v := .int (zI h4 r8 6)) zi_107_32 t9 (by rfl) rfl ?_
        refine zg_iload zi_107_33 rfl ?_
        refine zg_const (v := 3) zi_107_34 (by rfl) ?_
        refine zg_isub zi_107_35 ?_
        refine Gx.call2 (as := [.long (zL h4 r6 17), .int (zI h4 r8 6), .int (a1 - 3)]) (rest := []) zq_128 zi_107_36 rfl rfl rfl (Nat.le_of_ble_eq_true rfl) (Nat.le_of_ble_eq_true rfl) (rfl) (Nat.le_of_ble_eq_true rfl) ?_
        refine Ct.mono hw ?_
        rintro v h10 ⟨x11, rfl, hw⟩
        show Gx E (d + 1) 107 37 [.ref a0, .int a1] [.long x11] h10 Q
        exact zg_lreturn zi_107_37 hw
      have hw := hw.2
      by_cases hv0 : a1.toInt = 0
      · have hw := hw.1 hv0
        refine zg_switch (t := 12) zi_107_11 (by rw [hv0]; rfl) ?_
        refine zg_aload zi_107_12 rfl ?_
        obtain ⟨t12, hw⟩ := hw
        obtain ⟨r13, er13, hw⟩ := hw
        refine zg_getR (v := .ref r13) zi_107_13 t12 (by rfl) (by show zrv (zR h4 a0 6) = _; rw [er13]; rfl) ?_
        obtain ⟨t14, hw⟩ := hw
        refine zg_getI (v := .int (zI h4 r13 14)) zi_107_14 t14 (by rfl) rfl ?_
        refine zg_i2l zi_107_15 ?_
        exact zg_lreturn zi_107_16 hw
      have hw := hw.2
      by_cases hv1 : a1.toInt = 1
      · have hw := hw.1 hv1
        refine zg_switch (t := 17) zi_107_11 (by rw [hv1]; rfl) ?_
        refine zg_aload zi_107_17 rfl ?_
        obtain ⟨t15, hw⟩ := hw
        obtain ⟨r16, er16, hw⟩ := hw
        refine zg_getR (v := .ref r16) zi_107_18 t15 (by rfl) (by show zrv (zR h4 a0 6) = _; rw [er16]; rfl) ?_
        obtain ⟨t17, hw⟩ := hw
        refine zg_getI (v := .int (zI h4 r16 15)) zi_107_19 t17 (by rfl) rfl ?_
        refine zg_i2l zi_107_20 ?_
        exact zg_lreturn zi_107_21 hw
      have hw := hw.2
      have hv2 : a1.toInt = 2 := zsl_107_11 _ ho hv0 hv1
      have hw := hw hv2
      refine zg_switch (t := 22) zi_107_11 (by rw [hv2]; rfl) ?_
      refine zg_aload zi_107_22 rfl ?_
      obtain ⟨t18, hw⟩ := hw
      obtain ⟨r19, er19, hw⟩ := hw
      refine zg_getR (v := .ref r19) zi_107_23 t18 (by rfl) (by show zrv (zR h4 a0 6) = _; rw [er19]; rfl) ?_
      obtain ⟨t20, hw⟩ := hw
      refine zg_getI (v := .int (zI h4 r19 16)) zi_107_24 t20 (by rfl) rfl ?_
      refine zg_i2l zi_107_25 ?_
      exact zg_lreturn zi_107_26 hw
    · have hw := hw.2 hc
      refine zg_lconst (v := (-9000000000000000001)) zi_107_5 (by rfl) ?_
      exact zg_lreturn zi_107_6 hw
theorem zq_126 : zQ 126 2 2 10 := by unfold zQ; decide +kernel
theorem zi_126_0 : (zM 126).1[0]? = some (.iload 0) := by rfl
theorem zi_126_1 : (zM 126).1[1]? = some (.invokestatic 120) := by rfl
theorem zi_126_2 : (zM 126).1[2]? = some (.ifCond .eq ((10 : Nat) : Int)) := by rfl
theorem zi_126_3 : (zM 126).1[3]? = some (.iload 1) := by rfl
theorem zi_126_4 : (zM 126).1[4]? = some (.ifCond .lt ((10 : Nat) : Int)) := by rfl
theorem zi_126_5 : (zM 126).1[5]? = some (.iload 1) := by rfl
theorem zi_126_6 : (zM 126).1[6]? = some (.iconst 9) := by rfl
theorem zi_126_7 : (zM 126).1[7]? = some (.if_icmp .gt ((10 : Nat) : Int)) := by rfl
theorem zi_126_8 : (zM 126).1[8]? = some (.iconst 1) := by rfl
theorem zi_126_9 : (zM 126).1[9]? = some (.goto ((11 : Nat) : Int)) := by rfl
theorem zi_126_10 : (zM 126).1[10]? = some (.iconst 0) := by rfl
theorem zi_126_11 : (zM 126).1[11]? = some (.ireturn) := by rfl
/-- TakeOrPay.isToldDay(II)Z -/
def w_126 (E : Nat → Nat) (d : Nat) (a0 : Int32) (a1 : Int32) (h : ZH) (Q : Option Value → ZH → Prop) : Prop := 1 ≤ d ∧ sz_120 E h a0 ∧ Q (some (.int (if (fz_120 E h a0 : Int32) = 0 then 0 else if a1 < 0 then 0 else if 9 < a1 then 0 else 1))) h
set_option maxRecDepth 20000 in
theorem ok_126 {E : Nat → Nat} {d : Nat} {a0 : Int32} {a1 : Int32} {h : ZH} {Q : Option Value → ZH → Prop} (hw : w_126 E d a0 a1 h Q) : Ct E (d + 1) 126 [.int a0, .int a1] h Q := by
  unfold w_126 at hw
  show Gx E (d + 1) 126 0 [.int a0, .int a1] [] h Q
  refine zg_iload zi_126_0 rfl ?_
  obtain ⟨hd, hs, hw⟩ := hw
  refine Gx.call2 (as := [.int a0]) (rest := []) zq_120 zi_126_1 rfl rfl rfl (Nat.le_of_ble_eq_true rfl) (Nat.le_of_ble_eq_true rfl) (rfl) (Nat.le_of_ble_eq_true rfl) ?_
  refine cz_120 hd hs ?_
  show Gx E (d + 1) 126 2 [.int a0, .int a1] [.int (fz_120 E h a0)] h Q
  have g2 : Gx E (d + 1) 126 11 [.int a0, .int a1] [.int (if (fz_120 E h a0 : Int32) = 0 then 0 else if a1 < 0 then 0 else if 9 < a1 then 0 else 1)] h Q := by
    exact zg_zreturn zi_126_11 (by (repeat' split) <;> first | (left; rfl) | (right; rfl) | exact fb_120) hw
  refine zg_if_eq zi_126_2 (fun hc2 => ?_) (fun hc2 => ?_)
  · skip
    refine zg_const (v := 0) zi_126_10 (by rfl) ?_
    have hg := g2
    simp only [if_pos hc2] at hg
    exact hg
  · skip
    refine zg_iload zi_126_3 rfl ?_
    have g4 : Gx E (d + 1) 126 11 [.int a0, .int a1] [.int (if a1 < 0 then 0 else if 9 < a1 then 0 else 1)] h Q := by
      have hg := g2
      simp only [if_neg hc2] at hg
      exact hg
    refine zg_if_lt zi_126_4 (fun hc4 => ?_) (fun hc4 => ?_)
    · skip
      refine zg_const (v := 0) zi_126_10 (by rfl) ?_
      have hg := g4
      simp only [if_pos hc4] at hg
      exact hg
    · skip
      refine zg_iload zi_126_5 rfl ?_
      refine zg_const (v := 9) zi_126_6 (by rfl) ?_
      have g7 : Gx E (d + 1) 126 11 [.int a0, .int a1] [.int (if 9 < a1 then 0 else 1)] h Q := by
        have hg := g4
        simp only [if_neg hc4] at hg
        exact hg
      refine zg_icmp_gt zi_126_7 (fun hc7 => ?_) (fun hc7 => ?_)
      · skip
        refine zg_const (v := 0) zi_126_10 (by rfl) ?_
        have hg := g7
        simp only [if_pos hc7] at hg
        exact hg
      · skip
        refine zg_const (v := 1) zi_126_8 (by rfl) ?_
        refine zg_goto zi_126_9 ?_
        have hg := g7
        simp only [if_neg hc7] at hg
        exact hg
def fz_126 (E : Nat → Nat) (h : ZH) (a0 : Int32) (a1 : Int32) : Int32 := if (fz_120 E h a0 : Int32) = 0 then 0 else if a1 < 0 then 0 else if 9 < a1 then 0 else 1
def sz_126 (E : Nat → Nat) (h : ZH) (a0 : Int32) (a1 : Int32) : Prop := sz_120 E h a0 ∧ True
set_option maxRecDepth 20000 in
theorem fb_126 {E : Nat → Nat} {h : ZH} {a0 : Int32} {a1 : Int32} : fz_126 E h a0 a1 = 0 ∨ fz_126 E h a0 a1 = 1 := by
  unfold fz_126
  (try dsimp only)
  (repeat' split) <;> first | (left; rfl) | (right; rfl) | exact fb_120
set_option maxRecDepth 20000 in
theorem cz_126 {E : Nat → Nat} {d : Nat} {a0 : Int32} {a1 : Int32} {h : ZH} {Q : Option Value → ZH → Prop} (hd : 2 ≤ d) (hs : sz_126 E h a0 a1) (hq : Q (some (.int (fz_126 E h a0 a1))) h) : Ct E d 126 [.int a0, .int a1] h Q := by
  obtain ⟨d, rfl⟩ : ∃ n, d = n + 1 := ⟨d - 1, by omega⟩
  refine ok_126 ?_
  unfold w_126
  unfold sz_126 at hs
  unfold fz_126 at hq
  refine ⟨by omega, ?_⟩
  refine ⟨hs.1, ?_⟩
  have hs := hs.2
  exact hq
theorem zq_108 : zQ 108 3 3 10 := by unfold zQ; decide +kernel
theorem zi_108_0 : (zM 108).1[0]? = some (.iload 1) := by rfl
theorem zi_108_1 : (zM 108).1[1]? = some (.iload 2) := by rfl
theorem zi_108_2 : (zM 108).1[2]? = some (.invokestatic 126) := by rfl
theorem zi_108_3 : (zM 108).1[3]? = some (.ifCond .ne ((6 : Nat) : Int)) := by rfl
theorem zi_108_4 : (zM 108).1[4]? = some (.iconst (-1)) := by rfl
theorem zi_108_5 : (zM 108).1[5]? = some (.ireturn) := by rfl
theorem zi_108_6 : (zM 108).1[6]? = some (.aload 0) := by rfl
theorem zi_108_7 : (zM 108).1[7]? = some (.getfield 10203) := by rfl
theorem zi_108_8 : (zM 108).1[8]? = some (.getfield 5002) := by rfl
theorem zi_108_9 : (zM 108).1[9]? = some (.aload 0) := by rfl
theorem zi_108_10 : (zM 108).1[10]? = some (.getfield 10200) := by rfl
theorem zi_108_11 : (zM 108).1[11]? = some (.getfield 3006) := by rfl
theorem zi_108_12 : (zM 108).1[12]? = some (.if_icmp .lt ((15 : Nat) : Int)) := by rfl
theorem zi_108_13 : (zM 108).1[13]? = some (.iconst (-3)) := by rfl
theorem zi_108_14 : (zM 108).1[14]? = some (.ireturn) := by rfl
theorem zi_108_15 : (zM 108).1[15]? = some (.aload 0) := by rfl
theorem zi_108_16 : (zM 108).1[16]? = some (.getfield 10203) := by rfl
theorem zi_108_17 : (zM 108).1[17]? = some (.iload 1) := by rfl
theorem zi_108_18 : (zM 108).1[18]? = some (.iload 2) := by rfl
theorem zi_108_19 : (zM 108).1[19]? = some (.invokevirtual 66) := by rfl
theorem zi_108_20 : (zM 108).1[20]? = some (.aload 0) := by rfl
theorem zi_108_21 : (zM 108).1[21]? = some (.getfield 10206) := by rfl
theorem zi_108_22 : (zM 108).1[22]? = some (.invokevirtual 15) := by rfl
theorem zi_108_23 : (zM 108).1[23]? = some (.aload 0) := by rfl
theorem zi_108_24 : (zM 108).1[24]? = some (.getfield 10203) := by rfl
theorem zi_108_25 : (zM 108).1[25]? = some (.getfield 5002) := by rfl
theorem zi_108_26 : (zM 108).1[26]? = some (.ireturn) := by rfl
/-- TakeOrPay.day(II)I -/
def w_108 (E : Nat → Nat) (d : Nat) (a0 : Nat) (a1 : Int32) (a2 : Int32) (h : ZH) (Q : Option Value → ZH → Prop) : Prop := 2 ≤ d ∧ sz_126 E h a1 a2 ∧ ((¬ (fz_126 E h a1 a2 : Int32) = 0 → (ztag h a0 = 10 ∧ ∃ r2 : Nat, zR h a0 3 = r2 + 1 ∧ ztag h r2 = 5 ∧ ∃ r4 : Nat, zR h a0 0 = r4 + 1 ∧ ztag h r4 = 3 ∧ (((zI h r2 2 : Int32) < (zI h r4 6 : Int32) → (Ct E d 66 [.ref r2, .int a1, .int a2] h (fun v h6 => v = none ∧ ztag h6 a0 = 10 ∧ ∃ r8 : Nat, zR h6 a0 6 = r8 + 1 ∧ ztag h6 r8 = 1 ∧ Ct E d 15 [.ref r8] h6 (fun v h10 => v = none ∧ ztag h10 a0 = 10 ∧ ∃ r12 : Nat, zR h10 a0 3 = r12 + 1 ∧ ztag h10 r12 = 5 ∧ Q (some (.int (zI h10 r12 2))) h10)))) ∧ (¬ ((zI h r2 2 : Int32) < (zI h r4 6 : Int32)) → (Q (some (.int ((-3)))) h))))) ∧ (¬ (¬ (fz_126 E h a1 a2 : Int32) = 0) → (Q (some (.int ((-1)))) h)))
set_option maxRecDepth 20000 in
theorem ok_108 {E : Nat → Nat} {d : Nat} {a0 : Nat} {a1 : Int32} {a2 : Int32} {h : ZH} {Q : Option Value → ZH → Prop} (hw : w_108 E d a0 a1 a2 h Q) : Ct E (d + 1) 108 [.ref a0, .int a1, .int a2] h Q := by
  unfold w_108 at hw
  show Gx E (d + 1) 108 0 [.ref a0, .int a1, .int a2] [] h Q
  refine zg_iload zi_108_0 rfl ?_
  refine zg_iload zi_108_1 rfl ?_
  obtain ⟨hd, hs, hw⟩ := hw
  refine Gx.call2 (as := [.int a1, .int a2]) (rest := []) zq_126 zi_108_2 rfl rfl rfl (Nat.le_of_ble_eq_true rfl) (Nat.le_of_ble_eq_true rfl) (rfl) (Nat.le_of_ble_eq_true rfl) ?_
  refine cz_126 hd hs ?_
  show Gx E (d + 1) 108 3 [.ref a0, .int a1, .int a2] [.int (fz_126 E h a1 a2)] h Q
  refine zg_if_ne zi_108_3 (fun hc => ?_) (fun hc => ?_)
  · have hw := hw.1 hc
    refine zg_aload zi_108_6 rfl ?_
    obtain ⟨t1, hw⟩ := hw
    obtain ⟨r2, er2, hw⟩ := hw
    refine zg_getR (v := .ref r2) zi_108_7 t1 (by rfl) (by show zrv (zR h a0 3) = _; rw [er2]; rfl) ?_
    obtain ⟨t3, hw⟩ := hw
    refine zg_getI (v := .int (zI h r2 2)) zi_108_8 t3 (by rfl) rfl ?_
    refine zg_aload zi_108_9 rfl ?_
    obtain ⟨r4, er4, hw⟩ := hw
    refine zg_getR (v := .ref r4) zi_108_10 t1 (by rfl) (by show zrv (zR h a0 0) = _; rw [er4]; rfl) ?_
    obtain ⟨t5, hw⟩ := hw
    refine zg_getI (v := .int (zI h r4 6)) zi_108_11 t5 (by rfl) rfl ?_
    refine zg_icmp_lt zi_108_12 (fun hc => ?_) (fun hc => ?_)
    · have hw := hw.1 hc
      refine zg_aload zi_108_15 rfl ?_
      refine zg_getR (v := .ref r2) zi_108_16 t1 (by rfl) (by show zrv (zR h a0 3) = _; rw [er2]; rfl) ?_
      refine zg_iload zi_108_17 rfl ?_
      refine zg_iload zi_108_18 rfl ?_
      refine Gx.call2 (as := [.ref r2, .int a1, .int a2]) (rest := []) zq_66 zi_108_19 rfl rfl rfl (Nat.le_of_ble_eq_true rfl) (Nat.le_of_ble_eq_true rfl) (zrv_v t3 rfl rfl) (Nat.le_of_ble_eq_true rfl) ?_
      refine Ct.mono hw ?_
      rintro v h6 ⟨rfl, hw⟩
      show Gx E (d + 1) 108 20 [.ref a0, .int a1, .int a2] [] h6 Q
      refine zg_aload zi_108_20 rfl ?_
      obtain ⟨t7, hw⟩ := hw
      obtain ⟨r8, er8, hw⟩ := hw
      refine zg_getR (v := .ref r8) zi_108_21 t7 (by rfl) (by show zrv (zR h6 a0 6) = _; rw [er8]; rfl) ?_
      obtain ⟨t9, hw⟩ := hw
      refine Gx.call2 (as := [.ref r8]) (rest := []) zq_15 zi_108_22 rfl rfl rfl (Nat.le_of_ble_eq_true rfl) (Nat.le_of_ble_eq_true rfl) (zrv_v t9 rfl rfl) (Nat.le_of_ble_eq_true rfl) ?_
      refine Ct.mono hw ?_
      rintro v h10 ⟨rfl, hw⟩
      show Gx E (d + 1) 108 23 [.ref a0, .int a1, .int a2] [] h10 Q
      refine zg_aload zi_108_23 rfl ?_
      obtain ⟨t11, hw⟩ := hw
      obtain ⟨r12, er12, hw⟩ := hw
      refine zg_getR (v := .ref r12) zi_108_24 t11 (by rfl) (by show zrv (zR h10 a0 3) = _; rw [er12]; rfl) ?_
      obtain ⟨t13, hw⟩ := hw
      refine zg_getI (v := .int (zI h10 r12 2)) zi_108_25 t13 (by rfl) rfl ?_
      exact zg_ireturn zi_108_26 (by decide) hw
    · have hw := hw.2 hc
      refine zg_const (v := (-3)) zi_108_13 (by rfl) ?_
      exact zg_ireturn zi_108_14 (by decide) hw
  · have hw := hw.2 hc
    refine zg_const (v := (-1)) zi_108_4 (by rfl) ?_
    exact zg_ireturn zi_108_5 (by decide) hw
theorem zq_109 : zQ 109 1 1 10 := by unfold zQ; decide +kernel
theorem zi_109_0 : (zM 109).1[0]? = some (.aload 0) := by rfl
theorem zi_109_1 : (zM 109).1[1]? = some (.getfield 10203) := by rfl
theorem zi_109_2 : (zM 109).1[2]? = some (.getfield 5002) := by rfl
theorem zi_109_3 : (zM 109).1[3]? = some (.ifCond .ne ((6 : Nat) : Int)) := by rfl
theorem zi_109_4 : (zM 109).1[4]? = some (.iconst (-4)) := by rfl
theorem zi_109_5 : (zM 109).1[5]? = some (.ireturn) := by rfl
theorem zi_109_6 : (zM 109).1[6]? = some (.aload 0) := by rfl
theorem zi_109_7 : (zM 109).1[7]? = some (.getfield 10203) := by rfl
theorem zi_109_8 : (zM 109).1[8]? = some (.dup) := by rfl
theorem zi_109_9 : (zM 109).1[9]? = some (.getfield 5002) := by rfl
theorem zi_109_10 : (zM 109).1[10]? = some (.iconst 1) := by rfl
theorem zi_109_11 : (zM 109).1[11]? = some (.isub) := by rfl
theorem zi_109_12 : (zM 109).1[12]? = some (.putfield 5002) := by rfl
theorem zi_109_13 : (zM 109).1[13]? = some (.aload 0) := by rfl
theorem zi_109_14 : (zM 109).1[14]? = some (.getfield 10206) := by rfl
theorem zi_109_15 : (zM 109).1[15]? = some (.invokevirtual 15) := by rfl
theorem zi_109_16 : (zM 109).1[16]? = some (.aload 0) := by rfl
theorem zi_109_17 : (zM 109).1[17]? = some (.getfield 10203) := by rfl
theorem zi_109_18 : (zM 109).1[18]? = some (.getfield 5002) := by rfl
theorem zi_109_19 : (zM 109).1[19]? = some (.ireturn) := by rfl
/-- TakeOrPay.back()I -/
def w_109 (E : Nat → Nat) (d : Nat) (a0 : Nat) (h : ZH) (Q : Option Value → ZH → Prop) : Prop := ztag h a0 = 10 ∧ ∃ r2 : Nat, zR h a0 3 = r2 + 1 ∧ ztag h r2 = 5 ∧ ((¬ (zI h r2 2 : Int32) = 0 → (∀ h4 : ZH, h4 = (zuI h r2 2 ((zI h r2 2) - 1)) → ∃ r5 : Nat, zR h4 a0 6 = r5 + 1 ∧ ztag h4 r5 = 1 ∧ Ct E d 15 [.ref r5] h4 (fun v h7 => v = none ∧ ztag h7 a0 = 10 ∧ ∃ r9 : Nat, zR h7 a0 3 = r9 + 1 ∧ ztag h7 r9 = 5 ∧ Q (some (.int (zI h7 r9 2))) h7))) ∧ (¬ (¬ (zI h r2 2 : Int32) = 0) → (Q (some (.int ((-4)))) h)))
set_option maxRecDepth 20000 in
theorem ok_109 {E : Nat → Nat} {d : Nat} {a0 : Nat} {h : ZH} {Q : Option Value → ZH → Prop} (hw : w_109 E d a0 h Q) : Ct E (d + 1) 109 [.ref a0] h Q := by
  unfold w_109 at hw
  show Gx E (d + 1) 109 0 [.ref a0] [] h Q
  refine zg_aload zi_109_0 rfl ?_
  obtain ⟨t1, hw⟩ := hw
  obtain ⟨r2, er2, hw⟩ := hw
  refine zg_getR (v := .ref r2) zi_109_1 t1 (by rfl) (by show zrv (zR h a0 3) = _; rw [er2]; rfl) ?_
  obtain ⟨t3, hw⟩ := hw
  refine zg_getI (v := .int (zI h r2 2)) zi_109_2 t3 (by rfl) rfl ?_
  refine zg_if_ne zi_109_3 (fun hc => ?_) (fun hc => ?_)
  · have hw := hw.1 hc
    refine zg_aload zi_109_6 rfl ?_
    refine zg_getR (v := .ref r2) zi_109_7 t1 (by rfl) (by show zrv (zR h a0 3) = _; rw [er2]; rfl) ?_
    refine zg_dup zi_109_8 rfl ?_
    refine zg_getI (v := .int (zI h r2 2)) zi_109_9 t3 (by rfl) rfl ?_
    refine zg_const (v := 1) zi_109_10 (by rfl) ?_
    refine zg_isub zi_109_11 ?_
    refine zg_putI (h1 := zuI h r2 2 ((zI h r2 2) - 1)) zi_109_12 t3 (by rfl) rfl ?_
    refine zg_nameH fun h4 eh4 => ?_
    have hw := hw h4 eh4
    refine zg_aload zi_109_13 rfl ?_
    obtain ⟨r5, er5, hw⟩ := hw
    refine zg_getR (v := .ref r5) zi_109_14 (by rw [eh4]; exact t1) (by rfl) (by show zrv (zR h4 a0 6) = _; rw [er5]; rfl) ?_
    obtain ⟨t6, hw⟩ := hw
    refine Gx.call2 (as := [.ref r5]) (rest := []) zq_15 zi_109_15 rfl rfl rfl (Nat.le_of_ble_eq_true rfl) (Nat.le_of_ble_eq_true rfl) (zrv_v t6 rfl rfl) (Nat.le_of_ble_eq_true rfl) ?_
    refine Ct.mono hw ?_
    rintro v h7 ⟨rfl, hw⟩
    show Gx E (d + 1) 109 16 [.ref a0] [] h7 Q
    refine zg_aload zi_109_16 rfl ?_
    obtain ⟨t8, hw⟩ := hw
    obtain ⟨r9, er9, hw⟩ := hw
    refine zg_getR (v := .ref r9) zi_109_17 t8 (by rfl) (by show zrv (zR h7 a0 3) = _; rw [er9]; rfl) ?_
    obtain ⟨t10, hw⟩ := hw
    refine zg_getI (v := .int (zI h7 r9 2)) zi_109_18 t10 (by rfl) rfl ?_
    exact zg_ireturn zi_109_19 (by decide) hw
  · have hw := hw.2 hc
    refine zg_const (v := (-4)) zi_109_4 (by rfl) ?_
    exact zg_ireturn zi_109_5 (by decide) hw
theorem zq_131 : zQ 131 2 3 10 := by unfold zQ; decide +kernel
theorem zi_131_0 : (zM 131).1[0]? = some (.aload 0) := by rfl
theorem zi_131_1 : (zM 131).1[1]? = some (.getfield 10204) := by rfl
theorem zi_131_2 : (zM 131).1[2]? = some (.invokevirtual 86) := by rfl
theorem zi_131_3 : (zM 131).1[3]? = some (.iconst 0) := by rfl
theorem zi_131_4 : (zM 131).1[4]? = some (.istore 2) := by rfl
theorem zi_131_5 : (zM 131).1[5]? = some (.iload 2) := by rfl
theorem zi_131_6 : (zM 131).1[6]? = some (.iload 1) := by rfl
theorem zi_131_7 : (zM 131).1[7]? = some (.if_icmp .ge ((25 : Nat) : Int)) := by rfl
theorem zi_131_8 : (zM 131).1[8]? = some (.aload 0) := by rfl
theorem zi_131_9 : (zM 131).1[9]? = some (.getfield 10204) := by rfl
theorem zi_131_10 : (zM 131).1[10]? = some (.aload 0) := by rfl
theorem zi_131_11 : (zM 131).1[11]? = some (.getfield 10200) := by rfl
theorem zi_131_12 : (zM 131).1[12]? = some (.aload 0) := by rfl
theorem zi_131_13 : (zM 131).1[13]? = some (.getfield 10203) := by rfl
theorem zi_131_14 : (zM 131).1[14]? = some (.getfield 5200) := by rfl
theorem zi_131_15 : (zM 131).1[15]? = some (.iload 2) := by rfl
theorem zi_131_16 : (zM 131).1[16]? = some (.iaload) := by rfl
theorem zi_131_17 : (zM 131).1[17]? = some (.aload 0) := by rfl
theorem zi_131_18 : (zM 131).1[18]? = some (.getfield 10203) := by rfl
theorem zi_131_19 : (zM 131).1[19]? = some (.getfield 5201) := by rfl
theorem zi_131_20 : (zM 131).1[20]? = some (.iload 2) := by rfl
theorem zi_131_21 : (zM 131).1[21]? = some (.iaload) := by rfl
theorem zi_131_22 : (zM 131).1[22]? = some (.invokevirtual 87) := by rfl
theorem zi_131_23 : (zM 131).1[23]? = some (.iinc 2 1) := by rfl
theorem zi_131_24 : (zM 131).1[24]? = some (.goto ((5 : Nat) : Int)) := by rfl
theorem zi_131_25 : (zM 131).1[25]? = some (.return_) := by rfl
def wl_131_5 (E : Nat → Nat) (d : Nat) (Q : Option Value → ZH → Prop) : Nat → Nat → Int32 → Int32 → ZH → Prop
  | 0, _, _, _, _ => False
  | n + 1, a0, a1, a2, h => (a1 ≤ a2 → (Q none h)) ∧ (¬ (a1 ≤ a2) → (ztag h a0 = 10 ∧ ∃ r6 : Nat, zR h a0 4 = r6 + 1 ∧ ∃ r7 : Nat, zR h a0 0 = r7 + 1 ∧ ∃ r8 : Nat, zR h a0 3 = r8 + 1 ∧ ztag h r8 = 5 ∧ ∃ r10 : Nat, zR h r8 0 = r10 + 1 ∧ (ztag h r10 = 13 ∨ ztag h r10 = 19) ∧ zin a2 (zlen h r10) = true ∧ ∃ r12 : Nat, zR h r8 1 = r12 + 1 ∧ (ztag h r12 = 13 ∨ ztag h r12 = 19) ∧ zin a2 (zlen h r12) = true ∧ ztag h r6 = 9 ∧ Ct E d 87 [.ref r6, .ref r7, .int (zI h r10 a2.toNatClampNeg), .int (zI h r12 a2.toNatClampNeg)] h (fun v h15 => v = none ∧ ∀ x16 : Int32, x16 = (a2 + 1) → wl_131_5 E d Q n a0 a1 x16 h15)))
set_option maxRecDepth 20000 in
theorem okl_131_5 {E : Nat → Nat} {d : Nat} {Q : Option Value → ZH → Prop} : ∀ (n : Nat) (a0 : Nat) (a1 : Int32) (a2 : Int32) (h : ZH), wl_131_5 E d Q n a0 a1 a2 h → Gx E (d + 1) 131 5 [.ref a0, .int a1, .int a2] [] h Q := by
  intro n
  induction n with
  | zero => intro a0 a1 a2 h hw; exact hw.elim
  | succ n ih =>
    intro a0 a1 a2 h hw
    rw [wl_131_5] at hw
    refine zg_iload zi_131_5 rfl ?_
    refine zg_iload zi_131_6 rfl ?_
    refine zg_icmp_ge zi_131_7 (fun hc => ?_) (fun hc => ?_)
    · have hw := hw.1 hc
      exact zg_return zi_131_25 hw
    · have hw := hw.2 hc
      refine zg_aload zi_131_8 rfl ?_
      obtain ⟨t5, hw⟩ := hw
      obtain ⟨r6, er6, hw⟩ := hw
      refine zg_getR (v := .ref r6) zi_131_9 t5 (by rfl) (by show zrv (zR h a0 4) = _; rw [er6]; rfl) ?_
      refine zg_aload zi_131_10 rfl ?_
      obtain ⟨r7, er7, hw⟩ := hw
      refine zg_getR (v := .ref r7) zi_131_11 t5 (by rfl) (by show zrv (zR h a0 0) = _; rw [er7]; rfl) ?_
      refine zg_aload zi_131_12 rfl ?_
      obtain ⟨r8, er8, hw⟩ := hw
      refine zg_getR (v := .ref r8) zi_131_13 t5 (by rfl) (by show zrv (zR h a0 3) = _; rw [er8]; rfl) ?_
      obtain ⟨t9, hw⟩ := hw
      obtain ⟨r10, er10, hw⟩ := hw
      refine zg_getR (v := .ref r10) zi_131_14 t9 (by rfl) (by show zrv (zR h r8 0) = _; rw [er10]; rfl) ?_
      refine zg_iload zi_131_15 rfl ?_
      obtain ⟨t11, hw⟩ := hw
      obtain ⟨hb, hw⟩ := hw
      refine zg_iaload (v := .int (zI h r10 a2.toNatClampNeg)) zi_131_16 t11 hb rfl ?_
      refine zg_aload zi_131_17 rfl ?_
      refine zg_getR (v := .ref r8) zi_131_18 t5 (by rfl) (by show zrv (zR h a0 3) = _; rw [er8]; rfl) ?_
      obtain ⟨r12, er12, hw⟩ := hw
      refine zg_getR (v := .ref r12) zi_131_19 t9 (by rfl) (by show zrv (zR h r8 1) = _; rw [er12]; rfl) ?_
      refine zg_iload zi_131_20 rfl ?_
      obtain ⟨t13, hw⟩ := hw
      obtain ⟨hb, hw⟩ := hw
      refine zg_iaload (v := .int (zI h r12 a2.toNatClampNeg)) zi_131_21 t13 hb rfl ?_
      obtain ⟨t14, hw⟩ := hw
      refine Gx.call2 (as := [.ref r6, .ref r7, .int (zI h r10 a2.toNatClampNeg), .int (zI h r12 a2.toNatClampNeg)]) (rest := []) zq_87 zi_131_22 rfl rfl rfl (Nat.le_of_ble_eq_true rfl) (Nat.le_of_ble_eq_true rfl) (zrv_v t14 rfl rfl) (Nat.le_of_ble_eq_true rfl) ?_
      refine Ct.mono hw ?_
      rintro v h15 ⟨rfl, hw⟩
      show Gx E (d + 1) 131 23 [.ref a0, .int a1, .int a2] [] h15 Q
      obtain ⟨x16, ex16⟩ : ∃ x : Int32, x = a2 + 1 := ⟨_, rfl⟩
      have hw := hw x16 ex16
      refine zg_iinc (v := x16) (ls1 := [.ref a0, .int a1, .int x16]) zi_131_23 rfl (by rw [ex16]; rfl) rfl ?_
      refine zg_goto zi_131_24 ?_
      exact ih a0 a1 x16 h15 hw
/-- TakeOrPay.walkRow(I)V -/
def w_131 (E : Nat → Nat) (d : Nat) (a0 : Nat) (a1 : Int32) (h : ZH) (Q : Option Value → ZH → Prop) : Prop := ztag h a0 = 10 ∧ ∃ r2 : Nat, zR h a0 4 = r2 + 1 ∧ ztag h r2 = 9 ∧ Ct E d 86 [.ref r2] h (fun v h4 => v = none ∧ (∃ mm : Nat, wl_131_5 E d Q mm a0 a1 0 h4))
set_option maxRecDepth 20000 in
theorem ok_131 {E : Nat → Nat} {d : Nat} {a0 : Nat} {a1 : Int32} {h : ZH} {Q : Option Value → ZH → Prop} (hw : w_131 E d a0 a1 h Q) : Ct E (d + 1) 131 [.ref a0, .int a1] h Q := by
  unfold w_131 at hw
  show Gx E (d + 1) 131 0 [.ref a0, .int a1, .retAddr 0] [] h Q
  refine zg_aload zi_131_0 rfl ?_
  obtain ⟨t1, hw⟩ := hw
  obtain ⟨r2, er2, hw⟩ := hw
  refine zg_getR (v := .ref r2) zi_131_1 t1 (by rfl) (by show zrv (zR h a0 4) = _; rw [er2]; rfl) ?_
  obtain ⟨t3, hw⟩ := hw
  refine Gx.call2 (as := [.ref r2]) (rest := []) zq_86 zi_131_2 rfl rfl rfl (Nat.le_of_ble_eq_true rfl) (Nat.le_of_ble_eq_true rfl) (zrv_v t3 rfl rfl) (Nat.le_of_ble_eq_true rfl) ?_
  refine Ct.mono hw ?_
  rintro v h4 ⟨rfl, hw⟩
  show Gx E (d + 1) 131 3 [.ref a0, .int a1, .retAddr 0] [] h4 Q
  refine zg_const (v := 0) zi_131_3 (by rfl) ?_
  refine zg_istore (ls1 := [.ref a0, .int a1, .int 0]) zi_131_4 (Nat.le_of_ble_eq_true rfl) rfl ?_
  obtain ⟨mm, hw⟩ := hw
  exact okl_131_5 mm a0 a1 0 h4 hw
theorem zq_110 : zQ 110 2 2 10 := by unfold zQ; decide +kernel
theorem zi_110_0 : (zM 110).1[0]? = some (.iload 1) := by rfl
theorem zi_110_1 : (zM 110).1[1]? = some (.ifCond .lt ((5 : Nat) : Int)) := by rfl
theorem zi_110_2 : (zM 110).1[2]? = some (.iload 1) := by rfl
theorem zi_110_3 : (zM 110).1[3]? = some (.iconst 7) := by rfl
theorem zi_110_4 : (zM 110).1[4]? = some (.if_icmp .le ((7 : Nat) : Int)) := by rfl
theorem zi_110_5 : (zM 110).1[5]? = some (.iconst (-1000000)) := by rfl
theorem zi_110_6 : (zM 110).1[6]? = some (.ireturn) := by rfl
theorem zi_110_7 : (zM 110).1[7]? = some (.aload 0) := by rfl
theorem zi_110_8 : (zM 110).1[8]? = some (.aload 0) := by rfl
theorem zi_110_9 : (zM 110).1[9]? = some (.getfield 10203) := by rfl
theorem zi_110_10 : (zM 110).1[10]? = some (.getfield 5002) := by rfl
theorem zi_110_11 : (zM 110).1[11]? = some (.invokevirtual 131) := by rfl
theorem zi_110_12 : (zM 110).1[12]? = some (.iload 1) := by rfl
theorem zi_110_13 : (zM 110).1[13]? = some (.tableswitch 42 0 6 #[14, 18, 22, 26, 30, 34, 38]) := by rfl
theorem zi_110_14 : (zM 110).1[14]? = some (.aload 0) := by rfl
theorem zi_110_15 : (zM 110).1[15]? = some (.getfield 10203) := by rfl
theorem zi_110_16 : (zM 110).1[16]? = some (.getfield 5002) := by rfl
theorem zi_110_17 : (zM 110).1[17]? = some (.ireturn) := by rfl
theorem zi_110_18 : (zM 110).1[18]? = some (.aload 0) := by rfl
theorem zi_110_19 : (zM 110).1[19]? = some (.getfield 10204) := by rfl
theorem zi_110_20 : (zM 110).1[20]? = some (.getfield 9002) := by rfl
theorem zi_110_21 : (zM 110).1[21]? = some (.ireturn) := by rfl
theorem zi_110_22 : (zM 110).1[22]? = some (.aload 0) := by rfl
theorem zi_110_23 : (zM 110).1[23]? = some (.getfield 10204) := by rfl
theorem zi_110_24 : (zM 110).1[24]? = some (.getfield 9003) := by rfl
theorem zi_110_25 : (zM 110).1[25]? = some (.ireturn) := by rfl
theorem zi_110_26 : (zM 110).1[26]? = some (.aload 0) := by rfl
theorem zi_110_27 : (zM 110).1[27]? = some (.getfield 10204) := by rfl
theorem zi_110_28 : (zM 110).1[28]? = some (.getfield 9004) := by rfl
theorem zi_110_29 : (zM 110).1[29]? = some (.ireturn) := by rfl
theorem zi_110_30 : (zM 110).1[30]? = some (.aload 0) := by rfl
theorem zi_110_31 : (zM 110).1[31]? = some (.getfield 10204) := by rfl
theorem zi_110_32 : (zM 110).1[32]? = some (.getfield 9005) := by rfl
theorem zi_110_33 : (zM 110).1[33]? = some (.ireturn) := by rfl
theorem zi_110_34 : (zM 110).1[34]? = some (.aload 0) := by rfl
theorem zi_110_35 : (zM 110).1[35]? = some (.getfield 10204) := by rfl
theorem zi_110_36 : (zM 110).1[36]? = some (.getfield 9006) := by rfl
theorem zi_110_37 : (zM 110).1[37]? = some (.ireturn) := by rfl
theorem zi_110_38 : (zM 110).1[38]? = some (.aload 0) := by rfl
theorem zi_110_39 : (zM 110).1[39]? = some (.getfield 10204) := by rfl
theorem zi_110_40 : (zM 110).1[40]? = some (.getfield 9007) := by rfl
theorem zi_110_41 : (zM 110).1[41]? = some (.ireturn) := by rfl
theorem zi_110_42 : (zM 110).1[42]? = some (.aload 0) := by rfl
theorem zi_110_43 : (zM 110).1[43]? = some (.getfield 10204) := by rfl
theorem zi_110_44 : (zM 110).1[44]? = some (.getfield 9008) := by rfl
theorem zi_110_45 : (zM 110).1[45]? = some (.ireturn) := by rfl
set_option maxRecDepth 20000 in
theorem zsl_110_13 : ∀ z : Int, ¬ (z < 0 ∨ 6 < z) → ¬ z = 0 → ¬ z = 1 → ¬ z = 2 → ¬ z = 3 → ¬ z = 4 → ¬ z = 5 →  z = 6 := by intros; omega
/-- TakeOrPay.row(I)I -/
def w_110 (E : Nat → Nat) (d : Nat) (a0 : Nat) (a1 : Int32) (h : ZH) (Q : Option Value → ZH → Prop) : Prop := (a1 < 0 → (Q (some (.int ((-1000000)))) h)) ∧ (¬ (a1 < 0) → ((a1 ≤ 7 → (ztag h a0 = 10 ∧ ∃ r2 : Nat, zR h a0 3 = r2 + 1 ∧ ztag h r2 = 5 ∧ Ct E d 131 [.ref a0, .int (zI h r2 2)] h (fun v h4 => v = none ∧ (((a1.toInt < 0 ∨ 6 < a1.toInt) → (ztag h4 a0 = 10 ∧ ∃ r6 : Nat, zR h4 a0 4 = r6 + 1 ∧ ztag h4 r6 = 9 ∧ Q (some (.int (zI h4 r6 8))) h4)) ∧ (a1.toInt = 0 → (ztag h4 a0 = 10 ∧ ∃ r9 : Nat, zR h4 a0 3 = r9 + 1 ∧ ztag h4 r9 = 5 ∧ Q (some (.int (zI h4 r9 2))) h4)) ∧ (a1.toInt = 1 → (ztag h4 a0 = 10 ∧ ∃ r12 : Nat, zR h4 a0 4 = r12 + 1 ∧ ztag h4 r12 = 9 ∧ Q (some (.int (zI h4 r12 2))) h4)) ∧ (a1.toInt = 2 → (ztag h4 a0 = 10 ∧ ∃ r15 : Nat, zR h4 a0 4 = r15 + 1 ∧ ztag h4 r15 = 9 ∧ Q (some (.int (zI h4 r15 3))) h4)) ∧ (a1.toInt = 3 → (ztag h4 a0 = 10 ∧ ∃ r18 : Nat, zR h4 a0 4 = r18 + 1 ∧ ztag h4 r18 = 9 ∧ Q (some (.int (zI h4 r18 4))) h4)) ∧ (a1.toInt = 4 → (ztag h4 a0 = 10 ∧ ∃ r21 : Nat, zR h4 a0 4 = r21 + 1 ∧ ztag h4 r21 = 9 ∧ Q (some (.int (zI h4 r21 5))) h4)) ∧ (a1.toInt = 5 → (ztag h4 a0 = 10 ∧ ∃ r24 : Nat, zR h4 a0 4 = r24 + 1 ∧ ztag h4 r24 = 9 ∧ Q (some (.int (zI h4 r24 6))) h4)) ∧ (a1.toInt = 6 → (ztag h4 a0 = 10 ∧ ∃ r27 : Nat, zR h4 a0 4 = r27 + 1 ∧ ztag h4 r27 = 9 ∧ Q (some (.int (zI h4 r27 7))) h4)))))) ∧ (¬ (a1 ≤ 7) → (Q (some (.int ((-1000000)))) h))))
set_option maxRecDepth 20000 in
theorem ok_110 {E : Nat → Nat} {d : Nat} {a0 : Nat} {a1 : Int32} {h : ZH} {Q : Option Value → ZH → Prop} (hw : w_110 E d a0 a1 h Q) : Ct E (d + 1) 110 [.ref a0, .int a1] h Q := by
  unfold w_110 at hw
  show Gx E (d + 1) 110 0 [.ref a0, .int a1] [] h Q
  refine zg_iload zi_110_0 rfl ?_
  refine zg_if_lt zi_110_1 (fun hc => ?_) (fun hc => ?_)
  · have hw := hw.1 hc
    refine zg_const (v := (-1000000)) zi_110_5 (by rfl) ?_
    exact zg_ireturn zi_110_6 (by decide) hw
  · have hw := hw.2 hc
    refine zg_iload zi_110_2 rfl ?_
    refine zg_const (v := 7) zi_110_3 (by rfl) ?_
    refine zg_icmp_le zi_110_4 (fun hc => ?_) (fun hc => ?_)
    · have hw := hw.1 hc
      refine zg_aload zi_110_7 rfl ?_
      refine zg_aload zi_110_8 rfl ?_
      obtain ⟨t1, hw⟩ := hw
      obtain ⟨r2, er2, hw⟩ := hw
      refine zg_getR (v := .ref r2) zi_110_9 t1 (by rfl) (by show zrv (zR h a0 3) = _; rw [er2]; rfl) ?_
      obtain ⟨t3, hw⟩ := hw
      refine zg_getI (v := .int (zI h r2 2)) zi_110_10 t3 (by rfl) rfl ?_
      refine Gx.call2 (as := [.ref a0, .int (zI h r2 2)]) (rest := []) zq_131 zi_110_11 rfl rfl rfl (Nat.le_of_ble_eq_true rfl) (Nat.le_of_ble_eq_true rfl) (zrv_v t1 rfl rfl) (Nat.le_of_ble_eq_true rfl) ?_
      refine Ct.mono hw ?_
      rintro v h4 ⟨rfl, hw⟩
      show Gx E (d + 1) 110 12 [.ref a0, .int a1] [] h4 Q
      refine zg_iload zi_110_12 rfl ?_
      by_cases ho : a1.toInt < 0 ∨ 6 < a1.toInt
      · have hw := hw.1 ho
        refine zg_switch (t := 42) zi_110_13 (by unfold zsw; rw [if_pos ho]; rfl) ?_
        refine zg_aload zi_110_42 rfl ?_
        obtain ⟨t5, hw⟩ := hw
        obtain ⟨r6, er6, hw⟩ := hw
        refine zg_getR (v := .ref r6) zi_110_43 t5 (by rfl) (by show zrv (zR h4 a0 4) = _; rw [er6]; rfl) ?_
        obtain ⟨t7, hw⟩ := hw
        refine zg_getI (v := .int (zI h4 r6 8)) zi_110_44 t7 (by rfl) rfl ?_
        exact zg_ireturn zi_110_45 (by decide) hw
      have hw := hw.2
      by_cases hv0 : a1.toInt = 0
      · have hw := hw.1 hv0
        refine zg_switch (t := 14) zi_110_13 (by rw [hv0]; rfl) ?_
        refine zg_aload zi_110_14 rfl ?_
        obtain ⟨t8, hw⟩ := hw
        obtain ⟨r9, er9, hw⟩ := hw
        refine zg_getR (v := .ref r9) zi_110_15 t8 (by rfl) (by show zrv (zR h4 a0 3) = _; rw [er9]; rfl) ?_
        obtain ⟨t10, hw⟩ := hw
        refine zg_getI (v := .int (zI h4 r9 2)) zi_110_16 t10 (by rfl) rfl ?_
        exact zg_ireturn zi_110_17 (by decide) hw
      have hw := hw.2
      by_cases hv1 : a1.toInt = 1
      · have hw := hw.1 hv1
        refine zg_switch (t := 18) zi_110_13 (by rw [hv1]; rfl) ?_
        refine zg_aload zi_110_18 rfl ?_
        obtain ⟨t11, hw⟩ := hw
        obtain ⟨r12, er12, hw⟩ := hw
        refine zg_getR (v := .ref r12) zi_110_19 t11 (by rfl) (by show zrv (zR h4 a0 4) = _; rw [er12]; rfl) ?_
        obtain ⟨t13, hw⟩ := hw
        refine zg_getI (v := .int (zI h4 r12 2)) zi_110_20 t13 (by rfl) rfl ?_
        exact zg_ireturn zi_110_21 (by decide) hw
      have hw := hw.2
      by_cases hv2 : a1.toInt = 2
      · have hw := hw.1 hv2
        refine zg_switch (t := 22) zi_110_13 (by rw [hv2]; rfl) ?_
        refine zg_aload zi_110_22 rfl ?_
        obtain ⟨t14, hw⟩ := hw
        obtain ⟨r15, er15, hw⟩ := hw
        refine zg_getR (v := .ref r15) zi_110_23 t14 (by rfl) (by show zrv (zR h4 a0 4) = _; rw [er15]; rfl) ?_
        obtain ⟨t16, hw⟩ := hw
        refine zg_getI (v := .int (zI h4 r15 3)) zi_110_24 t16 (by rfl) rfl ?_
        exact zg_ireturn zi_110_25 (by decide) hw
      have hw := hw.2
      by_cases hv3 : a1.toInt = 3
      · have hw := hw.1 hv3
        refine zg_switch (t := 26) zi_110_13 (by rw [hv3]; rfl) ?_
        refine zg_aload zi_110_26 rfl ?_
        obtain ⟨t17, hw⟩ := hw
        obtain ⟨r18, er18, hw⟩ := hw
        refine zg_getR (v := .ref r18) zi_110_27 t17 (by rfl) (by show zrv (zR h4 a0 4) = _; rw [er18]; rfl) ?_
        obtain ⟨t19, hw⟩ := hw
        refine zg_getI (v := .int (zI h4 r18 4)) zi_110_28 t19 (by rfl) rfl ?_
        exact zg_ireturn zi_110_29 (by decide) hw
      have hw := hw.2
      by_cases hv4 : a1.toInt = 4
      · have hw := hw.1 hv4
        refine zg_switch (t := 30) zi_110_13 (by rw [hv4]; rfl) ?_
        refine zg_aload zi_110_30 rfl ?_
        obtain ⟨t20, hw⟩ := hw
        obtain ⟨r21, er21, hw⟩ := hw
        refine zg_getR (v := .ref r21) zi_110_31 t20 (by rfl) (by show zrv (zR h4 a0 4) = _; rw [er21]; rfl) ?_
        obtain ⟨t22, hw⟩ := hw
        refine zg_getI (v := .int (zI h4 r21 5)) zi_110_32 t22 (by rfl) rfl ?_
        exact zg_ireturn zi_110_33 (by decide) hw
      have hw := hw.2
      by_cases hv5 : a1.toInt = 5
      · have hw := hw.1 hv5
        refine zg_switch (t := 34) zi_110_13 (by rw [hv5]; rfl) ?_
        refine zg_aload zi_110_34 rfl ?_
        obtain ⟨t23, hw⟩ := hw
        obtain ⟨r24, er24, hw⟩ := hw
        refine zg_getR (v := .ref r24) zi_110_35 t23 (by rfl) (by show zrv (zR h4 a0 4) = _; rw [er24]; rfl) ?_
        obtain ⟨t25, hw⟩ := hw
        refine zg_getI (v := .int (zI h4 r24 6)) zi_110_36 t25 (by rfl) rfl ?_
        exact zg_ireturn zi_110_37 (by decide) hw
      have hw := hw.2
      have hv6 : a1.toInt = 6 := zsl_110_13 _ ho hv0 hv1 hv2 hv3 hv4 hv5
      have hw := hw hv6
      refine zg_switch (t := 38) zi_110_13 (by rw [hv6]; rfl) ?_
      refine zg_aload zi_110_38 rfl ?_
      obtain ⟨t26, hw⟩ := hw
      obtain ⟨r27, er27, hw⟩ := hw
      refine zg_getR (v := .ref r27) zi_110_39 t26 (by rfl) (by show zrv (zR h4 a0 4) = _; rw [er27]; rfl) ?_
      obtain ⟨t28, hw⟩ := hw
      refine zg_getI (v := .int (zI h4 r27 7)) zi_110_40 t28 (by rfl) rfl ?_
      exact zg_ireturn zi_110_41 (by decide) hw
    · have hw := hw.2 hc
      refine zg_const (v := (-1000000)) zi_110_5 (by rfl) ?_
      exact zg_ireturn zi_110_6 (by decide) hw
theorem zq_111 : zQ 111 3 3 10 := by unfold zQ; decide +kernel
theorem zi_111_0 : (zM 111).1[0]? = some (.iload 1) := by rfl
theorem zi_111_1 : (zM 111).1[1]? = some (.ifCond .lt ((12 : Nat) : Int)) := by rfl
theorem zi_111_2 : (zM 111).1[2]? = some (.iload 1) := by rfl
theorem zi_111_3 : (zM 111).1[3]? = some (.aload 0) := by rfl
theorem zi_111_4 : (zM 111).1[4]? = some (.getfield 10203) := by rfl
theorem zi_111_5 : (zM 111).1[5]? = some (.getfield 5002) := by rfl
theorem zi_111_6 : (zM 111).1[6]? = some (.if_icmp .ge ((12 : Nat) : Int)) := by rfl
theorem zi_111_7 : (zM 111).1[7]? = some (.iload 2) := by rfl
theorem zi_111_8 : (zM 111).1[8]? = some (.ifCond .lt ((12 : Nat) : Int)) := by rfl
theorem zi_111_9 : (zM 111).1[9]? = some (.iload 2) := by rfl
theorem zi_111_10 : (zM 111).1[10]? = some (.iconst 3) := by rfl
theorem zi_111_11 : (zM 111).1[11]? = some (.if_icmp .le ((14 : Nat) : Int)) := by rfl
theorem zi_111_12 : (zM 111).1[12]? = some (.iconst (-1)) := by rfl
theorem zi_111_13 : (zM 111).1[13]? = some (.ireturn) := by rfl
theorem zi_111_14 : (zM 111).1[14]? = some (.iload 2) := by rfl
theorem zi_111_15 : (zM 111).1[15]? = some (.ifCond .ne ((22 : Nat) : Int)) := by rfl
theorem zi_111_16 : (zM 111).1[16]? = some (.aload 0) := by rfl
theorem zi_111_17 : (zM 111).1[17]? = some (.getfield 10203) := by rfl
theorem zi_111_18 : (zM 111).1[18]? = some (.getfield 5200) := by rfl
theorem zi_111_19 : (zM 111).1[19]? = some (.iload 1) := by rfl
theorem zi_111_20 : (zM 111).1[20]? = some (.iaload) := by rfl
theorem zi_111_21 : (zM 111).1[21]? = some (.ireturn) := by rfl
theorem zi_111_22 : (zM 111).1[22]? = some (.iload 2) := by rfl
theorem zi_111_23 : (zM 111).1[23]? = some (.iconst 1) := by rfl
theorem zi_111_24 : (zM 111).1[24]? = some (.if_icmp .ne ((31 : Nat) : Int)) := by rfl
theorem zi_111_25 : (zM 111).1[25]? = some (.aload 0) := by rfl
theorem zi_111_26 : (zM 111).1[26]? = some (.getfield 10203) := by rfl
theorem zi_111_27 : (zM 111).1[27]? = some (.getfield 5201) := by rfl
theorem zi_111_28 : (zM 111).1[28]? = some (.iload 1) := by rfl
theorem zi_111_29 : (zM 111).1[29]? = some (.iaload) := by rfl
theorem zi_111_30 : (zM 111).1[30]? = some (.ireturn) := by rfl
theorem zi_111_31 : (zM 111).1[31]? = some (.aload 0) := by rfl
theorem zi_111_32 : (zM 111).1[32]? = some (.iload 1) := by rfl
theorem zi_111_33 : (zM 111).1[33]? = some (.iconst 1) := by rfl
theorem zi_111_34 : (zM 111).1[34]? = some (.iadd) := by rfl
theorem zi_111_35 : (zM 111).1[35]? = some (.invokevirtual 131) := by rfl
theorem zi_111_36 : (zM 111).1[36]? = some (.iload 2) := by rfl
theorem zi_111_37 : (zM 111).1[37]? = some (.iconst 2) := by rfl
theorem zi_111_38 : (zM 111).1[38]? = some (.if_icmp .ne ((43 : Nat) : Int)) := by rfl
theorem zi_111_39 : (zM 111).1[39]? = some (.aload 0) := by rfl
theorem zi_111_40 : (zM 111).1[40]? = some (.getfield 10204) := by rfl
theorem zi_111_41 : (zM 111).1[41]? = some (.getfield 9009) := by rfl
theorem zi_111_42 : (zM 111).1[42]? = some (.goto ((46 : Nat) : Int)) := by rfl
theorem zi_111_43 : (zM 111).1[43]? = some (.aload 0) := by rfl
theorem zi_111_44 : (zM 111).1[44]? = some (.getfield 10204) := by rfl
theorem zi_111_45 : (zM 111).1[45]? = some (.getfield 9010) := by rfl
theorem zi_111_46 : (zM 111).1[46]? = some (.ireturn) := by rfl
/-- TakeOrPay.rowOf(II)I -/
def w_111 (E : Nat → Nat) (d : Nat) (a0 : Nat) (a1 : Int32) (a2 : Int32) (h : ZH) (Q : Option Value → ZH → Prop) : Prop := (a1 < 0 → (Q (some (.int ((-1)))) h)) ∧ (¬ (a1 < 0) → (ztag h a0 = 10 ∧ ∃ r2 : Nat, zR h a0 3 = r2 + 1 ∧ ztag h r2 = 5 ∧ (((zI h r2 2 : Int32) ≤ a1 → (Q (some (.int ((-1)))) h)) ∧ (¬ ((zI h r2 2 : Int32) ≤ a1) → ((a2 < 0 → (Q (some (.int ((-1)))) h)) ∧ (¬ (a2 < 0) → ((a2 ≤ 3 → ((¬ a2 = 0 → ((¬ a2 = 1 → (Ct E d 131 [.ref a0, .int (a1 + 1)] h (fun v h4 => v = none ∧ (((¬ a2 = 2 → (ztag h4 a0 = 10 ∧ ¬ zR h4 a0 4 = 0 ∧ ztag h4 (zR h4 a0 4 - 1) = 9 ∧ True)) ∧ (¬ (¬ a2 = 2) → (ztag h4 a0 = 10 ∧ ¬ zR h4 a0 4 = 0 ∧ ztag h4 (zR h4 a0 4 - 1) = 9 ∧ True))) ∧ Q (some (.int (if ¬ a2 = 2 then zI h4 (zR h4 a0 4 - 1) 10 else zI h4 (zR h4 a0 4 - 1) 9))) h4)))) ∧ (¬ (¬ a2 = 1) → (∃ r9 : Nat, zR h r2 1 = r9 + 1 ∧ (ztag h r9 = 13 ∨ ztag h r9 = 19) ∧ zin a1 (zlen h r9) = true ∧ Q (some (.int (zI h r9 a1.toNatClampNeg))) h)))) ∧ (¬ (¬ a2 = 0) → (∃ r11 : Nat, zR h r2 0 = r11 + 1 ∧ (ztag h r11 = 13 ∨ ztag h r11 = 19) ∧ zin a1 (zlen h r11) = true ∧ Q (some (.int (zI h r11 a1.toNatClampNeg))) h)))) ∧ (¬ (a2 ≤ 3) → (Q (some (.int ((-1)))) h)))))))))
set_option maxRecDepth 20000 in
theorem ok_111 {E : Nat → Nat} {d : Nat} {a0 : Nat} {a1 : Int32} {a2 : Int32} {h : ZH} {Q : Option Value → ZH → Prop} (hw : w_111 E d a0 a1 a2 h Q) : Ct E (d + 1) 111 [.ref a0, .int a1, .int a2] h Q := by
  unfold w_111 at hw
  show Gx E (d + 1) 111 0 [.ref a0, .int a1, .int a2] [] h Q
  refine zg_iload zi_111_0 rfl ?_
  refine zg_if_lt zi_111_1 (fun hc => ?_) (fun hc => ?_)
  · have hw := hw.1 hc
    refine zg_const (v := (-1)) zi_111_12 (by rfl) ?_
    exact zg_ireturn zi_111_13 (by decide) hw
  · have hw := hw.2 hc
    refine zg_iload zi_111_2 rfl ?_
    refine zg_aload zi_111_3 rfl ?_
    obtain ⟨t1, hw⟩ := hw
    obtain ⟨r2, er2, hw⟩ := hw
    refine zg_getR (v := .ref r2) zi_111_4 t1 (by rfl) (by show zrv (zR h a0 3) = _; rw [er2]; rfl) ?_
    obtain ⟨t3, hw⟩ := hw
    refine zg_getI (v := .int (zI h r2 2)) zi_111_5 t3 (by rfl) rfl ?_
    refine zg_icmp_ge zi_111_6 (fun hc => ?_) (fun hc => ?_)
    · have hw := hw.1 hc
      refine zg_const (v := (-1)) zi_111_12 (by rfl) ?_
      exact zg_ireturn zi_111_13 (by decide) hw
    · have hw := hw.2 hc
      refine zg_iload zi_111_7 rfl ?_
      refine zg_if_lt zi_111_8 (fun hc => ?_) (fun hc => ?_)
      · have hw := hw.1 hc
        refine zg_const (v := (-1)) zi_111_12 (by rfl) ?_
        exact zg_ireturn zi_111_13 (by decide) hw
      · have hw := hw.2 hc
        refine zg_iload zi_111_9 rfl ?_
        refine zg_const (v := 3) zi_111_10 (by rfl) ?_
        refine zg_icmp_le zi_111_11 (fun hc => ?_) (fun hc => ?_)
        · have hw := hw.1 hc
          refine zg_iload zi_111_14 rfl ?_
          refine zg_if_ne zi_111_15 (fun hc => ?_) (fun hc => ?_)
          · have hw := hw.1 hc
            refine zg_iload zi_111_22 rfl ?_
            refine zg_const (v := 1) zi_111_23 (by rfl) ?_
            refine zg_icmp_ne zi_111_24 (fun hc => ?_) (fun hc => ?_)
            · have hw := hw.1 hc
              refine zg_aload zi_111_31 rfl ?_
              refine zg_iload zi_111_32 rfl ?_
              refine zg_const (v := 1) zi_111_33 (by rfl) ?_
              refine zg_iadd zi_111_34 ?_
              refine Gx.call2 (as := [.ref a0, .int (a1 + 1)]) (rest := []) zq_131 zi_111_35 rfl rfl rfl (Nat.le_of_ble_eq_true rfl) (Nat.le_of_ble_eq_true rfl) (zrv_v t1 rfl rfl) (Nat.le_of_ble_eq_true rfl) ?_
              refine Ct.mono hw ?_
              rintro v h4 ⟨rfl, hw⟩
              show Gx E (d + 1) 111 36 [.ref a0, .int a1, .int a2] [] h4 Q
              refine zg_iload zi_111_36 rfl ?_
              refine zg_const (v := 2) zi_111_37 (by rfl) ?_
              obtain ⟨hsd38, hw⟩ := hw
              have g38 : Gx E (d + 1) 111 46 [.ref a0, .int a1, .int a2] [.int (if ¬ a2 = 2 then zI h4 (zR h4 a0 4 - 1) 10 else zI h4 (zR h4 a0 4 - 1) 9)] h4 Q := by
                exact zg_ireturn zi_111_46 (by decide) hw
              refine zg_icmp_ne zi_111_38 (fun hc38 => ?_) (fun hc38 => ?_)
              · have hw := hsd38.1 hc38
                refine zg_aload zi_111_43 rfl ?_
                obtain ⟨t5, hw⟩ := hw
                obtain ⟨hr, hw⟩ := hw
                refine zg_getR (v := .ref (zR h4 a0 4 - 1)) zi_111_44 t5 (by rfl) (zrv_p hr) ?_
                obtain ⟨t6, hw⟩ := hw
                refine zg_getI (v := .int (zI h4 (zR h4 a0 4 - 1) 10)) zi_111_45 t6 (by rfl) rfl ?_
                have hg := g38
                simp only [if_pos hc38] at hg
                exact hg
              · have hw := hsd38.2 hc38
                refine zg_aload zi_111_39 rfl ?_
                obtain ⟨t7, hw⟩ := hw
                obtain ⟨hr, hw⟩ := hw
                refine zg_getR (v := .ref (zR h4 a0 4 - 1)) zi_111_40 t7 (by rfl) (zrv_p hr) ?_
                obtain ⟨t8, hw⟩ := hw
                refine zg_getI (v := .int (zI h4 (zR h4 a0 4 - 1) 9)) zi_111_41 t8 (by rfl) rfl ?_
                refine zg_goto zi_111_42 ?_
                have hg := g38
                simp only [if_neg hc38] at hg
                exact hg
            · have hw := hw.2 hc
              refine zg_aload zi_111_25 rfl ?_
              refine zg_getR (v := .ref r2) zi_111_26 t1 (by rfl) (by show zrv (zR h a0 3) = _; rw [er2]; rfl) ?_
              obtain ⟨r9, er9, hw⟩ := hw
              refine zg_getR (v := .ref r9) zi_111_27 t3 (by rfl) (by show zrv (zR h r2 1) = _; rw [er9]; rfl) ?_
              refine zg_iload zi_111_28 rfl ?_
              obtain ⟨t10, hw⟩ := hw
              obtain ⟨hb, hw⟩ := hw
              refine zg_iaload (v := .int (zI h r9 a1.toNatClampNeg)) zi_111_29 t10 hb rfl ?_
              exact zg_ireturn zi_111_30 (by decide) hw
          · have hw := hw.2 hc
            refine zg_aload zi_111_16 rfl ?_
            refine zg_getR (v := .ref r2) zi_111_17 t1 (by rfl) (by show zrv (zR h a0 3) = _; rw [er2]; rfl) ?_
            obtain ⟨r11, er11, hw⟩ := hw
            refine zg_getR (v := .ref r11) zi_111_18 t3 (by rfl) (by show zrv (zR h r2 0) = _; rw [er11]; rfl) ?_
            refine zg_iload zi_111_19 rfl ?_
            obtain ⟨t12, hw⟩ := hw
            obtain ⟨hb, hw⟩ := hw
            refine zg_iaload (v := .int (zI h r11 a1.toNatClampNeg)) zi_111_20 t12 hb rfl ?_
            exact zg_ireturn zi_111_21 (by decide) hw
        · have hw := hw.2 hc
          refine zg_const (v := (-1)) zi_111_12 (by rfl) ?_
          exact zg_ireturn zi_111_13 (by decide) hw
theorem zq_132 : zQ 132 1 7 10 := by unfold zQ; decide +kernel
theorem zi_132_0 : (zM 132).1[0]? = some (.aload 0) := by rfl
theorem zi_132_1 : (zM 132).1[1]? = some (.getfield 10206) := by rfl
theorem zi_132_2 : (zM 132).1[2]? = some (.iconst 0) := by rfl
theorem zi_132_3 : (zM 132).1[3]? = some (.iconst 0) := by rfl
theorem zi_132_4 : (zM 132).1[4]? = some (.iconst 0) := by rfl
theorem zi_132_5 : (zM 132).1[5]? = some (.iconst 0) := by rfl
theorem zi_132_6 : (zM 132).1[6]? = some (.invokevirtual 16) := by rfl
theorem zi_132_7 : (zM 132).1[7]? = some (.astore 1) := by rfl
theorem zi_132_8 : (zM 132).1[8]? = some (.aload 0) := by rfl
theorem zi_132_9 : (zM 132).1[9]? = some (.getfield 10200) := by rfl
theorem zi_132_10 : (zM 132).1[10]? = some (.getfield 3200) := by rfl
theorem zi_132_11 : (zM 132).1[11]? = some (.iconst 12) := by rfl
theorem zi_132_12 : (zM 132).1[12]? = some (.iaload) := by rfl
theorem zi_132_13 : (zM 132).1[13]? = some (.iconst 1) := by rfl
theorem zi_132_14 : (zM 132).1[14]? = some (.if_icmp .ne ((17 : Nat) : Int)) := by rfl
theorem zi_132_15 : (zM 132).1[15]? = some (.iconst 1) := by rfl
theorem zi_132_16 : (zM 132).1[16]? = some (.goto ((18 : Nat) : Int)) := by rfl
theorem zi_132_17 : (zM 132).1[17]? = some (.iconst 0) := by rfl
theorem zi_132_18 : (zM 132).1[18]? = some (.istore 2) := by rfl
theorem zi_132_19 : (zM 132).1[19]? = some (.aload 0) := by rfl
theorem zi_132_20 : (zM 132).1[20]? = some (.getfield 10200) := by rfl
theorem zi_132_21 : (zM 132).1[21]? = some (.getfield 3200) := by rfl
theorem zi_132_22 : (zM 132).1[22]? = some (.iconst 15) := by rfl
theorem zi_132_23 : (zM 132).1[23]? = some (.iaload) := by rfl
theorem zi_132_24 : (zM 132).1[24]? = some (.istore 3) := by rfl
theorem zi_132_25 : (zM 132).1[25]? = some (.aload 0) := by rfl
theorem zi_132_26 : (zM 132).1[26]? = some (.getfield 10204) := by rfl
theorem zi_132_27 : (zM 132).1[27]? = some (.invokevirtual 86) := by rfl
theorem zi_132_28 : (zM 132).1[28]? = some (.iconst 0) := by rfl
theorem zi_132_29 : (zM 132).1[29]? = some (.istore 4) := by rfl
theorem zi_132_30 : (zM 132).1[30]? = some (.iload 4) := by rfl
theorem zi_132_31 : (zM 132).1[31]? = some (.aload 0) := by rfl
theorem zi_132_32 : (zM 132).1[32]? = some (.getfield 10203) := by rfl
theorem zi_132_33 : (zM 132).1[33]? = some (.getfield 5002) := by rfl
theorem zi_132_34 : (zM 132).1[34]? = some (.if_icmp .ge ((70 : Nat) : Int)) := by rfl
theorem zi_132_35 : (zM 132).1[35]? = some (.aload 0) := by rfl
theorem zi_132_36 : (zM 132).1[36]? = some (.getfield 10203) := by rfl
theorem zi_132_37 : (zM 132).1[37]? = some (.getfield 5200) := by rfl
theorem zi_132_38 : (zM 132).1[38]? = some (.iload 4) := by rfl
theorem zi_132_39 : (zM 132).1[39]? = some (.iaload) := by rfl
theorem zi_132_40 : (zM 132).1[40]? = some (.istore 5) := by rfl
theorem zi_132_41 : (zM 132).1[41]? = some (.iload 2) := by rfl
theorem zi_132_42 : (zM 132).1[42]? = some (.ifCond .eq ((45 : Nat) : Int)) := by rfl
theorem zi_132_43 : (zM 132).1[43]? = some (.iload 3) := by rfl
theorem zi_132_44 : (zM 132).1[44]? = some (.goto ((46 : Nat) : Int)) := by rfl
theorem zi_132_45 : (zM 132).1[45]? = some (.iload 5) := by rfl
theorem zi_132_46 : (zM 132).1[46]? = some (.istore 6) := by rfl
theorem zi_132_47 : (zM 132).1[47]? = some (.aload 0) := by rfl
theorem zi_132_48 : (zM 132).1[48]? = some (.getfield 10204) := by rfl
theorem zi_132_49 : (zM 132).1[49]? = some (.aload 0) := by rfl
theorem zi_132_50 : (zM 132).1[50]? = some (.getfield 10200) := by rfl
theorem zi_132_51 : (zM 132).1[51]? = some (.iload 5) := by rfl
theorem zi_132_52 : (zM 132).1[52]? = some (.aload 1) := by rfl
theorem zi_132_53 : (zM 132).1[53]? = some (.iload 4) := by rfl
theorem zi_132_54 : (zM 132).1[54]? = some (.aload 0) := by rfl
theorem zi_132_55 : (zM 132).1[55]? = some (.getfield 10204) := by rfl
theorem zi_132_56 : (zM 132).1[56]? = some (.getfield 9003) := by rfl
theorem zi_132_57 : (zM 132).1[57]? = some (.aload 0) := by rfl
theorem zi_132_58 : (zM 132).1[58]? = some (.getfield 10204) := by rfl
theorem zi_132_59 : (zM 132).1[59]? = some (.getfield 9004) := by rfl
theorem zi_132_60 : (zM 132).1[60]? = some (.aload 0) := by rfl
theorem zi_132_61 : (zM 132).1[61]? = some (.getfield 10204) := by rfl
theorem zi_132_62 : (zM 132).1[62]? = some (.getfield 9005) := by rfl
theorem zi_132_63 : (zM 132).1[63]? = some (.iload 6) := by rfl
theorem zi_132_64 : (zM 132).1[64]? = some (.invokevirtual 12) := by rfl
theorem zi_132_65 : (zM 132).1[65]? = some (.invokevirtual 87) := by rfl
theorem zi_132_66 : (zM 132).1[66]? = some (.iload 5) := by rfl
theorem zi_132_67 : (zM 132).1[67]? = some (.istore 3) := by rfl
theorem zi_132_68 : (zM 132).1[68]? = some (.iinc 4 1) := by rfl
theorem zi_132_69 : (zM 132).1[69]? = some (.goto ((30 : Nat) : Int)) := by rfl
theorem zi_132_70 : (zM 132).1[70]? = some (.return_) := by rfl
def wl_132_30 (E : Nat → Nat) (d : Nat) (Q : Option Value → ZH → Prop) : Nat → Nat → Nat → Int32 → Int32 → Int32 → ZH → Prop
  | 0, _, _, _, _, _, _ => False
  | n + 1, a0, a1, a2, a3, a4, h => ztag h a0 = 10 ∧ ∃ r17 : Nat, zR h a0 3 = r17 + 1 ∧ ztag h r17 = 5 ∧ (((zI h r17 2 : Int32) ≤ a4 → (Q none h)) ∧ (¬ ((zI h r17 2 : Int32) ≤ a4) → (∃ r19 : Nat, zR h r17 0 = r19 + 1 ∧ (ztag h r19 = 13 ∨ ztag h r19 = 19) ∧ zin a4 (zlen h r19) = true ∧ ∀ x21 : Int32, x21 = (zI h r19 a4.toNatClampNeg) → ∀ x22 : Int32, x22 = (if a2 = 0 then x21 else a3) → ∃ r23 : Nat, zR h a0 4 = r23 + 1 ∧ ∃ r24 : Nat, zR h a0 0 = r24 + 1 ∧ ztag h r23 = 9 ∧ ztag h a1 = 0 ∧ Ct E d 12 [.ref a1, .int a4, .int (zI h r23 3), .int (zI h r23 4), .int (zI h r23 5), .int x22] h (fun v h27 => ∃ x28 : Int32, v = some (.int x28) ∧ ztag h27 r23 = 9 ∧ Ct E d 87 [.ref r23, .ref r24, .int x21, .int x28] h27 (fun v h30 => v = none ∧ ∀ x31 : Int32, x31 = (a4 + 1) → wl_132_30 E d Q n a0 a1 a2 x21 x31 h30)))))
set_option maxRecDepth 20000 in
theorem okl_132_30 {E : Nat → Nat} {d : Nat} {Q : Option Value → ZH → Prop} : ∀ (n : Nat) (a0 : Nat) (a1 : Nat) (a2 : Int32) (a3 : Int32) (a4 : Int32) (h : ZH), wl_132_30 E d Q n a0 a1 a2 a3 a4 h → Gx E (d + 1) 132 30 [.ref a0, .ref a1, .int a2, .int a3, .int a4, .retAddr 0, .retAddr 0] [] h Q := by
  intro n
  induction n with
  | zero => intro a0 a1 a2 a3 a4 h hw; exact hw.elim
  | succ n ih =>
    intro a0 a1 a2 a3 a4 h hw
    rw [wl_132_30] at hw
    refine zg_iload zi_132_30 rfl ?_
    refine zg_aload zi_132_31 rfl ?_
    obtain ⟨t16, hw⟩ := hw
    obtain ⟨r17, er17, hw⟩ := hw
    refine zg_getR (v := .ref r17) zi_132_32 t16 (by rfl) (by show zrv (zR h a0 3) = _; rw [er17]; rfl) ?_
    obtain ⟨t18, hw⟩ := hw
    refine zg_getI (v := .int (zI h r17 2)) zi_132_33 t18 (by rfl) rfl ?_
    refine zg_icmp_ge zi_132_34 (fun hc => ?_) (fun hc => ?_)
    · have hw := hw.1 hc
      exact zg_return zi_132_70 hw
    · have hw := hw.2 hc
      refine zg_aload zi_132_35 rfl ?_
      refine zg_getR (v := .ref r17) zi_132_36 t16 (by rfl) (by show zrv (zR h a0 3) = _; rw [er17]; rfl) ?_
      obtain ⟨r19, er19, hw⟩ := hw
      refine zg_getR (v := .ref r19) zi_132_37 t18 (by rfl) (by show zrv (zR h r17 0) = _; rw [er19]; rfl) ?_
      refine zg_iload zi_132_38 rfl ?_
      obtain ⟨t20, hw⟩ := hw
      obtain ⟨hb, hw⟩ := hw
      refine zg_iaload (v := .int (zI h r19 a4.toNatClampNeg)) zi_132_39 t20 hb rfl ?_
      refine zg_nameI fun x21 ex21 => ?_
      have hw := hw x21 ex21
      refine zg_istore (ls1 := [.ref a0, .ref a1, .int a2, .int a3, .int a4, .int x21, .retAddr 0]) zi_132_40 (Nat.le_of_ble_eq_true rfl) rfl ?_
      refine zg_iload zi_132_41 rfl ?_
      have g42 : Gx E (d + 1) 132 46 [.ref a0, .ref a1, .int a2, .int a3, .int a4, .int x21, .retAddr 0] [.int (if a2 = 0 then x21 else a3)] h Q := by
        refine zg_nameI fun x22 ex22 => ?_
        have hw := hw x22 ex22
        refine zg_istore (ls1 := [.ref a0, .ref a1, .int a2, .int a3, .int a4, .int x21, .int x22]) zi_132_46 (Nat.le_of_ble_eq_true rfl) rfl ?_
        refine zg_aload zi_132_47 rfl ?_
        obtain ⟨r23, er23, hw⟩ := hw
        refine zg_getR (v := .ref r23) zi_132_48 t16 (by rfl) (by show zrv (zR h a0 4) = _; rw [er23]; rfl) ?_
        refine zg_aload zi_132_49 rfl ?_
        obtain ⟨r24, er24, hw⟩ := hw
        refine zg_getR (v := .ref r24) zi_132_50 t16 (by rfl) (by show zrv (zR h a0 0) = _; rw [er24]; rfl) ?_
        refine zg_iload zi_132_51 rfl ?_
        refine zg_aload zi_132_52 rfl ?_
        refine zg_iload zi_132_53 rfl ?_
        refine zg_aload zi_132_54 rfl ?_
        refine zg_getR (v := .ref r23) zi_132_55 t16 (by rfl) (by show zrv (zR h a0 4) = _; rw [er23]; rfl) ?_
        obtain ⟨t25, hw⟩ := hw
        refine zg_getI (v := .int (zI h r23 3)) zi_132_56 t25 (by rfl) rfl ?_
        refine zg_aload zi_132_57 rfl ?_
        refine zg_getR (v := .ref r23) zi_132_58 t16 (by rfl) (by show zrv (zR h a0 4) = _; rw [er23]; rfl) ?_
        refine zg_getI (v := .int (zI h r23 4)) zi_132_59 t25 (by rfl) rfl ?_
        refine zg_aload zi_132_60 rfl ?_
        refine zg_getR (v := .ref r23) zi_132_61 t16 (by rfl) (by show zrv (zR h a0 4) = _; rw [er23]; rfl) ?_
        refine zg_getI (v := .int (zI h r23 5)) zi_132_62 t25 (by rfl) rfl ?_
        refine zg_iload zi_132_63 rfl ?_
        obtain ⟨t26, hw⟩ := hw
        refine Gx.call2 (as := [.ref a1, .int a4, .int (zI h r23 3), .int (zI h r23 4), .int (zI h r23 5), .int x22]) (rest := [.int x21, .ref r24, .ref r23]) zq_12 zi_132_64 rfl rfl rfl (Nat.le_of_ble_eq_true rfl) (Nat.le_of_ble_eq_true rfl) (zrv_v t26 rfl rfl) (Nat.le_of_ble_eq_true rfl) ?_
        refine Ct.mono hw ?_
        rintro v h27 ⟨x28, rfl, hw⟩
        show Gx E (d + 1) 132 65 [.ref a0, .ref a1, .int a2, .int a3, .int a4, .int x21, .int x22] [.int x28, .int x21, .ref r24, .ref r23] h27 Q
        obtain ⟨t29, hw⟩ := hw
        refine Gx.call2 (as := [.ref r23, .ref r24, .int x21, .int x28]) (rest := []) zq_87 zi_132_65 rfl rfl rfl (Nat.le_of_ble_eq_true rfl) (Nat.le_of_ble_eq_true rfl) (zrv_v t29 rfl rfl) (Nat.le_of_ble_eq_true rfl) ?_
        refine Ct.mono hw ?_
        rintro v h30 ⟨rfl, hw⟩
        show Gx E (d + 1) 132 66 [.ref a0, .ref a1, .int a2, .int a3, .int a4, .int x21, .int x22] [] h30 Q
        refine zg_iload zi_132_66 rfl ?_
        refine zg_istore (ls1 := [.ref a0, .ref a1, .int a2, .int x21, .int a4, .int x21, .int x22]) zi_132_67 (Nat.le_of_ble_eq_true rfl) rfl ?_
        obtain ⟨x31, ex31⟩ : ∃ x : Int32, x = a4 + 1 := ⟨_, rfl⟩
        have hw := hw x31 ex31
        refine zg_iinc (v := x31) (ls1 := [.ref a0, .ref a1, .int a2, .int x21, .int x31, .int x21, .int x22]) zi_132_68 rfl (by rw [ex31]; rfl) rfl ?_
        refine zg_goto zi_132_69 ?_
        exact Gx.forget (zrk (zrk (zrk (zrk (zrk (zrd (zrd zr0))))))) (ih a0 a1 a2 x21 x31 h30 hw)
      refine zg_if_eq zi_132_42 (fun hc42 => ?_) (fun hc42 => ?_)
      · skip
        refine zg_iload zi_132_45 rfl ?_
        have hg := g42
        simp only [if_pos hc42] at hg
        exact hg
      · skip
        refine zg_iload zi_132_43 rfl ?_
        refine zg_goto zi_132_44 ?_
        have hg := g42
        simp only [if_neg hc42] at hg
        exact hg
/-- TakeOrPay.walkByBest()V -/
def w_132 (E : Nat → Nat) (d : Nat) (a0 : Nat) (h : ZH) (Q : Option Value → ZH → Prop) : Prop := ztag h a0 = 10 ∧ ∃ r2 : Nat, zR h a0 6 = r2 + 1 ∧ ztag h r2 = 1 ∧ Ct E d 16 [.ref r2, .int 0, .int 0, .int 0, .int 0] h (fun v h4 => ∃ r5 : Nat, v = some (.ref r5) ∧ ztag h4 a0 = 10 ∧ ∃ r7 : Nat, zR h4 a0 0 = r7 + 1 ∧ ztag h4 r7 = 3 ∧ ∃ r9 : Nat, zR h4 r7 0 = r9 + 1 ∧ (ztag h4 r9 = 13 ∨ ztag h4 r9 = 19) ∧ zin 12 (zlen h4 r9) = true ∧ ∀ x11 : Int32, x11 = (if ¬ (zI h4 r9 12 : Int32) = 1 then 0 else 1) → zin 15 (zlen h4 r9) = true ∧ ∀ x12 : Int32, x12 = (zI h4 r9 15) → ∃ r13 : Nat, zR h4 a0 4 = r13 + 1 ∧ ztag h4 r13 = 9 ∧ Ct E d 86 [.ref r13] h4 (fun v h15 => v = none ∧ (∃ mm : Nat, wl_132_30 E d Q mm a0 r5 x11 x12 0 h15)))
set_option maxRecDepth 20000 in
theorem ok_132 {E : Nat → Nat} {d : Nat} {a0 : Nat} {h : ZH} {Q : Option Value → ZH → Prop} (hw : w_132 E d a0 h Q) : Ct E (d + 1) 132 [.ref a0] h Q := by
  unfold w_132 at hw
  show Gx E (d + 1) 132 0 [.ref a0, .retAddr 0, .retAddr 0, .retAddr 0, .retAddr 0, .retAddr 0, .retAddr 0] [] h Q
  refine zg_aload zi_132_0 rfl ?_
  obtain ⟨t1, hw⟩ := hw
  obtain ⟨r2, er2, hw⟩ := hw
  refine zg_getR (v := .ref r2) zi_132_1 t1 (by rfl) (by show zrv (zR h a0 6) = _; rw [er2]; rfl) ?_
  refine zg_const (v := 0) zi_132_2 (by rfl) ?_
  refine zg_const (v := 0) zi_132_3 (by rfl) ?_
  refine zg_const (v := 0) zi_132_4 (by rfl) ?_
  refine zg_const (v := 0) zi_132_5 (by rfl) ?_
  obtain ⟨t3, hw⟩ := hw
  refine Gx.call2 (as := [.ref r2, .int 0, .int 0, .int 0, .int 0]) (rest := []) zq_16 zi_132_6 rfl rfl rfl (Nat.le_of_ble_eq_true rfl) (Nat.le_of_ble_eq_true rfl) (zrv_v t3 rfl rfl) (Nat.le_of_ble_eq_true rfl) ?_
  refine Ct.mono hw ?_
  rintro v h4 ⟨r5, rfl, hw⟩
  show Gx E (d + 1) 132 7 [.ref a0, .retAddr 0, .retAddr 0, .retAddr 0, .retAddr 0, .retAddr 0, .retAddr 0] [.ref r5] h4 Q
  refine zg_astore (ls1 := [.ref a0, .ref r5, .retAddr 0, .retAddr 0, .retAddr 0, .retAddr 0, .retAddr 0]) zi_132_7 (Nat.le_of_ble_eq_true rfl) rfl ?_
  refine zg_aload zi_132_8 rfl ?_
  obtain ⟨t6, hw⟩ := hw
  obtain ⟨r7, er7, hw⟩ := hw
  refine zg_getR (v := .ref r7) zi_132_9 t6 (by rfl) (by show zrv (zR h4 a0 0) = _; rw [er7]; rfl) ?_
  obtain ⟨t8, hw⟩ := hw
  obtain ⟨r9, er9, hw⟩ := hw
  refine zg_getR (v := .ref r9) zi_132_10 t8 (by rfl) (by show zrv (zR h4 r7 0) = _; rw [er9]; rfl) ?_
  refine zg_const (v := 12) zi_132_11 (by rfl) ?_
  obtain ⟨t10, hw⟩ := hw
  obtain ⟨hb, hw⟩ := hw
  refine zg_iaload (v := .int (zI h4 r9 12)) zi_132_12 t10 hb rfl ?_
  refine zg_const (v := 1) zi_132_13 (by rfl) ?_
  have g14 : Gx E (d + 1) 132 18 [.ref a0, .ref r5, .retAddr 0, .retAddr 0, .retAddr 0, .retAddr 0, .retAddr 0] [.int (if ¬ (zI h4 r9 12 : Int32) = 1 then 0 else 1)] h4 Q := by
    refine zg_nameI fun x11 ex11 => ?_
    have hw := hw x11 ex11
    refine zg_istore (ls1 := [.ref a0, .ref r5, .int x11, .retAddr 0, .retAddr 0, .retAddr 0, .retAddr 0]) zi_132_18 (Nat.le_of_ble_eq_true rfl) rfl ?_
    refine zg_aload zi_132_19 rfl ?_
    refine zg_getR (v := .ref r7) zi_132_20 t6 (by rfl) (by show zrv (zR h4 a0 0) = _; rw [er7]; rfl) ?_
    refine zg_getR (v := .ref r9) zi_132_21 t8 (by rfl) (by show zrv (zR h4 r7 0) = _; rw [er9]; rfl) ?_
    refine zg_const (v := 15) zi_132_22 (by rfl) ?_
    obtain ⟨hb, hw⟩ := hw
    refine zg_iaload (v := .int (zI h4 r9 15)) zi_132_23 t10 hb rfl ?_
    refine zg_nameI fun x12 ex12 => ?_
    have hw := hw x12 ex12
    refine zg_istore (ls1 := [.ref a0, .ref r5, .int x11, .int x12, .retAddr 0, .retAddr 0, .retAddr 0]) zi_132_24 (Nat.le_of_ble_eq_true rfl) rfl ?_
    refine zg_aload zi_132_25 rfl ?_
    obtain ⟨r13, er13, hw⟩ := hw
    refine zg_getR (v := .ref r13) zi_132_26 t6 (by rfl) (by show zrv (zR h4 a0 4) = _; rw [er13]; rfl) ?_
    obtain ⟨t14, hw⟩ := hw
    refine Gx.call2 (as := [.ref r13]) (rest := []) zq_86 zi_132_27 rfl rfl rfl (Nat.le_of_ble_eq_true rfl) (Nat.le_of_ble_eq_true rfl) (zrv_v t14 rfl rfl) (Nat.le_of_ble_eq_true rfl) ?_
    refine Ct.mono hw ?_
    rintro v h15 ⟨rfl, hw⟩
    show Gx E (d + 1) 132 28 [.ref a0, .ref r5, .int x11, .int x12, .retAddr 0, .retAddr 0, .retAddr 0] [] h15 Q
    refine zg_const (v := 0) zi_132_28 (by rfl) ?_
    refine zg_istore (ls1 := [.ref a0, .ref r5, .int x11, .int x12, .int 0, .retAddr 0, .retAddr 0]) zi_132_29 (Nat.le_of_ble_eq_true rfl) rfl ?_
    obtain ⟨mm, hw⟩ := hw
    exact okl_132_30 mm a0 r5 x11 x12 0 h15 hw
  refine zg_icmp_ne zi_132_14 (fun hc14 => ?_) (fun hc14 => ?_)
  · skip
    refine zg_const (v := 0) zi_132_17 (by rfl) ?_
    have hg := g14
    simp only [if_pos hc14] at hg
    exact hg
  · skip
    refine zg_const (v := 1) zi_132_15 (by rfl) ?_
    refine zg_goto zi_132_16 ?_
    have hg := g14
    simp only [if_neg hc14] at hg
    exact hg
theorem zq_112 : zQ 112 2 3 10 := by unfold zQ; decide +kernel
theorem zi_112_0 : (zM 112).1[0]? = some (.iload 1) := by rfl
theorem zi_112_1 : (zM 112).1[1]? = some (.invokestatic 123) := by rfl
theorem zi_112_2 : (zM 112).1[2]? = some (.ifCond .ne ((5 : Nat) : Int)) := by rfl
theorem zi_112_3 : (zM 112).1[3]? = some (.iconst (-1000000)) := by rfl
theorem zi_112_4 : (zM 112).1[4]? = some (.ireturn) := by rfl
theorem zi_112_5 : (zM 112).1[5]? = some (.aload 0) := by rfl
theorem zi_112_6 : (zM 112).1[6]? = some (.invokevirtual 132) := by rfl
theorem zi_112_7 : (zM 112).1[7]? = some (.aload 0) := by rfl
theorem zi_112_8 : (zM 112).1[8]? = some (.getfield 10204) := by rfl
theorem zi_112_9 : (zM 112).1[9]? = some (.getfield 9007) := by rfl
theorem zi_112_10 : (zM 112).1[10]? = some (.istore 2) := by rfl
theorem zi_112_11 : (zM 112).1[11]? = some (.iload 1) := by rfl
theorem zi_112_12 : (zM 112).1[12]? = some (.ifCond .ne ((15 : Nat) : Int)) := by rfl
theorem zi_112_13 : (zM 112).1[13]? = some (.iload 2) := by rfl
theorem zi_112_14 : (zM 112).1[14]? = some (.ireturn) := by rfl
theorem zi_112_15 : (zM 112).1[15]? = some (.aload 0) := by rfl
theorem zi_112_16 : (zM 112).1[16]? = some (.aload 0) := by rfl
theorem zi_112_17 : (zM 112).1[17]? = some (.getfield 10203) := by rfl
theorem zi_112_18 : (zM 112).1[18]? = some (.getfield 5002) := by rfl
theorem zi_112_19 : (zM 112).1[19]? = some (.invokevirtual 131) := by rfl
theorem zi_112_20 : (zM 112).1[20]? = some (.iload 2) := by rfl
theorem zi_112_21 : (zM 112).1[21]? = some (.aload 0) := by rfl
theorem zi_112_22 : (zM 112).1[22]? = some (.getfield 10204) := by rfl
theorem zi_112_23 : (zM 112).1[23]? = some (.getfield 9007) := by rfl
theorem zi_112_24 : (zM 112).1[24]? = some (.isub) := by rfl
theorem zi_112_25 : (zM 112).1[25]? = some (.ireturn) := by rfl
/-- TakeOrPay.knew(I)I -/
def w_112 (E : Nat → Nat) (d : Nat) (a0 : Nat) (a1 : Int32) (h : ZH) (Q : Option Value → ZH → Prop) : Prop := 1 ≤ d ∧ sz_123 E h a1 ∧ ((¬ (fz_123 E h a1 : Int32) = 0 → (ztag h a0 = 10 ∧ Ct E d 132 [.ref a0] h (fun v h2 => v = none ∧ ztag h2 a0 = 10 ∧ ∃ r4 : Nat, zR h2 a0 4 = r4 + 1 ∧ ztag h2 r4 = 9 ∧ ∀ x6 : Int32, x6 = (zI h2 r4 7) → ((¬ a1 = 0 → (∃ r7 : Nat, zR h2 a0 3 = r7 + 1 ∧ ztag h2 r7 = 5 ∧ Ct E d 131 [.ref a0, .int (zI h2 r7 2)] h2 (fun v h9 => v = none ∧ ztag h9 a0 = 10 ∧ ∃ r11 : Nat, zR h9 a0 4 = r11 + 1 ∧ ztag h9 r11 = 9 ∧ Q (some (.int (x6 - (zI h9 r11 7)))) h9))) ∧ (¬ (¬ a1 = 0) → (Q (some (.int x6)) h2)))))) ∧ (¬ (¬ (fz_123 E h a1 : Int32) = 0) → (Q (some (.int ((-1000000)))) h)))
set_option maxRecDepth 20000 in
theorem ok_112 {E : Nat → Nat} {d : Nat} {a0 : Nat} {a1 : Int32} {h : ZH} {Q : Option Value → ZH → Prop} (hw : w_112 E d a0 a1 h Q) : Ct E (d + 1) 112 [.ref a0, .int a1] h Q := by
  unfold w_112 at hw
  show Gx E (d + 1) 112 0 [.ref a0, .int a1, .retAddr 0] [] h Q
  refine zg_iload zi_112_0 rfl ?_
  obtain ⟨hd, hs, hw⟩ := hw
  refine Gx.call2 (as := [.int a1]) (rest := []) zq_123 zi_112_1 rfl rfl rfl (Nat.le_of_ble_eq_true rfl) (Nat.le_of_ble_eq_true rfl) (rfl) (Nat.le_of_ble_eq_true rfl) ?_
  refine cz_123 hd hs ?_
  show Gx E (d + 1) 112 2 [.ref a0, .int a1, .retAddr 0] [.int (fz_123 E h a1)] h Q
  refine zg_if_ne zi_112_2 (fun hc => ?_) (fun hc => ?_)
  · have hw := hw.1 hc
    refine zg_aload zi_112_5 rfl ?_
    obtain ⟨t1, hw⟩ := hw
    refine Gx.call2 (as := [.ref a0]) (rest := []) zq_132 zi_112_6 rfl rfl rfl (Nat.le_of_ble_eq_true rfl) (Nat.le_of_ble_eq_true rfl) (zrv_v t1 rfl rfl) (Nat.le_of_ble_eq_true rfl) ?_
    refine Ct.mono hw ?_
    rintro v h2 ⟨rfl, hw⟩
    show Gx E (d + 1) 112 7 [.ref a0, .int a1, .retAddr 0] [] h2 Q
    refine zg_aload zi_112_7 rfl ?_
    obtain ⟨t3, hw⟩ := hw
    obtain ⟨r4, er4, hw⟩ := hw
    refine zg_getR (v := .ref r4) zi_112_8 t3 (by rfl) (by show zrv (zR h2 a0 4) = _; rw [er4]; rfl) ?_
    obtain ⟨t5, hw⟩ := hw
    refine zg_getI (v := .int (zI h2 r4 7)) zi_112_9 t5 (by rfl) rfl ?_
    refine zg_nameI fun x6 ex6 => ?_
    have hw := hw x6 ex6
    refine zg_istore (ls1 := [.ref a0, .int a1, .int x6]) zi_112_10 (Nat.le_of_ble_eq_true rfl) rfl ?_
    refine zg_iload zi_112_11 rfl ?_
    refine zg_if_ne zi_112_12 (fun hc => ?_) (fun hc => ?_)
    · have hw := hw.1 hc
      refine zg_aload zi_112_15 rfl ?_
      refine zg_aload zi_112_16 rfl ?_
      obtain ⟨r7, er7, hw⟩ := hw
      refine zg_getR (v := .ref r7) zi_112_17 t3 (by rfl) (by show zrv (zR h2 a0 3) = _; rw [er7]; rfl) ?_
      obtain ⟨t8, hw⟩ := hw
      refine zg_getI (v := .int (zI h2 r7 2)) zi_112_18 t8 (by rfl) rfl ?_
      refine Gx.call2 (as := [.ref a0, .int (zI h2 r7 2)]) (rest := []) zq_131 zi_112_19 rfl rfl rfl (Nat.le_of_ble_eq_true rfl) (Nat.le_of_ble_eq_true rfl) (zrv_v t3 rfl rfl) (Nat.le_of_ble_eq_true rfl) ?_
      refine Ct.mono hw ?_
      rintro v h9 ⟨rfl, hw⟩
      show Gx E (d + 1) 112 20 [.ref a0, .int a1, .int x6] [] h9 Q
      refine zg_iload zi_112_20 rfl ?_
      refine zg_aload zi_112_21 rfl ?_
      obtain ⟨t10, hw⟩ := hw
      obtain ⟨r11, er11, hw⟩ := hw
      refine zg_getR (v := .ref r11) zi_112_22 t10 (by rfl) (by show zrv (zR h9 a0 4) = _; rw [er11]; rfl) ?_
      obtain ⟨t12, hw⟩ := hw
      refine zg_getI (v := .int (zI h9 r11 7)) zi_112_23 t12 (by rfl) rfl ?_
      refine zg_isub zi_112_24 ?_
      exact zg_ireturn zi_112_25 (by decide) hw
    · have hw := hw.2 hc
      refine zg_iload zi_112_13 rfl ?_
      exact zg_ireturn zi_112_14 (by decide) hw
  · have hw := hw.2 hc
    refine zg_const (v := (-1000000)) zi_112_3 (by rfl) ?_
    exact zg_ireturn zi_112_4 (by decide) hw
theorem zq_113 : zQ 113 2 3 10 := by unfold zQ; decide +kernel
theorem zi_113_0 : (zM 113).1[0]? = some (.iload 1) := by rfl
theorem zi_113_1 : (zM 113).1[1]? = some (.invokestatic 123) := by rfl
theorem zi_113_2 : (zM 113).1[2]? = some (.ifCond .ne ((5 : Nat) : Int)) := by rfl
theorem zi_113_3 : (zM 113).1[3]? = some (.iconst (-1000000)) := by rfl
theorem zi_113_4 : (zM 113).1[4]? = some (.ireturn) := by rfl
theorem zi_113_5 : (zM 113).1[5]? = some (.aload 0) := by rfl
theorem zi_113_6 : (zM 113).1[6]? = some (.getfield 10203) := by rfl
theorem zi_113_7 : (zM 113).1[7]? = some (.getfield 5002) := by rfl
theorem zi_113_8 : (zM 113).1[8]? = some (.aload 0) := by rfl
theorem zi_113_9 : (zM 113).1[9]? = some (.getfield 10200) := by rfl
theorem zi_113_10 : (zM 113).1[10]? = some (.getfield 3006) := by rfl
theorem zi_113_11 : (zM 113).1[11]? = some (.if_icmp .ne ((14 : Nat) : Int)) := by rfl
theorem zi_113_12 : (zM 113).1[12]? = some (.iconst 1) := by rfl
theorem zi_113_13 : (zM 113).1[13]? = some (.goto ((15 : Nat) : Int)) := by rfl
theorem zi_113_14 : (zM 113).1[14]? = some (.iconst 0) := by rfl
theorem zi_113_15 : (zM 113).1[15]? = some (.istore 2) := by rfl
theorem zi_113_16 : (zM 113).1[16]? = some (.iload 2) := by rfl
theorem zi_113_17 : (zM 113).1[17]? = some (.ifCond .eq ((26 : Nat) : Int)) := by rfl
theorem zi_113_18 : (zM 113).1[18]? = some (.iload 1) := by rfl
theorem zi_113_19 : (zM 113).1[19]? = some (.iconst 1) := by rfl
theorem zi_113_20 : (zM 113).1[20]? = some (.if_icmp .ne ((28 : Nat) : Int)) := by rfl
theorem zi_113_21 : (zM 113).1[21]? = some (.aload 0) := by rfl
theorem zi_113_22 : (zM 113).1[22]? = some (.getfield 10200) := by rfl
theorem zi_113_23 : (zM 113).1[23]? = some (.getfield 3006) := by rfl
theorem zi_113_24 : (zM 113).1[24]? = some (.iconst 13) := by rfl
theorem zi_113_25 : (zM 113).1[25]? = some (.if_icmp .le ((28 : Nat) : Int)) := by rfl
theorem zi_113_26 : (zM 113).1[26]? = some (.iconst (-1000002)) := by rfl
theorem zi_113_27 : (zM 113).1[27]? = some (.ireturn) := by rfl
theorem zi_113_28 : (zM 113).1[28]? = some (.aload 0) := by rfl
theorem zi_113_29 : (zM 113).1[29]? = some (.getfield 10206) := by rfl
theorem zi_113_30 : (zM 113).1[30]? = some (.invokevirtual 22) := by rfl
theorem zi_113_31 : (zM 113).1[31]? = some (.iload 1) := by rfl
theorem zi_113_32 : (zM 113).1[32]? = some (.ifCond .ne ((37 : Nat) : Int)) := by rfl
theorem zi_113_33 : (zM 113).1[33]? = some (.aload 0) := by rfl
theorem zi_113_34 : (zM 113).1[34]? = some (.getfield 10206) := by rfl
theorem zi_113_35 : (zM 113).1[35]? = some (.getfield 1018) := by rfl
theorem zi_113_36 : (zM 113).1[36]? = some (.goto ((40 : Nat) : Int)) := by rfl
theorem zi_113_37 : (zM 113).1[37]? = some (.aload 0) := by rfl
theorem zi_113_38 : (zM 113).1[38]? = some (.getfield 10206) := by rfl
theorem zi_113_39 : (zM 113).1[39]? = some (.getfield 1019) := by rfl
theorem zi_113_40 : (zM 113).1[40]? = some (.ireturn) := by rfl
/-- TakeOrPay.came(I)I -/
def w_113 (E : Nat → Nat) (d : Nat) (a0 : Nat) (a1 : Int32) (h : ZH) (Q : Option Value → ZH → Prop) : Prop := 1 ≤ d ∧ sz_123 E h a1 ∧ ((¬ (fz_123 E h a1 : Int32) = 0 → (ztag h a0 = 10 ∧ ∃ r2 : Nat, zR h a0 3 = r2 + 1 ∧ ztag h r2 = 5 ∧ ∃ r4 : Nat, zR h a0 0 = r4 + 1 ∧ ztag h r4 = 3 ∧ ∀ x6 : Int32, x6 = (if ¬ (zI h r2 2 : Int32) = (zI h r4 6 : Int32) then 0 else 1) → ((x6 = 0 → (Q (some (.int ((-1000002)))) h)) ∧ (¬ (x6 = 0) → ((¬ a1 = 1 → (∃ r7 : Nat, zR h a0 6 = r7 + 1 ∧ ztag h r7 = 1 ∧ Ct E d 22 [.ref r7] h (fun v h9 => v = none ∧ (((¬ a1 = 0 → (ztag h9 a0 = 10 ∧ ¬ zR h9 a0 6 = 0 ∧ ztag h9 (zR h9 a0 6 - 1) = 1 ∧ True)) ∧ (¬ (¬ a1 = 0) → (ztag h9 a0 = 10 ∧ ¬ zR h9 a0 6 = 0 ∧ ztag h9 (zR h9 a0 6 - 1) = 1 ∧ True))) ∧ Q (some (.int (if ¬ a1 = 0 then zI h9 (zR h9 a0 6 - 1) 19 else zI h9 (zR h9 a0 6 - 1) 18))) h9)))) ∧ (¬ (¬ a1 = 1) → (((zI h r4 6 : Int32) ≤ 13 → (∃ r14 : Nat, zR h a0 6 = r14 + 1 ∧ ztag h r14 = 1 ∧ Ct E d 22 [.ref r14] h (fun v h16 => v = none ∧ (((¬ a1 = 0 → (ztag h16 a0 = 10 ∧ ¬ zR h16 a0 6 = 0 ∧ ztag h16 (zR h16 a0 6 - 1) = 1 ∧ True)) ∧ (¬ (¬ a1 = 0) → (ztag h16 a0 = 10 ∧ ¬ zR h16 a0 6 = 0 ∧ ztag h16 (zR h16 a0 6 - 1) = 1 ∧ True))) ∧ Q (some (.int (if ¬ a1 = 0 then zI h16 (zR h16 a0 6 - 1) 19 else zI h16 (zR h16 a0 6 - 1) 18))) h16)))) ∧ (¬ ((zI h r4 6 : Int32) ≤ 13) → (Q (some (.int ((-1000002)))) h))))))))) ∧ (¬ (¬ (fz_123 E h a1 : Int32) = 0) → (Q (some (.int ((-1000000)))) h)))
set_option maxRecDepth 20000 in
theorem ok_113 {E : Nat → Nat} {d : Nat} {a0 : Nat} {a1 : Int32} {h : ZH} {Q : Option Value → ZH → Prop} (hw : w_113 E d a0 a1 h Q) : Ct E (d + 1) 113 [.ref a0, .int a1] h Q := by
  unfold w_113 at hw
  show Gx E (d + 1) 113 0 [.ref a0, .int a1, .retAddr 0] [] h Q
  refine zg_iload zi_113_0 rfl ?_
  obtain ⟨hd, hs, hw⟩ := hw
  refine Gx.call2 (as := [.int a1]) (rest := []) zq_123 zi_113_1 rfl rfl rfl (Nat.le_of_ble_eq_true rfl) (Nat.le_of_ble_eq_true rfl) (rfl) (Nat.le_of_ble_eq_true rfl) ?_
  refine cz_123 hd hs ?_
  show Gx E (d + 1) 113 2 [.ref a0, .int a1, .retAddr 0] [.int (fz_123 E h a1)] h Q
  refine zg_if_ne zi_113_2 (fun hc => ?_) (fun hc => ?_)
  · have hw := hw.1 hc
    refine zg_aload zi_113_5 rfl ?_
    obtain ⟨t1, hw⟩ := hw
    obtain ⟨r2, er2, hw⟩ := hw
    refine zg_getR (v := .ref r2) zi_113_6 t1 (by rfl) (by show zrv (zR h a0 3) = _; rw [er2]; rfl) ?_
    obtain ⟨t3, hw⟩ := hw
    refine zg_getI (v := .int (zI h r2 2)) zi_113_7 t3 (by rfl) rfl ?_
    refine zg_aload zi_113_8 rfl ?_
    obtain ⟨r4, er4, hw⟩ := hw
    refine zg_getR (v := .ref r4) zi_113_9 t1 (by rfl) (by show zrv (zR h a0 0) = _; rw [er4]; rfl) ?_
    obtain ⟨t5, hw⟩ := hw
    refine zg_getI (v := .int (zI h r4 6)) zi_113_10 t5 (by rfl) rfl ?_
    have g11 : Gx E (d + 1) 113 15 [.ref a0, .int a1, .retAddr 0] [.int (if ¬ (zI h r2 2 : Int32) = (zI h r4 6 : Int32) then 0 else 1)] h Q := by
      refine zg_nameI fun x6 ex6 => ?_
      have hw := hw x6 ex6
      refine zg_istore (ls1 := [.ref a0, .int a1, .int x6]) zi_113_15 (Nat.le_of_ble_eq_true rfl) rfl ?_
      refine zg_iload zi_113_16 rfl ?_
      refine zg_if_eq zi_113_17 (fun hc => ?_) (fun hc => ?_)
      · have hw := hw.1 hc
        refine zg_const (v := (-1000002)) zi_113_26 (by rfl) ?_
        exact zg_ireturn zi_113_27 (by decide) hw
      · have hw := hw.2 hc
        refine zg_iload zi_113_18 rfl ?_
        refine zg_const (v := 1) zi_113_19 (by rfl) ?_
        refine zg_icmp_ne zi_113_20 (fun hc => ?_) (fun hc => ?_)
        · have hw := hw.1 hc
          refine zg_aload zi_113_28 rfl ?_
          obtain ⟨r7, er7, hw⟩ := hw
          refine zg_getR (v := .ref r7) zi_113_29 t1 (by rfl) (by show zrv (zR h a0 6) = _; rw [er7]; rfl) ?_
          obtain ⟨t8, hw⟩ := hw
          refine Gx.call2 (as := [.ref r7]) (rest := []) zq_22 zi_113_30 rfl rfl rfl (Nat.le_of_ble_eq_true rfl) (Nat.le_of_ble_eq_true rfl) (zrv_v t8 rfl rfl) (Nat.le_of_ble_eq_true rfl) ?_
          refine Ct.mono hw ?_
          rintro v h9 ⟨rfl, hw⟩
          show Gx E (d + 1) 113 31 [.ref a0, .int a1, .int x6] [] h9 Q
          refine zg_iload zi_113_31 rfl ?_
          obtain ⟨hsd32, hw⟩ := hw
          have g32 : Gx E (d + 1) 113 40 [.ref a0, .int a1, .int x6] [.int (if ¬ a1 = 0 then zI h9 (zR h9 a0 6 - 1) 19 else zI h9 (zR h9 a0 6 - 1) 18)] h9 Q := by
            exact zg_ireturn zi_113_40 (by decide) hw
          refine zg_if_ne zi_113_32 (fun hc32 => ?_) (fun hc32 => ?_)
          · have hw := hsd32.1 hc32
            refine zg_aload zi_113_37 rfl ?_
            obtain ⟨t10, hw⟩ := hw
            obtain ⟨hr, hw⟩ := hw
            refine zg_getR (v := .ref (zR h9 a0 6 - 1)) zi_113_38 t10 (by rfl) (zrv_p hr) ?_
            obtain ⟨t11, hw⟩ := hw
            refine zg_getI (v := .int (zI h9 (zR h9 a0 6 - 1) 19)) zi_113_39 t11 (by rfl) rfl ?_
            have hg := g32
            simp only [if_pos hc32] at hg
            exact hg
          · have hw := hsd32.2 hc32
            refine zg_aload zi_113_33 rfl ?_
            obtain ⟨t12, hw⟩ := hw
            obtain ⟨hr, hw⟩ := hw
            refine zg_getR (v := .ref (zR h9 a0 6 - 1)) zi_113_34 t12 (by rfl) (zrv_p hr) ?_
            obtain ⟨t13, hw⟩ := hw
            refine zg_getI (v := .int (zI h9 (zR h9 a0 6 - 1) 18)) zi_113_35 t13 (by rfl) rfl ?_
            refine zg_goto zi_113_36 ?_
            have hg := g32
            simp only [if_neg hc32] at hg
            exact hg
        · have hw := hw.2 hc
          refine zg_aload zi_113_21 rfl ?_
          refine zg_getR (v := .ref r4) zi_113_22 t1 (by rfl) (by show zrv (zR h a0 0) = _; rw [er4]; rfl) ?_
          refine zg_getI (v := .int (zI h r4 6)) zi_113_23 t5 (by rfl) rfl ?_
          refine zg_const (v := 13) zi_113_24 (by rfl) ?_
          refine zg_icmp_le zi_113_25 (fun hc => ?_) (fun hc => ?_)
          · have hw := hw.1 hc
            refine zg_aload zi_113_28 rfl ?_
            obtain ⟨r14, er14, hw⟩ := hw
            refine zg_getR (v := .ref r14) zi_113_29 t1 (by rfl) (by show zrv (zR h a0 6) = _; rw [er14]; rfl) ?_
            obtain ⟨t15, hw⟩ := hw
            refine Gx.call2 (as := [.ref r14]) (rest := []) zq_22 zi_113_30 rfl rfl rfl (Nat.le_of_ble_eq_true rfl) (Nat.le_of_ble_eq_true rfl) (zrv_v t15 rfl rfl) (Nat.le_of_ble_eq_true rfl) ?_
            refine Ct.mono hw ?_
            rintro v h16 ⟨rfl, hw⟩
            show Gx E (d + 1) 113 31 [.ref a0, .int a1, .int x6] [] h16 Q
            refine zg_iload zi_113_31 rfl ?_
            obtain ⟨hsd32, hw⟩ := hw
            have g32 : Gx E (d + 1) 113 40 [.ref a0, .int a1, .int x6] [.int (if ¬ a1 = 0 then zI h16 (zR h16 a0 6 - 1) 19 else zI h16 (zR h16 a0 6 - 1) 18)] h16 Q := by
              exact zg_ireturn zi_113_40 (by decide) hw
            refine zg_if_ne zi_113_32 (fun hc32 => ?_) (fun hc32 => ?_)
            · have hw := hsd32.1 hc32
              refine zg_aload zi_113_37 rfl ?_
              obtain ⟨t17, hw⟩ := hw
              obtain ⟨hr, hw⟩ := hw
              refine zg_getR (v := .ref (zR h16 a0 6 - 1)) zi_113_38 t17 (by rfl) (zrv_p hr) ?_
              obtain ⟨t18, hw⟩ := hw
              refine zg_getI (v := .int (zI h16 (zR h16 a0 6 - 1) 19)) zi_113_39 t18 (by rfl) rfl ?_
              have hg := g32
              simp only [if_pos hc32] at hg
              exact hg
            · have hw := hsd32.2 hc32
              refine zg_aload zi_113_33 rfl ?_
              obtain ⟨t19, hw⟩ := hw
              obtain ⟨hr, hw⟩ := hw
              refine zg_getR (v := .ref (zR h16 a0 6 - 1)) zi_113_34 t19 (by rfl) (zrv_p hr) ?_
              obtain ⟨t20, hw⟩ := hw
              refine zg_getI (v := .int (zI h16 (zR h16 a0 6 - 1) 18)) zi_113_35 t20 (by rfl) rfl ?_
              refine zg_goto zi_113_36 ?_
              have hg := g32
              simp only [if_neg hc32] at hg
              exact hg
          · have hw := hw.2 hc
            refine zg_const (v := (-1000002)) zi_113_26 (by rfl) ?_
            exact zg_ireturn zi_113_27 (by decide) hw
    refine zg_icmp_ne zi_113_11 (fun hc11 => ?_) (fun hc11 => ?_)
    · skip
      refine zg_const (v := 0) zi_113_14 (by rfl) ?_
      have hg := g11
      simp only [if_pos hc11] at hg
      exact hg
    · skip
      refine zg_const (v := 1) zi_113_12 (by rfl) ?_
      refine zg_goto zi_113_13 ?_
      have hg := g11
      simp only [if_neg hc11] at hg
      exact hg
  · have hw := hw.2 hc
    refine zg_const (v := (-1000000)) zi_113_3 (by rfl) ?_
    exact zg_ireturn zi_113_4 (by decide) hw
theorem zq_114 : zQ 114 2 10 10 := by unfold zQ; decide +kernel
theorem zi_114_0 : (zM 114).1[0]? = some (.aload 0) := by rfl
theorem zi_114_1 : (zM 114).1[1]? = some (.getfield 10206) := by rfl
theorem zi_114_2 : (zM 114).1[2]? = some (.iconst 0) := by rfl
theorem zi_114_3 : (zM 114).1[3]? = some (.iconst 0) := by rfl
theorem zi_114_4 : (zM 114).1[4]? = some (.iconst 0) := by rfl
theorem zi_114_5 : (zM 114).1[5]? = some (.iconst 0) := by rfl
theorem zi_114_6 : (zM 114).1[6]? = some (.invokevirtual 16) := by rfl
theorem zi_114_7 : (zM 114).1[7]? = some (.astore 2) := by rfl
theorem zi_114_8 : (zM 114).1[8]? = some (.aload 0) := by rfl
theorem zi_114_9 : (zM 114).1[9]? = some (.getfield 10200) := by rfl
theorem zi_114_10 : (zM 114).1[10]? = some (.getfield 3200) := by rfl
theorem zi_114_11 : (zM 114).1[11]? = some (.iconst 12) := by rfl
theorem zi_114_12 : (zM 114).1[12]? = some (.iaload) := by rfl
theorem zi_114_13 : (zM 114).1[13]? = some (.iconst 1) := by rfl
theorem zi_114_14 : (zM 114).1[14]? = some (.if_icmp .ne ((17 : Nat) : Int)) := by rfl
theorem zi_114_15 : (zM 114).1[15]? = some (.iconst 1) := by rfl
theorem zi_114_16 : (zM 114).1[16]? = some (.goto ((18 : Nat) : Int)) := by rfl
theorem zi_114_17 : (zM 114).1[17]? = some (.iconst 0) := by rfl
theorem zi_114_18 : (zM 114).1[18]? = some (.istore 3) := by rfl
theorem zi_114_19 : (zM 114).1[19]? = some (.iload 1) := by rfl
theorem zi_114_20 : (zM 114).1[20]? = some (.istore 4) := by rfl
theorem zi_114_21 : (zM 114).1[21]? = some (.aload 0) := by rfl
theorem zi_114_22 : (zM 114).1[22]? = some (.getfield 10200) := by rfl
theorem zi_114_23 : (zM 114).1[23]? = some (.getfield 3200) := by rfl
theorem zi_114_24 : (zM 114).1[24]? = some (.iconst 15) := by rfl
theorem zi_114_25 : (zM 114).1[25]? = some (.iaload) := by rfl
theorem zi_114_26 : (zM 114).1[26]? = some (.istore 5) := by rfl
theorem zi_114_27 : (zM 114).1[27]? = some (.aload 0) := by rfl
theorem zi_114_28 : (zM 114).1[28]? = some (.getfield 10203) := by rfl
theorem zi_114_29 : (zM 114).1[29]? = some (.iconst 0) := by rfl
theorem zi_114_30 : (zM 114).1[30]? = some (.putfield 5002) := by rfl
theorem zi_114_31 : (zM 114).1[31]? = some (.aload 0) := by rfl
theorem zi_114_32 : (zM 114).1[32]? = some (.getfield 10204) := by rfl
theorem zi_114_33 : (zM 114).1[33]? = some (.invokevirtual 86) := by rfl
theorem zi_114_34 : (zM 114).1[34]? = some (.iconst 0) := by rfl
theorem zi_114_35 : (zM 114).1[35]? = some (.istore 6) := by rfl
theorem zi_114_36 : (zM 114).1[36]? = some (.iload 6) := by rfl
theorem zi_114_37 : (zM 114).1[37]? = some (.aload 0) := by rfl
theorem zi_114_38 : (zM 114).1[38]? = some (.getfield 10200) := by rfl
theorem zi_114_39 : (zM 114).1[39]? = some (.getfield 3006) := by rfl
theorem zi_114_40 : (zM 114).1[40]? = some (.if_icmp .ge ((99 : Nat) : Int)) := by rfl
theorem zi_114_41 : (zM 114).1[41]? = some (.iload 5) := by rfl
theorem zi_114_42 : (zM 114).1[42]? = some (.istore 7) := by rfl
theorem zi_114_43 : (zM 114).1[43]? = some (.iload 3) := by rfl
theorem zi_114_44 : (zM 114).1[44]? = some (.ifCond .ne ((47 : Nat) : Int)) := by rfl
theorem zi_114_45 : (zM 114).1[45]? = some (.iload 6) := by rfl
theorem zi_114_46 : (zM 114).1[46]? = some (.ifCond .le ((65 : Nat) : Int)) := by rfl
theorem zi_114_47 : (zM 114).1[47]? = some (.iload 4) := by rfl
theorem zi_114_48 : (zM 114).1[48]? = some (.iconst 1103515245) := by rfl
theorem zi_114_49 : (zM 114).1[49]? = some (.imul) := by rfl
theorem zi_114_50 : (zM 114).1[50]? = some (.iconst 12345) := by rfl
theorem zi_114_51 : (zM 114).1[51]? = some (.iadd) := by rfl
theorem zi_114_52 : (zM 114).1[52]? = some (.istore 4) := by rfl
theorem zi_114_53 : (zM 114).1[53]? = some (.aload 0) := by rfl
theorem zi_114_54 : (zM 114).1[54]? = some (.getfield 10200) := by rfl
theorem zi_114_55 : (zM 114).1[55]? = some (.iload 7) := by rfl
theorem zi_114_56 : (zM 114).1[56]? = some (.iload 4) := by rfl
theorem zi_114_57 : (zM 114).1[57]? = some (.iconst 16) := by rfl
theorem zi_114_58 : (zM 114).1[58]? = some (.iushr) := by rfl
theorem zi_114_59 : (zM 114).1[59]? = some (.iconst 32767) := by rfl
theorem zi_114_60 : (zM 114).1[60]? = some (.iand) := by rfl
theorem zi_114_61 : (zM 114).1[61]? = some (.iconst 4) := by rfl
theorem zi_114_62 : (zM 114).1[62]? = some (.irem) := by rfl
theorem zi_114_63 : (zM 114).1[63]? = some (.invokevirtual 50) := by rfl
theorem zi_114_64 : (zM 114).1[64]? = some (.istore 5) := by rfl
theorem zi_114_65 : (zM 114).1[65]? = some (.iload 3) := by rfl
theorem zi_114_66 : (zM 114).1[66]? = some (.ifCond .eq ((69 : Nat) : Int)) := by rfl
theorem zi_114_67 : (zM 114).1[67]? = some (.iload 7) := by rfl
theorem zi_114_68 : (zM 114).1[68]? = some (.goto ((70 : Nat) : Int)) := by rfl
theorem zi_114_69 : (zM 114).1[69]? = some (.iload 5) := by rfl
theorem zi_114_70 : (zM 114).1[70]? = some (.istore 8) := by rfl
theorem zi_114_71 : (zM 114).1[71]? = some (.aload 2) := by rfl
theorem zi_114_72 : (zM 114).1[72]? = some (.iload 6) := by rfl
theorem zi_114_73 : (zM 114).1[73]? = some (.aload 0) := by rfl
theorem zi_114_74 : (zM 114).1[74]? = some (.getfield 10204) := by rfl
theorem zi_114_75 : (zM 114).1[75]? = some (.getfield 9003) := by rfl
theorem zi_114_76 : (zM 114).1[76]? = some (.aload 0) := by rfl
theorem zi_114_77 : (zM 114).1[77]? = some (.getfield 10204) := by rfl
theorem zi_114_78 : (zM 114).1[78]? = some (.getfield 9004) := by rfl
theorem zi_114_79 : (zM 114).1[79]? = some (.aload 0) := by rfl
theorem zi_114_80 : (zM 114).1[80]? = some (.getfield 10204) := by rfl
theorem zi_114_81 : (zM 114).1[81]? = some (.getfield 9005) := by rfl
theorem zi_114_82 : (zM 114).1[82]? = some (.iload 8) := by rfl
theorem zi_114_83 : (zM 114).1[83]? = some (.invokevirtual 12) := by rfl
theorem zi_114_84 : (zM 114).1[84]? = some (.istore 9) := by rfl
theorem zi_114_85 : (zM 114).1[85]? = some (.aload 0) := by rfl
theorem zi_114_86 : (zM 114).1[86]? = some (.getfield 10203) := by rfl
theorem zi_114_87 : (zM 114).1[87]? = some (.iload 5) := by rfl
theorem zi_114_88 : (zM 114).1[88]? = some (.iload 9) := by rfl
theorem zi_114_89 : (zM 114).1[89]? = some (.invokevirtual 66) := by rfl
theorem zi_114_90 : (zM 114).1[90]? = some (.aload 0) := by rfl
theorem zi_114_91 : (zM 114).1[91]? = some (.getfield 10204) := by rfl
theorem zi_114_92 : (zM 114).1[92]? = some (.aload 0) := by rfl
theorem zi_114_93 : (zM 114).1[93]? = some (.getfield 10200) := by rfl
theorem zi_114_94 : (zM 114).1[94]? = some (.iload 5) := by rfl
theorem zi_114_95 : (zM 114).1[95]? = some (.iload 9) := by rfl
theorem zi_114_96 : (zM 114).1[96]? = some (.invokevirtual 87) := by rfl
theorem zi_114_97 : (zM 114).1[97]? = some (.iinc 6 1) := by rfl
theorem zi_114_98 : (zM 114).1[98]? = some (.goto ((36 : Nat) : Int)) := by rfl
theorem zi_114_99 : (zM 114).1[99]? = some (.aload 0) := by rfl
theorem zi_114_100 : (zM 114).1[100]? = some (.getfield 10206) := by rfl
theorem zi_114_101 : (zM 114).1[101]? = some (.invokevirtual 15) := by rfl
theorem zi_114_102 : (zM 114).1[102]? = some (.aload 0) := by rfl
theorem zi_114_103 : (zM 114).1[103]? = some (.getfield 10204) := by rfl
theorem zi_114_104 : (zM 114).1[104]? = some (.getfield 9007) := by rfl
theorem zi_114_105 : (zM 114).1[105]? = some (.ireturn) := by rfl
def wb_114_99 (E : Nat → Nat) (d : Nat) (Q : Option Value → ZH → Prop) (a0 : Nat) (h : ZH) : Prop := ztag h a0 = 10 ∧ ∃ r23 : Nat, zR h a0 6 = r23 + 1 ∧ ztag h r23 = 1 ∧ Ct E d 15 [.ref r23] h (fun v h25 => v = none ∧ ztag h25 a0 = 10 ∧ ∃ r27 : Nat, zR h25 a0 4 = r27 + 1 ∧ ztag h25 r27 = 9 ∧ Q (some (.int (zI h25 r27 7))) h25)
set_option maxRecDepth 20000 in
theorem okb_114_99 {E : Nat → Nat} {d : Nat} {Q : Option Value → ZH → Prop} {a0 : Nat} {h : ZH} (hw : wb_114_99 E d Q a0 h) : Gx E (d + 1) 114 99 [.ref a0, .retAddr 0, .retAddr 0, .retAddr 0, .retAddr 0, .retAddr 0, .retAddr 0, .retAddr 0, .retAddr 0, .retAddr 0] [] h Q := by
  unfold wb_114_99 at hw
  refine zg_aload zi_114_99 rfl ?_
  obtain ⟨t22, hw⟩ := hw
  obtain ⟨r23, er23, hw⟩ := hw
  refine zg_getR (v := .ref r23) zi_114_100 t22 (by rfl) (by show zrv (zR h a0 6) = _; rw [er23]; rfl) ?_
  obtain ⟨t24, hw⟩ := hw
  refine Gx.call2 (as := [.ref r23]) (rest := []) zq_15 zi_114_101 rfl rfl rfl (Nat.le_of_ble_eq_true rfl) (Nat.le_of_ble_eq_true rfl) (zrv_v t24 rfl rfl) (Nat.le_of_ble_eq_true rfl) ?_
  refine Ct.mono hw ?_
  rintro v h25 ⟨rfl, hw⟩
  show Gx E (d + 1) 114 102 [.ref a0, .retAddr 0, .retAddr 0, .retAddr 0, .retAddr 0, .retAddr 0, .retAddr 0, .retAddr 0, .retAddr 0, .retAddr 0] [] h25 Q
  refine zg_aload zi_114_102 rfl ?_
  obtain ⟨t26, hw⟩ := hw
  obtain ⟨r27, er27, hw⟩ := hw
  refine zg_getR (v := .ref r27) zi_114_103 t26 (by rfl) (by show zrv (zR h25 a0 4) = _; rw [er27]; rfl) ?_
  obtain ⟨t28, hw⟩ := hw
  refine zg_getI (v := .int (zI h25 r27 7)) zi_114_104 t28 (by rfl) rfl ?_
  exact zg_ireturn zi_114_105 (by decide) hw
def wl_114_36 (E : Nat → Nat) (d : Nat) (Q : Option Value → ZH → Prop) : Nat → Nat → Nat → Int32 → Int32 → Int32 → Int32 → ZH → Prop
  | 0, _, _, _, _, _, _, _ => False
  | n + 1, a0, a2, a3, a4, a5, a6, h => ztag h a0 = 10 ∧ ∃ r20 : Nat, zR h a0 0 = r20 + 1 ∧ ztag h r20 = 3 ∧ (((zI h r20 6 : Int32) ≤ a6 → (wb_114_99 E d Q a0 h)) ∧ (¬ ((zI h r20 6 : Int32) ≤ a6) → (((¬ a3 = 0 → (2 ≤ d ∧ sz_50 E h r20 a5 ((((((a4 * 1103515245) + 12345).toUInt32 >>> ((16 : Int32).toUInt32 &&& Int32.toUInt32 31)).toInt32) &&& 32767) - (((((a4 * 1103515245) + 12345).toUInt32 >>> ((16 : Int32).toUInt32 &&& Int32.toUInt32 31)).toInt32) &&& 32767) / 4 * 4) ∧ True)) ∧ (¬ (¬ a3 = 0) → (((a6 ≤ 0 → (True)) ∧ (¬ (a6 ≤ 0) → (2 ≤ d ∧ sz_50 E h r20 a5 ((((((a4 * 1103515245) + 12345).toUInt32 >>> ((16 : Int32).toUInt32 &&& Int32.toUInt32 31)).toInt32) &&& 32767) - (((((a4 * 1103515245) + 12345).toUInt32 >>> ((16 : Int32).toUInt32 &&& Int32.toUInt32 31)).toInt32) &&& 32767) / 4 * 4) ∧ True))) ∧ True))) ∧ ∀ x29 : Int32, x29 = (if a3 = 0 then if ¬ a3 = 0 then fz_50 E h r20 a5 ((((((a4 * 1103515245) + 12345).toUInt32 >>> ((16 : Int32).toUInt32 &&& Int32.toUInt32 31)).toInt32) &&& 32767) - (((((a4 * 1103515245) + 12345).toUInt32 >>> ((16 : Int32).toUInt32 &&& Int32.toUInt32 31)).toInt32) &&& 32767) / 4 * 4) else if a6 ≤ 0 then a5 else fz_50 E h r20 a5 ((((((a4 * 1103515245) + 12345).toUInt32 >>> ((16 : Int32).toUInt32 &&& Int32.toUInt32 31)).toInt32) &&& 32767) - (((((a4 * 1103515245) + 12345).toUInt32 >>> ((16 : Int32).toUInt32 &&& Int32.toUInt32 31)).toInt32) &&& 32767) / 4 * 4) else a5) → ∃ r30 : Nat, zR h a0 4 = r30 + 1 ∧ ztag h r30 = 9 ∧ ztag h a2 = 0 ∧ Ct E d 12 [.ref a2, .int a6, .int (zI h r30 3), .int (zI h r30 4), .int (zI h r30 5), .int x29] h (fun v h33 => ∃ x34 : Int32, v = some (.int x34) ∧ ztag h33 a0 = 10 ∧ ∃ r36 : Nat, zR h33 a0 3 = r36 + 1 ∧ ztag h33 r36 = 5 ∧ Ct E d 66 [.ref r36, .int (if ¬ a3 = 0 then fz_50 E h r20 a5 ((((((a4 * 1103515245) + 12345).toUInt32 >>> ((16 : Int32).toUInt32 &&& Int32.toUInt32 31)).toInt32) &&& 32767) - (((((a4 * 1103515245) + 12345).toUInt32 >>> ((16 : Int32).toUInt32 &&& Int32.toUInt32 31)).toInt32) &&& 32767) / 4 * 4) else if a6 ≤ 0 then a5 else fz_50 E h r20 a5 ((((((a4 * 1103515245) + 12345).toUInt32 >>> ((16 : Int32).toUInt32 &&& Int32.toUInt32 31)).toInt32) &&& 32767) - (((((a4 * 1103515245) + 12345).toUInt32 >>> ((16 : Int32).toUInt32 &&& Int32.toUInt32 31)).toInt32) &&& 32767) / 4 * 4)), .int x34] h33 (fun v h38 => v = none ∧ ztag h38 a0 = 10 ∧ ∃ r40 : Nat, zR h38 a0 4 = r40 + 1 ∧ ∃ r41 : Nat, zR h38 a0 0 = r41 + 1 ∧ ztag h38 r40 = 9 ∧ Ct E d 87 [.ref r40, .ref r41, .int (if ¬ a3 = 0 then fz_50 E h r20 a5 ((((((a4 * 1103515245) + 12345).toUInt32 >>> ((16 : Int32).toUInt32 &&& Int32.toUInt32 31)).toInt32) &&& 32767) - (((((a4 * 1103515245) + 12345).toUInt32 >>> ((16 : Int32).toUInt32 &&& Int32.toUInt32 31)).toInt32) &&& 32767) / 4 * 4) else if a6 ≤ 0 then a5 else fz_50 E h r20 a5 ((((((a4 * 1103515245) + 12345).toUInt32 >>> ((16 : Int32).toUInt32 &&& Int32.toUInt32 31)).toInt32) &&& 32767) - (((((a4 * 1103515245) + 12345).toUInt32 >>> ((16 : Int32).toUInt32 &&& Int32.toUInt32 31)).toInt32) &&& 32767) / 4 * 4)), .int x34] h38 (fun v h43 => v = none ∧ ∀ x44 : Int32, x44 = (a6 + 1) → wl_114_36 E d Q n a0 a2 a3 (if ¬ a3 = 0 then (a4 * 1103515245) + 12345 else if a6 ≤ 0 then a4 else (a4 * 1103515245) + 12345) (if ¬ a3 = 0 then fz_50 E h r20 a5 ((((((a4 * 1103515245) + 12345).toUInt32 >>> ((16 : Int32).toUInt32 &&& Int32.toUInt32 31)).toInt32) &&& 32767) - (((((a4 * 1103515245) + 12345).toUInt32 >>> ((16 : Int32).toUInt32 &&& Int32.toUInt32 31)).toInt32) &&& 32767) / 4 * 4) else if a6 ≤ 0 then a5 else fz_50 E h r20 a5 ((((((a4 * 1103515245) + 12345).toUInt32 >>> ((16 : Int32).toUInt32 &&& Int32.toUInt32 31)).toInt32) &&& 32767) - (((((a4 * 1103515245) + 12345).toUInt32 >>> ((16 : Int32).toUInt32 &&& Int32.toUInt32 31)).toInt32) &&& 32767) / 4 * 4)) x44 h43))))))
set_option maxRecDepth 20000 in
theorem okl_114_36 {E : Nat → Nat} {d : Nat} {Q : Option Value → ZH → Prop} : ∀ (n : Nat) (a0 : Nat) (a2 : Nat) (a3 : Int32) (a4 : Int32) (a5 : Int32) (a6 : Int32) (h : ZH), wl_114_36 E d Q n a0 a2 a3 a4 a5 a6 h → Gx E (d + 1) 114 36 [.ref a0, .retAddr 0, .ref a2, .int a3, .int a4, .int a5, .int a6, .retAddr 0, .retAddr 0, .retAddr 0] [] h Q := by
  intro n
  induction n with
  | zero => intro a0 a2 a3 a4 a5 a6 h hw; exact hw.elim
  | succ n ih =>
    intro a0 a2 a3 a4 a5 a6 h hw
    rw [wl_114_36] at hw
    refine zg_iload zi_114_36 rfl ?_
    refine zg_aload zi_114_37 rfl ?_
    obtain ⟨t19, hw⟩ := hw
    obtain ⟨r20, er20, hw⟩ := hw
    refine zg_getR (v := .ref r20) zi_114_38 t19 (by rfl) (by show zrv (zR h a0 0) = _; rw [er20]; rfl) ?_
    obtain ⟨t21, hw⟩ := hw
    refine zg_getI (v := .int (zI h r20 6)) zi_114_39 t21 (by rfl) rfl ?_
    refine zg_icmp_ge zi_114_40 (fun hc => ?_) (fun hc => ?_)
    · have hw := hw.1 hc
      exact Gx.forget (zrk (zrk (zrd (zrd (zrd (zrd (zrd (zrk (zrk (zrk zr0)))))))))) (okb_114_99 hw)
    · have hw := hw.2 hc
      refine zg_iload zi_114_41 rfl ?_
      refine zg_istore (ls1 := [.ref a0, .retAddr 0, .ref a2, .int a3, .int a4, .int a5, .int a6, .int a5, .retAddr 0, .retAddr 0]) zi_114_42 (Nat.le_of_ble_eq_true rfl) rfl ?_
      refine zg_iload zi_114_43 rfl ?_
      obtain ⟨hsd44, hw⟩ := hw
      have g44 : Gx E (d + 1) 114 65 [.ref a0, .retAddr 0, .ref a2, .int a3, .int (if ¬ a3 = 0 then (a4 * 1103515245) + 12345 else if a6 ≤ 0 then a4 else (a4 * 1103515245) + 12345), .int (if ¬ a3 = 0 then fz_50 E h r20 a5 ((((((a4 * 1103515245) + 12345).toUInt32 >>> ((16 : Int32).toUInt32 &&& Int32.toUInt32 31)).toInt32) &&& 32767) - (((((a4 * 1103515245) + 12345).toUInt32 >>> ((16 : Int32).toUInt32 &&& Int32.toUInt32 31)).toInt32) &&& 32767) / 4 * 4) else if a6 ≤ 0 then a5 else fz_50 E h r20 a5 ((((((a4 * 1103515245) + 12345).toUInt32 >>> ((16 : Int32).toUInt32 &&& Int32.toUInt32 31)).toInt32) &&& 32767) - (((((a4 * 1103515245) + 12345).toUInt32 >>> ((16 : Int32).toUInt32 &&& Int32.toUInt32 31)).toInt32) &&& 32767) / 4 * 4)), .int a6, .int a5, .retAddr 0, .retAddr 0] [] h Q := by
        refine zg_iload zi_114_65 rfl ?_
        have g66 : Gx E (d + 1) 114 70 [.ref a0, .retAddr 0, .ref a2, .int a3, .int (if ¬ a3 = 0 then (a4 * 1103515245) + 12345 else if a6 ≤ 0 then a4 else (a4 * 1103515245) + 12345), .int (if ¬ a3 = 0 then fz_50 E h r20 a5 ((((((a4 * 1103515245) + 12345).toUInt32 >>> ((16 : Int32).toUInt32 &&& Int32.toUInt32 31)).toInt32) &&& 32767) - (((((a4 * 1103515245) + 12345).toUInt32 >>> ((16 : Int32).toUInt32 &&& Int32.toUInt32 31)).toInt32) &&& 32767) / 4 * 4) else if a6 ≤ 0 then a5 else fz_50 E h r20 a5 ((((((a4 * 1103515245) + 12345).toUInt32 >>> ((16 : Int32).toUInt32 &&& Int32.toUInt32 31)).toInt32) &&& 32767) - (((((a4 * 1103515245) + 12345).toUInt32 >>> ((16 : Int32).toUInt32 &&& Int32.toUInt32 31)).toInt32) &&& 32767) / 4 * 4)), .int a6, .int a5, .retAddr 0, .retAddr 0] [.int (if a3 = 0 then if ¬ a3 = 0 then fz_50 E h r20 a5 ((((((a4 * 1103515245) + 12345).toUInt32 >>> ((16 : Int32).toUInt32 &&& Int32.toUInt32 31)).toInt32) &&& 32767) - (((((a4 * 1103515245) + 12345).toUInt32 >>> ((16 : Int32).toUInt32 &&& Int32.toUInt32 31)).toInt32) &&& 32767) / 4 * 4) else if a6 ≤ 0 then a5 else fz_50 E h r20 a5 ((((((a4 * 1103515245) + 12345).toUInt32 >>> ((16 : Int32).toUInt32 &&& Int32.toUInt32 31)).toInt32) &&& 32767) - (((((a4 * 1103515245) + 12345).toUInt32 >>> ((16 : Int32).toUInt32 &&& Int32.toUInt32 31)).toInt32) &&& 32767) / 4 * 4) else a5)] h Q := by
          refine zg_nameI fun x29 ex29 => ?_
          have hw := hw x29 ex29
          refine zg_istore (ls1 := [.ref a0, .retAddr 0, .ref a2, .int a3, .int (if ¬ a3 = 0 then (a4 * 1103515245) + 12345 else if a6 ≤ 0 then a4 else (a4 * 1103515245) + 12345), .int (if ¬ a3 = 0 then fz_50 E h r20 a5 ((((((a4 * 1103515245) + 12345).toUInt32 >>> ((16 : Int32).toUInt32 &&& Int32.toUInt32 31)).toInt32) &&& 32767) - (((((a4 * 1103515245) + 12345).toUInt32 >>> ((16 : Int32).toUInt32 &&& Int32.toUInt32 31)).toInt32) &&& 32767) / 4 * 4) else if a6 ≤ 0 then a5 else fz_50 E h r20 a5 ((((((a4 * 1103515245) + 12345).toUInt32 >>> ((16 : Int32).toUInt32 &&& Int32.toUInt32 31)).toInt32) &&& 32767) - (((((a4 * 1103515245) + 12345).toUInt32 >>> ((16 : Int32).toUInt32 &&& Int32.toUInt32 31)).toInt32) &&& 32767) / 4 * 4)), .int a6, .int a5, .int x29, .retAddr 0]) zi_114_70 (Nat.le_of_ble_eq_true rfl) rfl ?_
          refine zg_aload zi_114_71 rfl ?_
          refine zg_iload zi_114_72 rfl ?_
          refine zg_aload zi_114_73 rfl ?_
          obtain ⟨r30, er30, hw⟩ := hw
          refine zg_getR (v := .ref r30) zi_114_74 t19 (by rfl) (by show zrv (zR h a0 4) = _; rw [er30]; rfl) ?_
          obtain ⟨t31, hw⟩ := hw
          refine zg_getI (v := .int (zI h r30 3)) zi_114_75 t31 (by rfl) rfl ?_
          refine zg_aload zi_114_76 rfl ?_
          refine zg_getR (v := .ref r30) zi_114_77 t19 (by rfl) (by show zrv (zR h a0 4) = _; rw [er30]; rfl) ?_
          refine zg_getI (v := .int (zI h r30 4)) zi_114_78 t31 (by rfl) rfl ?_
          refine zg_aload zi_114_79 rfl ?_
          refine zg_getR (v := .ref r30) zi_114_80 t19 (by rfl) (by show zrv (zR h a0 4) = _; rw [er30]; rfl) ?_
          refine zg_getI (v := .int (zI h r30 5)) zi_114_81 t31 (by rfl) rfl ?_
          refine zg_iload zi_114_82 rfl ?_
          obtain ⟨t32, hw⟩ := hw
          refine Gx.call2 (as := [.ref a2, .int a6, .int (zI h r30 3), .int (zI h r30 4), .int (zI h r30 5), .int x29]) (rest := []) zq_12 zi_114_83 rfl rfl rfl (Nat.le_of_ble_eq_true rfl) (Nat.le_of_ble_eq_true rfl) (zrv_v t32 rfl rfl) (Nat.le_of_ble_eq_true rfl) ?_
          refine Ct.mono hw ?_
          rintro v h33 ⟨x34, rfl, hw⟩
          show Gx E (d + 1) 114 84 [.ref a0, .retAddr 0, .ref a2, .int a3, .int (if ¬ a3 = 0 then (a4 * 1103515245) + 12345 else if a6 ≤ 0 then a4 else (a4 * 1103515245) + 12345), .int (if ¬ a3 = 0 then fz_50 E h r20 a5 ((((((a4 * 1103515245) + 12345).toUInt32 >>> ((16 : Int32).toUInt32 &&& Int32.toUInt32 31)).toInt32) &&& 32767) - (((((a4 * 1103515245) + 12345).toUInt32 >>> ((16 : Int32).toUInt32 &&& Int32.toUInt32 31)).toInt32) &&& 32767) / 4 * 4) else if a6 ≤ 0 then a5 else fz_50 E h r20 a5 ((((((a4 * 1103515245) + 12345).toUInt32 >>> ((16 : Int32).toUInt32 &&& Int32.toUInt32 31)).toInt32) &&& 32767) - (((((a4 * 1103515245) + 12345).toUInt32 >>> ((16 : Int32).toUInt32 &&& Int32.toUInt32 31)).toInt32) &&& 32767) / 4 * 4)), .int a6, .int a5, .int x29, .retAddr 0] [.int x34] h33 Q
          refine zg_istore (ls1 := [.ref a0, .retAddr 0, .ref a2, .int a3, .int (if ¬ a3 = 0 then (a4 * 1103515245) + 12345 else if a6 ≤ 0 then a4 else (a4 * 1103515245) + 12345), .int (if ¬ a3 = 0 then fz_50 E h r20 a5 ((((((a4 * 1103515245) + 12345).toUInt32 >>> ((16 : Int32).toUInt32 &&& Int32.toUInt32 31)).toInt32) &&& 32767) - (((((a4 * 1103515245) + 12345).toUInt32 >>> ((16 : Int32).toUInt32 &&& Int32.toUInt32 31)).toInt32) &&& 32767) / 4 * 4) else if a6 ≤ 0 then a5 else fz_50 E h r20 a5 ((((((a4 * 1103515245) + 12345).toUInt32 >>> ((16 : Int32).toUInt32 &&& Int32.toUInt32 31)).toInt32) &&& 32767) - (((((a4 * 1103515245) + 12345).toUInt32 >>> ((16 : Int32).toUInt32 &&& Int32.toUInt32 31)).toInt32) &&& 32767) / 4 * 4)), .int a6, .int a5, .int x29, .int x34]) zi_114_84 (Nat.le_of_ble_eq_true rfl) rfl ?_
          refine zg_aload zi_114_85 rfl ?_
          obtain ⟨t35, hw⟩ := hw
          obtain ⟨r36, er36, hw⟩ := hw
          refine zg_getR (v := .ref r36) zi_114_86 t35 (by rfl) (by show zrv (zR h33 a0 3) = _; rw [er36]; rfl) ?_
          refine zg_iload zi_114_87 rfl ?_
          refine zg_iload zi_114_88 rfl ?_
          obtain ⟨t37, hw⟩ := hw
          refine Gx.call2 (as := [.ref r36, .int (if ¬ a3 = 0 then fz_50 E h r20 a5 ((((((a4 * 1103515245) + 12345).toUInt32 >>> ((16 : Int32).toUInt32 &&& Int32.toUInt32 31)).toInt32) &&& 32767) - (((((a4 * 1103515245) + 12345).toUInt32 >>> ((16 : Int32).toUInt32 &&& Int32.toUInt32 31)).toInt32) &&& 32767) / 4 * 4) else if a6 ≤ 0 then a5 else fz_50 E h r20 a5 ((((((a4 * 1103515245) + 12345).toUInt32 >>> ((16 : Int32).toUInt32 &&& Int32.toUInt32 31)).toInt32) &&& 32767) - (((((a4 * 1103515245) + 12345).toUInt32 >>> ((16 : Int32).toUInt32 &&& Int32.toUInt32 31)).toInt32) &&& 32767) / 4 * 4)), .int x34]) (rest := []) zq_66 zi_114_89 rfl rfl rfl (Nat.le_of_ble_eq_true rfl) (Nat.le_of_ble_eq_true rfl) (zrv_v t37 rfl rfl) (Nat.le_of_ble_eq_true rfl) ?_
          refine Ct.mono hw ?_
          rintro v h38 ⟨rfl, hw⟩
          show Gx E (d + 1) 114 90 [.ref a0, .retAddr 0, .ref a2, .int a3, .int (if ¬ a3 = 0 then (a4 * 1103515245) + 12345 else if a6 ≤ 0 then a4 else (a4 * 1103515245) + 12345), .int (if ¬ a3 = 0 then fz_50 E h r20 a5 ((((((a4 * 1103515245) + 12345).toUInt32 >>> ((16 : Int32).toUInt32 &&& Int32.toUInt32 31)).toInt32) &&& 32767) - (((((a4 * 1103515245) + 12345).toUInt32 >>> ((16 : Int32).toUInt32 &&& Int32.toUInt32 31)).toInt32) &&& 32767) / 4 * 4) else if a6 ≤ 0 then a5 else fz_50 E h r20 a5 ((((((a4 * 1103515245) + 12345).toUInt32 >>> ((16 : Int32).toUInt32 &&& Int32.toUInt32 31)).toInt32) &&& 32767) - (((((a4 * 1103515245) + 12345).toUInt32 >>> ((16 : Int32).toUInt32 &&& Int32.toUInt32 31)).toInt32) &&& 32767) / 4 * 4)), .int a6, .int a5, .int x29, .int x34] [] h38 Q
          refine zg_aload zi_114_90 rfl ?_
          obtain ⟨t39, hw⟩ := hw
          obtain ⟨r40, er40, hw⟩ := hw
          refine zg_getR (v := .ref r40) zi_114_91 t39 (by rfl) (by show zrv (zR h38 a0 4) = _; rw [er40]; rfl) ?_
          refine zg_aload zi_114_92 rfl ?_
          obtain ⟨r41, er41, hw⟩ := hw
          refine zg_getR (v := .ref r41) zi_114_93 t39 (by rfl) (by show zrv (zR h38 a0 0) = _; rw [er41]; rfl) ?_
          refine zg_iload zi_114_94 rfl ?_
          refine zg_iload zi_114_95 rfl ?_
          obtain ⟨t42, hw⟩ := hw
          refine Gx.call2 (as := [.ref r40, .ref r41, .int (if ¬ a3 = 0 then fz_50 E h r20 a5 ((((((a4 * 1103515245) + 12345).toUInt32 >>> ((16 : Int32).toUInt32 &&& Int32.toUInt32 31)).toInt32) &&& 32767) - (((((a4 * 1103515245) + 12345).toUInt32 >>> ((16 : Int32).toUInt32 &&& Int32.toUInt32 31)).toInt32) &&& 32767) / 4 * 4) else if a6 ≤ 0 then a5 else fz_50 E h r20 a5 ((((((a4 * 1103515245) + 12345).toUInt32 >>> ((16 : Int32).toUInt32 &&& Int32.toUInt32 31)).toInt32) &&& 32767) - (((((a4 * 1103515245) + 12345).toUInt32 >>> ((16 : Int32).toUInt32 &&& Int32.toUInt32 31)).toInt32) &&& 32767) / 4 * 4)), .int x34]) (rest := []) zq_87 zi_114_96 rfl rfl rfl (Nat.le_of_ble_eq_true rfl) (Nat.le_of_ble_eq_true rfl) (zrv_v t42 rfl rfl) (Nat.le_of_ble_eq_true rfl) ?_
          refine Ct.mono hw ?_
          rintro v h43 ⟨rfl, hw⟩
          show Gx E (d + 1) 114 97 [.ref a0, .retAddr 0, .ref a2, .int a3, .int (if ¬ a3 = 0 then (a4 * 1103515245) + 12345 else if a6 ≤ 0 then a4 else (a4 * 1103515245) + 12345), .int (if ¬ a3 = 0 then fz_50 E h r20 a5 ((((((a4 * 1103515245) + 12345).toUInt32 >>> ((16 : Int32).toUInt32 &&& Int32.toUInt32 31)).toInt32) &&& 32767) - (((((a4 * 1103515245) + 12345).toUInt32 >>> ((16 : Int32).toUInt32 &&& Int32.toUInt32 31)).toInt32) &&& 32767) / 4 * 4) else if a6 ≤ 0 then a5 else fz_50 E h r20 a5 ((((((a4 * 1103515245) + 12345).toUInt32 >>> ((16 : Int32).toUInt32 &&& Int32.toUInt32 31)).toInt32) &&& 32767) - (((((a4 * 1103515245) + 12345).toUInt32 >>> ((16 : Int32).toUInt32 &&& Int32.toUInt32 31)).toInt32) &&& 32767) / 4 * 4)), .int a6, .int a5, .int x29, .int x34] [] h43 Q
          obtain ⟨x44, ex44⟩ : ∃ x : Int32, x = a6 + 1 := ⟨_, rfl⟩
          have hw := hw x44 ex44
          refine zg_iinc (v := x44) (ls1 := [.ref a0, .retAddr 0, .ref a2, .int a3, .int (if ¬ a3 = 0 then (a4 * 1103515245) + 12345 else if a6 ≤ 0 then a4 else (a4 * 1103515245) + 12345), .int (if ¬ a3 = 0 then fz_50 E h r20 a5 ((((((a4 * 1103515245) + 12345).toUInt32 >>> ((16 : Int32).toUInt32 &&& Int32.toUInt32 31)).toInt32) &&& 32767) - (((((a4 * 1103515245) + 12345).toUInt32 >>> ((16 : Int32).toUInt32 &&& Int32.toUInt32 31)).toInt32) &&& 32767) / 4 * 4) else if a6 ≤ 0 then a5 else fz_50 E h r20 a5 ((((((a4 * 1103515245) + 12345).toUInt32 >>> ((16 : Int32).toUInt32 &&& Int32.toUInt32 31)).toInt32) &&& 32767) - (((((a4 * 1103515245) + 12345).toUInt32 >>> ((16 : Int32).toUInt32 &&& Int32.toUInt32 31)).toInt32) &&& 32767) / 4 * 4)), .int x44, .int a5, .int x29, .int x34]) zi_114_97 rfl (by rw [ex44]; rfl) rfl ?_
          refine zg_goto zi_114_98 ?_
          exact Gx.forget (zrk (zrk (zrk (zrk (zrk (zrk (zrk (zrd (zrd (zrd zr0)))))))))) (ih a0 a2 a3 (if ¬ a3 = 0 then (a4 * 1103515245) + 12345 else if a6 ≤ 0 then a4 else (a4 * 1103515245) + 12345) (if ¬ a3 = 0 then fz_50 E h r20 a5 ((((((a4 * 1103515245) + 12345).toUInt32 >>> ((16 : Int32).toUInt32 &&& Int32.toUInt32 31)).toInt32) &&& 32767) - (((((a4 * 1103515245) + 12345).toUInt32 >>> ((16 : Int32).toUInt32 &&& Int32.toUInt32 31)).toInt32) &&& 32767) / 4 * 4) else if a6 ≤ 0 then a5 else fz_50 E h r20 a5 ((((((a4 * 1103515245) + 12345).toUInt32 >>> ((16 : Int32).toUInt32 &&& Int32.toUInt32 31)).toInt32) &&& 32767) - (((((a4 * 1103515245) + 12345).toUInt32 >>> ((16 : Int32).toUInt32 &&& Int32.toUInt32 31)).toInt32) &&& 32767) / 4 * 4)) x44 h43 hw)
        refine zg_if_eq zi_114_66 (fun hc66 => ?_) (fun hc66 => ?_)
        · skip
          refine zg_iload zi_114_69 rfl ?_
          have hg := g66
          simp only [if_pos hc66] at hg
          exact hg
        · skip
          refine zg_iload zi_114_67 rfl ?_
          refine zg_goto zi_114_68 ?_
          have hg := g66
          simp only [if_neg hc66] at hg
          exact hg
      refine zg_if_ne zi_114_44 (fun hc44 => ?_) (fun hc44 => ?_)
      · have hw := hsd44.1 hc44
        refine zg_iload zi_114_47 rfl ?_
        refine zg_const (v := 1103515245) zi_114_48 (by rfl) ?_
        refine zg_imul zi_114_49 ?_
        refine zg_const (v := 12345) zi_114_50 (by rfl) ?_
        refine zg_iadd zi_114_51 ?_
        refine zg_istore (ls1 := [.ref a0, .retAddr 0, .ref a2, .int a3, .int ((a4 * 1103515245) + 12345), .int a5, .int a6, .int a5, .retAddr 0, .retAddr 0]) zi_114_52 (Nat.le_of_ble_eq_true rfl) rfl ?_
        refine zg_aload zi_114_53 rfl ?_
        refine zg_getR (v := .ref r20) zi_114_54 t19 (by rfl) (by show zrv (zR h a0 0) = _; rw [er20]; rfl) ?_
        refine zg_iload zi_114_55 rfl ?_
        refine zg_iload zi_114_56 rfl ?_
        refine zg_const (v := 16) zi_114_57 (by rfl) ?_
        refine zg_iushr zi_114_58 ?_
        refine zg_const (v := 32767) zi_114_59 (by rfl) ?_
        refine zg_iand zi_114_60 ?_
        refine zg_const (v := 4) zi_114_61 (by rfl) ?_
        refine zg_irem zi_114_62 (by decide) ?_
        obtain ⟨hd, hs, hw⟩ := hw
        refine Gx.call2 (as := [.ref r20, .int a5, .int ((((((a4 * 1103515245) + 12345).toUInt32 >>> ((16 : Int32).toUInt32 &&& Int32.toUInt32 31)).toInt32) &&& 32767) - (((((a4 * 1103515245) + 12345).toUInt32 >>> ((16 : Int32).toUInt32 &&& Int32.toUInt32 31)).toInt32) &&& 32767) / 4 * 4)]) (rest := []) zq_50 zi_114_63 rfl rfl rfl (Nat.le_of_ble_eq_true rfl) (Nat.le_of_ble_eq_true rfl) (zrv_v t21 rfl rfl) (Nat.le_of_ble_eq_true rfl) ?_
        refine cz_50 hd hs ?_
        show Gx E (d + 1) 114 64 [.ref a0, .retAddr 0, .ref a2, .int a3, .int ((a4 * 1103515245) + 12345), .int a5, .int a6, .int a5, .retAddr 0, .retAddr 0] [.int (fz_50 E h r20 a5 ((((((a4 * 1103515245) + 12345).toUInt32 >>> ((16 : Int32).toUInt32 &&& Int32.toUInt32 31)).toInt32) &&& 32767) - (((((a4 * 1103515245) + 12345).toUInt32 >>> ((16 : Int32).toUInt32 &&& Int32.toUInt32 31)).toInt32) &&& 32767) / 4 * 4))] h Q
        refine zg_istore (ls1 := [.ref a0, .retAddr 0, .ref a2, .int a3, .int ((a4 * 1103515245) + 12345), .int (fz_50 E h r20 a5 ((((((a4 * 1103515245) + 12345).toUInt32 >>> ((16 : Int32).toUInt32 &&& Int32.toUInt32 31)).toInt32) &&& 32767) - (((((a4 * 1103515245) + 12345).toUInt32 >>> ((16 : Int32).toUInt32 &&& Int32.toUInt32 31)).toInt32) &&& 32767) / 4 * 4)), .int a6, .int a5, .retAddr 0, .retAddr 0]) zi_114_64 (Nat.le_of_ble_eq_true rfl) rfl ?_
        have hg := g44
        simp only [if_pos hc44] at hg
        exact hg
      · have hw := hsd44.2 hc44
        refine zg_iload zi_114_45 rfl ?_
        obtain ⟨hsd46, hw⟩ := hw
        have g46 : Gx E (d + 1) 114 65 [.ref a0, .retAddr 0, .ref a2, .int a3, .int (if a6 ≤ 0 then a4 else (a4 * 1103515245) + 12345), .int (if a6 ≤ 0 then a5 else fz_50 E h r20 a5 ((((((a4 * 1103515245) + 12345).toUInt32 >>> ((16 : Int32).toUInt32 &&& Int32.toUInt32 31)).toInt32) &&& 32767) - (((((a4 * 1103515245) + 12345).toUInt32 >>> ((16 : Int32).toUInt32 &&& Int32.toUInt32 31)).toInt32) &&& 32767) / 4 * 4)), .int a6, .int a5, .retAddr 0, .retAddr 0] [] h Q := by
          have hg := g44
          simp only [if_neg hc44] at hg
          exact hg
        refine zg_if_le zi_114_46 (fun hc46 => ?_) (fun hc46 => ?_)
        · have hw := hsd46.1 hc46
          have hg := g46
          simp only [if_pos hc46] at hg
          exact hg
        · have hw := hsd46.2 hc46
          refine zg_iload zi_114_47 rfl ?_
          refine zg_const (v := 1103515245) zi_114_48 (by rfl) ?_
          refine zg_imul zi_114_49 ?_
          refine zg_const (v := 12345) zi_114_50 (by rfl) ?_
          refine zg_iadd zi_114_51 ?_
          refine zg_istore (ls1 := [.ref a0, .retAddr 0, .ref a2, .int a3, .int ((a4 * 1103515245) + 12345), .int a5, .int a6, .int a5, .retAddr 0, .retAddr 0]) zi_114_52 (Nat.le_of_ble_eq_true rfl) rfl ?_
          refine zg_aload zi_114_53 rfl ?_
          refine zg_getR (v := .ref r20) zi_114_54 t19 (by rfl) (by show zrv (zR h a0 0) = _; rw [er20]; rfl) ?_
          refine zg_iload zi_114_55 rfl ?_
          refine zg_iload zi_114_56 rfl ?_
          refine zg_const (v := 16) zi_114_57 (by rfl) ?_
          refine zg_iushr zi_114_58 ?_
          refine zg_const (v := 32767) zi_114_59 (by rfl) ?_
          refine zg_iand zi_114_60 ?_
          refine zg_const (v := 4) zi_114_61 (by rfl) ?_
          refine zg_irem zi_114_62 (by decide) ?_
          obtain ⟨hd, hs, hw⟩ := hw
          refine Gx.call2 (as := [.ref r20, .int a5, .int ((((((a4 * 1103515245) + 12345).toUInt32 >>> ((16 : Int32).toUInt32 &&& Int32.toUInt32 31)).toInt32) &&& 32767) - (((((a4 * 1103515245) + 12345).toUInt32 >>> ((16 : Int32).toUInt32 &&& Int32.toUInt32 31)).toInt32) &&& 32767) / 4 * 4)]) (rest := []) zq_50 zi_114_63 rfl rfl rfl (Nat.le_of_ble_eq_true rfl) (Nat.le_of_ble_eq_true rfl) (zrv_v t21 rfl rfl) (Nat.le_of_ble_eq_true rfl) ?_
          refine cz_50 hd hs ?_
          show Gx E (d + 1) 114 64 [.ref a0, .retAddr 0, .ref a2, .int a3, .int ((a4 * 1103515245) + 12345), .int a5, .int a6, .int a5, .retAddr 0, .retAddr 0] [.int (fz_50 E h r20 a5 ((((((a4 * 1103515245) + 12345).toUInt32 >>> ((16 : Int32).toUInt32 &&& Int32.toUInt32 31)).toInt32) &&& 32767) - (((((a4 * 1103515245) + 12345).toUInt32 >>> ((16 : Int32).toUInt32 &&& Int32.toUInt32 31)).toInt32) &&& 32767) / 4 * 4))] h Q
          refine zg_istore (ls1 := [.ref a0, .retAddr 0, .ref a2, .int a3, .int ((a4 * 1103515245) + 12345), .int (fz_50 E h r20 a5 ((((((a4 * 1103515245) + 12345).toUInt32 >>> ((16 : Int32).toUInt32 &&& Int32.toUInt32 31)).toInt32) &&& 32767) - (((((a4 * 1103515245) + 12345).toUInt32 >>> ((16 : Int32).toUInt32 &&& Int32.toUInt32 31)).toInt32) &&& 32767) / 4 * 4)), .int a6, .int a5, .retAddr 0, .retAddr 0]) zi_114_64 (Nat.le_of_ble_eq_true rfl) rfl ?_
          have hg := g46
          simp only [if_neg hc46] at hg
          exact hg
/-- TakeOrPay.draw(I)I -/
def w_114 (E : Nat → Nat) (d : Nat) (a0 : Nat) (a1 : Int32) (h : ZH) (Q : Option Value → ZH → Prop) : Prop := ztag h a0 = 10 ∧ ∃ r2 : Nat, zR h a0 6 = r2 + 1 ∧ ztag h r2 = 1 ∧ Ct E d 16 [.ref r2, .int 0, .int 0, .int 0, .int 0] h (fun v h4 => ∃ r5 : Nat, v = some (.ref r5) ∧ ztag h4 a0 = 10 ∧ ∃ r7 : Nat, zR h4 a0 0 = r7 + 1 ∧ ztag h4 r7 = 3 ∧ ∃ r9 : Nat, zR h4 r7 0 = r9 + 1 ∧ (ztag h4 r9 = 13 ∨ ztag h4 r9 = 19) ∧ zin 12 (zlen h4 r9) = true ∧ ∀ x11 : Int32, x11 = (if ¬ (zI h4 r9 12 : Int32) = 1 then 0 else 1) → zin 15 (zlen h4 r9) = true ∧ ∀ x12 : Int32, x12 = (zI h4 r9 15) → ∃ r13 : Nat, zR h4 a0 3 = r13 + 1 ∧ ztag h4 r13 = 5 ∧ ∀ h15 : ZH, h15 = (zuI h4 r13 2 0) → ∃ r16 : Nat, zR h15 a0 4 = r16 + 1 ∧ ztag h15 r16 = 9 ∧ Ct E d 86 [.ref r16] h15 (fun v h18 => v = none ∧ (∃ mm : Nat, wl_114_36 E d Q mm a0 r5 x11 a1 x12 0 h18)))
set_option maxRecDepth 20000 in
theorem ok_114 {E : Nat → Nat} {d : Nat} {a0 : Nat} {a1 : Int32} {h : ZH} {Q : Option Value → ZH → Prop} (hw : w_114 E d a0 a1 h Q) : Ct E (d + 1) 114 [.ref a0, .int a1] h Q := by
  unfold w_114 at hw
  show Gx E (d + 1) 114 0 [.ref a0, .int a1, .retAddr 0, .retAddr 0, .retAddr 0, .retAddr 0, .retAddr 0, .retAddr 0, .retAddr 0, .retAddr 0] [] h Q
  refine zg_aload zi_114_0 rfl ?_
  obtain ⟨t1, hw⟩ := hw
  obtain ⟨r2, er2, hw⟩ := hw
  refine zg_getR (v := .ref r2) zi_114_1 t1 (by rfl) (by show zrv (zR h a0 6) = _; rw [er2]; rfl) ?_
  refine zg_const (v := 0) zi_114_2 (by rfl) ?_
  refine zg_const (v := 0) zi_114_3 (by rfl) ?_
  refine zg_const (v := 0) zi_114_4 (by rfl) ?_
  refine zg_const (v := 0) zi_114_5 (by rfl) ?_
  obtain ⟨t3, hw⟩ := hw
  refine Gx.call2 (as := [.ref r2, .int 0, .int 0, .int 0, .int 0]) (rest := []) zq_16 zi_114_6 rfl rfl rfl (Nat.le_of_ble_eq_true rfl) (Nat.le_of_ble_eq_true rfl) (zrv_v t3 rfl rfl) (Nat.le_of_ble_eq_true rfl) ?_
  refine Ct.mono hw ?_
  rintro v h4 ⟨r5, rfl, hw⟩
  show Gx E (d + 1) 114 7 [.ref a0, .int a1, .retAddr 0, .retAddr 0, .retAddr 0, .retAddr 0, .retAddr 0, .retAddr 0, .retAddr 0, .retAddr 0] [.ref r5] h4 Q
  refine zg_astore (ls1 := [.ref a0, .int a1, .ref r5, .retAddr 0, .retAddr 0, .retAddr 0, .retAddr 0, .retAddr 0, .retAddr 0, .retAddr 0]) zi_114_7 (Nat.le_of_ble_eq_true rfl) rfl ?_
  refine zg_aload zi_114_8 rfl ?_
  obtain ⟨t6, hw⟩ := hw
  obtain ⟨r7, er7, hw⟩ := hw
  refine zg_getR (v := .ref r7) zi_114_9 t6 (by rfl) (by show zrv (zR h4 a0 0) = _; rw [er7]; rfl) ?_
  obtain ⟨t8, hw⟩ := hw
  obtain ⟨r9, er9, hw⟩ := hw
  refine zg_getR (v := .ref r9) zi_114_10 t8 (by rfl) (by show zrv (zR h4 r7 0) = _; rw [er9]; rfl) ?_
  refine zg_const (v := 12) zi_114_11 (by rfl) ?_
  obtain ⟨t10, hw⟩ := hw
  obtain ⟨hb, hw⟩ := hw
  refine zg_iaload (v := .int (zI h4 r9 12)) zi_114_12 t10 hb rfl ?_
  refine zg_const (v := 1) zi_114_13 (by rfl) ?_
  have g14 : Gx E (d + 1) 114 18 [.ref a0, .int a1, .ref r5, .retAddr 0, .retAddr 0, .retAddr 0, .retAddr 0, .retAddr 0, .retAddr 0, .retAddr 0] [.int (if ¬ (zI h4 r9 12 : Int32) = 1 then 0 else 1)] h4 Q := by
    refine zg_nameI fun x11 ex11 => ?_
    have hw := hw x11 ex11
    refine zg_istore (ls1 := [.ref a0, .int a1, .ref r5, .int x11, .retAddr 0, .retAddr 0, .retAddr 0, .retAddr 0, .retAddr 0, .retAddr 0]) zi_114_18 (Nat.le_of_ble_eq_true rfl) rfl ?_
    refine zg_iload zi_114_19 rfl ?_
    refine zg_istore (ls1 := [.ref a0, .int a1, .ref r5, .int x11, .int a1, .retAddr 0, .retAddr 0, .retAddr 0, .retAddr 0, .retAddr 0]) zi_114_20 (Nat.le_of_ble_eq_true rfl) rfl ?_
    refine zg_aload zi_114_21 rfl ?_
    refine zg_getR (v := .ref r7) zi_114_22 t6 (by rfl) (by show zrv (zR h4 a0 0) = _; rw [er7]; rfl) ?_
    refine zg_getR (v := .ref r9) zi_114_23 t8 (by rfl) (by show zrv (zR h4 r7 0) = _; rw [er9]; rfl) ?_
    refine zg_const (v := 15) zi_114_24 (by rfl) ?_
    obtain ⟨hb, hw⟩ := hw
    refine zg_iaload (v := .int (zI h4 r9 15)) zi_114_25 t10 hb rfl ?_
    refine zg_nameI fun x12 ex12 => ?_
    have hw := hw x12 ex12
    refine zg_istore (ls1 := [.ref a0, .int a1, .ref r5, .int x11, .int a1, .int x12, .retAddr 0, .retAddr 0, .retAddr 0, .retAddr 0]) zi_114_26 (Nat.le_of_ble_eq_true rfl) rfl ?_
    refine zg_aload zi_114_27 rfl ?_
    obtain ⟨r13, er13, hw⟩ := hw
    refine zg_getR (v := .ref r13) zi_114_28 t6 (by rfl) (by show zrv (zR h4 a0 3) = _; rw [er13]; rfl) ?_
    refine zg_const (v := 0) zi_114_29 (by rfl) ?_
    obtain ⟨t14, hw⟩ := hw
    refine zg_putI (h1 := zuI h4 r13 2 0) zi_114_30 t14 (by rfl) rfl ?_
    refine zg_nameH fun h15 eh15 => ?_
    have hw := hw h15 eh15
    refine zg_aload zi_114_31 rfl ?_
    obtain ⟨r16, er16, hw⟩ := hw
    refine zg_getR (v := .ref r16) zi_114_32 (by rw [eh15]; exact t6) (by rfl) (by show zrv (zR h15 a0 4) = _; rw [er16]; rfl) ?_
    obtain ⟨t17, hw⟩ := hw
    refine Gx.call2 (as := [.ref r16]) (rest := []) zq_86 zi_114_33 rfl rfl rfl (Nat.le_of_ble_eq_true rfl) (Nat.le_of_ble_eq_true rfl) (zrv_v t17 rfl rfl) (Nat.le_of_ble_eq_true rfl) ?_
    refine Ct.mono hw ?_
    rintro v h18 ⟨rfl, hw⟩
    show Gx E (d + 1) 114 34 [.ref a0, .int a1, .ref r5, .int x11, .int a1, .int x12, .retAddr 0, .retAddr 0, .retAddr 0, .retAddr 0] [] h18 Q
    refine zg_const (v := 0) zi_114_34 (by rfl) ?_
    refine zg_istore (ls1 := [.ref a0, .int a1, .ref r5, .int x11, .int a1, .int x12, .int 0, .retAddr 0, .retAddr 0, .retAddr 0]) zi_114_35 (Nat.le_of_ble_eq_true rfl) rfl ?_
    obtain ⟨mm, hw⟩ := hw
    exact Gx.forget (zrk (zrd (zrk (zrk (zrk (zrk (zrk (zrk (zrk (zrk zr0)))))))))) (okl_114_36 mm a0 r5 x11 a1 x12 0 h18 hw)
  refine zg_icmp_ne zi_114_14 (fun hc14 => ?_) (fun hc14 => ?_)
  · skip
    refine zg_const (v := 0) zi_114_17 (by rfl) ?_
    have hg := g14
    simp only [if_pos hc14] at hg
    exact hg
  · skip
    refine zg_const (v := 1) zi_114_15 (by rfl) ?_
    refine zg_goto zi_114_16 ?_
    have hg := g14
    simp only [if_neg hc14] at hg
    exact hg
theorem zq_124 : zQ 124 1 1 10 := by unfold zQ; decide +kernel
theorem zi_124_0 : (zM 124).1[0]? = some (.iload 0) := by rfl
theorem zi_124_1 : (zM 124).1[1]? = some (.ifCond .lt ((7 : Nat) : Int)) := by rfl
theorem zi_124_2 : (zM 124).1[2]? = some (.iload 0) := by rfl
theorem zi_124_3 : (zM 124).1[3]? = some (.iconst 4) := by rfl
theorem zi_124_4 : (zM 124).1[4]? = some (.if_icmp .ge ((7 : Nat) : Int)) := by rfl
theorem zi_124_5 : (zM 124).1[5]? = some (.iconst 1) := by rfl
theorem zi_124_6 : (zM 124).1[6]? = some (.goto ((8 : Nat) : Int)) := by rfl
theorem zi_124_7 : (zM 124).1[7]? = some (.iconst 0) := by rfl
theorem zi_124_8 : (zM 124).1[8]? = some (.ireturn) := by rfl
/-- TakeOrPay.isSheet(I)Z -/
def w_124 (E : Nat → Nat) (d : Nat) (a0 : Int32) (h : ZH) (Q : Option Value → ZH → Prop) : Prop := Q (some (.int (if a0 < 0 then 0 else if 4 ≤ a0 then 0 else 1))) h
set_option maxRecDepth 20000 in
theorem ok_124 {E : Nat → Nat} {d : Nat} {a0 : Int32} {h : ZH} {Q : Option Value → ZH → Prop} (hw : w_124 E d a0 h Q) : Ct E (d + 1) 124 [.int a0] h Q := by
  unfold w_124 at hw
  show Gx E (d + 1) 124 0 [.int a0] [] h Q
  refine zg_iload zi_124_0 rfl ?_
  have g1 : Gx E (d + 1) 124 8 [.int a0] [.int (if a0 < 0 then 0 else if 4 ≤ a0 then 0 else 1)] h Q := by
    exact zg_zreturn zi_124_8 (by (repeat' split) <;> first | (left; rfl) | (right; rfl)) hw
  refine zg_if_lt zi_124_1 (fun hc1 => ?_) (fun hc1 => ?_)
  · skip
    refine zg_const (v := 0) zi_124_7 (by rfl) ?_
    have hg := g1
    simp only [if_pos hc1] at hg
    exact hg
  · skip
    refine zg_iload zi_124_2 rfl ?_
    refine zg_const (v := 4) zi_124_3 (by rfl) ?_
    have g4 : Gx E (d + 1) 124 8 [.int a0] [.int (if 4 ≤ a0 then 0 else 1)] h Q := by
      have hg := g1
      simp only [if_neg hc1] at hg
      exact hg
    refine zg_icmp_ge zi_124_4 (fun hc4 => ?_) (fun hc4 => ?_)
    · skip
      refine zg_const (v := 0) zi_124_7 (by rfl) ?_
      have hg := g4
      simp only [if_pos hc4] at hg
      exact hg
    · skip
      refine zg_const (v := 1) zi_124_5 (by rfl) ?_
      refine zg_goto zi_124_6 ?_
      have hg := g4
      simp only [if_neg hc4] at hg
      exact hg
def fz_124 (E : Nat → Nat) (h : ZH) (a0 : Int32) : Int32 := if a0 < 0 then 0 else if 4 ≤ a0 then 0 else 1
def sz_124 (E : Nat → Nat) (h : ZH) (a0 : Int32) : Prop := True
set_option maxRecDepth 20000 in
theorem fb_124 {E : Nat → Nat} {h : ZH} {a0 : Int32} : fz_124 E h a0 = 0 ∨ fz_124 E h a0 = 1 := by
  unfold fz_124
  (try dsimp only)
  (repeat' split) <;> first | (left; rfl) | (right; rfl)
set_option maxRecDepth 20000 in
theorem cz_124 {E : Nat → Nat} {d : Nat} {a0 : Int32} {h : ZH} {Q : Option Value → ZH → Prop} (hd : 1 ≤ d) (hs : sz_124 E h a0) (hq : Q (some (.int (fz_124 E h a0))) h) : Ct E d 124 [.int a0] h Q := by
  obtain ⟨d, rfl⟩ : ∃ n, d = n + 1 := ⟨d - 1, by omega⟩
  refine ok_124 ?_
  unfold w_124
  unfold sz_124 at hs
  unfold fz_124 at hq
  exact hq
theorem zq_125 : zQ 125 1 1 10 := by unfold zQ; decide +kernel
theorem zi_125_0 : (zM 125).1[0]? = some (.iload 0) := by rfl
theorem zi_125_1 : (zM 125).1[1]? = some (.ifCond .lt ((7 : Nat) : Int)) := by rfl
theorem zi_125_2 : (zM 125).1[2]? = some (.iload 0) := by rfl
theorem zi_125_3 : (zM 125).1[3]? = some (.iconst 3) := by rfl
theorem zi_125_4 : (zM 125).1[4]? = some (.if_icmp .ge ((7 : Nat) : Int)) := by rfl
theorem zi_125_5 : (zM 125).1[5]? = some (.iconst 1) := by rfl
theorem zi_125_6 : (zM 125).1[6]? = some (.goto ((8 : Nat) : Int)) := by rfl
theorem zi_125_7 : (zM 125).1[7]? = some (.iconst 0) := by rfl
theorem zi_125_8 : (zM 125).1[8]? = some (.ireturn) := by rfl
/-- TakeOrPay.isLane(I)Z -/
def w_125 (E : Nat → Nat) (d : Nat) (a0 : Int32) (h : ZH) (Q : Option Value → ZH → Prop) : Prop := Q (some (.int (if a0 < 0 then 0 else if 3 ≤ a0 then 0 else 1))) h
set_option maxRecDepth 20000 in
theorem ok_125 {E : Nat → Nat} {d : Nat} {a0 : Int32} {h : ZH} {Q : Option Value → ZH → Prop} (hw : w_125 E d a0 h Q) : Ct E (d + 1) 125 [.int a0] h Q := by
  unfold w_125 at hw
  show Gx E (d + 1) 125 0 [.int a0] [] h Q
  refine zg_iload zi_125_0 rfl ?_
  have g1 : Gx E (d + 1) 125 8 [.int a0] [.int (if a0 < 0 then 0 else if 3 ≤ a0 then 0 else 1)] h Q := by
    exact zg_zreturn zi_125_8 (by (repeat' split) <;> first | (left; rfl) | (right; rfl)) hw
  refine zg_if_lt zi_125_1 (fun hc1 => ?_) (fun hc1 => ?_)
  · skip
    refine zg_const (v := 0) zi_125_7 (by rfl) ?_
    have hg := g1
    simp only [if_pos hc1] at hg
    exact hg
  · skip
    refine zg_iload zi_125_2 rfl ?_
    refine zg_const (v := 3) zi_125_3 (by rfl) ?_
    have g4 : Gx E (d + 1) 125 8 [.int a0] [.int (if 3 ≤ a0 then 0 else 1)] h Q := by
      have hg := g1
      simp only [if_neg hc1] at hg
      exact hg
    refine zg_icmp_ge zi_125_4 (fun hc4 => ?_) (fun hc4 => ?_)
    · skip
      refine zg_const (v := 0) zi_125_7 (by rfl) ?_
      have hg := g4
      simp only [if_pos hc4] at hg
      exact hg
    · skip
      refine zg_const (v := 1) zi_125_5 (by rfl) ?_
      refine zg_goto zi_125_6 ?_
      have hg := g4
      simp only [if_neg hc4] at hg
      exact hg
def fz_125 (E : Nat → Nat) (h : ZH) (a0 : Int32) : Int32 := if a0 < 0 then 0 else if 3 ≤ a0 then 0 else 1
def sz_125 (E : Nat → Nat) (h : ZH) (a0 : Int32) : Prop := True
set_option maxRecDepth 20000 in
theorem fb_125 {E : Nat → Nat} {h : ZH} {a0 : Int32} : fz_125 E h a0 = 0 ∨ fz_125 E h a0 = 1 := by
  unfold fz_125
  (try dsimp only)
  (repeat' split) <;> first | (left; rfl) | (right; rfl)
set_option maxRecDepth 20000 in
theorem cz_125 {E : Nat → Nat} {d : Nat} {a0 : Int32} {h : ZH} {Q : Option Value → ZH → Prop} (hd : 1 ≤ d) (hs : sz_125 E h a0) (hq : Q (some (.int (fz_125 E h a0))) h) : Ct E d 125 [.int a0] h Q := by
  obtain ⟨d, rfl⟩ : ∃ n, d = n + 1 := ⟨d - 1, by omega⟩
  refine ok_125 ?_
  unfold w_125
  unfold sz_125 at hs
  unfold fz_125 at hq
  exact hq
theorem zq_115 : zQ 115 4 4 10 := by unfold zQ; decide +kernel
theorem zi_115_0 : (zM 115).1[0]? = some (.iload 1) := by rfl
theorem zi_115_1 : (zM 115).1[1]? = some (.invokestatic 124) := by rfl
theorem zi_115_2 : (zM 115).1[2]? = some (.ifCond .eq ((9 : Nat) : Int)) := by rfl
theorem zi_115_3 : (zM 115).1[3]? = some (.iload 2) := by rfl
theorem zi_115_4 : (zM 115).1[4]? = some (.invokestatic 125) := by rfl
theorem zi_115_5 : (zM 115).1[5]? = some (.ifCond .eq ((9 : Nat) : Int)) := by rfl
theorem zi_115_6 : (zM 115).1[6]? = some (.iload 3) := by rfl
theorem zi_115_7 : (zM 115).1[7]? = some (.iconst 48) := by rfl
theorem zi_115_8 : (zM 115).1[8]? = some (.if_icmp .le ((11 : Nat) : Int)) := by rfl
theorem zi_115_9 : (zM 115).1[9]? = some (.iconst (-1)) := by rfl
theorem zi_115_10 : (zM 115).1[10]? = some (.ireturn) := by rfl
theorem zi_115_11 : (zM 115).1[11]? = some (.iload 3) := by rfl
theorem zi_115_12 : (zM 115).1[12]? = some (.ifCond .ge ((15 : Nat) : Int)) := by rfl
theorem zi_115_13 : (zM 115).1[13]? = some (.iconst (-14)) := by rfl
theorem zi_115_14 : (zM 115).1[14]? = some (.ireturn) := by rfl
theorem zi_115_15 : (zM 115).1[15]? = some (.aload 0) := by rfl
theorem zi_115_16 : (zM 115).1[16]? = some (.getfield 10207) := by rfl
theorem zi_115_17 : (zM 115).1[17]? = some (.iload 1) := by rfl
theorem zi_115_18 : (zM 115).1[18]? = some (.aaload) := by rfl
theorem zi_115_19 : (zM 115).1[19]? = some (.iload 2) := by rfl
theorem zi_115_20 : (zM 115).1[20]? = some (.iload 3) := by rfl
theorem zi_115_21 : (zM 115).1[21]? = some (.invokevirtual 68) := by rfl
theorem zi_115_22 : (zM 115).1[22]? = some (.iconst 1) := by rfl
theorem zi_115_23 : (zM 115).1[23]? = some (.ireturn) := by rfl
/-- TakeOrPay.sheet(III)I -/
def w_115 (E : Nat → Nat) (d : Nat) (a0 : Nat) (a1 : Int32) (a2 : Int32) (a3 : Int32) (h : ZH) (Q : Option Value → ZH → Prop) : Prop := 1 ≤ d ∧ sz_124 E h a1 ∧ (((fz_124 E h a1 : Int32) = 0 → (Q (some (.int ((-1)))) h)) ∧ (¬ ((fz_124 E h a1 : Int32) = 0) → (1 ≤ d ∧ sz_125 E h a2 ∧ (((fz_125 E h a2 : Int32) = 0 → (Q (some (.int ((-1)))) h)) ∧ (¬ ((fz_125 E h a2 : Int32) = 0) → ((a3 ≤ 48 → ((0 ≤ a3 → (ztag h a0 = 10 ∧ ∃ r2 : Nat, zR h a0 7 = r2 + 1 ∧ (ztag h r2 = 16 ∨ ztag h r2 = 17) ∧ zin a1 (zlen h r2) = true ∧ ∃ r4 : Nat, zR h r2 a1.toNatClampNeg = r4 + 1 ∧ ztag h r4 = 6 ∧ Ct E d 68 [.ref r4, .int a2, .int a3] h (fun v h6 => v = none ∧ Q (some (.int 1)) h6))) ∧ (¬ (0 ≤ a3) → (Q (some (.int ((-14)))) h)))) ∧ (¬ (a3 ≤ 48) → (Q (some (.int ((-1)))) h))))))))
set_option maxRecDepth 20000 in
theorem ok_115 {E : Nat → Nat} {d : Nat} {a0 : Nat} {a1 : Int32} {a2 : Int32} {a3 : Int32} {h : ZH} {Q : Option Value → ZH → Prop} (hw : w_115 E d a0 a1 a2 a3 h Q) : Ct E (d + 1) 115 [.ref a0, .int a1, .int a2, .int a3] h Q := by
  unfold w_115 at hw
  show Gx E (d + 1) 115 0 [.ref a0, .int a1, .int a2, .int a3] [] h Q
  refine zg_iload zi_115_0 rfl ?_
  obtain ⟨hd, hs, hw⟩ := hw
  refine Gx.call2 (as := [.int a1]) (rest := []) zq_124 zi_115_1 rfl rfl rfl (Nat.le_of_ble_eq_true rfl) (Nat.le_of_ble_eq_true rfl) (rfl) (Nat.le_of_ble_eq_true rfl) ?_
  refine cz_124 hd hs ?_
  show Gx E (d + 1) 115 2 [.ref a0, .int a1, .int a2, .int a3] [.int (fz_124 E h a1)] h Q
  refine zg_if_eq zi_115_2 (fun hc => ?_) (fun hc => ?_)
  · have hw := hw.1 hc
    refine zg_const (v := (-1)) zi_115_9 (by rfl) ?_
    exact zg_ireturn zi_115_10 (by decide) hw
  · have hw := hw.2 hc
    refine zg_iload zi_115_3 rfl ?_
    obtain ⟨hd, hs, hw⟩ := hw
    refine Gx.call2 (as := [.int a2]) (rest := []) zq_125 zi_115_4 rfl rfl rfl (Nat.le_of_ble_eq_true rfl) (Nat.le_of_ble_eq_true rfl) (rfl) (Nat.le_of_ble_eq_true rfl) ?_
    refine cz_125 hd hs ?_
    show Gx E (d + 1) 115 5 [.ref a0, .int a1, .int a2, .int a3] [.int (fz_125 E h a2)] h Q
    refine zg_if_eq zi_115_5 (fun hc => ?_) (fun hc => ?_)
    · have hw := hw.1 hc
      refine zg_const (v := (-1)) zi_115_9 (by rfl) ?_
      exact zg_ireturn zi_115_10 (by decide) hw
    · have hw := hw.2 hc
      refine zg_iload zi_115_6 rfl ?_
      refine zg_const (v := 48) zi_115_7 (by rfl) ?_
      refine zg_icmp_le zi_115_8 (fun hc => ?_) (fun hc => ?_)
      · have hw := hw.1 hc
        refine zg_iload zi_115_11 rfl ?_
        refine zg_if_ge zi_115_12 (fun hc => ?_) (fun hc => ?_)
        · have hw := hw.1 hc
          refine zg_aload zi_115_15 rfl ?_
          obtain ⟨t1, hw⟩ := hw
          obtain ⟨r2, er2, hw⟩ := hw
          refine zg_getR (v := .ref r2) zi_115_16 t1 (by rfl) (by show zrv (zR h a0 7) = _; rw [er2]; rfl) ?_
          refine zg_iload zi_115_17 rfl ?_
          obtain ⟨t3, hw⟩ := hw
          obtain ⟨hb, hw⟩ := hw
          obtain ⟨r4, hr, hw⟩ := hw
          refine zg_aaload (v := .ref r4) zi_115_18 t3 hb (by first | (rw [hr]; rfl) | exact congrArg zrv hr) ?_
          refine zg_iload zi_115_19 rfl ?_
          refine zg_iload zi_115_20 rfl ?_
          obtain ⟨t5, hw⟩ := hw
          refine Gx.call2 (as := [.ref r4, .int a2, .int a3]) (rest := []) zq_68 zi_115_21 rfl rfl rfl (Nat.le_of_ble_eq_true rfl) (Nat.le_of_ble_eq_true rfl) (zrv_v t5 rfl rfl) (Nat.le_of_ble_eq_true rfl) ?_
          refine Ct.mono hw ?_
          rintro v h6 ⟨rfl, hw⟩
          show Gx E (d + 1) 115 22 [.ref a0, .int a1, .int a2, .int a3] [] h6 Q
          refine zg_const (v := 1) zi_115_22 (by rfl) ?_
          exact zg_ireturn zi_115_23 (by decide) hw
        · have hw := hw.2 hc
          refine zg_const (v := (-14)) zi_115_13 (by rfl) ?_
          exact zg_ireturn zi_115_14 (by decide) hw
      · have hw := hw.2 hc
        refine zg_const (v := (-1)) zi_115_9 (by rfl) ?_
        exact zg_ireturn zi_115_10 (by decide) hw
theorem zq_116 : zQ 116 4 4 10 := by unfold zQ; decide +kernel
theorem zi_116_0 : (zM 116).1[0]? = some (.iload 1) := by rfl
theorem zi_116_1 : (zM 116).1[1]? = some (.invokestatic 124) := by rfl
theorem zi_116_2 : (zM 116).1[2]? = some (.ifCond .ne ((5 : Nat) : Int)) := by rfl
theorem zi_116_3 : (zM 116).1[3]? = some (.iconst (-1)) := by rfl
theorem zi_116_4 : (zM 116).1[4]? = some (.ireturn) := by rfl
theorem zi_116_5 : (zM 116).1[5]? = some (.aload 0) := by rfl
theorem zi_116_6 : (zM 116).1[6]? = some (.getfield 10207) := by rfl
theorem zi_116_7 : (zM 116).1[7]? = some (.iload 1) := by rfl
theorem zi_116_8 : (zM 116).1[8]? = some (.aaload) := by rfl
theorem zi_116_9 : (zM 116).1[9]? = some (.getfield 6001) := by rfl
theorem zi_116_10 : (zM 116).1[10]? = some (.iconst (-4)) := by rfl
theorem zi_116_11 : (zM 116).1[11]? = some (.if_icmp .ne ((14 : Nat) : Int)) := by rfl
theorem zi_116_12 : (zM 116).1[12]? = some (.iconst (-11)) := by rfl
theorem zi_116_13 : (zM 116).1[13]? = some (.ireturn) := by rfl
theorem zi_116_14 : (zM 116).1[14]? = some (.aload 0) := by rfl
theorem zi_116_15 : (zM 116).1[15]? = some (.getfield 10207) := by rfl
theorem zi_116_16 : (zM 116).1[16]? = some (.iload 1) := by rfl
theorem zi_116_17 : (zM 116).1[17]? = some (.aaload) := by rfl
theorem zi_116_18 : (zM 116).1[18]? = some (.iload 2) := by rfl
theorem zi_116_19 : (zM 116).1[19]? = some (.invokevirtual 69) := by rfl
theorem zi_116_20 : (zM 116).1[20]? = some (.ifCond .ne ((23 : Nat) : Int)) := by rfl
theorem zi_116_21 : (zM 116).1[21]? = some (.iconst (-12)) := by rfl
theorem zi_116_22 : (zM 116).1[22]? = some (.ireturn) := by rfl
theorem zi_116_23 : (zM 116).1[23]? = some (.aload 0) := by rfl
theorem zi_116_24 : (zM 116).1[24]? = some (.getfield 10207) := by rfl
theorem zi_116_25 : (zM 116).1[25]? = some (.iload 1) := by rfl
theorem zi_116_26 : (zM 116).1[26]? = some (.aaload) := by rfl
theorem zi_116_27 : (zM 116).1[27]? = some (.iload 2) := by rfl
theorem zi_116_28 : (zM 116).1[28]? = some (.iload 3) := by rfl
theorem zi_116_29 : (zM 116).1[29]? = some (.invokevirtual 70) := by rfl
theorem zi_116_30 : (zM 116).1[30]? = some (.iconst 1) := by rfl
theorem zi_116_31 : (zM 116).1[31]? = some (.ireturn) := by rfl
/-- TakeOrPay.lay(III)I -/
def w_116 (E : Nat → Nat) (d : Nat) (a0 : Nat) (a1 : Int32) (a2 : Int32) (a3 : Int32) (h : ZH) (Q : Option Value → ZH → Prop) : Prop := 1 ≤ d ∧ sz_124 E h a1 ∧ ((¬ (fz_124 E h a1 : Int32) = 0 → (ztag h a0 = 10 ∧ ∃ r2 : Nat, zR h a0 7 = r2 + 1 ∧ (ztag h r2 = 16 ∨ ztag h r2 = 17) ∧ zin a1 (zlen h r2) = true ∧ ∃ r4 : Nat, zR h r2 a1.toNatClampNeg = r4 + 1 ∧ ztag h r4 = 6 ∧ ((¬ (zI h r4 1 : Int32) = ((-4) : Int32) → (zin a1 (zlen h r2) = true ∧ ∃ r6 : Nat, zR h r2 a1.toNatClampNeg = r6 + 1 ∧ ztag h r6 = 6 ∧ 1 ≤ d ∧ sz_69 E h r6 a2 ∧ ((¬ (fz_69 E h r6 a2 : Int32) = 0 → (zin a1 (zlen h r2) = true ∧ ∃ r8 : Nat, zR h r2 a1.toNatClampNeg = r8 + 1 ∧ ztag h r8 = 6 ∧ Ct E d 70 [.ref r8, .int a2, .int a3] h (fun v h10 => v = none ∧ Q (some (.int 1)) h10))) ∧ (¬ (¬ (fz_69 E h r6 a2 : Int32) = 0) → (Q (some (.int ((-12)))) h))))) ∧ (¬ (¬ (zI h r4 1 : Int32) = ((-4) : Int32)) → (Q (some (.int ((-11)))) h))))) ∧ (¬ (¬ (fz_124 E h a1 : Int32) = 0) → (Q (some (.int ((-1)))) h)))
set_option maxRecDepth 20000 in
theorem ok_116 {E : Nat → Nat} {d : Nat} {a0 : Nat} {a1 : Int32} {a2 : Int32} {a3 : Int32} {h : ZH} {Q : Option Value → ZH → Prop} (hw : w_116 E d a0 a1 a2 a3 h Q) : Ct E (d + 1) 116 [.ref a0, .int a1, .int a2, .int a3] h Q := by
  unfold w_116 at hw
  show Gx E (d + 1) 116 0 [.ref a0, .int a1, .int a2, .int a3] [] h Q
  refine zg_iload zi_116_0 rfl ?_
  obtain ⟨hd, hs, hw⟩ := hw
  refine Gx.call2 (as := [.int a1]) (rest := []) zq_124 zi_116_1 rfl rfl rfl (Nat.le_of_ble_eq_true rfl) (Nat.le_of_ble_eq_true rfl) (rfl) (Nat.le_of_ble_eq_true rfl) ?_
  refine cz_124 hd hs ?_
  show Gx E (d + 1) 116 2 [.ref a0, .int a1, .int a2, .int a3] [.int (fz_124 E h a1)] h Q
  refine zg_if_ne zi_116_2 (fun hc => ?_) (fun hc => ?_)
  · have hw := hw.1 hc
    refine zg_aload zi_116_5 rfl ?_
    obtain ⟨t1, hw⟩ := hw
    obtain ⟨r2, er2, hw⟩ := hw
    refine zg_getR (v := .ref r2) zi_116_6 t1 (by rfl) (by show zrv (zR h a0 7) = _; rw [er2]; rfl) ?_
    refine zg_iload zi_116_7 rfl ?_
    obtain ⟨t3, hw⟩ := hw
    obtain ⟨hb, hw⟩ := hw
    obtain ⟨r4, hr, hw⟩ := hw
    refine zg_aaload (v := .ref r4) zi_116_8 t3 hb (by first | (rw [hr]; rfl) | exact congrArg zrv hr) ?_
    obtain ⟨t5, hw⟩ := hw
    refine zg_getI (v := .int (zI h r4 1)) zi_116_9 t5 (by rfl) rfl ?_
    refine zg_const (v := (-4)) zi_116_10 (by rfl) ?_
    refine zg_icmp_ne zi_116_11 (fun hc => ?_) (fun hc => ?_)
    · have hw := hw.1 hc
      refine zg_aload zi_116_14 rfl ?_
      refine zg_getR (v := .ref r2) zi_116_15 t1 (by rfl) (by show zrv (zR h a0 7) = _; rw [er2]; rfl) ?_
      refine zg_iload zi_116_16 rfl ?_
      obtain ⟨hb, hw⟩ := hw
      obtain ⟨r6, hr, hw⟩ := hw
      refine zg_aaload (v := .ref r6) zi_116_17 t3 hb (by first | (rw [hr]; rfl) | exact congrArg zrv hr) ?_
      refine zg_iload zi_116_18 rfl ?_
      obtain ⟨t7, hw⟩ := hw
      obtain ⟨hd, hs, hw⟩ := hw
      refine Gx.call2 (as := [.ref r6, .int a2]) (rest := []) zq_69 zi_116_19 rfl rfl rfl (Nat.le_of_ble_eq_true rfl) (Nat.le_of_ble_eq_true rfl) (zrv_v t7 rfl rfl) (Nat.le_of_ble_eq_true rfl) ?_
      refine cz_69 hd hs ?_
      show Gx E (d + 1) 116 20 [.ref a0, .int a1, .int a2, .int a3] [.int (fz_69 E h r6 a2)] h Q
      refine zg_if_ne zi_116_20 (fun hc => ?_) (fun hc => ?_)
      · have hw := hw.1 hc
        refine zg_aload zi_116_23 rfl ?_
        refine zg_getR (v := .ref r2) zi_116_24 t1 (by rfl) (by show zrv (zR h a0 7) = _; rw [er2]; rfl) ?_
        refine zg_iload zi_116_25 rfl ?_
        obtain ⟨hb, hw⟩ := hw
        obtain ⟨r8, hr, hw⟩ := hw
        refine zg_aaload (v := .ref r8) zi_116_26 t3 hb (by first | (rw [hr]; rfl) | exact congrArg zrv hr) ?_
        refine zg_iload zi_116_27 rfl ?_
        refine zg_iload zi_116_28 rfl ?_
        obtain ⟨t9, hw⟩ := hw
        refine Gx.call2 (as := [.ref r8, .int a2, .int a3]) (rest := []) zq_70 zi_116_29 rfl rfl rfl (Nat.le_of_ble_eq_true rfl) (Nat.le_of_ble_eq_true rfl) (zrv_v t9 rfl rfl) (Nat.le_of_ble_eq_true rfl) ?_
        refine Ct.mono hw ?_
        rintro v h10 ⟨rfl, hw⟩
        show Gx E (d + 1) 116 30 [.ref a0, .int a1, .int a2, .int a3] [] h10 Q
        refine zg_const (v := 1) zi_116_30 (by rfl) ?_
        exact zg_ireturn zi_116_31 (by decide) hw
      · have hw := hw.2 hc
        refine zg_const (v := (-12)) zi_116_21 (by rfl) ?_
        exact zg_ireturn zi_116_22 (by decide) hw
    · have hw := hw.2 hc
      refine zg_const (v := (-11)) zi_116_12 (by rfl) ?_
      exact zg_ireturn zi_116_13 (by decide) hw
  · have hw := hw.2 hc
    refine zg_const (v := (-1)) zi_116_3 (by rfl) ?_
    exact zg_ireturn zi_116_4 (by decide) hw
theorem zq_133 : zQ 133 4 4 10 := by unfold zQ; decide +kernel
theorem zi_133_0 : (zM 133).1[0]? = some (.iload 1) := by rfl
theorem zi_133_1 : (zM 133).1[1]? = some (.iload 2) := by rfl
theorem zi_133_2 : (zM 133).1[2]? = some (.invokestatic 126) := by rfl
theorem zi_133_3 : (zM 133).1[3]? = some (.ifCond .ne ((8 : Nat) : Int)) := by rfl
theorem zi_133_4 : (zM 133).1[4]? = some (.iconst (-20)) := by rfl
theorem zi_133_5 : (zM 133).1[5]? = some (.iload 3) := by rfl
theorem zi_133_6 : (zM 133).1[6]? = some (.isub) := by rfl
theorem zi_133_7 : (zM 133).1[7]? = some (.ireturn) := by rfl
theorem zi_133_8 : (zM 133).1[8]? = some (.aload 0) := by rfl
theorem zi_133_9 : (zM 133).1[9]? = some (.getfield 10203) := by rfl
theorem zi_133_10 : (zM 133).1[10]? = some (.getfield 5002) := by rfl
theorem zi_133_11 : (zM 133).1[11]? = some (.aload 0) := by rfl
theorem zi_133_12 : (zM 133).1[12]? = some (.getfield 10200) := by rfl
theorem zi_133_13 : (zM 133).1[13]? = some (.getfield 3006) := by rfl
theorem zi_133_14 : (zM 133).1[14]? = some (.if_icmp .lt ((17 : Nat) : Int)) := by rfl
theorem zi_133_15 : (zM 133).1[15]? = some (.iconst (-3)) := by rfl
theorem zi_133_16 : (zM 133).1[16]? = some (.ireturn) := by rfl
theorem zi_133_17 : (zM 133).1[17]? = some (.aload 0) := by rfl
theorem zi_133_18 : (zM 133).1[18]? = some (.getfield 10203) := by rfl
theorem zi_133_19 : (zM 133).1[19]? = some (.iload 1) := by rfl
theorem zi_133_20 : (zM 133).1[20]? = some (.iload 2) := by rfl
theorem zi_133_21 : (zM 133).1[21]? = some (.invokevirtual 66) := by rfl
theorem zi_133_22 : (zM 133).1[22]? = some (.iconst 0) := by rfl
theorem zi_133_23 : (zM 133).1[23]? = some (.ireturn) := by rfl
/-- TakeOrPay.addRead(III)I -/
def w_133 (E : Nat → Nat) (d : Nat) (a0 : Nat) (a1 : Int32) (a2 : Int32) (a3 : Int32) (h : ZH) (Q : Option Value → ZH → Prop) : Prop := 2 ≤ d ∧ sz_126 E h a1 a2 ∧ ((¬ (fz_126 E h a1 a2 : Int32) = 0 → (ztag h a0 = 10 ∧ ∃ r2 : Nat, zR h a0 3 = r2 + 1 ∧ ztag h r2 = 5 ∧ ∃ r4 : Nat, zR h a0 0 = r4 + 1 ∧ ztag h r4 = 3 ∧ (((zI h r2 2 : Int32) < (zI h r4 6 : Int32) → (Ct E d 66 [.ref r2, .int a1, .int a2] h (fun v h6 => v = none ∧ Q (some (.int 0)) h6))) ∧ (¬ ((zI h r2 2 : Int32) < (zI h r4 6 : Int32)) → (Q (some (.int ((-3)))) h))))) ∧ (¬ (¬ (fz_126 E h a1 a2 : Int32) = 0) → (Q (some (.int (((-20)) - a3))) h)))
set_option maxRecDepth 20000 in
theorem ok_133 {E : Nat → Nat} {d : Nat} {a0 : Nat} {a1 : Int32} {a2 : Int32} {a3 : Int32} {h : ZH} {Q : Option Value → ZH → Prop} (hw : w_133 E d a0 a1 a2 a3 h Q) : Ct E (d + 1) 133 [.ref a0, .int a1, .int a2, .int a3] h Q := by
  unfold w_133 at hw
  show Gx E (d + 1) 133 0 [.ref a0, .int a1, .int a2, .int a3] [] h Q
  refine zg_iload zi_133_0 rfl ?_
  refine zg_iload zi_133_1 rfl ?_
  obtain ⟨hd, hs, hw⟩ := hw
  refine Gx.call2 (as := [.int a1, .int a2]) (rest := []) zq_126 zi_133_2 rfl rfl rfl (Nat.le_of_ble_eq_true rfl) (Nat.le_of_ble_eq_true rfl) (rfl) (Nat.le_of_ble_eq_true rfl) ?_
  refine cz_126 hd hs ?_
  show Gx E (d + 1) 133 3 [.ref a0, .int a1, .int a2, .int a3] [.int (fz_126 E h a1 a2)] h Q
  refine zg_if_ne zi_133_3 (fun hc => ?_) (fun hc => ?_)
  · have hw := hw.1 hc
    refine zg_aload zi_133_8 rfl ?_
    obtain ⟨t1, hw⟩ := hw
    obtain ⟨r2, er2, hw⟩ := hw
    refine zg_getR (v := .ref r2) zi_133_9 t1 (by rfl) (by show zrv (zR h a0 3) = _; rw [er2]; rfl) ?_
    obtain ⟨t3, hw⟩ := hw
    refine zg_getI (v := .int (zI h r2 2)) zi_133_10 t3 (by rfl) rfl ?_
    refine zg_aload zi_133_11 rfl ?_
    obtain ⟨r4, er4, hw⟩ := hw
    refine zg_getR (v := .ref r4) zi_133_12 t1 (by rfl) (by show zrv (zR h a0 0) = _; rw [er4]; rfl) ?_
    obtain ⟨t5, hw⟩ := hw
    refine zg_getI (v := .int (zI h r4 6)) zi_133_13 t5 (by rfl) rfl ?_
    refine zg_icmp_lt zi_133_14 (fun hc => ?_) (fun hc => ?_)
    · have hw := hw.1 hc
      refine zg_aload zi_133_17 rfl ?_
      refine zg_getR (v := .ref r2) zi_133_18 t1 (by rfl) (by show zrv (zR h a0 3) = _; rw [er2]; rfl) ?_
      refine zg_iload zi_133_19 rfl ?_
      refine zg_iload zi_133_20 rfl ?_
      refine Gx.call2 (as := [.ref r2, .int a1, .int a2]) (rest := []) zq_66 zi_133_21 rfl rfl rfl (Nat.le_of_ble_eq_true rfl) (Nat.le_of_ble_eq_true rfl) (zrv_v t3 rfl rfl) (Nat.le_of_ble_eq_true rfl) ?_
      refine Ct.mono hw ?_
      rintro v h6 ⟨rfl, hw⟩
      show Gx E (d + 1) 133 22 [.ref a0, .int a1, .int a2, .int a3] [] h6 Q
      refine zg_const (v := 0) zi_133_22 (by rfl) ?_
      exact zg_ireturn zi_133_23 (by decide) hw
    · have hw := hw.2 hc
      refine zg_const (v := (-3)) zi_133_15 (by rfl) ?_
      exact zg_ireturn zi_133_16 (by decide) hw
  · have hw := hw.2 hc
    refine zg_const (v := (-20)) zi_133_4 (by rfl) ?_
    refine zg_iload zi_133_5 rfl ?_
    refine zg_isub zi_133_6 ?_
    exact zg_ireturn zi_133_7 (by decide) hw
theorem zq_117 : zQ 117 5 11 10 := by unfold zQ; decide +kernel
theorem zi_117_0 : (zM 117).1[0]? = some (.iload 1) := by rfl
theorem zi_117_1 : (zM 117).1[1]? = some (.invokestatic 124) := by rfl
theorem zi_117_2 : (zM 117).1[2]? = some (.ifCond .eq ((11 : Nat) : Int)) := by rfl
theorem zi_117_3 : (zM 117).1[3]? = some (.iload 2) := by rfl
theorem zi_117_4 : (zM 117).1[4]? = some (.invokestatic 125) := by rfl
theorem zi_117_5 : (zM 117).1[5]? = some (.ifCond .eq ((11 : Nat) : Int)) := by rfl
theorem zi_117_6 : (zM 117).1[6]? = some (.iload 4) := by rfl
theorem zi_117_7 : (zM 117).1[7]? = some (.ifCond .lt ((11 : Nat) : Int)) := by rfl
theorem zi_117_8 : (zM 117).1[8]? = some (.iload 4) := by rfl
theorem zi_117_9 : (zM 117).1[9]? = some (.iconst 20) := by rfl
theorem zi_117_10 : (zM 117).1[10]? = some (.if_icmp .le ((13 : Nat) : Int)) := by rfl
theorem zi_117_11 : (zM 117).1[11]? = some (.iconst (-1)) := by rfl
theorem zi_117_12 : (zM 117).1[12]? = some (.ireturn) := by rfl
theorem zi_117_13 : (zM 117).1[13]? = some (.aload 0) := by rfl
theorem zi_117_14 : (zM 117).1[14]? = some (.getfield 10207) := by rfl
theorem zi_117_15 : (zM 117).1[15]? = some (.iload 1) := by rfl
theorem zi_117_16 : (zM 117).1[16]? = some (.aaload) := by rfl
theorem zi_117_17 : (zM 117).1[17]? = some (.astore 5) := by rfl
theorem zi_117_18 : (zM 117).1[18]? = some (.aload 0) := by rfl
theorem zi_117_19 : (zM 117).1[19]? = some (.getfield 10203) := by rfl
theorem zi_117_20 : (zM 117).1[20]? = some (.getfield 5002) := by rfl
theorem zi_117_21 : (zM 117).1[21]? = some (.istore 6) := by rfl
theorem zi_117_22 : (zM 117).1[22]? = some (.iload 4) := by rfl
theorem zi_117_23 : (zM 117).1[23]? = some (.ifCond .ne ((26 : Nat) : Int)) := by rfl
theorem zi_117_24 : (zM 117).1[24]? = some (.iconst 0) := by rfl
theorem zi_117_25 : (zM 117).1[25]? = some (.goto ((29 : Nat) : Int)) := by rfl
theorem zi_117_26 : (zM 117).1[26]? = some (.aload 5) := by rfl
theorem zi_117_27 : (zM 117).1[27]? = some (.iload 2) := by rfl
theorem zi_117_28 : (zM 117).1[28]? = some (.invokevirtual 71) := by rfl
theorem zi_117_29 : (zM 117).1[29]? = some (.istore 7) := by rfl
theorem zi_117_30 : (zM 117).1[30]? = some (.iconst 0) := by rfl
theorem zi_117_31 : (zM 117).1[31]? = some (.istore 8) := by rfl
theorem zi_117_32 : (zM 117).1[32]? = some (.iconst 0) := by rfl
theorem zi_117_33 : (zM 117).1[33]? = some (.istore 9) := by rfl
theorem zi_117_34 : (zM 117).1[34]? = some (.iload 9) := by rfl
theorem zi_117_35 : (zM 117).1[35]? = some (.iload 4) := by rfl
theorem zi_117_36 : (zM 117).1[36]? = some (.if_icmp .ge ((76 : Nat) : Int)) := by rfl
theorem zi_117_37 : (zM 117).1[37]? = some (.iload 7) := by rfl
theorem zi_117_38 : (zM 117).1[38]? = some (.ifCond .ne ((76 : Nat) : Int)) := by rfl
theorem zi_117_39 : (zM 117).1[39]? = some (.iload 8) := by rfl
theorem zi_117_40 : (zM 117).1[40]? = some (.ifCond .ne ((76 : Nat) : Int)) := by rfl
theorem zi_117_41 : (zM 117).1[41]? = some (.iload 3) := by rfl
theorem zi_117_42 : (zM 117).1[42]? = some (.iconst 2) := by rfl
theorem zi_117_43 : (zM 117).1[43]? = some (.iload 9) := by rfl
theorem zi_117_44 : (zM 117).1[44]? = some (.imul) := by rfl
theorem zi_117_45 : (zM 117).1[45]? = some (.iadd) := by rfl
theorem zi_117_46 : (zM 117).1[46]? = some (.istore 10) := by rfl
theorem zi_117_47 : (zM 117).1[47]? = some (.aload 5) := by rfl
theorem zi_117_48 : (zM 117).1[48]? = some (.iload 10) := by rfl
theorem zi_117_49 : (zM 117).1[49]? = some (.invokevirtual 69) := by rfl
theorem zi_117_50 : (zM 117).1[50]? = some (.ifCond .eq ((57 : Nat) : Int)) := by rfl
theorem zi_117_51 : (zM 117).1[51]? = some (.aload 5) := by rfl
theorem zi_117_52 : (zM 117).1[52]? = some (.iload 10) := by rfl
theorem zi_117_53 : (zM 117).1[53]? = some (.iconst 1) := by rfl
theorem zi_117_54 : (zM 117).1[54]? = some (.iadd) := by rfl
theorem zi_117_55 : (zM 117).1[55]? = some (.invokevirtual 69) := by rfl
theorem zi_117_56 : (zM 117).1[56]? = some (.ifCond .ne ((60 : Nat) : Int)) := by rfl
theorem zi_117_57 : (zM 117).1[57]? = some (.iconst 2) := by rfl
theorem zi_117_58 : (zM 117).1[58]? = some (.istore 7) := by rfl
theorem zi_117_59 : (zM 117).1[59]? = some (.goto ((74 : Nat) : Int)) := by rfl
theorem zi_117_60 : (zM 117).1[60]? = some (.aload 0) := by rfl
theorem zi_117_61 : (zM 117).1[61]? = some (.aload 5) := by rfl
theorem zi_117_62 : (zM 117).1[62]? = some (.getfield 6200) := by rfl
theorem zi_117_63 : (zM 117).1[63]? = some (.iload 10) := by rfl
theorem zi_117_64 : (zM 117).1[64]? = some (.iaload) := by rfl
theorem zi_117_65 : (zM 117).1[65]? = some (.aload 5) := by rfl
theorem zi_117_66 : (zM 117).1[66]? = some (.getfield 6200) := by rfl
theorem zi_117_67 : (zM 117).1[67]? = some (.iload 10) := by rfl
theorem zi_117_68 : (zM 117).1[68]? = some (.iconst 1) := by rfl
theorem zi_117_69 : (zM 117).1[69]? = some (.iadd) := by rfl
theorem zi_117_70 : (zM 117).1[70]? = some (.iaload) := by rfl
theorem zi_117_71 : (zM 117).1[71]? = some (.iload 9) := by rfl
theorem zi_117_72 : (zM 117).1[72]? = some (.invokevirtual 133) := by rfl
theorem zi_117_73 : (zM 117).1[73]? = some (.istore 8) := by rfl
theorem zi_117_74 : (zM 117).1[74]? = some (.iinc 9 1) := by rfl
theorem zi_117_75 : (zM 117).1[75]? = some (.goto ((34 : Nat) : Int)) := by rfl
theorem zi_117_76 : (zM 117).1[76]? = some (.iload 8) := by rfl
theorem zi_117_77 : (zM 117).1[77]? = some (.ifCond .eq ((84 : Nat) : Int)) := by rfl
theorem zi_117_78 : (zM 117).1[78]? = some (.aload 0) := by rfl
theorem zi_117_79 : (zM 117).1[79]? = some (.getfield 10203) := by rfl
theorem zi_117_80 : (zM 117).1[80]? = some (.iload 6) := by rfl
theorem zi_117_81 : (zM 117).1[81]? = some (.putfield 5002) := by rfl
theorem zi_117_82 : (zM 117).1[82]? = some (.iload 8) := by rfl
theorem zi_117_83 : (zM 117).1[83]? = some (.ireturn) := by rfl
theorem zi_117_84 : (zM 117).1[84]? = some (.aload 0) := by rfl
theorem zi_117_85 : (zM 117).1[85]? = some (.getfield 10206) := by rfl
theorem zi_117_86 : (zM 117).1[86]? = some (.invokevirtual 15) := by rfl
theorem zi_117_87 : (zM 117).1[87]? = some (.aload 0) := by rfl
theorem zi_117_88 : (zM 117).1[88]? = some (.iload 7) := by rfl
theorem zi_117_89 : (zM 117).1[89]? = some (.putfield 10008) := by rfl
theorem zi_117_90 : (zM 117).1[90]? = some (.aload 0) := by rfl
theorem zi_117_91 : (zM 117).1[91]? = some (.getfield 10203) := by rfl
theorem zi_117_92 : (zM 117).1[92]? = some (.getfield 5002) := by rfl
theorem zi_117_93 : (zM 117).1[93]? = some (.iload 6) := by rfl
theorem zi_117_94 : (zM 117).1[94]? = some (.isub) := by rfl
theorem zi_117_95 : (zM 117).1[95]? = some (.ireturn) := by rfl
def wb_117_76 (E : Nat → Nat) (d : Nat) (Q : Option Value → ZH → Prop) (a0 : Nat) (a6 : Int32) (a7 : Int32) (a8 : Int32) (h : ZH) : Prop := (a8 = 0 → (ztag h a0 = 10 ∧ ∃ r11 : Nat, zR h a0 6 = r11 + 1 ∧ ztag h r11 = 1 ∧ Ct E d 15 [.ref r11] h (fun v h13 => v = none ∧ ztag h13 a0 = 10 ∧ ∀ h15 : ZH, h15 = (zuI h13 a0 8 a7) → ∃ r16 : Nat, zR h15 a0 3 = r16 + 1 ∧ ztag h15 r16 = 5 ∧ Q (some (.int ((zI h15 r16 2) - a6))) h15))) ∧ (¬ (a8 = 0) → (ztag h a0 = 10 ∧ ∃ r19 : Nat, zR h a0 3 = r19 + 1 ∧ ztag h r19 = 5 ∧ ∀ h21 : ZH, h21 = (zuI h r19 2 a6) → Q (some (.int a8)) h21))
set_option maxRecDepth 20000 in
theorem okb_117_76 {E : Nat → Nat} {d : Nat} {Q : Option Value → ZH → Prop} {a0 : Nat} {a6 : Int32} {a7 : Int32} {a8 : Int32} {h : ZH} (hw : wb_117_76 E d Q a0 a6 a7 a8 h) : Gx E (d + 1) 117 76 [.ref a0, .retAddr 0, .retAddr 0, .retAddr 0, .retAddr 0, .retAddr 0, .int a6, .int a7, .int a8, .retAddr 0, .retAddr 0] [] h Q := by
  unfold wb_117_76 at hw
  refine zg_iload zi_117_76 rfl ?_
  refine zg_if_eq zi_117_77 (fun hc => ?_) (fun hc => ?_)
  · have hw := hw.1 hc
    refine zg_aload zi_117_84 rfl ?_
    obtain ⟨t10, hw⟩ := hw
    obtain ⟨r11, er11, hw⟩ := hw
    refine zg_getR (v := .ref r11) zi_117_85 t10 (by rfl) (by show zrv (zR h a0 6) = _; rw [er11]; rfl) ?_
    obtain ⟨t12, hw⟩ := hw
    refine Gx.call2 (as := [.ref r11]) (rest := []) zq_15 zi_117_86 rfl rfl rfl (Nat.le_of_ble_eq_true rfl) (Nat.le_of_ble_eq_true rfl) (zrv_v t12 rfl rfl) (Nat.le_of_ble_eq_true rfl) ?_
    refine Ct.mono hw ?_
    rintro v h13 ⟨rfl, hw⟩
    show Gx E (d + 1) 117 87 [.ref a0, .retAddr 0, .retAddr 0, .retAddr 0, .retAddr 0, .retAddr 0, .int a6, .int a7, .int a8, .retAddr 0, .retAddr 0] [] h13 Q
    refine zg_aload zi_117_87 rfl ?_
    refine zg_iload zi_117_88 rfl ?_
    obtain ⟨t14, hw⟩ := hw
    refine zg_putI (h1 := zuI h13 a0 8 a7) zi_117_89 t14 (by rfl) rfl ?_
    refine zg_nameH fun h15 eh15 => ?_
    have hw := hw h15 eh15
    refine zg_aload zi_117_90 rfl ?_
    obtain ⟨r16, er16, hw⟩ := hw
    refine zg_getR (v := .ref r16) zi_117_91 (by rw [eh15]; exact t14) (by rfl) (by show zrv (zR h15 a0 3) = _; rw [er16]; rfl) ?_
    obtain ⟨t17, hw⟩ := hw
    refine zg_getI (v := .int (zI h15 r16 2)) zi_117_92 t17 (by rfl) rfl ?_
    refine zg_iload zi_117_93 rfl ?_
    refine zg_isub zi_117_94 ?_
    exact zg_ireturn zi_117_95 (by decide) hw
  · have hw := hw.2 hc
    refine zg_aload zi_117_78 rfl ?_
    obtain ⟨t18, hw⟩ := hw
    obtain ⟨r19, er19, hw⟩ := hw
    refine zg_getR (v := .ref r19) zi_117_79 t18 (by rfl) (by show zrv (zR h a0 3) = _; rw [er19]; rfl) ?_
    refine zg_iload zi_117_80 rfl ?_
    obtain ⟨t20, hw⟩ := hw
    refine zg_putI (h1 := zuI h r19 2 a6) zi_117_81 t20 (by rfl) rfl ?_
    refine zg_nameH fun h21 eh21 => ?_
    have hw := hw h21 eh21
    refine zg_iload zi_117_82 rfl ?_
    exact zg_ireturn zi_117_83 (by decide) hw
def wb_117_74 (E : Nat → Nat) (d : Nat) (Q : Option Value → ZH → Prop) (L_34 : Nat → Int32 → Int32 → Nat → Int32 → Int32 → Int32 → Int32 → ZH → Prop) (a0 : Nat) (a3 : Int32) (a4 : Int32) (a5 : Nat) (a6 : Int32) (a7 : Int32) (a8 : Int32) (a9 : Int32) (h : ZH) : Prop := ∀ x24 : Int32, x24 = (a9 + 1) → L_34 a0 a3 a4 a5 a6 a7 a8 x24 h
set_option maxRecDepth 20000 in
theorem okb_117_74 {E : Nat → Nat} {d : Nat} {Q : Option Value → ZH → Prop} {L_34 : Nat → Int32 → Int32 → Nat → Int32 → Int32 → Int32 → Int32 → ZH → Prop} (hL_34 : ∀ (b0 : Nat) (b3 : Int32) (b4 : Int32) (b5 : Nat) (b6 : Int32) (b7 : Int32) (b8 : Int32) (b9 : Int32) (h : ZH), L_34 b0 b3 b4 b5 b6 b7 b8 b9 h → Gx E (d + 1) 117 34 [.ref b0, .retAddr 0, .retAddr 0, .int b3, .int b4, .ref b5, .int b6, .int b7, .int b8, .int b9, .retAddr 0] [] h Q) {a0 : Nat} {a3 : Int32} {a4 : Int32} {a5 : Nat} {a6 : Int32} {a7 : Int32} {a8 : Int32} {a9 : Int32} {h : ZH} (hw : wb_117_74 E d Q L_34 a0 a3 a4 a5 a6 a7 a8 a9 h) : Gx E (d + 1) 117 74 [.ref a0, .retAddr 0, .retAddr 0, .int a3, .int a4, .ref a5, .int a6, .int a7, .int a8, .int a9, .retAddr 0] [] h Q := by
  unfold wb_117_74 at hw
  obtain ⟨x24, ex24⟩ : ∃ x : Int32, x = a9 + 1 := ⟨_, rfl⟩
  have hw := hw x24 ex24
  refine zg_iinc (v := x24) (ls1 := [.ref a0, .retAddr 0, .retAddr 0, .int a3, .int a4, .ref a5, .int a6, .int a7, .int a8, .int x24, .retAddr 0]) zi_117_74 rfl (by rw [ex24]; rfl) rfl ?_
  refine zg_goto zi_117_75 ?_
  exact hL_34 a0 a3 a4 a5 a6 a7 a8 x24 h hw
def wl_117_34 (E : Nat → Nat) (d : Nat) (Q : Option Value → ZH → Prop) : Nat → Nat → Int32 → Int32 → Nat → Int32 → Int32 → Int32 → Int32 → ZH → Prop
  | 0, _, _, _, _, _, _, _, _, _ => False
  | n + 1, a0, a3, a4, a5, a6, a7, a8, a9, h => (a4 ≤ a9 → (wb_117_76 E d Q a0 a6 a7 a8 h)) ∧ (¬ (a4 ≤ a9) → ((¬ a7 = 0 → (wb_117_76 E d Q a0 a6 a7 a8 h)) ∧ (¬ (¬ a7 = 0) → ((¬ a8 = 0 → (wb_117_76 E d Q a0 a6 a7 a8 h)) ∧ (¬ (¬ a8 = 0) → (∀ x22 : Int32, x22 = (a3 + (2 * a9)) → ztag h a5 = 6 ∧ 1 ≤ d ∧ sz_69 E h a5 x22 ∧ (((fz_69 E h a5 x22 : Int32) = 0 → (wb_117_74 E d Q (wl_117_34 E d Q n) a0 a3 a4 a5 a6 2 a8 a9 h)) ∧ (¬ ((fz_69 E h a5 x22 : Int32) = 0) → (1 ≤ d ∧ sz_69 E h a5 (x22 + 1) ∧ ((¬ (fz_69 E h a5 (x22 + 1) : Int32) = 0 → (∃ r25 : Nat, zR h a5 0 = r25 + 1 ∧ (ztag h r25 = 13 ∨ ztag h r25 = 19) ∧ zin x22 (zlen h r25) = true ∧ zin (x22 + 1) (zlen h r25) = true ∧ ztag h a0 = 10 ∧ Ct E d 133 [.ref a0, .int (zI h r25 x22.toNatClampNeg), .int (zI h r25 (x22 + 1 : Int32).toNatClampNeg), .int a9] h (fun v h28 => ∃ x29 : Int32, v = some (.int x29) ∧ wb_117_74 E d Q (wl_117_34 E d Q n) a0 a3 a4 a5 a6 a7 x29 a9 h28))) ∧ (¬ (¬ (fz_69 E h a5 (x22 + 1) : Int32) = 0) → (wb_117_74 E d Q (wl_117_34 E d Q n) a0 a3 a4 a5 a6 2 a8 a9 h))))))))))))
set_option maxRecDepth 20000 in
theorem okl_117_34 {E : Nat → Nat} {d : Nat} {Q : Option Value → ZH → Prop} : ∀ (n : Nat) (a0 : Nat) (a3 : Int32) (a4 : Int32) (a5 : Nat) (a6 : Int32) (a7 : Int32) (a8 : Int32) (a9 : Int32) (h : ZH), wl_117_34 E d Q n a0 a3 a4 a5 a6 a7 a8 a9 h → Gx E (d + 1) 117 34 [.ref a0, .retAddr 0, .retAddr 0, .int a3, .int a4, .ref a5, .int a6, .int a7, .int a8, .int a9, .retAddr 0] [] h Q := by
  intro n
  induction n with
  | zero => intro a0 a3 a4 a5 a6 a7 a8 a9 h hw; exact hw.elim
  | succ n ih =>
    intro a0 a3 a4 a5 a6 a7 a8 a9 h hw
    rw [wl_117_34] at hw
    refine zg_iload zi_117_34 rfl ?_
    refine zg_iload zi_117_35 rfl ?_
    refine zg_icmp_ge zi_117_36 (fun hc => ?_) (fun hc => ?_)
    · have hw := hw.1 hc
      exact Gx.forget (zrk (zrk (zrk (zrd (zrd (zrd (zrk (zrk (zrk (zrd (zrk zr0))))))))))) (okb_117_76 hw)
    · have hw := hw.2 hc
      refine zg_iload zi_117_37 rfl ?_
      refine zg_if_ne zi_117_38 (fun hc => ?_) (fun hc => ?_)
      · have hw := hw.1 hc
        exact Gx.forget (zrk (zrk (zrk (zrd (zrd (zrd (zrk (zrk (zrk (zrd (zrk zr0))))))))))) (okb_117_76 hw)
      · have hw := hw.2 hc
        refine zg_iload zi_117_39 rfl ?_
        refine zg_if_ne zi_117_40 (fun hc => ?_) (fun hc => ?_)
        · have hw := hw.1 hc
          exact Gx.forget (zrk (zrk (zrk (zrd (zrd (zrd (zrk (zrk (zrk (zrd (zrk zr0))))))))))) (okb_117_76 hw)
        · have hw := hw.2 hc
          refine zg_iload zi_117_41 rfl ?_
          refine zg_const (v := 2) zi_117_42 (by rfl) ?_
          refine zg_iload zi_117_43 rfl ?_
          refine zg_imul zi_117_44 ?_
          refine zg_iadd zi_117_45 ?_
          refine zg_nameI fun x22 ex22 => ?_
          have hw := hw x22 ex22
          refine zg_istore (ls1 := [.ref a0, .retAddr 0, .retAddr 0, .int a3, .int a4, .ref a5, .int a6, .int a7, .int a8, .int a9, .int x22]) zi_117_46 (Nat.le_of_ble_eq_true rfl) rfl ?_
          refine zg_aload zi_117_47 rfl ?_
          refine zg_iload zi_117_48 rfl ?_
          obtain ⟨t23, hw⟩ := hw
          obtain ⟨hd, hs, hw⟩ := hw
          refine Gx.call2 (as := [.ref a5, .int x22]) (rest := []) zq_69 zi_117_49 rfl rfl rfl (Nat.le_of_ble_eq_true rfl) (Nat.le_of_ble_eq_true rfl) (zrv_v t23 rfl rfl) (Nat.le_of_ble_eq_true rfl) ?_
          refine cz_69 hd hs ?_
          show Gx E (d + 1) 117 50 [.ref a0, .retAddr 0, .retAddr 0, .int a3, .int a4, .ref a5, .int a6, .int a7, .int a8, .int a9, .int x22] [.int (fz_69 E h a5 x22)] h Q
          refine zg_if_eq zi_117_50 (fun hc => ?_) (fun hc => ?_)
          · have hw := hw.1 hc
            refine zg_const (v := 2) zi_117_57 (by rfl) ?_
            refine zg_istore (ls1 := [.ref a0, .retAddr 0, .retAddr 0, .int a3, .int a4, .ref a5, .int a6, .int 2, .int a8, .int a9, .int x22]) zi_117_58 (Nat.le_of_ble_eq_true rfl) rfl ?_
            refine zg_goto zi_117_59 ?_
            exact Gx.forget (zrk (zrk (zrk (zrk (zrk (zrk (zrk (zrk (zrk (zrk (zrd zr0))))))))))) (okb_117_74 ih hw)
          · have hw := hw.2 hc
            refine zg_aload zi_117_51 rfl ?_
            refine zg_iload zi_117_52 rfl ?_
            refine zg_const (v := 1) zi_117_53 (by rfl) ?_
            refine zg_iadd zi_117_54 ?_
            obtain ⟨hd, hs, hw⟩ := hw
            refine Gx.call2 (as := [.ref a5, .int (x22 + 1)]) (rest := []) zq_69 zi_117_55 rfl rfl rfl (Nat.le_of_ble_eq_true rfl) (Nat.le_of_ble_eq_true rfl) (zrv_v t23 rfl rfl) (Nat.le_of_ble_eq_true rfl) ?_
            refine cz_69 hd hs ?_
            show Gx E (d + 1) 117 56 [.ref a0, .retAddr 0, .retAddr 0, .int a3, .int a4, .ref a5, .int a6, .int a7, .int a8, .int a9, .int x22] [.int (fz_69 E h a5 (x22 + 1))] h Q
            refine zg_if_ne zi_117_56 (fun hc => ?_) (fun hc => ?_)
            · have hw := hw.1 hc
              refine zg_aload zi_117_60 rfl ?_
              refine zg_aload zi_117_61 rfl ?_
              obtain ⟨r25, er25, hw⟩ := hw
              refine zg_getR (v := .ref r25) zi_117_62 t23 (by rfl) (by show zrv (zR h a5 0) = _; rw [er25]; rfl) ?_
              refine zg_iload zi_117_63 rfl ?_
              obtain ⟨t26, hw⟩ := hw
              obtain ⟨hb, hw⟩ := hw
              refine zg_iaload (v := .int (zI h r25 x22.toNatClampNeg)) zi_117_64 t26 hb rfl ?_
              refine zg_aload zi_117_65 rfl ?_
              refine zg_getR (v := .ref r25) zi_117_66 t23 (by rfl) (by show zrv (zR h a5 0) = _; rw [er25]; rfl) ?_
              refine zg_iload zi_117_67 rfl ?_
              refine zg_const (v := 1) zi_117_68 (by rfl) ?_
              refine zg_iadd zi_117_69 ?_
              obtain ⟨hb, hw⟩ := hw
              refine zg_iaload (v := .int (zI h r25 (x22 + 1 : Int32).toNatClampNeg)) zi_117_70 t26 hb rfl ?_
              refine zg_iload zi_117_71 rfl ?_
              obtain ⟨t27, hw⟩ := hw
              refine Gx.call2 (as := [.ref a0, .int (zI h r25 x22.toNatClampNeg), .int (zI h r25 (x22 + 1 : Int32).toNatClampNeg), .int a9]) (rest := []) zq_133 zi_117_72 rfl rfl rfl (Nat.le_of_ble_eq_true rfl) (Nat.le_of_ble_eq_true rfl) (zrv_v t27 rfl rfl) (Nat.le_of_ble_eq_true rfl) ?_
              refine Ct.mono hw ?_
              rintro v h28 ⟨x29, rfl, hw⟩
              show Gx E (d + 1) 117 73 [.ref a0, .retAddr 0, .retAddr 0, .int a3, .int a4, .ref a5, .int a6, .int a7, .int a8, .int a9, .int x22] [.int x29] h28 Q
              refine zg_istore (ls1 := [.ref a0, .retAddr 0, .retAddr 0, .int a3, .int a4, .ref a5, .int a6, .int a7, .int x29, .int a9, .int x22]) zi_117_73 (Nat.le_of_ble_eq_true rfl) rfl ?_
              exact Gx.forget (zrk (zrk (zrk (zrk (zrk (zrk (zrk (zrk (zrk (zrk (zrd zr0))))))))))) (okb_117_74 ih hw)
            · have hw := hw.2 hc
              refine zg_const (v := 2) zi_117_57 (by rfl) ?_
              refine zg_istore (ls1 := [.ref a0, .retAddr 0, .retAddr 0, .int a3, .int a4, .ref a5, .int a6, .int 2, .int a8, .int a9, .int x22]) zi_117_58 (Nat.le_of_ble_eq_true rfl) rfl ?_
              refine zg_goto zi_117_59 ?_
              exact Gx.forget (zrk (zrk (zrk (zrk (zrk (zrk (zrk (zrk (zrk (zrk (zrd zr0))))))))))) (okb_117_74 ih hw)
/-- TakeOrPay.read(IIII)I -/
def w_117 (E : Nat → Nat) (d : Nat) (a0 : Nat) (a1 : Int32) (a2 : Int32) (a3 : Int32) (a4 : Int32) (h : ZH) (Q : Option Value → ZH → Prop) : Prop := 1 ≤ d ∧ sz_124 E h a1 ∧ (((fz_124 E h a1 : Int32) = 0 → (Q (some (.int ((-1)))) h)) ∧ (¬ ((fz_124 E h a1 : Int32) = 0) → (1 ≤ d ∧ sz_125 E h a2 ∧ (((fz_125 E h a2 : Int32) = 0 → (Q (some (.int ((-1)))) h)) ∧ (¬ ((fz_125 E h a2 : Int32) = 0) → ((a4 < 0 → (Q (some (.int ((-1)))) h)) ∧ (¬ (a4 < 0) → ((a4 ≤ 20 → (ztag h a0 = 10 ∧ ∃ r2 : Nat, zR h a0 7 = r2 + 1 ∧ (ztag h r2 = 16 ∨ ztag h r2 = 17) ∧ zin a1 (zlen h r2) = true ∧ ∃ r4 : Nat, zR h r2 a1.toNatClampNeg = r4 + 1 ∧ ∃ r5 : Nat, zR h a0 3 = r5 + 1 ∧ ztag h r5 = 5 ∧ ∀ x7 : Int32, x7 = (zI h r5 2) → (((¬ a4 = 0 → (ztag h r4 = 6 ∧ 1 ≤ d ∧ sz_71 E h r4 a2 ∧ True)) ∧ (¬ (¬ a4 = 0) → (True))) ∧ ∀ x9 : Int32, x9 = (if ¬ a4 = 0 then fz_71 E h r4 a2 else 0) → (∃ mm : Nat, wl_117_34 E d Q mm a0 a3 a4 r4 x7 x9 0 0 h)))) ∧ (¬ (a4 ≤ 20) → (Q (some (.int ((-1)))) h))))))))))
set_option maxRecDepth 20000 in
theorem ok_117 {E : Nat → Nat} {d : Nat} {a0 : Nat} {a1 : Int32} {a2 : Int32} {a3 : Int32} {a4 : Int32} {h : ZH} {Q : Option Value → ZH → Prop} (hw : w_117 E d a0 a1 a2 a3 a4 h Q) : Ct E (d + 1) 117 [.ref a0, .int a1, .int a2, .int a3, .int a4] h Q := by
  unfold w_117 at hw
  show Gx E (d + 1) 117 0 [.ref a0, .int a1, .int a2, .int a3, .int a4, .retAddr 0, .retAddr 0, .retAddr 0, .retAddr 0, .retAddr 0, .retAddr 0] [] h Q
  refine zg_iload zi_117_0 rfl ?_
  obtain ⟨hd, hs, hw⟩ := hw
  refine Gx.call2 (as := [.int a1]) (rest := []) zq_124 zi_117_1 rfl rfl rfl (Nat.le_of_ble_eq_true rfl) (Nat.le_of_ble_eq_true rfl) (rfl) (Nat.le_of_ble_eq_true rfl) ?_
  refine cz_124 hd hs ?_
  show Gx E (d + 1) 117 2 [.ref a0, .int a1, .int a2, .int a3, .int a4, .retAddr 0, .retAddr 0, .retAddr 0, .retAddr 0, .retAddr 0, .retAddr 0] [.int (fz_124 E h a1)] h Q
  refine zg_if_eq zi_117_2 (fun hc => ?_) (fun hc => ?_)
  · have hw := hw.1 hc
    refine zg_const (v := (-1)) zi_117_11 (by rfl) ?_
    exact zg_ireturn zi_117_12 (by decide) hw
  · have hw := hw.2 hc
    refine zg_iload zi_117_3 rfl ?_
    obtain ⟨hd, hs, hw⟩ := hw
    refine Gx.call2 (as := [.int a2]) (rest := []) zq_125 zi_117_4 rfl rfl rfl (Nat.le_of_ble_eq_true rfl) (Nat.le_of_ble_eq_true rfl) (rfl) (Nat.le_of_ble_eq_true rfl) ?_
    refine cz_125 hd hs ?_
    show Gx E (d + 1) 117 5 [.ref a0, .int a1, .int a2, .int a3, .int a4, .retAddr 0, .retAddr 0, .retAddr 0, .retAddr 0, .retAddr 0, .retAddr 0] [.int (fz_125 E h a2)] h Q
    refine zg_if_eq zi_117_5 (fun hc => ?_) (fun hc => ?_)
    · have hw := hw.1 hc
      refine zg_const (v := (-1)) zi_117_11 (by rfl) ?_
      exact zg_ireturn zi_117_12 (by decide) hw
    · have hw := hw.2 hc
      refine zg_iload zi_117_6 rfl ?_
      refine zg_if_lt zi_117_7 (fun hc => ?_) (fun hc => ?_)
      · have hw := hw.1 hc
        refine zg_const (v := (-1)) zi_117_11 (by rfl) ?_
        exact zg_ireturn zi_117_12 (by decide) hw
      · have hw := hw.2 hc
        refine zg_iload zi_117_8 rfl ?_
        refine zg_const (v := 20) zi_117_9 (by rfl) ?_
        refine zg_icmp_le zi_117_10 (fun hc => ?_) (fun hc => ?_)
        · have hw := hw.1 hc
          refine zg_aload zi_117_13 rfl ?_
          obtain ⟨t1, hw⟩ := hw
          obtain ⟨r2, er2, hw⟩ := hw
          refine zg_getR (v := .ref r2) zi_117_14 t1 (by rfl) (by show zrv (zR h a0 7) = _; rw [er2]; rfl) ?_
          refine zg_iload zi_117_15 rfl ?_
          obtain ⟨t3, hw⟩ := hw
          obtain ⟨hb, hw⟩ := hw
          obtain ⟨r4, hr, hw⟩ := hw
          refine zg_aaload (v := .ref r4) zi_117_16 t3 hb (by first | (rw [hr]; rfl) | exact congrArg zrv hr) ?_
          refine zg_astore (ls1 := [.ref a0, .int a1, .int a2, .int a3, .int a4, .ref r4, .retAddr 0, .retAddr 0, .retAddr 0, .retAddr 0, .retAddr 0]) zi_117_17 (Nat.le_of_ble_eq_true rfl) rfl ?_
          refine zg_aload zi_117_18 rfl ?_
          obtain ⟨r5, er5, hw⟩ := hw
          refine zg_getR (v := .ref r5) zi_117_19 t1 (by rfl) (by show zrv (zR h a0 3) = _; rw [er5]; rfl) ?_
          obtain ⟨t6, hw⟩ := hw
          refine zg_getI (v := .int (zI h r5 2)) zi_117_20 t6 (by rfl) rfl ?_
          refine zg_nameI fun x7 ex7 => ?_
          have hw := hw x7 ex7
          refine zg_istore (ls1 := [.ref a0, .int a1, .int a2, .int a3, .int a4, .ref r4, .int x7, .retAddr 0, .retAddr 0, .retAddr 0, .retAddr 0]) zi_117_21 (Nat.le_of_ble_eq_true rfl) rfl ?_
          refine zg_iload zi_117_22 rfl ?_
          obtain ⟨hsd23, hw⟩ := hw
          have g23 : Gx E (d + 1) 117 29 [.ref a0, .int a1, .int a2, .int a3, .int a4, .ref r4, .int x7, .retAddr 0, .retAddr 0, .retAddr 0, .retAddr 0] [.int (if ¬ a4 = 0 then fz_71 E h r4 a2 else 0)] h Q := by
            refine zg_nameI fun x9 ex9 => ?_
            have hw := hw x9 ex9
            refine zg_istore (ls1 := [.ref a0, .int a1, .int a2, .int a3, .int a4, .ref r4, .int x7, .int x9, .retAddr 0, .retAddr 0, .retAddr 0]) zi_117_29 (Nat.le_of_ble_eq_true rfl) rfl ?_
            refine zg_const (v := 0) zi_117_30 (by rfl) ?_
            refine zg_istore (ls1 := [.ref a0, .int a1, .int a2, .int a3, .int a4, .ref r4, .int x7, .int x9, .int 0, .retAddr 0, .retAddr 0]) zi_117_31 (Nat.le_of_ble_eq_true rfl) rfl ?_
            refine zg_const (v := 0) zi_117_32 (by rfl) ?_
            refine zg_istore (ls1 := [.ref a0, .int a1, .int a2, .int a3, .int a4, .ref r4, .int x7, .int x9, .int 0, .int 0, .retAddr 0]) zi_117_33 (Nat.le_of_ble_eq_true rfl) rfl ?_
            obtain ⟨mm, hw⟩ := hw
            exact Gx.forget (zrk (zrd (zrd (zrk (zrk (zrk (zrk (zrk (zrk (zrk (zrk zr0))))))))))) (okl_117_34 mm a0 a3 a4 r4 x7 x9 0 0 h hw)
          refine zg_if_ne zi_117_23 (fun hc23 => ?_) (fun hc23 => ?_)
          · have hw := hsd23.1 hc23
            refine zg_aload zi_117_26 rfl ?_
            refine zg_iload zi_117_27 rfl ?_
            obtain ⟨t8, hw⟩ := hw
            obtain ⟨hd, hs, hw⟩ := hw
            refine Gx.call2 (as := [.ref r4, .int a2]) (rest := []) zq_71 zi_117_28 rfl rfl rfl (Nat.le_of_ble_eq_true rfl) (Nat.le_of_ble_eq_true rfl) (zrv_v t8 rfl rfl) (Nat.le_of_ble_eq_true rfl) ?_
            refine cz_71 hd hs ?_
            show Gx E (d + 1) 117 29 [.ref a0, .int a1, .int a2, .int a3, .int a4, .ref r4, .int x7, .retAddr 0, .retAddr 0, .retAddr 0, .retAddr 0] [.int (fz_71 E h r4 a2)] h Q
            have hg := g23
            simp only [if_pos hc23] at hg
            exact hg
          · have hw := hsd23.2 hc23
            refine zg_const (v := 0) zi_117_24 (by rfl) ?_
            refine zg_goto zi_117_25 ?_
            have hg := g23
            simp only [if_neg hc23] at hg
            exact hg
        · have hw := hw.2 hc
          refine zg_const (v := (-1)) zi_117_11 (by rfl) ?_
          exact zg_ireturn zi_117_12 (by decide) hw
theorem zq_118 : zQ 118 1 1 10 := by unfold zQ; decide +kernel
theorem zi_118_0 : (zM 118).1[0]? = some (.aload 0) := by rfl
theorem zi_118_1 : (zM 118).1[1]? = some (.getfield 10008) := by rfl
theorem zi_118_2 : (zM 118).1[2]? = some (.ireturn) := by rfl
/-- TakeOrPay.torn()I -/
def w_118 (E : Nat → Nat) (d : Nat) (a0 : Nat) (h : ZH) (Q : Option Value → ZH → Prop) : Prop := ztag h a0 = 10 ∧ Q (some (.int (zI h a0 8))) h
set_option maxRecDepth 20000 in
theorem ok_118 {E : Nat → Nat} {d : Nat} {a0 : Nat} {h : ZH} {Q : Option Value → ZH → Prop} (hw : w_118 E d a0 h Q) : Ct E (d + 1) 118 [.ref a0] h Q := by
  unfold w_118 at hw
  show Gx E (d + 1) 118 0 [.ref a0] [] h Q
  refine zg_aload zi_118_0 rfl ?_
  obtain ⟨t1, hw⟩ := hw
  refine zg_getI (v := .int (zI h a0 8)) zi_118_1 t1 (by rfl) rfl ?_
  exact zg_ireturn zi_118_2 (by decide) hw
def fz_118 (E : Nat → Nat) (h : ZH) (a0 : Nat) : Int32 := zI h a0 8
def sz_118 (E : Nat → Nat) (h : ZH) (a0 : Nat) : Prop := ztag h a0 = 10 ∧ True
set_option maxRecDepth 20000 in
theorem cz_118 {E : Nat → Nat} {d : Nat} {a0 : Nat} {h : ZH} {Q : Option Value → ZH → Prop} (hd : 1 ≤ d) (hs : sz_118 E h a0) (hq : Q (some (.int (fz_118 E h a0))) h) : Ct E d 118 [.ref a0] h Q := by
  obtain ⟨d, rfl⟩ : ∃ n, d = n + 1 := ⟨d - 1, by omega⟩
  refine ok_118 ?_
  unfold w_118
  unfold sz_118 at hs
  unfold fz_118 at hq
  refine ⟨hs.1, ?_⟩
  have hs := hs.2
  exact hq
theorem zq_119 : zQ 119 2 2 10 := by unfold zQ; decide +kernel
theorem zi_119_0 : (zM 119).1[0]? = some (.iload 1) := by rfl
theorem zi_119_1 : (zM 119).1[1]? = some (.tableswitch 33 0 4 #[2, 6, 10, 14, 18]) := by rfl
theorem zi_119_2 : (zM 119).1[2]? = some (.aload 0) := by rfl
theorem zi_119_3 : (zM 119).1[3]? = some (.getfield 10200) := by rfl
theorem zi_119_4 : (zM 119).1[4]? = some (.getfield 3006) := by rfl
theorem zi_119_5 : (zM 119).1[5]? = some (.ireturn) := by rfl
theorem zi_119_6 : (zM 119).1[6]? = some (.aload 0) := by rfl
theorem zi_119_7 : (zM 119).1[7]? = some (.getfield 10200) := by rfl
theorem zi_119_8 : (zM 119).1[8]? = some (.invokevirtual 43) := by rfl
theorem zi_119_9 : (zM 119).1[9]? = some (.ireturn) := by rfl
theorem zi_119_10 : (zM 119).1[10]? = some (.aload 0) := by rfl
theorem zi_119_11 : (zM 119).1[11]? = some (.getfield 10203) := by rfl
theorem zi_119_12 : (zM 119).1[12]? = some (.getfield 5002) := by rfl
theorem zi_119_13 : (zM 119).1[13]? = some (.ireturn) := by rfl
theorem zi_119_14 : (zM 119).1[14]? = some (.aload 0) := by rfl
theorem zi_119_15 : (zM 119).1[15]? = some (.getfield 10201) := by rfl
theorem zi_119_16 : (zM 119).1[16]? = some (.getfield 8001) := by rfl
theorem zi_119_17 : (zM 119).1[17]? = some (.ireturn) := by rfl
theorem zi_119_18 : (zM 119).1[18]? = some (.aload 0) := by rfl
theorem zi_119_19 : (zM 119).1[19]? = some (.getfield 10207) := by rfl
theorem zi_119_20 : (zM 119).1[20]? = some (.iconst 0) := by rfl
theorem zi_119_21 : (zM 119).1[21]? = some (.aaload) := by rfl
theorem zi_119_22 : (zM 119).1[22]? = some (.getfield 6001) := by rfl
theorem zi_119_23 : (zM 119).1[23]? = some (.iconst (-4)) := by rfl
theorem zi_119_24 : (zM 119).1[24]? = some (.if_icmp .ne ((27 : Nat) : Int)) := by rfl
theorem zi_119_25 : (zM 119).1[25]? = some (.iconst (-4)) := by rfl
theorem zi_119_26 : (zM 119).1[26]? = some (.goto ((32 : Nat) : Int)) := by rfl
theorem zi_119_27 : (zM 119).1[27]? = some (.aload 0) := by rfl
theorem zi_119_28 : (zM 119).1[28]? = some (.getfield 10207) := by rfl
theorem zi_119_29 : (zM 119).1[29]? = some (.iconst 0) := by rfl
theorem zi_119_30 : (zM 119).1[30]? = some (.aaload) := by rfl
theorem zi_119_31 : (zM 119).1[31]? = some (.getfield 6002) := by rfl
theorem zi_119_32 : (zM 119).1[32]? = some (.ireturn) := by rfl
theorem zi_119_33 : (zM 119).1[33]? = some (.iconst (-1)) := by rfl
theorem zi_119_34 : (zM 119).1[34]? = some (.ireturn) := by rfl
set_option maxRecDepth 20000 in
theorem zsl_119_1 : ∀ z : Int, ¬ (z < 0 ∨ 4 < z) → ¬ z = 0 → ¬ z = 1 → ¬ z = 2 → ¬ z = 3 →  z = 4 := by intros; omega
/-- TakeOrPay.count(I)I -/
def w_119 (E : Nat → Nat) (d : Nat) (a0 : Nat) (a1 : Int32) (h : ZH) (Q : Option Value → ZH → Prop) : Prop := ((a1.toInt < 0 ∨ 4 < a1.toInt) → (Q (some (.int ((-1)))) h)) ∧ (a1.toInt = 0 → (ztag h a0 = 10 ∧ ∃ r2 : Nat, zR h a0 0 = r2 + 1 ∧ ztag h r2 = 3 ∧ Q (some (.int (zI h r2 6))) h)) ∧ (a1.toInt = 1 → (ztag h a0 = 10 ∧ ∃ r5 : Nat, zR h a0 0 = r5 + 1 ∧ ztag h r5 = 3 ∧ Ct E d 43 [.ref r5] h (fun v h7 => ∃ x8 : Int32, v = some (.int x8) ∧ Q (some (.int x8)) h7))) ∧ (a1.toInt = 2 → (ztag h a0 = 10 ∧ ∃ r10 : Nat, zR h a0 3 = r10 + 1 ∧ ztag h r10 = 5 ∧ Q (some (.int (zI h r10 2))) h)) ∧ (a1.toInt = 3 → (ztag h a0 = 10 ∧ ∃ r13 : Nat, zR h a0 1 = r13 + 1 ∧ ztag h r13 = 8 ∧ Q (some (.int (zI h r13 1))) h)) ∧ (a1.toInt = 4 → (ztag h a0 = 10 ∧ ∃ r16 : Nat, zR h a0 7 = r16 + 1 ∧ (ztag h r16 = 16 ∨ ztag h r16 = 17) ∧ zin 0 (zlen h r16) = true ∧ ∃ r18 : Nat, zR h r16 0 = r18 + 1 ∧ ztag h r18 = 6 ∧ (((¬ (zI h r18 1 : Int32) = ((-4) : Int32) → (zin 0 (zlen h r16) = true ∧ ¬ zR h r16 0 = 0 ∧ ztag h (zR h r16 0 - 1) = 6 ∧ True)) ∧ (¬ (¬ (zI h r18 1 : Int32) = ((-4) : Int32)) → (True))) ∧ Q (some (.int (if ¬ (zI h r18 1 : Int32) = ((-4) : Int32) then zI h (zR h r16 0 - 1) 2 else (-4)))) h)))
set_option maxRecDepth 20000 in
theorem ok_119 {E : Nat → Nat} {d : Nat} {a0 : Nat} {a1 : Int32} {h : ZH} {Q : Option Value → ZH → Prop} (hw : w_119 E d a0 a1 h Q) : Ct E (d + 1) 119 [.ref a0, .int a1] h Q := by
  unfold w_119 at hw
  show Gx E (d + 1) 119 0 [.ref a0, .int a1] [] h Q
  refine zg_iload zi_119_0 rfl ?_
  by_cases ho : a1.toInt < 0 ∨ 4 < a1.toInt
  · have hw := hw.1 ho
    refine zg_switch (t := 33) zi_119_1 (by unfold zsw; rw [if_pos ho]; rfl) ?_
    refine zg_const (v := (-1)) zi_119_33 (by rfl) ?_
    exact zg_ireturn zi_119_34 (by decide) hw
  have hw := hw.2
  by_cases hv0 : a1.toInt = 0
  · have hw := hw.1 hv0
    refine zg_switch (t := 2) zi_119_1 (by rw [hv0]; rfl) ?_
    refine zg_aload zi_119_2 rfl ?_
    obtain ⟨t1, hw⟩ := hw
    obtain ⟨r2, er2, hw⟩ := hw
    refine zg_getR (v := .ref r2) zi_119_3 t1 (by rfl) (by show zrv (zR h a0 0) = _; rw [er2]; rfl) ?_
    obtain ⟨t3, hw⟩ := hw
    refine zg_getI (v := .int (zI h r2 6)) zi_119_4 t3 (by rfl) rfl ?_
    exact zg_ireturn zi_119_5 (by decide) hw
  have hw := hw.2
  by_cases hv1 : a1.toInt = 1
  · have hw := hw.1 hv1
    refine zg_switch (t := 6) zi_119_1 (by rw [hv1]; rfl) ?_
    refine zg_aload zi_119_6 rfl ?_
    obtain ⟨t4, hw⟩ := hw
    obtain ⟨r5, er5, hw⟩ := hw
    refine zg_getR (v := .ref r5) zi_119_7 t4 (by rfl) (by show zrv (zR h a0 0) = _; rw [er5]; rfl) ?_
    obtain ⟨t6, hw⟩ := hw
    refine Gx.call2 (as := [.ref r5]) (rest := []) zq_43 zi_119_8 rfl rfl rfl (Nat.le_of_ble_eq_true rfl) (Nat.le_of_ble_eq_true rfl) (zrv_v t6 rfl rfl) (Nat.le_of_ble_eq_true rfl) ?_
    refine Ct.mono hw ?_
    rintro v h7 ⟨x8, rfl, hw⟩
    show Gx E (d + 1) 119 9 [.ref a0, .int a1] [.int x8] h7 Q
    exact zg_ireturn zi_119_9 (by decide) hw
  have hw := hw.2
  by_cases hv2 : a1.toInt = 2
  · have hw := hw.1 hv2
    refine zg_switch (t := 10) zi_119_1 (by rw [hv2]; rfl) ?_
    refine zg_aload zi_119_10 rfl ?_
    obtain ⟨t9, hw⟩ := hw
    obtain ⟨r10, er10, hw⟩ := hw
    refine zg_getR (v := .ref r10) zi_119_11 t9 (by rfl) (by show zrv (zR h a0 3) = _; rw [er10]; rfl) ?_
    obtain ⟨t11, hw⟩ := hw
    refine zg_getI (v := .int (zI h r10 2)) zi_119_12 t11 (by rfl) rfl ?_
    exact zg_ireturn zi_119_13 (by decide) hw
  have hw := hw.2
  by_cases hv3 : a1.toInt = 3
  · have hw := hw.1 hv3
    refine zg_switch (t := 14) zi_119_1 (by rw [hv3]; rfl) ?_
    refine zg_aload zi_119_14 rfl ?_
    obtain ⟨t12, hw⟩ := hw
    obtain ⟨r13, er13, hw⟩ := hw
    refine zg_getR (v := .ref r13) zi_119_15 t12 (by rfl) (by show zrv (zR h a0 1) = _; rw [er13]; rfl) ?_
    obtain ⟨t14, hw⟩ := hw
    refine zg_getI (v := .int (zI h r13 1)) zi_119_16 t14 (by rfl) rfl ?_
    exact zg_ireturn zi_119_17 (by decide) hw
  have hw := hw.2
  have hv4 : a1.toInt = 4 := zsl_119_1 _ ho hv0 hv1 hv2 hv3
  have hw := hw hv4
  refine zg_switch (t := 18) zi_119_1 (by rw [hv4]; rfl) ?_
  refine zg_aload zi_119_18 rfl ?_
  obtain ⟨t15, hw⟩ := hw
  obtain ⟨r16, er16, hw⟩ := hw
  refine zg_getR (v := .ref r16) zi_119_19 t15 (by rfl) (by show zrv (zR h a0 7) = _; rw [er16]; rfl) ?_
  refine zg_const (v := 0) zi_119_20 (by rfl) ?_
  obtain ⟨t17, hw⟩ := hw
  obtain ⟨hb, hw⟩ := hw
  obtain ⟨r18, hr, hw⟩ := hw
  refine zg_aaload (v := .ref r18) zi_119_21 t17 hb (by first | (rw [hr]; rfl) | exact congrArg zrv hr) ?_
  obtain ⟨t19, hw⟩ := hw
  refine zg_getI (v := .int (zI h r18 1)) zi_119_22 t19 (by rfl) rfl ?_
  refine zg_const (v := (-4)) zi_119_23 (by rfl) ?_
  obtain ⟨hsd24, hw⟩ := hw
  have g24 : Gx E (d + 1) 119 32 [.ref a0, .int a1] [.int (if ¬ (zI h r18 1 : Int32) = ((-4) : Int32) then zI h (zR h r16 0 - 1) 2 else (-4))] h Q := by
    exact zg_ireturn zi_119_32 (by decide) hw
  refine zg_icmp_ne zi_119_24 (fun hc24 => ?_) (fun hc24 => ?_)
  · have hw := hsd24.1 hc24
    refine zg_aload zi_119_27 rfl ?_
    refine zg_getR (v := .ref r16) zi_119_28 t15 (by rfl) (by show zrv (zR h a0 7) = _; rw [er16]; rfl) ?_
    refine zg_const (v := 0) zi_119_29 (by rfl) ?_
    obtain ⟨hb, hw⟩ := hw
    obtain ⟨hr, hw⟩ := hw
    refine zg_aaload (v := .ref (zR h r16 0 - 1)) zi_119_30 t17 hb (zrv_p hr) ?_
    obtain ⟨t20, hw⟩ := hw
    refine zg_getI (v := .int (zI h (zR h r16 0 - 1) 2)) zi_119_31 t20 (by rfl) rfl ?_
    have hg := g24
    simp only [if_pos hc24] at hg
    exact hg
  · have hw := hsd24.2 hc24
    refine zg_const (v := (-4)) zi_119_25 (by rfl) ?_
    refine zg_goto zi_119_26 ?_
    have hg := g24
    simp only [if_neg hc24] at hg
    exact hg
theorem zq_135 : zQ 135 3 6 11 := by unfold zQ; decide +kernel
theorem zi_135_0 : (zM 135).1[0]? = some (.lload 0) := by rfl
theorem zi_135_1 : (zM 135).1[1]? = some (.lload 2) := by rfl
theorem zi_135_2 : (zM 135).1[2]? = some (.lcmp) := by rfl
theorem zi_135_3 : (zM 135).1[3]? = some (.ifCond .lt ((10 : Nat) : Int)) := by rfl
theorem zi_135_4 : (zM 135).1[4]? = some (.lload 0) := by rfl
theorem zi_135_5 : (zM 135).1[5]? = some (.lload 4) := by rfl
theorem zi_135_6 : (zM 135).1[6]? = some (.lcmp) := by rfl
theorem zi_135_7 : (zM 135).1[7]? = some (.ifCond .gt ((10 : Nat) : Int)) := by rfl
theorem zi_135_8 : (zM 135).1[8]? = some (.iconst 1) := by rfl
theorem zi_135_9 : (zM 135).1[9]? = some (.goto ((11 : Nat) : Int)) := by rfl
theorem zi_135_10 : (zM 135).1[10]? = some (.iconst 0) := by rfl
theorem zi_135_11 : (zM 135).1[11]? = some (.ireturn) := by rfl
/-- TakeOrPayModel.in(JJJ)Z -/
def w_135 (E : Nat → Nat) (d : Nat) (a0 : Int64) (a2 : Int64) (a4 : Int64) (h : ZH) (Q : Option Value → ZH → Prop) : Prop := Q (some (.int (if a0 < a2 then 0 else if a4 < a0 then 0 else 1))) h
set_option maxRecDepth 20000 in
theorem ok_135 {E : Nat → Nat} {d : Nat} {a0 : Int64} {a2 : Int64} {a4 : Int64} {h : ZH} {Q : Option Value → ZH → Prop} (hw : w_135 E d a0 a2 a4 h Q) : Ct E (d + 1) 135 [.long a0, .long a2, .long a4] h Q := by
  unfold w_135 at hw
  show Gx E (d + 1) 135 0 [.long a0, .retAddr 0, .long a2, .retAddr 0, .long a4, .retAddr 0] [] h Q
  refine zg_lload zi_135_0 rfl ?_
  refine zg_lload zi_135_1 rfl ?_
  have g3 : Gx E (d + 1) 135 11 [.long a0, .retAddr 0, .long a2, .retAddr 0, .long a4, .retAddr 0] [.int (if a0 < a2 then 0 else if a4 < a0 then 0 else 1)] h Q := by
    exact zg_zreturn zi_135_11 (by (repeat' split) <;> first | (left; rfl) | (right; rfl)) hw
  refine zg_lcmp_lt zi_135_2 zi_135_3 (fun hc3 => ?_) (fun hc3 => ?_)
  · skip
    refine zg_const (v := 0) zi_135_10 (by rfl) ?_
    have hg := g3
    simp only [if_pos hc3] at hg
    exact hg
  · skip
    refine zg_lload zi_135_4 rfl ?_
    refine zg_lload zi_135_5 rfl ?_
    have g7 : Gx E (d + 1) 135 11 [.long a0, .retAddr 0, .long a2, .retAddr 0, .long a4, .retAddr 0] [.int (if a4 < a0 then 0 else 1)] h Q := by
      have hg := g3
      simp only [if_neg hc3] at hg
      exact hg
    refine zg_lcmp_gt zi_135_6 zi_135_7 (fun hc7 => ?_) (fun hc7 => ?_)
    · skip
      refine zg_const (v := 0) zi_135_10 (by rfl) ?_
      have hg := g7
      simp only [if_pos hc7] at hg
      exact hg
    · skip
      refine zg_const (v := 1) zi_135_8 (by rfl) ?_
      refine zg_goto zi_135_9 ?_
      have hg := g7
      simp only [if_neg hc7] at hg
      exact hg
def fz_135 (E : Nat → Nat) (h : ZH) (a0 : Int64) (a2 : Int64) (a4 : Int64) : Int32 := if a0 < a2 then 0 else if a4 < a0 then 0 else 1
def sz_135 (E : Nat → Nat) (h : ZH) (a0 : Int64) (a2 : Int64) (a4 : Int64) : Prop := True
set_option maxRecDepth 20000 in
theorem fb_135 {E : Nat → Nat} {h : ZH} {a0 : Int64} {a2 : Int64} {a4 : Int64} : fz_135 E h a0 a2 a4 = 0 ∨ fz_135 E h a0 a2 a4 = 1 := by
  unfold fz_135
  (try dsimp only)
  (repeat' split) <;> first | (left; rfl) | (right; rfl)
set_option maxRecDepth 20000 in
theorem cz_135 {E : Nat → Nat} {d : Nat} {a0 : Int64} {a2 : Int64} {a4 : Int64} {h : ZH} {Q : Option Value → ZH → Prop} (hd : 1 ≤ d) (hs : sz_135 E h a0 a2 a4) (hq : Q (some (.int (fz_135 E h a0 a2 a4))) h) : Ct E d 135 [.long a0, .long a2, .long a4] h Q := by
  obtain ⟨d, rfl⟩ : ∃ n, d = n + 1 := ⟨d - 1, by omega⟩
  refine ok_135 ?_
  unfold w_135
  unfold sz_135 at hs
  unfold fz_135 at hq
  exact hq
theorem zq_136 : zQ 136 2 4 11 := by unfold zQ; decide +kernel
theorem zi_136_0 : (zM 136).1[0]? = some (.aload 0) := by rfl
theorem zi_136_1 : (zM 136).1[1]? = some (.getfield 11001) := by rfl
theorem zi_136_2 : (zM 136).1[2]? = some (.iconst 8) := by rfl
theorem zi_136_3 : (zM 136).1[3]? = some (.iadd) := by rfl
theorem zi_136_4 : (zM 136).1[4]? = some (.iconst 320) := by rfl
theorem zi_136_5 : (zM 136).1[5]? = some (.if_icmp .le ((8 : Nat) : Int)) := by rfl
theorem zi_136_6 : (zM 136).1[6]? = some (.iconst (-3)) := by rfl
theorem zi_136_7 : (zM 136).1[7]? = some (.ireturn) := by rfl
theorem zi_136_8 : (zM 136).1[8]? = some (.iconst 56) := by rfl
theorem zi_136_9 : (zM 136).1[9]? = some (.istore 3) := by rfl
theorem zi_136_10 : (zM 136).1[10]? = some (.iload 3) := by rfl
theorem zi_136_11 : (zM 136).1[11]? = some (.ifCond .lt ((31 : Nat) : Int)) := by rfl
theorem zi_136_12 : (zM 136).1[12]? = some (.aload 0) := by rfl
theorem zi_136_13 : (zM 136).1[13]? = some (.getfield 11200) := by rfl
theorem zi_136_14 : (zM 136).1[14]? = some (.aload 0) := by rfl
theorem zi_136_15 : (zM 136).1[15]? = some (.getfield 11001) := by rfl
theorem zi_136_16 : (zM 136).1[16]? = some (.lload 1) := by rfl
theorem zi_136_17 : (zM 136).1[17]? = some (.iload 3) := by rfl
theorem zi_136_18 : (zM 136).1[18]? = some (.lshr) := by rfl
theorem zi_136_19 : (zM 136).1[19]? = some (.l2i) := by rfl
theorem zi_136_20 : (zM 136).1[20]? = some (.iconst 255) := by rfl
theorem zi_136_21 : (zM 136).1[21]? = some (.iand) := by rfl
theorem zi_136_22 : (zM 136).1[22]? = some (.iastore) := by rfl
theorem zi_136_23 : (zM 136).1[23]? = some (.aload 0) := by rfl
theorem zi_136_24 : (zM 136).1[24]? = some (.dup) := by rfl
theorem zi_136_25 : (zM 136).1[25]? = some (.getfield 11001) := by rfl
theorem zi_136_26 : (zM 136).1[26]? = some (.iconst 1) := by rfl
theorem zi_136_27 : (zM 136).1[27]? = some (.iadd) := by rfl
theorem zi_136_28 : (zM 136).1[28]? = some (.putfield 11001) := by rfl
theorem zi_136_29 : (zM 136).1[29]? = some (.iinc 3 (-8)) := by rfl
theorem zi_136_30 : (zM 136).1[30]? = some (.goto ((10 : Nat) : Int)) := by rfl
theorem zi_136_31 : (zM 136).1[31]? = some (.aload 0) := by rfl
theorem zi_136_32 : (zM 136).1[32]? = some (.getfield 11001) := by rfl
theorem zi_136_33 : (zM 136).1[33]? = some (.ireturn) := by rfl
def wb_136_31 (E : Nat → Nat) (d : Nat) (Q : Option Value → ZH → Prop) (a0 : Nat) (h : ZH) : Prop := ztag h a0 = 11 ∧ Q (some (.int (zI h a0 1))) h
set_option maxRecDepth 20000 in
theorem okb_136_31 {E : Nat → Nat} {d : Nat} {Q : Option Value → ZH → Prop} {a0 : Nat} {h : ZH} (hw : wb_136_31 E d Q a0 h) : Gx E (d + 1) 136 31 [.ref a0, .retAddr 0, .retAddr 0, .retAddr 0] [] h Q := by
  unfold wb_136_31 at hw
  refine zg_aload zi_136_31 rfl ?_
  obtain ⟨t2, hw⟩ := hw
  refine zg_getI (v := .int (zI h a0 1)) zi_136_32 t2 (by rfl) rfl ?_
  exact zg_ireturn zi_136_33 (by decide) hw
def wl_136_10 (E : Nat → Nat) (d : Nat) (Q : Option Value → ZH → Prop) : Nat → Nat → Int64 → Int32 → ZH → Prop
  | 0, _, _, _, _ => False
  | n + 1, a0, a1, a3, h => (a3 < 0 → (wb_136_31 E d Q a0 h)) ∧ (¬ (a3 < 0) → (ztag h a0 = 11 ∧ ∃ r4 : Nat, zR h a0 0 = r4 + 1 ∧ ztag h r4 = 13 ∧ zin (zI h a0 1) (zlen h r4) = true ∧ ∀ h6 : ZH, h6 = (zuI h r4 (zI h a0 1 : Int32).toNatClampNeg (((a1 >>> (a3.toInt64 &&& 63) : Int64).toInt32) &&& 255)) → ∀ h7 : ZH, h7 = (zuI h6 a0 1 ((zI h6 a0 1) + 1)) → ∀ x8 : Int32, x8 = (a3 + (-8)) → wl_136_10 E d Q n a0 a1 x8 h7))
set_option maxRecDepth 20000 in
theorem okl_136_10 {E : Nat → Nat} {d : Nat} {Q : Option Value → ZH → Prop} : ∀ (n : Nat) (a0 : Nat) (a1 : Int64) (a3 : Int32) (h : ZH), wl_136_10 E d Q n a0 a1 a3 h → Gx E (d + 1) 136 10 [.ref a0, .long a1, .retAddr 0, .int a3] [] h Q := by
  intro n
  induction n with
  | zero => intro a0 a1 a3 h hw; exact hw.elim
  | succ n ih =>
    intro a0 a1 a3 h hw
    rw [wl_136_10] at hw
    refine zg_iload zi_136_10 rfl ?_
    refine zg_if_lt zi_136_11 (fun hc => ?_) (fun hc => ?_)
    · have hw := hw.1 hc
      exact Gx.forget (zrk (zrd (zrk (zrd zr0)))) (okb_136_31 hw)
    · have hw := hw.2 hc
      refine zg_aload zi_136_12 rfl ?_
      obtain ⟨t3, hw⟩ := hw
      obtain ⟨r4, er4, hw⟩ := hw
      refine zg_getR (v := .ref r4) zi_136_13 t3 (by rfl) (by show zrv (zR h a0 0) = _; rw [er4]; rfl) ?_
      refine zg_aload zi_136_14 rfl ?_
      refine zg_getI (v := .int (zI h a0 1)) zi_136_15 t3 (by rfl) rfl ?_
      refine zg_lload zi_136_16 rfl ?_
      refine zg_iload zi_136_17 rfl ?_
      refine zg_lshr zi_136_18 ?_
      refine zg_l2i zi_136_19 ?_
      refine zg_const (v := 255) zi_136_20 (by rfl) ?_
      refine zg_iand zi_136_21 ?_
      obtain ⟨t5, hw⟩ := hw
      obtain ⟨hb, hw⟩ := hw
      refine zg_iastore (h1 := zuI h r4 (zI h a0 1 : Int32).toNatClampNeg (((a1 >>> (a3.toInt64 &&& 63) : Int64).toInt32) &&& 255)) zi_136_22 t5 hb rfl ?_
      refine zg_nameH fun h6 eh6 => ?_
      have hw := hw h6 eh6
      refine zg_aload zi_136_23 rfl ?_
      refine zg_dup zi_136_24 rfl ?_
      refine zg_getI (v := .int (zI h6 a0 1)) zi_136_25 (by rw [eh6]; exact t3) (by rfl) rfl ?_
      refine zg_const (v := 1) zi_136_26 (by rfl) ?_
      refine zg_iadd zi_136_27 ?_
      refine zg_putI (h1 := zuI h6 a0 1 ((zI h6 a0 1) + 1)) zi_136_28 (by rw [eh6]; exact t3) (by rfl) rfl ?_
      refine zg_nameH fun h7 eh7 => ?_
      have hw := hw h7 eh7
      obtain ⟨x8, ex8⟩ : ∃ x : Int32, x = a3 + (-8) := ⟨_, rfl⟩
      have hw := hw x8 ex8
      refine zg_iinc (v := x8) (ls1 := [.ref a0, .long a1, .retAddr 0, .int x8]) zi_136_29 rfl (by rw [ex8]; rfl) rfl ?_
      refine zg_goto zi_136_30 ?_
      exact ih a0 a1 x8 h7 hw
/-- TakeOrPayModel.feed(J)I -/
def w_136 (E : Nat → Nat) (d : Nat) (a0 : Nat) (a1 : Int64) (h : ZH) (Q : Option Value → ZH → Prop) : Prop := ztag h a0 = 11 ∧ ((((zI h a0 1) + 8 : Int32) ≤ 320 → (∃ mm : Nat, wl_136_10 E d Q mm a0 a1 56 h)) ∧ (¬ (((zI h a0 1) + 8 : Int32) ≤ 320) → (Q (some (.int ((-3)))) h)))
set_option maxRecDepth 20000 in
theorem ok_136 {E : Nat → Nat} {d : Nat} {a0 : Nat} {a1 : Int64} {h : ZH} {Q : Option Value → ZH → Prop} (hw : w_136 E d a0 a1 h Q) : Ct E (d + 1) 136 [.ref a0, .long a1] h Q := by
  unfold w_136 at hw
  show Gx E (d + 1) 136 0 [.ref a0, .long a1, .retAddr 0, .retAddr 0] [] h Q
  refine zg_aload zi_136_0 rfl ?_
  obtain ⟨t1, hw⟩ := hw
  refine zg_getI (v := .int (zI h a0 1)) zi_136_1 t1 (by rfl) rfl ?_
  refine zg_const (v := 8) zi_136_2 (by rfl) ?_
  refine zg_iadd zi_136_3 ?_
  refine zg_const (v := 320) zi_136_4 (by rfl) ?_
  refine zg_icmp_le zi_136_5 (fun hc => ?_) (fun hc => ?_)
  · have hw := hw.1 hc
    refine zg_const (v := 56) zi_136_8 (by rfl) ?_
    refine zg_istore (ls1 := [.ref a0, .long a1, .retAddr 0, .int 56]) zi_136_9 (Nat.le_of_ble_eq_true rfl) rfl ?_
    obtain ⟨mm, hw⟩ := hw
    exact okl_136_10 mm a0 a1 56 h hw
  · have hw := hw.2 hc
    refine zg_const (v := (-3)) zi_136_6 (by rfl) ?_
    exact zg_ireturn zi_136_7 (by decide) hw
theorem zq_137 : zQ 137 2 3 11 := by unfold zQ; decide +kernel
theorem zi_137_0 : (zM 137).1[0]? = some (.iload 1) := by rfl
theorem zi_137_1 : (zM 137).1[1]? = some (.i2l) := by rfl
theorem zi_137_2 : (zM 137).1[2]? = some (.jsr_w 0) := by rfl
theorem zi_137_3 : (zM 137).1[3]? = some (.aload 0) := by rfl
theorem zi_137_4 : (zM 137).1[4]? = some (.getfield 11001) := by rfl
theorem zi_137_5 : (zM 137).1[5]? = some (.i2l) := by rfl
theorem zi_137_6 : (zM 137).1[6]? = some (.invokestatic 135) := by rfl
theorem zi_137_7 : (zM 137).1[7]? = some (.ifCond .ne ((10 : Nat) : Int)) := by rfl
theorem zi_137_8 : (zM 137).1[8]? = some (.iconst (-1)) := by rfl
theorem zi_137_9 : (zM 137).1[9]? = some (.ireturn) := by rfl
theorem zi_137_10 : (zM 137).1[10]? = some (.aload 0) := by rfl
theorem zi_137_11 : (zM 137).1[11]? = some (.getfield 11001) := by rfl
theorem zi_137_12 : (zM 137).1[12]? = some (.istore 2) := by rfl
theorem zi_137_13 : (zM 137).1[13]? = some (.aload 0) := by rfl
theorem zi_137_14 : (zM 137).1[14]? = some (.iload 1) := by rfl
theorem zi_137_15 : (zM 137).1[15]? = some (.putfield 11001) := by rfl
theorem zi_137_16 : (zM 137).1[16]? = some (.iload 2) := by rfl
theorem zi_137_17 : (zM 137).1[17]? = some (.ireturn) := by rfl
/-- TakeOrPayModel.end(I)I -/
def w_137 (E : Nat → Nat) (d : Nat) (a0 : Nat) (a1 : Int32) (h : ZH) (Q : Option Value → ZH → Prop) : Prop := ztag h a0 = 11 ∧ 1 ≤ d ∧ sz_135 E h a1.toInt64 0 ((zI h a0 1 : Int32).toInt64) ∧ ((¬ (fz_135 E h a1.toInt64 0 ((zI h a0 1 : Int32).toInt64) : Int32) = 0 → (∀ x2 : Int32, x2 = (zI h a0 1) → ∀ h3 : ZH, h3 = (zuI h a0 1 a1) → Q (some (.int x2)) h3)) ∧ (¬ (¬ (fz_135 E h a1.toInt64 0 ((zI h a0 1 : Int32).toInt64) : Int32) = 0) → (Q (some (.int ((-1)))) h)))
set_option maxRecDepth 20000 in
theorem ok_137 {E : Nat → Nat} {d : Nat} {a0 : Nat} {a1 : Int32} {h : ZH} {Q : Option Value → ZH → Prop} (hw : w_137 E d a0 a1 h Q) : Ct E (d + 1) 137 [.ref a0, .int a1] h Q := by
  unfold w_137 at hw
  show Gx E (d + 1) 137 0 [.ref a0, .int a1, .retAddr 0] [] h Q
  refine zg_iload zi_137_0 rfl ?_
  refine zg_i2l zi_137_1 ?_
  refine zg_lconst (v := 0) zi_137_2 (by rfl) ?_
  refine zg_aload zi_137_3 rfl ?_
  obtain ⟨t1, hw⟩ := hw
  refine zg_getI (v := .int (zI h a0 1)) zi_137_4 t1 (by rfl) rfl ?_
  refine zg_i2l zi_137_5 ?_
  obtain ⟨hd, hs, hw⟩ := hw
  refine Gx.call2 (as := [.long a1.toInt64, .long 0, .long ((zI h a0 1 : Int32).toInt64)]) (rest := []) zq_135 zi_137_6 rfl rfl rfl (Nat.le_of_ble_eq_true rfl) (Nat.le_of_ble_eq_true rfl) (rfl) (Nat.le_of_ble_eq_true rfl) ?_
  refine cz_135 hd hs ?_
  show Gx E (d + 1) 137 7 [.ref a0, .int a1, .retAddr 0] [.int (fz_135 E h a1.toInt64 0 ((zI h a0 1 : Int32).toInt64))] h Q
  refine zg_if_ne zi_137_7 (fun hc => ?_) (fun hc => ?_)
  · have hw := hw.1 hc
    refine zg_aload zi_137_10 rfl ?_
    refine zg_getI (v := .int (zI h a0 1)) zi_137_11 t1 (by rfl) rfl ?_
    refine zg_nameI fun x2 ex2 => ?_
    have hw := hw x2 ex2
    refine zg_istore (ls1 := [.ref a0, .int a1, .int x2]) zi_137_12 (Nat.le_of_ble_eq_true rfl) rfl ?_
    refine zg_aload zi_137_13 rfl ?_
    refine zg_iload zi_137_14 rfl ?_
    refine zg_putI (h1 := zuI h a0 1 a1) zi_137_15 t1 (by rfl) rfl ?_
    refine zg_nameH fun h3 eh3 => ?_
    have hw := hw h3 eh3
    refine zg_iload zi_137_16 rfl ?_
    exact zg_ireturn zi_137_17 (by decide) hw
  · have hw := hw.2 hc
    refine zg_const (v := (-1)) zi_137_8 (by rfl) ?_
    exact zg_ireturn zi_137_9 (by decide) hw
theorem zq_138 : zQ 138 2 2 11 := by unfold zQ; decide +kernel
theorem zi_138_0 : (zM 138).1[0]? = some (.iload 1) := by rfl
theorem zi_138_1 : (zM 138).1[1]? = some (.aload 0) := by rfl
theorem zi_138_2 : (zM 138).1[2]? = some (.getfield 11001) := by rfl
theorem zi_138_3 : (zM 138).1[3]? = some (.if_icmp .ge ((9 : Nat) : Int)) := by rfl
theorem zi_138_4 : (zM 138).1[4]? = some (.aload 0) := by rfl
theorem zi_138_5 : (zM 138).1[5]? = some (.getfield 11200) := by rfl
theorem zi_138_6 : (zM 138).1[6]? = some (.iload 1) := by rfl
theorem zi_138_7 : (zM 138).1[7]? = some (.iaload) := by rfl
theorem zi_138_8 : (zM 138).1[8]? = some (.goto ((10 : Nat) : Int)) := by rfl
theorem zi_138_9 : (zM 138).1[9]? = some (.iconst (-4)) := by rfl
theorem zi_138_10 : (zM 138).1[10]? = some (.ireturn) := by rfl
/-- TakeOrPayModel.byteAt(I)I -/
def w_138 (E : Nat → Nat) (d : Nat) (a0 : Nat) (a1 : Int32) (h : ZH) (Q : Option Value → ZH → Prop) : Prop := ztag h a0 = 11 ∧ ((((zI h a0 1 : Int32) ≤ a1 → (True)) ∧ (¬ ((zI h a0 1 : Int32) ≤ a1) → (¬ zR h a0 0 = 0 ∧ (ztag h (zR h a0 0 - 1) = 13 ∨ ztag h (zR h a0 0 - 1) = 19) ∧ zin a1 (zlen h (zR h a0 0 - 1)) = true ∧ True))) ∧ Q (some (.int (if (zI h a0 1 : Int32) ≤ a1 then (-4) else zI h (zR h a0 0 - 1) a1.toNatClampNeg))) h)
set_option maxRecDepth 20000 in
theorem ok_138 {E : Nat → Nat} {d : Nat} {a0 : Nat} {a1 : Int32} {h : ZH} {Q : Option Value → ZH → Prop} (hw : w_138 E d a0 a1 h Q) : Ct E (d + 1) 138 [.ref a0, .int a1] h Q := by
  unfold w_138 at hw
  show Gx E (d + 1) 138 0 [.ref a0, .int a1] [] h Q
  refine zg_iload zi_138_0 rfl ?_
  refine zg_aload zi_138_1 rfl ?_
  obtain ⟨t1, hw⟩ := hw
  refine zg_getI (v := .int (zI h a0 1)) zi_138_2 t1 (by rfl) rfl ?_
  obtain ⟨hsd3, hw⟩ := hw
  have g3 : Gx E (d + 1) 138 10 [.ref a0, .int a1] [.int (if (zI h a0 1 : Int32) ≤ a1 then (-4) else zI h (zR h a0 0 - 1) a1.toNatClampNeg)] h Q := by
    exact zg_ireturn zi_138_10 (by decide) hw
  refine zg_icmp_ge zi_138_3 (fun hc3 => ?_) (fun hc3 => ?_)
  · have hw := hsd3.1 hc3
    refine zg_const (v := (-4)) zi_138_9 (by rfl) ?_
    have hg := g3
    simp only [if_pos hc3] at hg
    exact hg
  · have hw := hsd3.2 hc3
    refine zg_aload zi_138_4 rfl ?_
    obtain ⟨hr, hw⟩ := hw
    refine zg_getR (v := .ref (zR h a0 0 - 1)) zi_138_5 t1 (by rfl) (zrv_p hr) ?_
    refine zg_iload zi_138_6 rfl ?_
    obtain ⟨t2, hw⟩ := hw
    obtain ⟨hb, hw⟩ := hw
    refine zg_iaload (v := .int (zI h (zR h a0 0 - 1) a1.toNatClampNeg)) zi_138_7 t2 hb rfl ?_
    refine zg_goto zi_138_8 ?_
    have hg := g3
    simp only [if_neg hc3] at hg
    exact hg
def fz_138 (E : Nat → Nat) (h : ZH) (a0 : Nat) (a1 : Int32) : Int32 := if (zI h a0 1 : Int32) ≤ a1 then (-4) else zI h (zR h a0 0 - 1) a1.toNatClampNeg
def sz_138 (E : Nat → Nat) (h : ZH) (a0 : Nat) (a1 : Int32) : Prop := ztag h a0 = 11 ∧ ((((zI h a0 1 : Int32) ≤ a1 → (True)) ∧ (¬ ((zI h a0 1 : Int32) ≤ a1) → (¬ zR h a0 0 = 0 ∧ (ztag h (zR h a0 0 - 1) = 13 ∨ ztag h (zR h a0 0 - 1) = 19) ∧ zin a1 (zlen h (zR h a0 0 - 1)) = true ∧ True))) ∧ True)
set_option maxRecDepth 20000 in
theorem cz_138 {E : Nat → Nat} {d : Nat} {a0 : Nat} {a1 : Int32} {h : ZH} {Q : Option Value → ZH → Prop} (hd : 1 ≤ d) (hs : sz_138 E h a0 a1) (hq : Q (some (.int (fz_138 E h a0 a1))) h) : Ct E d 138 [.ref a0, .int a1] h Q := by
  obtain ⟨d, rfl⟩ : ∃ n, d = n + 1 := ⟨d - 1, by omega⟩
  refine ok_138 ?_
  unfold w_138
  unfold sz_138 at hs
  unfold fz_138 at hq
  refine ⟨hs.1, ?_⟩
  have hs := hs.2
  refine ⟨⟨fun hc => ?_, fun hc => ?_⟩, ?_⟩
  · have hs := hs.1.1 hc
    trivial
  · have hs := hs.1.2 hc
    refine ⟨hs.1, ?_⟩
    have hs := hs.2
    refine ⟨hs.1, ?_⟩
    have hs := hs.2
    refine ⟨hs.1, ?_⟩
    have hs := hs.2
    trivial
  have hs := hs.2
  exact hq
theorem zq_139 : zQ 139 2 2 11 := by unfold zQ; decide +kernel
theorem zi_139_0 : (zM 139).1[0]? = some (.aload 0) := by rfl
theorem zi_139_1 : (zM 139).1[1]? = some (.getfield 11003) := by rfl
theorem zi_139_2 : (zM 139).1[2]? = some (.ifCond .ne ((10 : Nat) : Int)) := by rfl
theorem zi_139_3 : (zM 139).1[3]? = some (.aload 0) := by rfl
theorem zi_139_4 : (zM 139).1[4]? = some (.iload 1) := by rfl
theorem zi_139_5 : (zM 139).1[5]? = some (.putfield 11003) := by rfl
theorem zi_139_6 : (zM 139).1[6]? = some (.aload 0) := by rfl
theorem zi_139_7 : (zM 139).1[7]? = some (.aload 0) := by rfl
theorem zi_139_8 : (zM 139).1[8]? = some (.getfield 11006) := by rfl
theorem zi_139_9 : (zM 139).1[9]? = some (.putfield 11004) := by rfl
theorem zi_139_10 : (zM 139).1[10]? = some (.return_) := by rfl
/-- TakeOrPayModel.fails(I)V -/
def w_139 (E : Nat → Nat) (d : Nat) (a0 : Nat) (a1 : Int32) (h : ZH) (Q : Option Value → ZH → Prop) : Prop := ztag h a0 = 11 ∧ ((¬ (zI h a0 3 : Int32) = 0 → (Q none h)) ∧ (¬ (¬ (zI h a0 3 : Int32) = 0) → (∀ h2 : ZH, h2 = (zuI h a0 3 a1) → ∀ h3 : ZH, h3 = (zuI h2 a0 4 (zI h2 a0 6)) → Q none h3)))
set_option maxRecDepth 20000 in
theorem ok_139 {E : Nat → Nat} {d : Nat} {a0 : Nat} {a1 : Int32} {h : ZH} {Q : Option Value → ZH → Prop} (hw : w_139 E d a0 a1 h Q) : Ct E (d + 1) 139 [.ref a0, .int a1] h Q := by
  unfold w_139 at hw
  show Gx E (d + 1) 139 0 [.ref a0, .int a1] [] h Q
  refine zg_aload zi_139_0 rfl ?_
  obtain ⟨t1, hw⟩ := hw
  refine zg_getI (v := .int (zI h a0 3)) zi_139_1 t1 (by rfl) rfl ?_
  refine zg_if_ne zi_139_2 (fun hc => ?_) (fun hc => ?_)
  · have hw := hw.1 hc
    exact zg_return zi_139_10 hw
  · have hw := hw.2 hc
    refine zg_aload zi_139_3 rfl ?_
    refine zg_iload zi_139_4 rfl ?_
    refine zg_putI (h1 := zuI h a0 3 a1) zi_139_5 t1 (by rfl) rfl ?_
    refine zg_nameH fun h2 eh2 => ?_
    have hw := hw h2 eh2
    refine zg_aload zi_139_6 rfl ?_
    refine zg_aload zi_139_7 rfl ?_
    refine zg_getI (v := .int (zI h2 a0 6)) zi_139_8 (by rw [eh2]; exact t1) (by rfl) rfl ?_
    refine zg_putI (h1 := zuI h2 a0 4 (zI h2 a0 6)) zi_139_9 (by rw [eh2]; exact t1) (by rfl) rfl ?_
    refine zg_nameH fun h3 eh3 => ?_
    have hw := hw h3 eh3
    exact zg_return zi_139_10 hw
theorem zq_140 : zQ 140 3 6 11 := by unfold zQ; decide +kernel
theorem zi_140_0 : (zM 140).1[0]? = some (.iconst 0) := by rfl
theorem zi_140_1 : (zM 140).1[1]? = some (.istore 3) := by rfl
theorem zi_140_2 : (zM 140).1[2]? = some (.iload 3) := by rfl
theorem zi_140_3 : (zM 140).1[3]? = some (.iconst 22) := by rfl
theorem zi_140_4 : (zM 140).1[4]? = some (.if_icmp .ge ((60 : Nat) : Int)) := by rfl
theorem zi_140_5 : (zM 140).1[5]? = some (.iload 2) := by rfl
theorem zi_140_6 : (zM 140).1[6]? = some (.iload 1) := by rfl
theorem zi_140_7 : (zM 140).1[7]? = some (.isub) := by rfl
theorem zi_140_8 : (zM 140).1[8]? = some (.aload 0) := by rfl
theorem zi_140_9 : (zM 140).1[9]? = some (.getfield 11209) := by rfl
theorem zi_140_10 : (zM 140).1[10]? = some (.iload 3) := by rfl
theorem zi_140_11 : (zM 140).1[11]? = some (.iconst 1) := by rfl
theorem zi_140_12 : (zM 140).1[12]? = some (.iadd) := by rfl
theorem zi_140_13 : (zM 140).1[13]? = some (.iaload) := by rfl
theorem zi_140_14 : (zM 140).1[14]? = some (.aload 0) := by rfl
theorem zi_140_15 : (zM 140).1[15]? = some (.getfield 11209) := by rfl
theorem zi_140_16 : (zM 140).1[16]? = some (.iload 3) := by rfl
theorem zi_140_17 : (zM 140).1[17]? = some (.iaload) := by rfl
theorem zi_140_18 : (zM 140).1[18]? = some (.isub) := by rfl
theorem zi_140_19 : (zM 140).1[19]? = some (.if_icmp .ne ((22 : Nat) : Int)) := by rfl
theorem zi_140_20 : (zM 140).1[20]? = some (.iconst 1) := by rfl
theorem zi_140_21 : (zM 140).1[21]? = some (.goto ((23 : Nat) : Int)) := by rfl
theorem zi_140_22 : (zM 140).1[22]? = some (.iconst 0) := by rfl
theorem zi_140_23 : (zM 140).1[23]? = some (.istore 4) := by rfl
theorem zi_140_24 : (zM 140).1[24]? = some (.iconst 0) := by rfl
theorem zi_140_25 : (zM 140).1[25]? = some (.istore 5) := by rfl
theorem zi_140_26 : (zM 140).1[26]? = some (.iload 4) := by rfl
theorem zi_140_27 : (zM 140).1[27]? = some (.ifCond .eq ((54 : Nat) : Int)) := by rfl
theorem zi_140_28 : (zM 140).1[28]? = some (.iload 5) := by rfl
theorem zi_140_29 : (zM 140).1[29]? = some (.iload 2) := by rfl
theorem zi_140_30 : (zM 140).1[30]? = some (.iload 1) := by rfl
theorem zi_140_31 : (zM 140).1[31]? = some (.isub) := by rfl
theorem zi_140_32 : (zM 140).1[32]? = some (.if_icmp .ge ((54 : Nat) : Int)) := by rfl
theorem zi_140_33 : (zM 140).1[33]? = some (.aload 0) := by rfl
theorem zi_140_34 : (zM 140).1[34]? = some (.iload 1) := by rfl
theorem zi_140_35 : (zM 140).1[35]? = some (.iload 5) := by rfl
theorem zi_140_36 : (zM 140).1[36]? = some (.iadd) := by rfl
theorem zi_140_37 : (zM 140).1[37]? = some (.invokevirtual 138) := by rfl
theorem zi_140_38 : (zM 140).1[38]? = some (.aload 0) := by rfl
theorem zi_140_39 : (zM 140).1[39]? = some (.getfield 11210) := by rfl
theorem zi_140_40 : (zM 140).1[40]? = some (.aload 0) := by rfl
theorem zi_140_41 : (zM 140).1[41]? = some (.getfield 11209) := by rfl
theorem zi_140_42 : (zM 140).1[42]? = some (.iload 3) := by rfl
theorem zi_140_43 : (zM 140).1[43]? = some (.iaload) := by rfl
theorem zi_140_44 : (zM 140).1[44]? = some (.iload 5) := by rfl
theorem zi_140_45 : (zM 140).1[45]? = some (.iadd) := by rfl
theorem zi_140_46 : (zM 140).1[46]? = some (.iaload) := by rfl
theorem zi_140_47 : (zM 140).1[47]? = some (.if_icmp .ne ((50 : Nat) : Int)) := by rfl
theorem zi_140_48 : (zM 140).1[48]? = some (.iconst 1) := by rfl
theorem zi_140_49 : (zM 140).1[49]? = some (.goto ((51 : Nat) : Int)) := by rfl
theorem zi_140_50 : (zM 140).1[50]? = some (.iconst 0) := by rfl
theorem zi_140_51 : (zM 140).1[51]? = some (.istore 4) := by rfl
theorem zi_140_52 : (zM 140).1[52]? = some (.iinc 5 1) := by rfl
theorem zi_140_53 : (zM 140).1[53]? = some (.goto ((26 : Nat) : Int)) := by rfl
theorem zi_140_54 : (zM 140).1[54]? = some (.iload 4) := by rfl
theorem zi_140_55 : (zM 140).1[55]? = some (.ifCond .eq ((58 : Nat) : Int)) := by rfl
theorem zi_140_56 : (zM 140).1[56]? = some (.iload 3) := by rfl
theorem zi_140_57 : (zM 140).1[57]? = some (.ireturn) := by rfl
theorem zi_140_58 : (zM 140).1[58]? = some (.iinc 3 1) := by rfl
theorem zi_140_59 : (zM 140).1[59]? = some (.goto ((2 : Nat) : Int)) := by rfl
theorem zi_140_60 : (zM 140).1[60]? = some (.iconst (-4)) := by rfl
theorem zi_140_61 : (zM 140).1[61]? = some (.ireturn) := by rfl
def wb_140_54 (E : Nat → Nat) (d : Nat) (Q : Option Value → ZH → Prop) (L_2 : Nat → Int32 → Int32 → Int32 → ZH → Prop) (a0 : Nat) (a1 : Int32) (a2 : Int32) (a3 : Int32) (a4 : Int32) (h : ZH) : Prop := (a4 = 0 → (∀ x5 : Int32, x5 = (a3 + 1) → L_2 a0 a1 a2 x5 h)) ∧ (¬ (a4 = 0) → (Q (some (.int a3)) h))
set_option maxRecDepth 20000 in
theorem okb_140_54 {E : Nat → Nat} {d : Nat} {Q : Option Value → ZH → Prop} {L_2 : Nat → Int32 → Int32 → Int32 → ZH → Prop} (hL_2 : ∀ (b0 : Nat) (b1 : Int32) (b2 : Int32) (b3 : Int32) (h : ZH), L_2 b0 b1 b2 b3 h → Gx E (d + 1) 140 2 [.ref b0, .int b1, .int b2, .int b3, .retAddr 0, .retAddr 0] [] h Q) {a0 : Nat} {a1 : Int32} {a2 : Int32} {a3 : Int32} {a4 : Int32} {h : ZH} (hw : wb_140_54 E d Q L_2 a0 a1 a2 a3 a4 h) : Gx E (d + 1) 140 54 [.ref a0, .int a1, .int a2, .int a3, .int a4, .retAddr 0] [] h Q := by
  unfold wb_140_54 at hw
  refine zg_iload zi_140_54 rfl ?_
  refine zg_if_eq zi_140_55 (fun hc => ?_) (fun hc => ?_)
  · have hw := hw.1 hc
    obtain ⟨x5, ex5⟩ : ∃ x : Int32, x = a3 + 1 := ⟨_, rfl⟩
    have hw := hw x5 ex5
    refine zg_iinc (v := x5) (ls1 := [.ref a0, .int a1, .int a2, .int x5, .int a4, .retAddr 0]) zi_140_58 rfl (by rw [ex5]; rfl) rfl ?_
    refine zg_goto zi_140_59 ?_
    exact Gx.forget (zrk (zrk (zrk (zrk (zrd (zrk zr0)))))) (hL_2 a0 a1 a2 x5 h hw)
  · have hw := hw.2 hc
    refine zg_iload zi_140_56 rfl ?_
    exact zg_ireturn zi_140_57 (by decide) hw
def wl_140_26 (E : Nat → Nat) (d : Nat) (Q : Option Value → ZH → Prop) (L_2 : Nat → Int32 → Int32 → Int32 → ZH → Prop) : Nat → Nat → Int32 → Int32 → Int32 → Int32 → Int32 → ZH → Prop
  | 0, _, _, _, _, _, _, _ => False
  | n + 1, a0, a1, a2, a3, a4, a5, h => (a4 = 0 → (wb_140_54 E d Q L_2 a0 a1 a2 a3 a4 h)) ∧ (¬ (a4 = 0) → (((a2 - a1 : Int32) ≤ a5 → (wb_140_54 E d Q L_2 a0 a1 a2 a3 a4 h)) ∧ (¬ ((a2 - a1 : Int32) ≤ a5) → (ztag h a0 = 11 ∧ 1 ≤ d ∧ sz_138 E h a0 (a1 + a5) ∧ ∃ r7 : Nat, zR h a0 10 = r7 + 1 ∧ ∃ r8 : Nat, zR h a0 9 = r8 + 1 ∧ (ztag h r8 = 13 ∨ ztag h r8 = 19) ∧ zin a3 (zlen h r8) = true ∧ (ztag h r7 = 13 ∨ ztag h r7 = 19) ∧ zin ((zI h r8 a3.toNatClampNeg) + a5) (zlen h r7) = true ∧ ∀ x11 : Int32, x11 = (if ¬ (fz_138 E h a0 (a1 + a5) : Int32) = (zI h r7 ((zI h r8 a3.toNatClampNeg) + a5 : Int32).toNatClampNeg : Int32) then 0 else 1) → ∀ x12 : Int32, x12 = (a5 + 1) → wl_140_26 E d Q L_2 n a0 a1 a2 a3 x11 x12 h))))
set_option maxRecDepth 20000 in
theorem okl_140_26 {E : Nat → Nat} {d : Nat} {Q : Option Value → ZH → Prop} {L_2 : Nat → Int32 → Int32 → Int32 → ZH → Prop} (hL_2 : ∀ (b0 : Nat) (b1 : Int32) (b2 : Int32) (b3 : Int32) (h : ZH), L_2 b0 b1 b2 b3 h → Gx E (d + 1) 140 2 [.ref b0, .int b1, .int b2, .int b3, .retAddr 0, .retAddr 0] [] h Q) : ∀ (n : Nat) (a0 : Nat) (a1 : Int32) (a2 : Int32) (a3 : Int32) (a4 : Int32) (a5 : Int32) (h : ZH), wl_140_26 E d Q L_2 n a0 a1 a2 a3 a4 a5 h → Gx E (d + 1) 140 26 [.ref a0, .int a1, .int a2, .int a3, .int a4, .int a5] [] h Q := by
  intro n
  induction n with
  | zero => intro a0 a1 a2 a3 a4 a5 h hw; exact hw.elim
  | succ n ih =>
    intro a0 a1 a2 a3 a4 a5 h hw
    rw [wl_140_26] at hw
    refine zg_iload zi_140_26 rfl ?_
    refine zg_if_eq zi_140_27 (fun hc => ?_) (fun hc => ?_)
    · have hw := hw.1 hc
      exact Gx.forget (zrk (zrk (zrk (zrk (zrk (zrd zr0)))))) (okb_140_54 hL_2 hw)
    · have hw := hw.2 hc
      refine zg_iload zi_140_28 rfl ?_
      refine zg_iload zi_140_29 rfl ?_
      refine zg_iload zi_140_30 rfl ?_
      refine zg_isub zi_140_31 ?_
      refine zg_icmp_ge zi_140_32 (fun hc => ?_) (fun hc => ?_)
      · have hw := hw.1 hc
        exact Gx.forget (zrk (zrk (zrk (zrk (zrk (zrd zr0)))))) (okb_140_54 hL_2 hw)
      · have hw := hw.2 hc
        refine zg_aload zi_140_33 rfl ?_
        refine zg_iload zi_140_34 rfl ?_
        refine zg_iload zi_140_35 rfl ?_
        refine zg_iadd zi_140_36 ?_
        obtain ⟨t6, hw⟩ := hw
        obtain ⟨hd, hs, hw⟩ := hw
        refine Gx.call2 (as := [.ref a0, .int (a1 + a5)]) (rest := []) zq_138 zi_140_37 rfl rfl rfl (Nat.le_of_ble_eq_true rfl) (Nat.le_of_ble_eq_true rfl) (zrv_v t6 rfl rfl) (Nat.le_of_ble_eq_true rfl) ?_
        refine cz_138 hd hs ?_
        show Gx E (d + 1) 140 38 [.ref a0, .int a1, .int a2, .int a3, .int a4, .int a5] [.int (fz_138 E h a0 (a1 + a5))] h Q
        refine zg_aload zi_140_38 rfl ?_
        obtain ⟨r7, er7, hw⟩ := hw
        refine zg_getR (v := .ref r7) zi_140_39 t6 (by rfl) (by show zrv (zR h a0 10) = _; rw [er7]; rfl) ?_
        refine zg_aload zi_140_40 rfl ?_
        obtain ⟨r8, er8, hw⟩ := hw
        refine zg_getR (v := .ref r8) zi_140_41 t6 (by rfl) (by show zrv (zR h a0 9) = _; rw [er8]; rfl) ?_
        refine zg_iload zi_140_42 rfl ?_
        obtain ⟨t9, hw⟩ := hw
        obtain ⟨hb, hw⟩ := hw
        refine zg_iaload (v := .int (zI h r8 a3.toNatClampNeg)) zi_140_43 t9 hb rfl ?_
        refine zg_iload zi_140_44 rfl ?_
        refine zg_iadd zi_140_45 ?_
        obtain ⟨t10, hw⟩ := hw
        obtain ⟨hb, hw⟩ := hw
        refine zg_iaload (v := .int (zI h r7 ((zI h r8 a3.toNatClampNeg) + a5 : Int32).toNatClampNeg)) zi_140_46 t10 hb rfl ?_
        have g47 : Gx E (d + 1) 140 51 [.ref a0, .int a1, .int a2, .int a3, .int a4, .int a5] [.int (if ¬ (fz_138 E h a0 (a1 + a5) : Int32) = (zI h r7 ((zI h r8 a3.toNatClampNeg) + a5 : Int32).toNatClampNeg : Int32) then 0 else 1)] h Q := by
          refine zg_nameI fun x11 ex11 => ?_
          have hw := hw x11 ex11
          refine zg_istore (ls1 := [.ref a0, .int a1, .int a2, .int a3, .int x11, .int a5]) zi_140_51 (Nat.le_of_ble_eq_true rfl) rfl ?_
          obtain ⟨x12, ex12⟩ : ∃ x : Int32, x = a5 + 1 := ⟨_, rfl⟩
          have hw := hw x12 ex12
          refine zg_iinc (v := x12) (ls1 := [.ref a0, .int a1, .int a2, .int a3, .int x11, .int x12]) zi_140_52 rfl (by rw [ex12]; rfl) rfl ?_
          refine zg_goto zi_140_53 ?_
          exact ih a0 a1 a2 a3 x11 x12 h hw
        refine zg_icmp_ne zi_140_47 (fun hc47 => ?_) (fun hc47 => ?_)
        · skip
          refine zg_const (v := 0) zi_140_50 (by rfl) ?_
          have hg := g47
          simp only [if_pos hc47] at hg
          exact hg
        · skip
          refine zg_const (v := 1) zi_140_48 (by rfl) ?_
          refine zg_goto zi_140_49 ?_
          have hg := g47
          simp only [if_neg hc47] at hg
          exact hg
def wl_140_2 (E : Nat → Nat) (d : Nat) (Q : Option Value → ZH → Prop) : Nat → Nat → Int32 → Int32 → Int32 → ZH → Prop
  | 0, _, _, _, _, _ => False
  | n + 1, a0, a1, a2, a3, h => (22 ≤ a3 → (Q (some (.int ((-4)))) h)) ∧ (¬ (22 ≤ a3) → (ztag h a0 = 11 ∧ ∃ r2 : Nat, zR h a0 9 = r2 + 1 ∧ (ztag h r2 = 13 ∨ ztag h r2 = 19) ∧ zin (a3 + 1) (zlen h r2) = true ∧ zin a3 (zlen h r2) = true ∧ ∀ x4 : Int32, x4 = (if ¬ (a2 - a1 : Int32) = ((zI h r2 (a3 + 1 : Int32).toNatClampNeg) - (zI h r2 a3.toNatClampNeg) : Int32) then 0 else 1) → (∃ mm : Nat, wl_140_26 E d Q (wl_140_2 E d Q n) mm a0 a1 a2 a3 x4 0 h)))
set_option maxRecDepth 20000 in
theorem okl_140_2 {E : Nat → Nat} {d : Nat} {Q : Option Value → ZH → Prop} : ∀ (n : Nat) (a0 : Nat) (a1 : Int32) (a2 : Int32) (a3 : Int32) (h : ZH), wl_140_2 E d Q n a0 a1 a2 a3 h → Gx E (d + 1) 140 2 [.ref a0, .int a1, .int a2, .int a3, .retAddr 0, .retAddr 0] [] h Q := by
  intro n
  induction n with
  | zero => intro a0 a1 a2 a3 h hw; exact hw.elim
  | succ n ih =>
    intro a0 a1 a2 a3 h hw
    rw [wl_140_2] at hw
    refine zg_iload zi_140_2 rfl ?_
    refine zg_const (v := 22) zi_140_3 (by rfl) ?_
    refine zg_icmp_ge zi_140_4 (fun hc => ?_) (fun hc => ?_)
    · have hw := hw.1 hc
      refine zg_const (v := (-4)) zi_140_60 (by rfl) ?_
      exact zg_ireturn zi_140_61 (by decide) hw
    · have hw := hw.2 hc
      refine zg_iload zi_140_5 rfl ?_
      refine zg_iload zi_140_6 rfl ?_
      refine zg_isub zi_140_7 ?_
      refine zg_aload zi_140_8 rfl ?_
      obtain ⟨t1, hw⟩ := hw
      obtain ⟨r2, er2, hw⟩ := hw
      refine zg_getR (v := .ref r2) zi_140_9 t1 (by rfl) (by show zrv (zR h a0 9) = _; rw [er2]; rfl) ?_
      refine zg_iload zi_140_10 rfl ?_
      refine zg_const (v := 1) zi_140_11 (by rfl) ?_
      refine zg_iadd zi_140_12 ?_
      obtain ⟨t3, hw⟩ := hw
      obtain ⟨hb, hw⟩ := hw
      refine zg_iaload (v := .int (zI h r2 (a3 + 1 : Int32).toNatClampNeg)) zi_140_13 t3 hb rfl ?_
      refine zg_aload zi_140_14 rfl ?_
      refine zg_getR (v := .ref r2) zi_140_15 t1 (by rfl) (by show zrv (zR h a0 9) = _; rw [er2]; rfl) ?_
      refine zg_iload zi_140_16 rfl ?_
      obtain ⟨hb, hw⟩ := hw
      refine zg_iaload (v := .int (zI h r2 a3.toNatClampNeg)) zi_140_17 t3 hb rfl ?_
      refine zg_isub zi_140_18 ?_
      have g19 : Gx E (d + 1) 140 23 [.ref a0, .int a1, .int a2, .int a3, .retAddr 0, .retAddr 0] [.int (if ¬ (a2 - a1 : Int32) = ((zI h r2 (a3 + 1 : Int32).toNatClampNeg) - (zI h r2 a3.toNatClampNeg) : Int32) then 0 else 1)] h Q := by
        refine zg_nameI fun x4 ex4 => ?_
        have hw := hw x4 ex4
        refine zg_istore (ls1 := [.ref a0, .int a1, .int a2, .int a3, .int x4, .retAddr 0]) zi_140_23 (Nat.le_of_ble_eq_true rfl) rfl ?_
        refine zg_const (v := 0) zi_140_24 (by rfl) ?_
        refine zg_istore (ls1 := [.ref a0, .int a1, .int a2, .int a3, .int x4, .int 0]) zi_140_25 (Nat.le_of_ble_eq_true rfl) rfl ?_
        obtain ⟨mm, hw⟩ := hw
        exact okl_140_26 ih mm a0 a1 a2 a3 x4 0 h hw
      refine zg_icmp_ne zi_140_19 (fun hc19 => ?_) (fun hc19 => ?_)
      · skip
        refine zg_const (v := 0) zi_140_22 (by rfl) ?_
        have hg := g19
        simp only [if_pos hc19] at hg
        exact hg
      · skip
        refine zg_const (v := 1) zi_140_20 (by rfl) ?_
        refine zg_goto zi_140_21 ?_
        have hg := g19
        simp only [if_neg hc19] at hg
        exact hg
/-- TakeOrPayModel.nameAt(II)I -/
def w_140 (E : Nat → Nat) (d : Nat) (a0 : Nat) (a1 : Int32) (a2 : Int32) (h : ZH) (Q : Option Value → ZH → Prop) : Prop := ∃ mm : Nat, wl_140_2 E d Q mm a0 a1 a2 0 h
set_option maxRecDepth 20000 in
theorem ok_140 {E : Nat → Nat} {d : Nat} {a0 : Nat} {a1 : Int32} {a2 : Int32} {h : ZH} {Q : Option Value → ZH → Prop} (hw : w_140 E d a0 a1 a2 h Q) : Ct E (d + 1) 140 [.ref a0, .int a1, .int a2] h Q := by
  unfold w_140 at hw
  show Gx E (d + 1) 140 0 [.ref a0, .int a1, .int a2, .retAddr 0, .retAddr 0, .retAddr 0] [] h Q
  refine zg_const (v := 0) zi_140_0 (by rfl) ?_
  refine zg_istore (ls1 := [.ref a0, .int a1, .int a2, .int 0, .retAddr 0, .retAddr 0]) zi_140_1 (Nat.le_of_ble_eq_true rfl) rfl ?_
  obtain ⟨mm, hw⟩ := hw
  exact okl_140_2 mm a0 a1 a2 0 h hw
theorem zq_141 : zQ 141 1 2 11 := by unfold zQ; decide +kernel
theorem zi_141_0 : (zM 141).1[0]? = some (.aload 0) := by rfl
theorem zi_141_1 : (zM 141).1[1]? = some (.getfield 11003) := by rfl
theorem zi_141_2 : (zM 141).1[2]? = some (.ifCond .le ((4 : Nat) : Int)) := by rfl
theorem zi_141_3 : (zM 141).1[3]? = some (.return_) := by rfl
theorem zi_141_4 : (zM 141).1[4]? = some (.aload 0) := by rfl
theorem zi_141_5 : (zM 141).1[5]? = some (.aload 0) := by rfl
theorem zi_141_6 : (zM 141).1[6]? = some (.getfield 11005) := by rfl
theorem zi_141_7 : (zM 141).1[7]? = some (.invokevirtual 138) := by rfl
theorem zi_141_8 : (zM 141).1[8]? = some (.iconst 32) := by rfl
theorem zi_141_9 : (zM 141).1[9]? = some (.if_icmp .ne ((17 : Nat) : Int)) := by rfl
theorem zi_141_10 : (zM 141).1[10]? = some (.aload 0) := by rfl
theorem zi_141_11 : (zM 141).1[11]? = some (.dup) := by rfl
theorem zi_141_12 : (zM 141).1[12]? = some (.getfield 11005) := by rfl
theorem zi_141_13 : (zM 141).1[13]? = some (.iconst 1) := by rfl
theorem zi_141_14 : (zM 141).1[14]? = some (.iadd) := by rfl
theorem zi_141_15 : (zM 141).1[15]? = some (.putfield 11005) := by rfl
theorem zi_141_16 : (zM 141).1[16]? = some (.goto ((4 : Nat) : Int)) := by rfl
theorem zi_141_17 : (zM 141).1[17]? = some (.aload 0) := by rfl
theorem zi_141_18 : (zM 141).1[18]? = some (.aload 0) := by rfl
theorem zi_141_19 : (zM 141).1[19]? = some (.getfield 11005) := by rfl
theorem zi_141_20 : (zM 141).1[20]? = some (.putfield 11006) := by rfl
theorem zi_141_21 : (zM 141).1[21]? = some (.aload 0) := by rfl
theorem zi_141_22 : (zM 141).1[22]? = some (.aload 0) := by rfl
theorem zi_141_23 : (zM 141).1[23]? = some (.getfield 11005) := by rfl
theorem zi_141_24 : (zM 141).1[24]? = some (.invokevirtual 138) := by rfl
theorem zi_141_25 : (zM 141).1[25]? = some (.istore 1) := by rfl
theorem zi_141_26 : (zM 141).1[26]? = some (.aload 0) := by rfl
theorem zi_141_27 : (zM 141).1[27]? = some (.iconst 0) := by rfl
theorem zi_141_28 : (zM 141).1[28]? = some (.putfield 11008) := by rfl
theorem zi_141_29 : (zM 141).1[29]? = some (.iload 1) := by rfl
theorem zi_141_30 : (zM 141).1[30]? = some (.iconst (-4)) := by rfl
theorem zi_141_31 : (zM 141).1[31]? = some (.if_icmp .ne ((36 : Nat) : Int)) := by rfl
theorem zi_141_32 : (zM 141).1[32]? = some (.aload 0) := by rfl
theorem zi_141_33 : (zM 141).1[33]? = some (.iconst 0) := by rfl
theorem zi_141_34 : (zM 141).1[34]? = some (.putfield 11007) := by rfl
theorem zi_141_35 : (zM 141).1[35]? = some (.goto ((151 : Nat) : Int)) := by rfl
theorem zi_141_36 : (zM 141).1[36]? = some (.iload 1) := by rfl
theorem zi_141_37 : (zM 141).1[37]? = some (.i2l) := by rfl
theorem zi_141_38 : (zM 141).1[38]? = some (.jsr_w 97) := by rfl
theorem zi_141_39 : (zM 141).1[39]? = some (.jsr_w 122) := by rfl
theorem zi_141_40 : (zM 141).1[40]? = some (.invokestatic 135) := by rfl
theorem zi_141_41 : (zM 141).1[41]? = some (.ifCond .eq ((77 : Nat) : Int)) := by rfl
theorem zi_141_42 : (zM 141).1[42]? = some (.aload 0) := by rfl
theorem zi_141_43 : (zM 141).1[43]? = some (.aload 0) := by rfl
theorem zi_141_44 : (zM 141).1[44]? = some (.getfield 11005) := by rfl
theorem zi_141_45 : (zM 141).1[45]? = some (.invokevirtual 138) := by rfl
theorem zi_141_46 : (zM 141).1[46]? = some (.i2l) := by rfl
theorem zi_141_47 : (zM 141).1[47]? = some (.jsr_w 97) := by rfl
theorem zi_141_48 : (zM 141).1[48]? = some (.jsr_w 122) := by rfl
theorem zi_141_49 : (zM 141).1[49]? = some (.invokestatic 135) := by rfl
theorem zi_141_50 : (zM 141).1[50]? = some (.ifCond .eq ((58 : Nat) : Int)) := by rfl
theorem zi_141_51 : (zM 141).1[51]? = some (.aload 0) := by rfl
theorem zi_141_52 : (zM 141).1[52]? = some (.dup) := by rfl
theorem zi_141_53 : (zM 141).1[53]? = some (.getfield 11005) := by rfl
theorem zi_141_54 : (zM 141).1[54]? = some (.iconst 1) := by rfl
theorem zi_141_55 : (zM 141).1[55]? = some (.iadd) := by rfl
theorem zi_141_56 : (zM 141).1[56]? = some (.putfield 11005) := by rfl
theorem zi_141_57 : (zM 141).1[57]? = some (.goto ((42 : Nat) : Int)) := by rfl
theorem zi_141_58 : (zM 141).1[58]? = some (.aload 0) := by rfl
theorem zi_141_59 : (zM 141).1[59]? = some (.iconst 1) := by rfl
theorem zi_141_60 : (zM 141).1[60]? = some (.putfield 11007) := by rfl
theorem zi_141_61 : (zM 141).1[61]? = some (.aload 0) := by rfl
theorem zi_141_62 : (zM 141).1[62]? = some (.aload 0) := by rfl
theorem zi_141_63 : (zM 141).1[63]? = some (.aload 0) := by rfl
theorem zi_141_64 : (zM 141).1[64]? = some (.getfield 11006) := by rfl
theorem zi_141_65 : (zM 141).1[65]? = some (.aload 0) := by rfl
theorem zi_141_66 : (zM 141).1[66]? = some (.getfield 11005) := by rfl
theorem zi_141_67 : (zM 141).1[67]? = some (.invokevirtual 140) := by rfl
theorem zi_141_68 : (zM 141).1[68]? = some (.putfield 11008) := by rfl
theorem zi_141_69 : (zM 141).1[69]? = some (.aload 0) := by rfl
theorem zi_141_70 : (zM 141).1[70]? = some (.getfield 11008) := by rfl
theorem zi_141_71 : (zM 141).1[71]? = some (.iconst (-4)) := by rfl
theorem zi_141_72 : (zM 141).1[72]? = some (.if_icmp .ne ((151 : Nat) : Int)) := by rfl
theorem zi_141_73 : (zM 141).1[73]? = some (.aload 0) := by rfl
theorem zi_141_74 : (zM 141).1[74]? = some (.iconst 1) := by rfl
theorem zi_141_75 : (zM 141).1[75]? = some (.invokevirtual 139) := by rfl
theorem zi_141_76 : (zM 141).1[76]? = some (.goto ((151 : Nat) : Int)) := by rfl
theorem zi_141_77 : (zM 141).1[77]? = some (.iload 1) := by rfl
theorem zi_141_78 : (zM 141).1[78]? = some (.i2l) := by rfl
theorem zi_141_79 : (zM 141).1[79]? = some (.jsr_w 48) := by rfl
theorem zi_141_80 : (zM 141).1[80]? = some (.jsr_w 57) := by rfl
theorem zi_141_81 : (zM 141).1[81]? = some (.invokestatic 135) := by rfl
theorem zi_141_82 : (zM 141).1[82]? = some (.ifCond .eq ((136 : Nat) : Int)) := by rfl
theorem zi_141_83 : (zM 141).1[83]? = some (.aload 0) := by rfl
theorem zi_141_84 : (zM 141).1[84]? = some (.aload 0) := by rfl
theorem zi_141_85 : (zM 141).1[85]? = some (.getfield 11005) := by rfl
theorem zi_141_86 : (zM 141).1[86]? = some (.invokevirtual 138) := by rfl
theorem zi_141_87 : (zM 141).1[87]? = some (.i2l) := by rfl
theorem zi_141_88 : (zM 141).1[88]? = some (.jsr_w 48) := by rfl
theorem zi_141_89 : (zM 141).1[89]? = some (.jsr_w 57) := by rfl
theorem zi_141_90 : (zM 141).1[90]? = some (.invokestatic 135) := by rfl
theorem zi_141_91 : (zM 141).1[91]? = some (.ifCond .eq ((122 : Nat) : Int)) := by rfl
theorem zi_141_92 : (zM 141).1[92]? = some (.aload 0) := by rfl
theorem zi_141_93 : (zM 141).1[93]? = some (.aload 0) := by rfl
theorem zi_141_94 : (zM 141).1[94]? = some (.getfield 11005) := by rfl
theorem zi_141_95 : (zM 141).1[95]? = some (.aload 0) := by rfl
theorem zi_141_96 : (zM 141).1[96]? = some (.getfield 11006) := by rfl
theorem zi_141_97 : (zM 141).1[97]? = some (.isub) := by rfl
theorem zi_141_98 : (zM 141).1[98]? = some (.iconst 3) := by rfl
theorem zi_141_99 : (zM 141).1[99]? = some (.if_icmp .ge ((112 : Nat) : Int)) := by rfl
theorem zi_141_100 : (zM 141).1[100]? = some (.iconst 10) := by rfl
theorem zi_141_101 : (zM 141).1[101]? = some (.aload 0) := by rfl
theorem zi_141_102 : (zM 141).1[102]? = some (.getfield 11008) := by rfl
theorem zi_141_103 : (zM 141).1[103]? = some (.imul) := by rfl
theorem zi_141_104 : (zM 141).1[104]? = some (.aload 0) := by rfl
theorem zi_141_105 : (zM 141).1[105]? = some (.aload 0) := by rfl
theorem zi_141_106 : (zM 141).1[106]? = some (.getfield 11005) := by rfl
theorem zi_141_107 : (zM 141).1[107]? = some (.invokevirtual 138) := by rfl
theorem zi_141_108 : (zM 141).1[108]? = some (.iadd) := by rfl
theorem zi_141_109 : (zM 141).1[109]? = some (.iconst 48) := by rfl
theorem zi_141_110 : (zM 141).1[110]? = some (.isub) := by rfl
theorem zi_141_111 : (zM 141).1[111]? = some (.goto ((114 : Nat) : Int)) := by rfl
theorem zi_141_112 : (zM 141).1[112]? = some (.aload 0) := by rfl
theorem zi_141_113 : (zM 141).1[113]? = some (.getfield 11008) := by rfl
theorem zi_141_114 : (zM 141).1[114]? = some (.putfield 11008) := by rfl
theorem zi_141_115 : (zM 141).1[115]? = some (.aload 0) := by rfl
theorem zi_141_116 : (zM 141).1[116]? = some (.dup) := by rfl
theorem zi_141_117 : (zM 141).1[117]? = some (.getfield 11005) := by rfl
theorem zi_141_118 : (zM 141).1[118]? = some (.iconst 1) := by rfl
theorem zi_141_119 : (zM 141).1[119]? = some (.iadd) := by rfl
theorem zi_141_120 : (zM 141).1[120]? = some (.putfield 11005) := by rfl
theorem zi_141_121 : (zM 141).1[121]? = some (.goto ((83 : Nat) : Int)) := by rfl
theorem zi_141_122 : (zM 141).1[122]? = some (.aload 0) := by rfl
theorem zi_141_123 : (zM 141).1[123]? = some (.iconst 2) := by rfl
theorem zi_141_124 : (zM 141).1[124]? = some (.putfield 11007) := by rfl
theorem zi_141_125 : (zM 141).1[125]? = some (.aload 0) := by rfl
theorem zi_141_126 : (zM 141).1[126]? = some (.getfield 11005) := by rfl
theorem zi_141_127 : (zM 141).1[127]? = some (.aload 0) := by rfl
theorem zi_141_128 : (zM 141).1[128]? = some (.getfield 11006) := by rfl
theorem zi_141_129 : (zM 141).1[129]? = some (.isub) := by rfl
theorem zi_141_130 : (zM 141).1[130]? = some (.iconst 3) := by rfl
theorem zi_141_131 : (zM 141).1[131]? = some (.if_icmp .le ((151 : Nat) : Int)) := by rfl
theorem zi_141_132 : (zM 141).1[132]? = some (.aload 0) := by rfl
theorem zi_141_133 : (zM 141).1[133]? = some (.iconst 1) := by rfl
theorem zi_141_134 : (zM 141).1[134]? = some (.invokevirtual 139) := by rfl
theorem zi_141_135 : (zM 141).1[135]? = some (.goto ((151 : Nat) : Int)) := by rfl
theorem zi_141_136 : (zM 141).1[136]? = some (.aload 0) := by rfl
theorem zi_141_137 : (zM 141).1[137]? = some (.iconst 3) := by rfl
theorem zi_141_138 : (zM 141).1[138]? = some (.putfield 11007) := by rfl
theorem zi_141_139 : (zM 141).1[139]? = some (.aload 0) := by rfl
theorem zi_141_140 : (zM 141).1[140]? = some (.dup) := by rfl
theorem zi_141_141 : (zM 141).1[141]? = some (.getfield 11005) := by rfl
theorem zi_141_142 : (zM 141).1[142]? = some (.iconst 1) := by rfl
theorem zi_141_143 : (zM 141).1[143]? = some (.iadd) := by rfl
theorem zi_141_144 : (zM 141).1[144]? = some (.putfield 11005) := by rfl
theorem zi_141_145 : (zM 141).1[145]? = some (.iload 1) := by rfl
theorem zi_141_146 : (zM 141).1[146]? = some (.iconst 59) := by rfl
theorem zi_141_147 : (zM 141).1[147]? = some (.if_icmp .eq ((151 : Nat) : Int)) := by rfl
theorem zi_141_148 : (zM 141).1[148]? = some (.aload 0) := by rfl
theorem zi_141_149 : (zM 141).1[149]? = some (.iconst 1) := by rfl
theorem zi_141_150 : (zM 141).1[150]? = some (.invokevirtual 139) := by rfl
theorem zi_141_151 : (zM 141).1[151]? = some (.return_) := by rfl
def wb_141_122 (E : Nat → Nat) (d : Nat) (Q : Option Value → ZH → Prop) (a0 : Nat) (h : ZH) : Prop := ztag h a0 = 11 ∧ ∀ h12 : ZH, h12 = (zuI h a0 7 2) → ((((zI h12 a0 5) - (zI h12 a0 6) : Int32) ≤ 3 → (Q none h12)) ∧ (¬ (((zI h12 a0 5) - (zI h12 a0 6) : Int32) ≤ 3) → (Ct E d 139 [.ref a0, .int 1] h12 (fun v h13 => v = none ∧ Q none h13))))
set_option maxRecDepth 20000 in
theorem okb_141_122 {E : Nat → Nat} {d : Nat} {Q : Option Value → ZH → Prop} {a0 : Nat} {h : ZH} (hw : wb_141_122 E d Q a0 h) : Gx E (d + 1) 141 122 [.ref a0, .retAddr 0] [] h Q := by
  unfold wb_141_122 at hw
  refine zg_aload zi_141_122 rfl ?_
  refine zg_const (v := 2) zi_141_123 (by rfl) ?_
  obtain ⟨t11, hw⟩ := hw
  refine zg_putI (h1 := zuI h a0 7 2) zi_141_124 t11 (by rfl) rfl ?_
  refine zg_nameH fun h12 eh12 => ?_
  have hw := hw h12 eh12
  refine zg_aload zi_141_125 rfl ?_
  refine zg_getI (v := .int (zI h12 a0 5)) zi_141_126 (by rw [eh12]; exact t11) (by rfl) rfl ?_
  refine zg_aload zi_141_127 rfl ?_
  refine zg_getI (v := .int (zI h12 a0 6)) zi_141_128 (by rw [eh12]; exact t11) (by rfl) rfl ?_
  refine zg_isub zi_141_129 ?_
  refine zg_const (v := 3) zi_141_130 (by rfl) ?_
  refine zg_icmp_le zi_141_131 (fun hc => ?_) (fun hc => ?_)
  · have hw := hw.1 hc
    exact zg_return zi_141_151 hw
  · have hw := hw.2 hc
    refine zg_aload zi_141_132 rfl ?_
    refine zg_const (v := 1) zi_141_133 (by rfl) ?_
    refine Gx.call2 (as := [.ref a0, .int 1]) (rest := []) zq_139 zi_141_134 rfl rfl rfl (Nat.le_of_ble_eq_true rfl) (Nat.le_of_ble_eq_true rfl) (zrv_v (by rw [eh12]; exact t11) rfl rfl) (Nat.le_of_ble_eq_true rfl) ?_
    refine Ct.mono hw ?_
    rintro v h13 ⟨rfl, hw⟩
    show Gx E (d + 1) 141 135 [.ref a0, .retAddr 0] [] h13 Q
    refine zg_goto zi_141_135 ?_
    exact zg_return zi_141_151 hw
def wl_141_83 (E : Nat → Nat) (d : Nat) (Q : Option Value → ZH → Prop) : Nat → Nat → ZH → Prop
  | 0, _, _ => False
  | n + 1, a0, h => ztag h a0 = 11 ∧ 1 ≤ d ∧ sz_138 E h a0 (zI h a0 5) ∧ 1 ≤ d ∧ sz_135 E h ((fz_138 E h a0 (zI h a0 5) : Int32).toInt64) 48 57 ∧ (((fz_135 E h ((fz_138 E h a0 (zI h a0 5) : Int32).toInt64) 48 57 : Int32) = 0 → (wb_141_122 E d Q a0 h)) ∧ (¬ ((fz_135 E h ((fz_138 E h a0 (zI h a0 5) : Int32).toInt64) 48 57 : Int32) = 0) → (((3 ≤ ((zI h a0 5) - (zI h a0 6) : Int32) → (True)) ∧ (¬ (3 ≤ ((zI h a0 5) - (zI h a0 6) : Int32)) → (1 ≤ d ∧ sz_138 E h a0 (zI h a0 5) ∧ True))) ∧ ∀ h14 : ZH, h14 = (zuI h a0 8 (if 3 ≤ ((zI h a0 5) - (zI h a0 6) : Int32) then zI h a0 8 else ((10 * (zI h a0 8)) + (fz_138 E h a0 (zI h a0 5))) - 48)) → ∀ h15 : ZH, h15 = (zuI h14 a0 5 ((zI h14 a0 5) + 1)) → wl_141_83 E d Q n a0 h15)))
set_option maxRecDepth 20000 in
theorem okl_141_83 {E : Nat → Nat} {d : Nat} {Q : Option Value → ZH → Prop} : ∀ (n : Nat) (a0 : Nat) (h : ZH), wl_141_83 E d Q n a0 h → Gx E (d + 1) 141 83 [.ref a0, .retAddr 0] [] h Q := by
  intro n
  induction n with
  | zero => intro a0 h hw; exact hw.elim
  | succ n ih =>
    intro a0 h hw
    rw [wl_141_83] at hw
    refine zg_aload zi_141_83 rfl ?_
    refine zg_aload zi_141_84 rfl ?_
    obtain ⟨t10, hw⟩ := hw
    refine zg_getI (v := .int (zI h a0 5)) zi_141_85 t10 (by rfl) rfl ?_
    obtain ⟨hd, hs, hw⟩ := hw
    refine Gx.call2 (as := [.ref a0, .int (zI h a0 5)]) (rest := []) zq_138 zi_141_86 rfl rfl rfl (Nat.le_of_ble_eq_true rfl) (Nat.le_of_ble_eq_true rfl) (zrv_v t10 rfl rfl) (Nat.le_of_ble_eq_true rfl) ?_
    refine cz_138 hd hs ?_
    show Gx E (d + 1) 141 87 [.ref a0, .retAddr 0] [.int (fz_138 E h a0 (zI h a0 5))] h Q
    refine zg_i2l zi_141_87 ?_
    refine zg_lconst (v := 48) zi_141_88 (by rfl) ?_
    refine zg_lconst (v := 57) zi_141_89 (by rfl) ?_
    obtain ⟨hd, hs, hw⟩ := hw
    refine Gx.call2 (as := [.long ((fz_138 E h a0 (zI h a0 5) : Int32).toInt64), .long 48, .long 57]) (rest := []) zq_135 zi_141_90 rfl rfl rfl (Nat.le_of_ble_eq_true rfl) (Nat.le_of_ble_eq_true rfl) (rfl) (Nat.le_of_ble_eq_true rfl) ?_
    refine cz_135 hd hs ?_
    show Gx E (d + 1) 141 91 [.ref a0, .retAddr 0] [.int (fz_135 E h ((fz_138 E h a0 (zI h a0 5) : Int32).toInt64) 48 57)] h Q
    refine zg_if_eq zi_141_91 (fun hc => ?_) (fun hc => ?_)
    · have hw := hw.1 hc
      exact okb_141_122 hw
    · have hw := hw.2 hc
      refine zg_aload zi_141_92 rfl ?_
      refine zg_aload zi_141_93 rfl ?_
      refine zg_getI (v := .int (zI h a0 5)) zi_141_94 t10 (by rfl) rfl ?_
      refine zg_aload zi_141_95 rfl ?_
      refine zg_getI (v := .int (zI h a0 6)) zi_141_96 t10 (by rfl) rfl ?_
      refine zg_isub zi_141_97 ?_
      refine zg_const (v := 3) zi_141_98 (by rfl) ?_
      obtain ⟨hsd99, hw⟩ := hw
      have g99 : Gx E (d + 1) 141 114 [.ref a0, .retAddr 0] [.int (if 3 ≤ ((zI h a0 5) - (zI h a0 6) : Int32) then zI h a0 8 else ((10 * (zI h a0 8)) + (fz_138 E h a0 (zI h a0 5))) - 48), .ref a0] h Q := by
        refine zg_putI (h1 := zuI h a0 8 (if 3 ≤ ((zI h a0 5) - (zI h a0 6) : Int32) then zI h a0 8 else ((10 * (zI h a0 8)) + (fz_138 E h a0 (zI h a0 5))) - 48)) zi_141_114 t10 (by rfl) rfl ?_
        refine zg_nameH fun h14 eh14 => ?_
        have hw := hw h14 eh14
        refine zg_aload zi_141_115 rfl ?_
        refine zg_dup zi_141_116 rfl ?_
        refine zg_getI (v := .int (zI h14 a0 5)) zi_141_117 (by rw [eh14]; exact t10) (by rfl) rfl ?_
        refine zg_const (v := 1) zi_141_118 (by rfl) ?_
        refine zg_iadd zi_141_119 ?_
        refine zg_putI (h1 := zuI h14 a0 5 ((zI h14 a0 5) + 1)) zi_141_120 (by rw [eh14]; exact t10) (by rfl) rfl ?_
        refine zg_nameH fun h15 eh15 => ?_
        have hw := hw h15 eh15
        refine zg_goto zi_141_121 ?_
        exact ih a0 h15 hw
      refine zg_icmp_ge zi_141_99 (fun hc99 => ?_) (fun hc99 => ?_)
      · have hw := hsd99.1 hc99
        refine zg_aload zi_141_112 rfl ?_
        refine zg_getI (v := .int (zI h a0 8)) zi_141_113 t10 (by rfl) rfl ?_
        have hg := g99
        simp only [if_pos hc99] at hg
        exact hg
      · have hw := hsd99.2 hc99
        refine zg_const (v := 10) zi_141_100 (by rfl) ?_
        refine zg_aload zi_141_101 rfl ?_
        refine zg_getI (v := .int (zI h a0 8)) zi_141_102 t10 (by rfl) rfl ?_
        refine zg_imul zi_141_103 ?_
        refine zg_aload zi_141_104 rfl ?_
        refine zg_aload zi_141_105 rfl ?_
        refine zg_getI (v := .int (zI h a0 5)) zi_141_106 t10 (by rfl) rfl ?_
        obtain ⟨hd, hs, hw⟩ := hw
        refine Gx.call2 (as := [.ref a0, .int (zI h a0 5)]) (rest := [.int (10 * (zI h a0 8)), .ref a0]) zq_138 zi_141_107 rfl rfl rfl (Nat.le_of_ble_eq_true rfl) (Nat.le_of_ble_eq_true rfl) (zrv_v t10 rfl rfl) (Nat.le_of_ble_eq_true rfl) ?_
        refine cz_138 hd hs ?_
        show Gx E (d + 1) 141 108 [.ref a0, .retAddr 0] [.int (fz_138 E h a0 (zI h a0 5)), .int (10 * (zI h a0 8)), .ref a0] h Q
        refine zg_iadd zi_141_108 ?_
        refine zg_const (v := 48) zi_141_109 (by rfl) ?_
        refine zg_isub zi_141_110 ?_
        refine zg_goto zi_141_111 ?_
        have hg := g99
        simp only [if_neg hc99] at hg
        exact hg
def wb_141_58 (E : Nat → Nat) (d : Nat) (Q : Option Value → ZH → Prop) (a0 : Nat) (h : ZH) : Prop := ztag h a0 = 11 ∧ ∀ h18 : ZH, h18 = (zuI h a0 7 1) → Ct E d 140 [.ref a0, .int (zI h18 a0 6), .int (zI h18 a0 5)] h18 (fun v h19 => ∃ x20 : Int32, v = some (.int x20) ∧ ztag h19 a0 = 11 ∧ ∀ h22 : ZH, h22 = (zuI h19 a0 8 x20) → ((¬ (zI h22 a0 8 : Int32) = ((-4) : Int32) → (Q none h22)) ∧ (¬ (¬ (zI h22 a0 8 : Int32) = ((-4) : Int32)) → (Ct E d 139 [.ref a0, .int 1] h22 (fun v h23 => v = none ∧ Q none h23)))))
set_option maxRecDepth 20000 in
theorem okb_141_58 {E : Nat → Nat} {d : Nat} {Q : Option Value → ZH → Prop} {a0 : Nat} {h : ZH} (hw : wb_141_58 E d Q a0 h) : Gx E (d + 1) 141 58 [.ref a0, .retAddr 0] [] h Q := by
  unfold wb_141_58 at hw
  refine zg_aload zi_141_58 rfl ?_
  refine zg_const (v := 1) zi_141_59 (by rfl) ?_
  obtain ⟨t17, hw⟩ := hw
  refine zg_putI (h1 := zuI h a0 7 1) zi_141_60 t17 (by rfl) rfl ?_
  refine zg_nameH fun h18 eh18 => ?_
  have hw := hw h18 eh18
  refine zg_aload zi_141_61 rfl ?_
  refine zg_aload zi_141_62 rfl ?_
  refine zg_aload zi_141_63 rfl ?_
  refine zg_getI (v := .int (zI h18 a0 6)) zi_141_64 (by rw [eh18]; exact t17) (by rfl) rfl ?_
  refine zg_aload zi_141_65 rfl ?_
  refine zg_getI (v := .int (zI h18 a0 5)) zi_141_66 (by rw [eh18]; exact t17) (by rfl) rfl ?_
  refine Gx.call2 (as := [.ref a0, .int (zI h18 a0 6), .int (zI h18 a0 5)]) (rest := [.ref a0]) zq_140 zi_141_67 rfl rfl rfl (Nat.le_of_ble_eq_true rfl) (Nat.le_of_ble_eq_true rfl) (zrv_v (by rw [eh18]; exact t17) rfl rfl) (Nat.le_of_ble_eq_true rfl) ?_
  refine Ct.mono hw ?_
  rintro v h19 ⟨x20, rfl, hw⟩
  show Gx E (d + 1) 141 68 [.ref a0, .retAddr 0] [.int x20, .ref a0] h19 Q
  obtain ⟨t21, hw⟩ := hw
  refine zg_putI (h1 := zuI h19 a0 8 x20) zi_141_68 t21 (by rfl) rfl ?_
  refine zg_nameH fun h22 eh22 => ?_
  have hw := hw h22 eh22
  refine zg_aload zi_141_69 rfl ?_
  refine zg_getI (v := .int (zI h22 a0 8)) zi_141_70 (by rw [eh22]; exact t21) (by rfl) rfl ?_
  refine zg_const (v := (-4)) zi_141_71 (by rfl) ?_
  refine zg_icmp_ne zi_141_72 (fun hc => ?_) (fun hc => ?_)
  · have hw := hw.1 hc
    exact zg_return zi_141_151 hw
  · have hw := hw.2 hc
    refine zg_aload zi_141_73 rfl ?_
    refine zg_const (v := 1) zi_141_74 (by rfl) ?_
    refine Gx.call2 (as := [.ref a0, .int 1]) (rest := []) zq_139 zi_141_75 rfl rfl rfl (Nat.le_of_ble_eq_true rfl) (Nat.le_of_ble_eq_true rfl) (zrv_v (by rw [eh22]; exact t21) rfl rfl) (Nat.le_of_ble_eq_true rfl) ?_
    refine Ct.mono hw ?_
    rintro v h23 ⟨rfl, hw⟩
    show Gx E (d + 1) 141 76 [.ref a0, .retAddr 0] [] h23 Q
    refine zg_goto zi_141_76 ?_
    exact zg_return zi_141_151 hw
def wl_141_42 (E : Nat → Nat) (d : Nat) (Q : Option Value → ZH → Prop) : Nat → Nat → ZH → Prop
  | 0, _, _ => False
  | n + 1, a0, h => ztag h a0 = 11 ∧ 1 ≤ d ∧ sz_138 E h a0 (zI h a0 5) ∧ 1 ≤ d ∧ sz_135 E h ((fz_138 E h a0 (zI h a0 5) : Int32).toInt64) 97 122 ∧ (((fz_135 E h ((fz_138 E h a0 (zI h a0 5) : Int32).toInt64) 97 122 : Int32) = 0 → (wb_141_58 E d Q a0 h)) ∧ (¬ ((fz_135 E h ((fz_138 E h a0 (zI h a0 5) : Int32).toInt64) 97 122 : Int32) = 0) → (∀ h24 : ZH, h24 = (zuI h a0 5 ((zI h a0 5) + 1)) → wl_141_42 E d Q n a0 h24)))
set_option maxRecDepth 20000 in
theorem okl_141_42 {E : Nat → Nat} {d : Nat} {Q : Option Value → ZH → Prop} : ∀ (n : Nat) (a0 : Nat) (h : ZH), wl_141_42 E d Q n a0 h → Gx E (d + 1) 141 42 [.ref a0, .retAddr 0] [] h Q := by
  intro n
  induction n with
  | zero => intro a0 h hw; exact hw.elim
  | succ n ih =>
    intro a0 h hw
    rw [wl_141_42] at hw
    refine zg_aload zi_141_42 rfl ?_
    refine zg_aload zi_141_43 rfl ?_
    obtain ⟨t16, hw⟩ := hw
    refine zg_getI (v := .int (zI h a0 5)) zi_141_44 t16 (by rfl) rfl ?_
    obtain ⟨hd, hs, hw⟩ := hw
    refine Gx.call2 (as := [.ref a0, .int (zI h a0 5)]) (rest := []) zq_138 zi_141_45 rfl rfl rfl (Nat.le_of_ble_eq_true rfl) (Nat.le_of_ble_eq_true rfl) (zrv_v t16 rfl rfl) (Nat.le_of_ble_eq_true rfl) ?_
    refine cz_138 hd hs ?_
    show Gx E (d + 1) 141 46 [.ref a0, .retAddr 0] [.int (fz_138 E h a0 (zI h a0 5))] h Q
    refine zg_i2l zi_141_46 ?_
    refine zg_lconst (v := 97) zi_141_47 (by rfl) ?_
    refine zg_lconst (v := 122) zi_141_48 (by rfl) ?_
    obtain ⟨hd, hs, hw⟩ := hw
    refine Gx.call2 (as := [.long ((fz_138 E h a0 (zI h a0 5) : Int32).toInt64), .long 97, .long 122]) (rest := []) zq_135 zi_141_49 rfl rfl rfl (Nat.le_of_ble_eq_true rfl) (Nat.le_of_ble_eq_true rfl) (rfl) (Nat.le_of_ble_eq_true rfl) ?_
    refine cz_135 hd hs ?_
    show Gx E (d + 1) 141 50 [.ref a0, .retAddr 0] [.int (fz_135 E h ((fz_138 E h a0 (zI h a0 5) : Int32).toInt64) 97 122)] h Q
    refine zg_if_eq zi_141_50 (fun hc => ?_) (fun hc => ?_)
    · have hw := hw.1 hc
      exact okb_141_58 hw
    · have hw := hw.2 hc
      refine zg_aload zi_141_51 rfl ?_
      refine zg_dup zi_141_52 rfl ?_
      refine zg_getI (v := .int (zI h a0 5)) zi_141_53 t16 (by rfl) rfl ?_
      refine zg_const (v := 1) zi_141_54 (by rfl) ?_
      refine zg_iadd zi_141_55 ?_
      refine zg_putI (h1 := zuI h a0 5 ((zI h a0 5) + 1)) zi_141_56 t16 (by rfl) rfl ?_
      refine zg_nameH fun h24 eh24 => ?_
      have hw := hw h24 eh24
      refine zg_goto zi_141_57 ?_
      exact ih a0 h24 hw
def wb_141_17 (E : Nat → Nat) (d : Nat) (Q : Option Value → ZH → Prop) (a0 : Nat) (h : ZH) : Prop := ztag h a0 = 11 ∧ ∀ h4 : ZH, h4 = (zuI h a0 6 (zI h a0 5)) → 1 ≤ d ∧ sz_138 E h4 a0 (zI h4 a0 5) ∧ ∀ x5 : Int32, x5 = (fz_138 E h4 a0 (zI h4 a0 5)) → ∀ h6 : ZH, h6 = (zuI h4 a0 8 0) → ((¬ x5 = ((-4) : Int32) → (1 ≤ d ∧ sz_135 E h6 x5.toInt64 97 122 ∧ (((fz_135 E h6 x5.toInt64 97 122 : Int32) = 0 → (1 ≤ d ∧ sz_135 E h6 x5.toInt64 48 57 ∧ (((fz_135 E h6 x5.toInt64 48 57 : Int32) = 0 → (∀ h7 : ZH, h7 = (zuI h6 a0 7 3) → ∀ h8 : ZH, h8 = (zuI h7 a0 5 ((zI h7 a0 5) + 1)) → ((x5 = 59 → (Q none h8)) ∧ (¬ (x5 = 59) → (Ct E d 139 [.ref a0, .int 1] h8 (fun v h9 => v = none ∧ Q none h9)))))) ∧ (¬ ((fz_135 E h6 x5.toInt64 48 57 : Int32) = 0) → (∃ mm : Nat, wl_141_83 E d Q mm a0 h6))))) ∧ (¬ ((fz_135 E h6 x5.toInt64 97 122 : Int32) = 0) → (∃ mm : Nat, wl_141_42 E d Q mm a0 h6))))) ∧ (¬ (¬ x5 = ((-4) : Int32)) → (∀ h25 : ZH, h25 = (zuI h6 a0 7 0) → Q none h25)))
set_option maxRecDepth 20000 in
theorem okb_141_17 {E : Nat → Nat} {d : Nat} {Q : Option Value → ZH → Prop} {a0 : Nat} {h : ZH} (hw : wb_141_17 E d Q a0 h) : Gx E (d + 1) 141 17 [.ref a0, .retAddr 0] [] h Q := by
  unfold wb_141_17 at hw
  refine zg_aload zi_141_17 rfl ?_
  refine zg_aload zi_141_18 rfl ?_
  obtain ⟨t3, hw⟩ := hw
  refine zg_getI (v := .int (zI h a0 5)) zi_141_19 t3 (by rfl) rfl ?_
  refine zg_putI (h1 := zuI h a0 6 (zI h a0 5)) zi_141_20 t3 (by rfl) rfl ?_
  refine zg_nameH fun h4 eh4 => ?_
  have hw := hw h4 eh4
  refine zg_aload zi_141_21 rfl ?_
  refine zg_aload zi_141_22 rfl ?_
  refine zg_getI (v := .int (zI h4 a0 5)) zi_141_23 (by rw [eh4]; exact t3) (by rfl) rfl ?_
  obtain ⟨hd, hs, hw⟩ := hw
  refine Gx.call2 (as := [.ref a0, .int (zI h4 a0 5)]) (rest := []) zq_138 zi_141_24 rfl rfl rfl (Nat.le_of_ble_eq_true rfl) (Nat.le_of_ble_eq_true rfl) (zrv_v (by rw [eh4]; exact t3) rfl rfl) (Nat.le_of_ble_eq_true rfl) ?_
  refine cz_138 hd hs ?_
  show Gx E (d + 1) 141 25 [.ref a0, .retAddr 0] [.int (fz_138 E h4 a0 (zI h4 a0 5))] h4 Q
  refine zg_nameI fun x5 ex5 => ?_
  have hw := hw x5 ex5
  refine zg_istore (ls1 := [.ref a0, .int x5]) zi_141_25 (Nat.le_of_ble_eq_true rfl) rfl ?_
  refine zg_aload zi_141_26 rfl ?_
  refine zg_const (v := 0) zi_141_27 (by rfl) ?_
  refine zg_putI (h1 := zuI h4 a0 8 0) zi_141_28 (by rw [eh4]; exact t3) (by rfl) rfl ?_
  refine zg_nameH fun h6 eh6 => ?_
  have hw := hw h6 eh6
  refine zg_iload zi_141_29 rfl ?_
  refine zg_const (v := (-4)) zi_141_30 (by rfl) ?_
  refine zg_icmp_ne zi_141_31 (fun hc => ?_) (fun hc => ?_)
  · have hw := hw.1 hc
    refine zg_iload zi_141_36 rfl ?_
    refine zg_i2l zi_141_37 ?_
    refine zg_lconst (v := 97) zi_141_38 (by rfl) ?_
    refine zg_lconst (v := 122) zi_141_39 (by rfl) ?_
    obtain ⟨hd, hs, hw⟩ := hw
    refine Gx.call2 (as := [.long x5.toInt64, .long 97, .long 122]) (rest := []) zq_135 zi_141_40 rfl rfl rfl (Nat.le_of_ble_eq_true rfl) (Nat.le_of_ble_eq_true rfl) (rfl) (Nat.le_of_ble_eq_true rfl) ?_
    refine cz_135 hd hs ?_
    show Gx E (d + 1) 141 41 [.ref a0, .int x5] [.int (fz_135 E h6 x5.toInt64 97 122)] h6 Q
    refine zg_if_eq zi_141_41 (fun hc => ?_) (fun hc => ?_)
    · have hw := hw.1 hc
      refine zg_iload zi_141_77 rfl ?_
      refine zg_i2l zi_141_78 ?_
      refine zg_lconst (v := 48) zi_141_79 (by rfl) ?_
      refine zg_lconst (v := 57) zi_141_80 (by rfl) ?_
      obtain ⟨hd, hs, hw⟩ := hw
      refine Gx.call2 (as := [.long x5.toInt64, .long 48, .long 57]) (rest := []) zq_135 zi_141_81 rfl rfl rfl (Nat.le_of_ble_eq_true rfl) (Nat.le_of_ble_eq_true rfl) (rfl) (Nat.le_of_ble_eq_true rfl) ?_
      refine cz_135 hd hs ?_
      show Gx E (d + 1) 141 82 [.ref a0, .int x5] [.int (fz_135 E h6 x5.toInt64 48 57)] h6 Q
      refine zg_if_eq zi_141_82 (fun hc => ?_) (fun hc => ?_)
      · have hw := hw.1 hc
        refine zg_aload zi_141_136 rfl ?_
        refine zg_const (v := 3) zi_141_137 (by rfl) ?_
        refine zg_putI (h1 := zuI h6 a0 7 3) zi_141_138 (by rw [eh6, eh4]; exact t3) (by rfl) rfl ?_
        refine zg_nameH fun h7 eh7 => ?_
        have hw := hw h7 eh7
        refine zg_aload zi_141_139 rfl ?_
        refine zg_dup zi_141_140 rfl ?_
        refine zg_getI (v := .int (zI h7 a0 5)) zi_141_141 (by rw [eh7, eh6, eh4]; exact t3) (by rfl) rfl ?_
        refine zg_const (v := 1) zi_141_142 (by rfl) ?_
        refine zg_iadd zi_141_143 ?_
        refine zg_putI (h1 := zuI h7 a0 5 ((zI h7 a0 5) + 1)) zi_141_144 (by rw [eh7, eh6, eh4]; exact t3) (by rfl) rfl ?_
        refine zg_nameH fun h8 eh8 => ?_
        have hw := hw h8 eh8
        refine zg_iload zi_141_145 rfl ?_
        refine zg_const (v := 59) zi_141_146 (by rfl) ?_
        refine zg_icmp_eq zi_141_147 (fun hc => ?_) (fun hc => ?_)
        · have hw := hw.1 hc
          exact zg_return zi_141_151 hw
        · have hw := hw.2 hc
          refine zg_aload zi_141_148 rfl ?_
          refine zg_const (v := 1) zi_141_149 (by rfl) ?_
          refine Gx.call2 (as := [.ref a0, .int 1]) (rest := []) zq_139 zi_141_150 rfl rfl rfl (Nat.le_of_ble_eq_true rfl) (Nat.le_of_ble_eq_true rfl) (zrv_v (by rw [eh8, eh7, eh6, eh4]; exact t3) rfl rfl) (Nat.le_of_ble_eq_true rfl) ?_
          refine Ct.mono hw ?_
          rintro v h9 ⟨rfl, hw⟩
          show Gx E (d + 1) 141 151 [.ref a0, .int x5] [] h9 Q
          exact zg_return zi_141_151 hw
      · have hw := hw.2 hc
        obtain ⟨mm, hw⟩ := hw
        exact Gx.forget (zrk (zrd zr0)) (okl_141_83 mm a0 h6 hw)
    · have hw := hw.2 hc
      obtain ⟨mm, hw⟩ := hw
      exact Gx.forget (zrk (zrd zr0)) (okl_141_42 mm a0 h6 hw)
  · have hw := hw.2 hc
    refine zg_aload zi_141_32 rfl ?_
    refine zg_const (v := 0) zi_141_33 (by rfl) ?_
    refine zg_putI (h1 := zuI h6 a0 7 0) zi_141_34 (by rw [eh6, eh4]; exact t3) (by rfl) rfl ?_
    refine zg_nameH fun h25 eh25 => ?_
    have hw := hw h25 eh25
    refine zg_goto zi_141_35 ?_
    exact zg_return zi_141_151 hw
def wl_141_4 (E : Nat → Nat) (d : Nat) (Q : Option Value → ZH → Prop) : Nat → Nat → ZH → Prop
  | 0, _, _ => False
  | n + 1, a0, h => ztag h a0 = 11 ∧ 1 ≤ d ∧ sz_138 E h a0 (zI h a0 5) ∧ ((¬ (fz_138 E h a0 (zI h a0 5) : Int32) = 32 → (wb_141_17 E d Q a0 h)) ∧ (¬ (¬ (fz_138 E h a0 (zI h a0 5) : Int32) = 32) → (∀ h26 : ZH, h26 = (zuI h a0 5 ((zI h a0 5) + 1)) → wl_141_4 E d Q n a0 h26)))
set_option maxRecDepth 20000 in
theorem okl_141_4 {E : Nat → Nat} {d : Nat} {Q : Option Value → ZH → Prop} : ∀ (n : Nat) (a0 : Nat) (h : ZH), wl_141_4 E d Q n a0 h → Gx E (d + 1) 141 4 [.ref a0, .retAddr 0] [] h Q := by
  intro n
  induction n with
  | zero => intro a0 h hw; exact hw.elim
  | succ n ih =>
    intro a0 h hw
    rw [wl_141_4] at hw
    refine zg_aload zi_141_4 rfl ?_
    refine zg_aload zi_141_5 rfl ?_
    obtain ⟨t2, hw⟩ := hw
    refine zg_getI (v := .int (zI h a0 5)) zi_141_6 t2 (by rfl) rfl ?_
    obtain ⟨hd, hs, hw⟩ := hw
    refine Gx.call2 (as := [.ref a0, .int (zI h a0 5)]) (rest := []) zq_138 zi_141_7 rfl rfl rfl (Nat.le_of_ble_eq_true rfl) (Nat.le_of_ble_eq_true rfl) (zrv_v t2 rfl rfl) (Nat.le_of_ble_eq_true rfl) ?_
    refine cz_138 hd hs ?_
    show Gx E (d + 1) 141 8 [.ref a0, .retAddr 0] [.int (fz_138 E h a0 (zI h a0 5))] h Q
    refine zg_const (v := 32) zi_141_8 (by rfl) ?_
    refine zg_icmp_ne zi_141_9 (fun hc => ?_) (fun hc => ?_)
    · have hw := hw.1 hc
      exact okb_141_17 hw
    · have hw := hw.2 hc
      refine zg_aload zi_141_10 rfl ?_
      refine zg_dup zi_141_11 rfl ?_
      refine zg_getI (v := .int (zI h a0 5)) zi_141_12 t2 (by rfl) rfl ?_
      refine zg_const (v := 1) zi_141_13 (by rfl) ?_
      refine zg_iadd zi_141_14 ?_
      refine zg_putI (h1 := zuI h a0 5 ((zI h a0 5) + 1)) zi_141_15 t2 (by rfl) rfl ?_
      refine zg_nameH fun h26 eh26 => ?_
      have hw := hw h26 eh26
      refine zg_goto zi_141_16 ?_
      exact ih a0 h26 hw
/-- TakeOrPayModel.next()V -/
def w_141 (E : Nat → Nat) (d : Nat) (a0 : Nat) (h : ZH) (Q : Option Value → ZH → Prop) : Prop := ztag h a0 = 11 ∧ (((zI h a0 3 : Int32) ≤ 0 → (∃ mm : Nat, wl_141_4 E d Q mm a0 h)) ∧ (¬ ((zI h a0 3 : Int32) ≤ 0) → (Q none h)))
set_option maxRecDepth 20000 in
theorem ok_141 {E : Nat → Nat} {d : Nat} {a0 : Nat} {h : ZH} {Q : Option Value → ZH → Prop} (hw : w_141 E d a0 h Q) : Ct E (d + 1) 141 [.ref a0] h Q := by
  unfold w_141 at hw
  show Gx E (d + 1) 141 0 [.ref a0, .retAddr 0] [] h Q
  refine zg_aload zi_141_0 rfl ?_
  obtain ⟨t1, hw⟩ := hw
  refine zg_getI (v := .int (zI h a0 3)) zi_141_1 t1 (by rfl) rfl ?_
  refine zg_if_le zi_141_2 (fun hc => ?_) (fun hc => ?_)
  · have hw := hw.1 hc
    obtain ⟨mm, hw⟩ := hw
    exact okl_141_4 mm a0 h hw
  · have hw := hw.2 hc
    exact zg_return zi_141_3 hw
theorem zq_142 : zQ 142 3 3 11 := by unfold zQ; decide +kernel
theorem zi_142_0 : (zM 142).1[0]? = some (.aload 0) := by rfl
theorem zi_142_1 : (zM 142).1[1]? = some (.getfield 11003) := by rfl
theorem zi_142_2 : (zM 142).1[2]? = some (.ifCond .ne ((10 : Nat) : Int)) := by rfl
theorem zi_142_3 : (zM 142).1[3]? = some (.aload 0) := by rfl
theorem zi_142_4 : (zM 142).1[4]? = some (.getfield 11007) := by rfl
theorem zi_142_5 : (zM 142).1[5]? = some (.iconst 2) := by rfl
theorem zi_142_6 : (zM 142).1[6]? = some (.if_icmp .eq ((10 : Nat) : Int)) := by rfl
theorem zi_142_7 : (zM 142).1[7]? = some (.aload 0) := by rfl
theorem zi_142_8 : (zM 142).1[8]? = some (.iconst 2) := by rfl
theorem zi_142_9 : (zM 142).1[9]? = some (.invokevirtual 139) := by rfl
theorem zi_142_10 : (zM 142).1[10]? = some (.aload 0) := by rfl
theorem zi_142_11 : (zM 142).1[11]? = some (.getfield 11003) := by rfl
theorem zi_142_12 : (zM 142).1[12]? = some (.ifCond .ne ((25 : Nat) : Int)) := by rfl
theorem zi_142_13 : (zM 142).1[13]? = some (.aload 0) := by rfl
theorem zi_142_14 : (zM 142).1[14]? = some (.getfield 11008) := by rfl
theorem zi_142_15 : (zM 142).1[15]? = some (.i2l) := by rfl
theorem zi_142_16 : (zM 142).1[16]? = some (.iload 1) := by rfl
theorem zi_142_17 : (zM 142).1[17]? = some (.i2l) := by rfl
theorem zi_142_18 : (zM 142).1[18]? = some (.iload 2) := by rfl
theorem zi_142_19 : (zM 142).1[19]? = some (.i2l) := by rfl
theorem zi_142_20 : (zM 142).1[20]? = some (.invokestatic 135) := by rfl
theorem zi_142_21 : (zM 142).1[21]? = some (.ifCond .ne ((25 : Nat) : Int)) := by rfl
theorem zi_142_22 : (zM 142).1[22]? = some (.aload 0) := by rfl
theorem zi_142_23 : (zM 142).1[23]? = some (.iconst 3) := by rfl
theorem zi_142_24 : (zM 142).1[24]? = some (.invokevirtual 139) := by rfl
theorem zi_142_25 : (zM 142).1[25]? = some (.aload 0) := by rfl
theorem zi_142_26 : (zM 142).1[26]? = some (.getfield 11003) := by rfl
theorem zi_142_27 : (zM 142).1[27]? = some (.ifCond .ne ((31 : Nat) : Int)) := by rfl
theorem zi_142_28 : (zM 142).1[28]? = some (.aload 0) := by rfl
theorem zi_142_29 : (zM 142).1[29]? = some (.getfield 11008) := by rfl
theorem zi_142_30 : (zM 142).1[30]? = some (.goto ((32 : Nat) : Int)) := by rfl
theorem zi_142_31 : (zM 142).1[31]? = some (.iload 1) := by rfl
theorem zi_142_32 : (zM 142).1[32]? = some (.ireturn) := by rfl
def wb_142_25 (E : Nat → Nat) (d : Nat) (Q : Option Value → ZH → Prop) (a0 : Nat) (a1 : Int32) (h : ZH) : Prop := ztag h a0 = 11 ∧ Q (some (.int (if ¬ (zI h a0 3 : Int32) = 0 then a1 else zI h a0 8))) h
set_option maxRecDepth 20000 in
theorem okb_142_25 {E : Nat → Nat} {d : Nat} {Q : Option Value → ZH → Prop} {a0 : Nat} {a1 : Int32} {h : ZH} (hw : wb_142_25 E d Q a0 a1 h) : Gx E (d + 1) 142 25 [.ref a0, .int a1, .retAddr 0] [] h Q := by
  unfold wb_142_25 at hw
  refine zg_aload zi_142_25 rfl ?_
  obtain ⟨t3, hw⟩ := hw
  refine zg_getI (v := .int (zI h a0 3)) zi_142_26 t3 (by rfl) rfl ?_
  have g27 : Gx E (d + 1) 142 32 [.ref a0, .int a1, .retAddr 0] [.int (if ¬ (zI h a0 3 : Int32) = 0 then a1 else zI h a0 8)] h Q := by
    exact zg_ireturn zi_142_32 (by decide) hw
  refine zg_if_ne zi_142_27 (fun hc27 => ?_) (fun hc27 => ?_)
  · skip
    refine zg_iload zi_142_31 rfl ?_
    have hg := g27
    simp only [if_pos hc27] at hg
    exact hg
  · skip
    refine zg_aload zi_142_28 rfl ?_
    refine zg_getI (v := .int (zI h a0 8)) zi_142_29 t3 (by rfl) rfl ?_
    refine zg_goto zi_142_30 ?_
    have hg := g27
    simp only [if_neg hc27] at hg
    exact hg
def wb_142_10 (E : Nat → Nat) (d : Nat) (Q : Option Value → ZH → Prop) (a0 : Nat) (a1 : Int32) (a2 : Int32) (h : ZH) : Prop := ztag h a0 = 11 ∧ ((¬ (zI h a0 3 : Int32) = 0 → (wb_142_25 E d Q a0 a1 h)) ∧ (¬ (¬ (zI h a0 3 : Int32) = 0) → (1 ≤ d ∧ sz_135 E h ((zI h a0 8 : Int32).toInt64) a1.toInt64 a2.toInt64 ∧ ((¬ (fz_135 E h ((zI h a0 8 : Int32).toInt64) a1.toInt64 a2.toInt64 : Int32) = 0 → (wb_142_25 E d Q a0 a1 h)) ∧ (¬ (¬ (fz_135 E h ((zI h a0 8 : Int32).toInt64) a1.toInt64 a2.toInt64 : Int32) = 0) → (Ct E d 139 [.ref a0, .int 3] h (fun v h4 => v = none ∧ wb_142_25 E d Q a0 a1 h4)))))))
set_option maxRecDepth 20000 in
theorem okb_142_10 {E : Nat → Nat} {d : Nat} {Q : Option Value → ZH → Prop} {a0 : Nat} {a1 : Int32} {a2 : Int32} {h : ZH} (hw : wb_142_10 E d Q a0 a1 a2 h) : Gx E (d + 1) 142 10 [.ref a0, .int a1, .int a2] [] h Q := by
  unfold wb_142_10 at hw
  refine zg_aload zi_142_10 rfl ?_
  obtain ⟨t2, hw⟩ := hw
  refine zg_getI (v := .int (zI h a0 3)) zi_142_11 t2 (by rfl) rfl ?_
  refine zg_if_ne zi_142_12 (fun hc => ?_) (fun hc => ?_)
  · have hw := hw.1 hc
    exact Gx.forget (zrk (zrk (zrd zr0))) (okb_142_25 hw)
  · have hw := hw.2 hc
    refine zg_aload zi_142_13 rfl ?_
    refine zg_getI (v := .int (zI h a0 8)) zi_142_14 t2 (by rfl) rfl ?_
    refine zg_i2l zi_142_15 ?_
    refine zg_iload zi_142_16 rfl ?_
    refine zg_i2l zi_142_17 ?_
    refine zg_iload zi_142_18 rfl ?_
    refine zg_i2l zi_142_19 ?_
    obtain ⟨hd, hs, hw⟩ := hw
    refine Gx.call2 (as := [.long ((zI h a0 8 : Int32).toInt64), .long a1.toInt64, .long a2.toInt64]) (rest := []) zq_135 zi_142_20 rfl rfl rfl (Nat.le_of_ble_eq_true rfl) (Nat.le_of_ble_eq_true rfl) (rfl) (Nat.le_of_ble_eq_true rfl) ?_
    refine cz_135 hd hs ?_
    show Gx E (d + 1) 142 21 [.ref a0, .int a1, .int a2] [.int (fz_135 E h ((zI h a0 8 : Int32).toInt64) a1.toInt64 a2.toInt64)] h Q
    refine zg_if_ne zi_142_21 (fun hc => ?_) (fun hc => ?_)
    · have hw := hw.1 hc
      exact Gx.forget (zrk (zrk (zrd zr0))) (okb_142_25 hw)
    · have hw := hw.2 hc
      refine zg_aload zi_142_22 rfl ?_
      refine zg_const (v := 3) zi_142_23 (by rfl) ?_
      refine Gx.call2 (as := [.ref a0, .int 3]) (rest := []) zq_139 zi_142_24 rfl rfl rfl (Nat.le_of_ble_eq_true rfl) (Nat.le_of_ble_eq_true rfl) (zrv_v t2 rfl rfl) (Nat.le_of_ble_eq_true rfl) ?_
      refine Ct.mono hw ?_
      rintro v h4 ⟨rfl, hw⟩
      show Gx E (d + 1) 142 25 [.ref a0, .int a1, .int a2] [] h4 Q
      exact Gx.forget (zrk (zrk (zrd zr0))) (okb_142_25 hw)
/-- TakeOrPayModel.number(II)I -/
def w_142 (E : Nat → Nat) (d : Nat) (a0 : Nat) (a1 : Int32) (a2 : Int32) (h : ZH) (Q : Option Value → ZH → Prop) : Prop := ztag h a0 = 11 ∧ ((¬ (zI h a0 3 : Int32) = 0 → (wb_142_10 E d Q a0 a1 a2 h)) ∧ (¬ (¬ (zI h a0 3 : Int32) = 0) → (((zI h a0 7 : Int32) = 2 → (wb_142_10 E d Q a0 a1 a2 h)) ∧ (¬ ((zI h a0 7 : Int32) = 2) → (Ct E d 139 [.ref a0, .int 2] h (fun v h5 => v = none ∧ wb_142_10 E d Q a0 a1 a2 h5))))))
set_option maxRecDepth 20000 in
theorem ok_142 {E : Nat → Nat} {d : Nat} {a0 : Nat} {a1 : Int32} {a2 : Int32} {h : ZH} {Q : Option Value → ZH → Prop} (hw : w_142 E d a0 a1 a2 h Q) : Ct E (d + 1) 142 [.ref a0, .int a1, .int a2] h Q := by
  unfold w_142 at hw
  show Gx E (d + 1) 142 0 [.ref a0, .int a1, .int a2] [] h Q
  refine zg_aload zi_142_0 rfl ?_
  obtain ⟨t1, hw⟩ := hw
  refine zg_getI (v := .int (zI h a0 3)) zi_142_1 t1 (by rfl) rfl ?_
  refine zg_if_ne zi_142_2 (fun hc => ?_) (fun hc => ?_)
  · have hw := hw.1 hc
    exact okb_142_10 hw
  · have hw := hw.2 hc
    refine zg_aload zi_142_3 rfl ?_
    refine zg_getI (v := .int (zI h a0 7)) zi_142_4 t1 (by rfl) rfl ?_
    refine zg_const (v := 2) zi_142_5 (by rfl) ?_
    refine zg_icmp_eq zi_142_6 (fun hc => ?_) (fun hc => ?_)
    · have hw := hw.1 hc
      exact okb_142_10 hw
    · have hw := hw.2 hc
      refine zg_aload zi_142_7 rfl ?_
      refine zg_const (v := 2) zi_142_8 (by rfl) ?_
      refine Gx.call2 (as := [.ref a0, .int 2]) (rest := []) zq_139 zi_142_9 rfl rfl rfl (Nat.le_of_ble_eq_true rfl) (Nat.le_of_ble_eq_true rfl) (zrv_v t1 rfl rfl) (Nat.le_of_ble_eq_true rfl) ?_
      refine Ct.mono hw ?_
      rintro v h5 ⟨rfl, hw⟩
      show Gx E (d + 1) 142 10 [.ref a0, .int a1, .int a2] [] h5 Q
      exact okb_142_10 hw
theorem zq_143 : zQ 143 3 3 11 := by unfold zQ; decide +kernel
theorem zi_143_0 : (zM 143).1[0]? = some (.aload 0) := by rfl
theorem zi_143_1 : (zM 143).1[1]? = some (.getfield 11003) := by rfl
theorem zi_143_2 : (zM 143).1[2]? = some (.ifCond .ne ((19 : Nat) : Int)) := by rfl
theorem zi_143_3 : (zM 143).1[3]? = some (.aload 0) := by rfl
theorem zi_143_4 : (zM 143).1[4]? = some (.getfield 11007) := by rfl
theorem zi_143_5 : (zM 143).1[5]? = some (.iconst 1) := by rfl
theorem zi_143_6 : (zM 143).1[6]? = some (.if_icmp .ne ((16 : Nat) : Int)) := by rfl
theorem zi_143_7 : (zM 143).1[7]? = some (.aload 0) := by rfl
theorem zi_143_8 : (zM 143).1[8]? = some (.getfield 11008) := by rfl
theorem zi_143_9 : (zM 143).1[9]? = some (.i2l) := by rfl
theorem zi_143_10 : (zM 143).1[10]? = some (.iload 1) := by rfl
theorem zi_143_11 : (zM 143).1[11]? = some (.i2l) := by rfl
theorem zi_143_12 : (zM 143).1[12]? = some (.iload 2) := by rfl
theorem zi_143_13 : (zM 143).1[13]? = some (.i2l) := by rfl
theorem zi_143_14 : (zM 143).1[14]? = some (.invokestatic 135) := by rfl
theorem zi_143_15 : (zM 143).1[15]? = some (.ifCond .ne ((19 : Nat) : Int)) := by rfl
theorem zi_143_16 : (zM 143).1[16]? = some (.aload 0) := by rfl
theorem zi_143_17 : (zM 143).1[17]? = some (.iconst 2) := by rfl
theorem zi_143_18 : (zM 143).1[18]? = some (.invokevirtual 139) := by rfl
theorem zi_143_19 : (zM 143).1[19]? = some (.return_) := by rfl
/-- TakeOrPayModel.mustName(II)V -/
def w_143 (E : Nat → Nat) (d : Nat) (a0 : Nat) (a1 : Int32) (a2 : Int32) (h : ZH) (Q : Option Value → ZH → Prop) : Prop := ztag h a0 = 11 ∧ ((¬ (zI h a0 3 : Int32) = 0 → (Q none h)) ∧ (¬ (¬ (zI h a0 3 : Int32) = 0) → ((¬ (zI h a0 7 : Int32) = 1 → (Ct E d 139 [.ref a0, .int 2] h (fun v h2 => v = none ∧ Q none h2))) ∧ (¬ (¬ (zI h a0 7 : Int32) = 1) → (1 ≤ d ∧ sz_135 E h ((zI h a0 8 : Int32).toInt64) a1.toInt64 a2.toInt64 ∧ ((¬ (fz_135 E h ((zI h a0 8 : Int32).toInt64) a1.toInt64 a2.toInt64 : Int32) = 0 → (Q none h)) ∧ (¬ (¬ (fz_135 E h ((zI h a0 8 : Int32).toInt64) a1.toInt64 a2.toInt64 : Int32) = 0) → (Ct E d 139 [.ref a0, .int 2] h (fun v h3 => v = none ∧ Q none h3)))))))))
set_option maxRecDepth 20000 in
theorem ok_143 {E : Nat → Nat} {d : Nat} {a0 : Nat} {a1 : Int32} {a2 : Int32} {h : ZH} {Q : Option Value → ZH → Prop} (hw : w_143 E d a0 a1 a2 h Q) : Ct E (d + 1) 143 [.ref a0, .int a1, .int a2] h Q := by
  unfold w_143 at hw
  show Gx E (d + 1) 143 0 [.ref a0, .int a1, .int a2] [] h Q
  refine zg_aload zi_143_0 rfl ?_
  obtain ⟨t1, hw⟩ := hw
  refine zg_getI (v := .int (zI h a0 3)) zi_143_1 t1 (by rfl) rfl ?_
  refine zg_if_ne zi_143_2 (fun hc => ?_) (fun hc => ?_)
  · have hw := hw.1 hc
    exact zg_return zi_143_19 hw
  · have hw := hw.2 hc
    refine zg_aload zi_143_3 rfl ?_
    refine zg_getI (v := .int (zI h a0 7)) zi_143_4 t1 (by rfl) rfl ?_
    refine zg_const (v := 1) zi_143_5 (by rfl) ?_
    refine zg_icmp_ne zi_143_6 (fun hc => ?_) (fun hc => ?_)
    · have hw := hw.1 hc
      refine zg_aload zi_143_16 rfl ?_
      refine zg_const (v := 2) zi_143_17 (by rfl) ?_
      refine Gx.call2 (as := [.ref a0, .int 2]) (rest := []) zq_139 zi_143_18 rfl rfl rfl (Nat.le_of_ble_eq_true rfl) (Nat.le_of_ble_eq_true rfl) (zrv_v t1 rfl rfl) (Nat.le_of_ble_eq_true rfl) ?_
      refine Ct.mono hw ?_
      rintro v h2 ⟨rfl, hw⟩
      show Gx E (d + 1) 143 19 [.ref a0, .int a1, .int a2] [] h2 Q
      exact zg_return zi_143_19 hw
    · have hw := hw.2 hc
      refine zg_aload zi_143_7 rfl ?_
      refine zg_getI (v := .int (zI h a0 8)) zi_143_8 t1 (by rfl) rfl ?_
      refine zg_i2l zi_143_9 ?_
      refine zg_iload zi_143_10 rfl ?_
      refine zg_i2l zi_143_11 ?_
      refine zg_iload zi_143_12 rfl ?_
      refine zg_i2l zi_143_13 ?_
      obtain ⟨hd, hs, hw⟩ := hw
      refine Gx.call2 (as := [.long ((zI h a0 8 : Int32).toInt64), .long a1.toInt64, .long a2.toInt64]) (rest := []) zq_135 zi_143_14 rfl rfl rfl (Nat.le_of_ble_eq_true rfl) (Nat.le_of_ble_eq_true rfl) (rfl) (Nat.le_of_ble_eq_true rfl) ?_
      refine cz_135 hd hs ?_
      show Gx E (d + 1) 143 15 [.ref a0, .int a1, .int a2] [.int (fz_135 E h ((zI h a0 8 : Int32).toInt64) a1.toInt64 a2.toInt64)] h Q
      refine zg_if_ne zi_143_15 (fun hc => ?_) (fun hc => ?_)
      · have hw := hw.1 hc
        exact zg_return zi_143_19 hw
      · have hw := hw.2 hc
        refine zg_aload zi_143_16 rfl ?_
        refine zg_const (v := 2) zi_143_17 (by rfl) ?_
        refine Gx.call2 (as := [.ref a0, .int 2]) (rest := []) zq_139 zi_143_18 rfl rfl rfl (Nat.le_of_ble_eq_true rfl) (Nat.le_of_ble_eq_true rfl) (zrv_v t1 rfl rfl) (Nat.le_of_ble_eq_true rfl) ?_
        refine Ct.mono hw ?_
        rintro v h3 ⟨rfl, hw⟩
        show Gx E (d + 1) 143 19 [.ref a0, .int a1, .int a2] [] h3 Q
        exact zg_return zi_143_19 hw
theorem zq_144 : zQ 144 1 1 11 := by unfold zQ; decide +kernel
theorem zi_144_0 : (zM 144).1[0]? = some (.aload 0) := by rfl
theorem zi_144_1 : (zM 144).1[1]? = some (.getfield 11216) := by rfl
theorem zi_144_2 : (zM 144).1[2]? = some (.iconst 3) := by rfl
theorem zi_144_3 : (zM 144).1[3]? = some (.aload 0) := by rfl
theorem zi_144_4 : (zM 144).1[4]? = some (.iconst 0) := by rfl
theorem zi_144_5 : (zM 144).1[5]? = some (.iconst 4) := by rfl
theorem zi_144_6 : (zM 144).1[6]? = some (.invokevirtual 142) := by rfl
theorem zi_144_7 : (zM 144).1[7]? = some (.iastore) := by rfl
theorem zi_144_8 : (zM 144).1[8]? = some (.aload 0) := by rfl
theorem zi_144_9 : (zM 144).1[9]? = some (.invokevirtual 141) := by rfl
theorem zi_144_10 : (zM 144).1[10]? = some (.aload 0) := by rfl
theorem zi_144_11 : (zM 144).1[11]? = some (.getfield 11216) := by rfl
theorem zi_144_12 : (zM 144).1[12]? = some (.iconst 4) := by rfl
theorem zi_144_13 : (zM 144).1[13]? = some (.aload 0) := by rfl
theorem zi_144_14 : (zM 144).1[14]? = some (.aload 0) := by rfl
theorem zi_144_15 : (zM 144).1[15]? = some (.getfield 11216) := by rfl
theorem zi_144_16 : (zM 144).1[16]? = some (.iconst 3) := by rfl
theorem zi_144_17 : (zM 144).1[17]? = some (.iaload) := by rfl
theorem zi_144_18 : (zM 144).1[18]? = some (.iconst 4) := by rfl
theorem zi_144_19 : (zM 144).1[19]? = some (.invokevirtual 142) := by rfl
theorem zi_144_20 : (zM 144).1[20]? = some (.iastore) := by rfl
theorem zi_144_21 : (zM 144).1[21]? = some (.aload 0) := by rfl
theorem zi_144_22 : (zM 144).1[22]? = some (.invokevirtual 141) := by rfl
theorem zi_144_23 : (zM 144).1[23]? = some (.return_) := by rfl
/-- TakeOrPayModel.readDay()V -/
def w_144 (E : Nat → Nat) (d : Nat) (a0 : Nat) (h : ZH) (Q : Option Value → ZH → Prop) : Prop := ztag h a0 = 11 ∧ ∃ r2 : Nat, zR h a0 16 = r2 + 1 ∧ Ct E d 142 [.ref a0, .int 0, .int 4] h (fun v h3 => ∃ x4 : Int32, v = some (.int x4) ∧ ztag h3 r2 = 13 ∧ zin 3 (zlen h3 r2) = true ∧ ∀ h6 : ZH, h6 = (zuI h3 r2 3 x4) → ztag h6 a0 = 11 ∧ Ct E d 141 [.ref a0] h6 (fun v h8 => v = none ∧ ztag h8 a0 = 11 ∧ ∃ r10 : Nat, zR h8 a0 16 = r10 + 1 ∧ (ztag h8 r10 = 13 ∨ ztag h8 r10 = 19) ∧ zin 3 (zlen h8 r10) = true ∧ Ct E d 142 [.ref a0, .int (zI h8 r10 3), .int 4] h8 (fun v h12 => ∃ x13 : Int32, v = some (.int x13) ∧ ztag h12 r10 = 13 ∧ zin 4 (zlen h12 r10) = true ∧ ∀ h15 : ZH, h15 = (zuI h12 r10 4 x13) → ztag h15 a0 = 11 ∧ Ct E d 141 [.ref a0] h15 (fun v h17 => v = none ∧ Q none h17))))
set_option maxRecDepth 20000 in
theorem ok_144 {E : Nat → Nat} {d : Nat} {a0 : Nat} {h : ZH} {Q : Option Value → ZH → Prop} (hw : w_144 E d a0 h Q) : Ct E (d + 1) 144 [.ref a0] h Q := by
  unfold w_144 at hw
  show Gx E (d + 1) 144 0 [.ref a0] [] h Q
  refine zg_aload zi_144_0 rfl ?_
  obtain ⟨t1, hw⟩ := hw
  obtain ⟨r2, er2, hw⟩ := hw
  refine zg_getR (v := .ref r2) zi_144_1 t1 (by rfl) (by show zrv (zR h a0 16) = _; rw [er2]; rfl) ?_
  refine zg_const (v := 3) zi_144_2 (by rfl) ?_
  refine zg_aload zi_144_3 rfl ?_
  refine zg_const (v := 0) zi_144_4 (by rfl) ?_
  refine zg_const (v := 4) zi_144_5 (by rfl) ?_
  refine Gx.call2 (as := [.ref a0, .int 0, .int 4]) (rest := [.int 3, .ref r2]) zq_142 zi_144_6 rfl rfl rfl (Nat.le_of_ble_eq_true rfl) (Nat.le_of_ble_eq_true rfl) (zrv_v t1 rfl rfl) (Nat.le_of_ble_eq_true rfl) ?_
  refine Ct.mono hw ?_
  rintro v h3 ⟨x4, rfl, hw⟩
  show Gx E (d + 1) 144 7 [.ref a0] [.int x4, .int 3, .ref r2] h3 Q
  obtain ⟨t5, hw⟩ := hw
  obtain ⟨hb, hw⟩ := hw
  refine zg_iastore (h1 := zuI h3 r2 3 x4) zi_144_7 t5 hb rfl ?_
  refine zg_nameH fun h6 eh6 => ?_
  have hw := hw h6 eh6
  refine zg_aload zi_144_8 rfl ?_
  obtain ⟨t7, hw⟩ := hw
  refine Gx.call2 (as := [.ref a0]) (rest := []) zq_141 zi_144_9 rfl rfl rfl (Nat.le_of_ble_eq_true rfl) (Nat.le_of_ble_eq_true rfl) (zrv_v t7 rfl rfl) (Nat.le_of_ble_eq_true rfl) ?_
  refine Ct.mono hw ?_
  rintro v h8 ⟨rfl, hw⟩
  show Gx E (d + 1) 144 10 [.ref a0] [] h8 Q
  refine zg_aload zi_144_10 rfl ?_
  obtain ⟨t9, hw⟩ := hw
  obtain ⟨r10, er10, hw⟩ := hw
  refine zg_getR (v := .ref r10) zi_144_11 t9 (by rfl) (by show zrv (zR h8 a0 16) = _; rw [er10]; rfl) ?_
  refine zg_const (v := 4) zi_144_12 (by rfl) ?_
  refine zg_aload zi_144_13 rfl ?_
  refine zg_aload zi_144_14 rfl ?_
  refine zg_getR (v := .ref r10) zi_144_15 t9 (by rfl) (by show zrv (zR h8 a0 16) = _; rw [er10]; rfl) ?_
  refine zg_const (v := 3) zi_144_16 (by rfl) ?_
  obtain ⟨t11, hw⟩ := hw
  obtain ⟨hb, hw⟩ := hw
  refine zg_iaload (v := .int (zI h8 r10 3)) zi_144_17 t11 hb rfl ?_
  refine zg_const (v := 4) zi_144_18 (by rfl) ?_
  refine Gx.call2 (as := [.ref a0, .int (zI h8 r10 3), .int 4]) (rest := [.int 4, .ref r10]) zq_142 zi_144_19 rfl rfl rfl (Nat.le_of_ble_eq_true rfl) (Nat.le_of_ble_eq_true rfl) (zrv_v t9 rfl rfl) (Nat.le_of_ble_eq_true rfl) ?_
  refine Ct.mono hw ?_
  rintro v h12 ⟨x13, rfl, hw⟩
  show Gx E (d + 1) 144 20 [.ref a0] [.int x13, .int 4, .ref r10] h12 Q
  obtain ⟨t14, hw⟩ := hw
  obtain ⟨hb, hw⟩ := hw
  refine zg_iastore (h1 := zuI h12 r10 4 x13) zi_144_20 t14 hb rfl ?_
  refine zg_nameH fun h15 eh15 => ?_
  have hw := hw h15 eh15
  refine zg_aload zi_144_21 rfl ?_
  obtain ⟨t16, hw⟩ := hw
  refine Gx.call2 (as := [.ref a0]) (rest := []) zq_141 zi_144_22 rfl rfl rfl (Nat.le_of_ble_eq_true rfl) (Nat.le_of_ble_eq_true rfl) (zrv_v t16 rfl rfl) (Nat.le_of_ble_eq_true rfl) ?_
  refine Ct.mono hw ?_
  rintro v h17 ⟨rfl, hw⟩
  show Gx E (d + 1) 144 23 [.ref a0] [] h17 Q
  exact zg_return zi_144_23 hw
theorem zq_145 : zQ 145 1 2 11 := by unfold zQ; decide +kernel
theorem zi_145_0 : (zM 145).1[0]? = some (.aload 0) := by rfl
theorem zi_145_1 : (zM 145).1[1]? = some (.iconst 19) := by rfl
theorem zi_145_2 : (zM 145).1[2]? = some (.iconst 21) := by rfl
theorem zi_145_3 : (zM 145).1[3]? = some (.invokevirtual 143) := by rfl
theorem zi_145_4 : (zM 145).1[4]? = some (.aload 0) := by rfl
theorem zi_145_5 : (zM 145).1[5]? = some (.getfield 11003) := by rfl
theorem zi_145_6 : (zM 145).1[6]? = some (.ifCond .ne ((14 : Nat) : Int)) := by rfl
theorem zi_145_7 : (zM 145).1[7]? = some (.iconst 1) := by rfl
theorem zi_145_8 : (zM 145).1[8]? = some (.aload 0) := by rfl
theorem zi_145_9 : (zM 145).1[9]? = some (.getfield 11008) := by rfl
theorem zi_145_10 : (zM 145).1[10]? = some (.iconst 19) := by rfl
theorem zi_145_11 : (zM 145).1[11]? = some (.isub) := by rfl
theorem zi_145_12 : (zM 145).1[12]? = some (.ishl) := by rfl
theorem zi_145_13 : (zM 145).1[13]? = some (.goto ((15 : Nat) : Int)) := by rfl
theorem zi_145_14 : (zM 145).1[14]? = some (.iconst 0) := by rfl
theorem zi_145_15 : (zM 145).1[15]? = some (.istore 1) := by rfl
theorem zi_145_16 : (zM 145).1[16]? = some (.aload 0) := by rfl
theorem zi_145_17 : (zM 145).1[17]? = some (.getfield 11216) := by rfl
theorem zi_145_18 : (zM 145).1[18]? = some (.iconst 13) := by rfl
theorem zi_145_19 : (zM 145).1[19]? = some (.iaload) := by rfl
theorem zi_145_20 : (zM 145).1[20]? = some (.iload 1) := by rfl
theorem zi_145_21 : (zM 145).1[21]? = some (.iand) := by rfl
theorem zi_145_22 : (zM 145).1[22]? = some (.ifCond .eq ((26 : Nat) : Int)) := by rfl
theorem zi_145_23 : (zM 145).1[23]? = some (.aload 0) := by rfl
theorem zi_145_24 : (zM 145).1[24]? = some (.iconst 4) := by rfl
theorem zi_145_25 : (zM 145).1[25]? = some (.invokevirtual 139) := by rfl
theorem zi_145_26 : (zM 145).1[26]? = some (.aload 0) := by rfl
theorem zi_145_27 : (zM 145).1[27]? = some (.getfield 11216) := by rfl
theorem zi_145_28 : (zM 145).1[28]? = some (.iconst 13) := by rfl
theorem zi_145_29 : (zM 145).1[29]? = some (.dup2) := by rfl
theorem zi_145_30 : (zM 145).1[30]? = some (.iaload) := by rfl
theorem zi_145_31 : (zM 145).1[31]? = some (.iload 1) := by rfl
theorem zi_145_32 : (zM 145).1[32]? = some (.ior) := by rfl
theorem zi_145_33 : (zM 145).1[33]? = some (.iastore) := by rfl
theorem zi_145_34 : (zM 145).1[34]? = some (.aload 0) := by rfl
theorem zi_145_35 : (zM 145).1[35]? = some (.invokevirtual 141) := by rfl
theorem zi_145_36 : (zM 145).1[36]? = some (.return_) := by rfl
def wb_145_26 (E : Nat → Nat) (d : Nat) (Q : Option Value → ZH → Prop) (a0 : Nat) (a1 : Int32) (h : ZH) : Prop := ztag h a0 = 11 ∧ ∃ r8 : Nat, zR h a0 16 = r8 + 1 ∧ (ztag h r8 = 13 ∨ ztag h r8 = 19) ∧ zin 13 (zlen h r8) = true ∧ ztag h r8 = 13 ∧ zin 13 (zlen h r8) = true ∧ ∀ h11 : ZH, h11 = (zuI h r8 13 ((zI h r8 13) ||| a1)) → Ct E d 141 [.ref a0] h11 (fun v h12 => v = none ∧ Q none h12)
set_option maxRecDepth 20000 in
theorem okb_145_26 {E : Nat → Nat} {d : Nat} {Q : Option Value → ZH → Prop} {a0 : Nat} {a1 : Int32} {h : ZH} (hw : wb_145_26 E d Q a0 a1 h) : Gx E (d + 1) 145 26 [.ref a0, .int a1] [] h Q := by
  unfold wb_145_26 at hw
  refine zg_aload zi_145_26 rfl ?_
  obtain ⟨t7, hw⟩ := hw
  obtain ⟨r8, er8, hw⟩ := hw
  refine zg_getR (v := .ref r8) zi_145_27 t7 (by rfl) (by show zrv (zR h a0 16) = _; rw [er8]; rfl) ?_
  refine zg_const (v := 13) zi_145_28 (by rfl) ?_
  refine zg_dup2_11 zi_145_29 rfl ?_
  obtain ⟨t9, hw⟩ := hw
  obtain ⟨hb, hw⟩ := hw
  refine zg_iaload (v := .int (zI h r8 13)) zi_145_30 t9 hb rfl ?_
  refine zg_iload zi_145_31 rfl ?_
  refine zg_ior zi_145_32 ?_
  obtain ⟨t10, hw⟩ := hw
  obtain ⟨hb, hw⟩ := hw
  refine zg_iastore (h1 := zuI h r8 13 ((zI h r8 13) ||| a1)) zi_145_33 t10 hb rfl ?_
  refine zg_nameH fun h11 eh11 => ?_
  have hw := hw h11 eh11
  refine zg_aload zi_145_34 rfl ?_
  refine Gx.call2 (as := [.ref a0]) (rest := []) zq_141 zi_145_35 rfl rfl rfl (Nat.le_of_ble_eq_true rfl) (Nat.le_of_ble_eq_true rfl) (zrv_v (by rw [eh11]; exact t7) rfl rfl) (Nat.le_of_ble_eq_true rfl) ?_
  refine Ct.mono hw ?_
  rintro v h12 ⟨rfl, hw⟩
  show Gx E (d + 1) 145 36 [.ref a0, .int a1] [] h12 Q
  exact zg_return zi_145_36 hw
/-- TakeOrPayModel.readFree()V -/
def w_145 (E : Nat → Nat) (d : Nat) (a0 : Nat) (h : ZH) (Q : Option Value → ZH → Prop) : Prop := ztag h a0 = 11 ∧ Ct E d 143 [.ref a0, .int 19, .int 21] h (fun v h2 => v = none ∧ ztag h2 a0 = 11 ∧ ∀ x4 : Int32, x4 = (if ¬ (zI h2 a0 3 : Int32) = 0 then 0 else (1 : Int32) <<< (((zI h2 a0 8) - 19) &&& 31)) → ∃ r5 : Nat, zR h2 a0 16 = r5 + 1 ∧ (ztag h2 r5 = 13 ∨ ztag h2 r5 = 19) ∧ zin 13 (zlen h2 r5) = true ∧ ((((zI h2 r5 13) &&& x4 : Int32) = 0 → (wb_145_26 E d Q a0 x4 h2)) ∧ (¬ (((zI h2 r5 13) &&& x4 : Int32) = 0) → (Ct E d 139 [.ref a0, .int 4] h2 (fun v h13 => v = none ∧ wb_145_26 E d Q a0 x4 h13)))))
set_option maxRecDepth 20000 in
theorem ok_145 {E : Nat → Nat} {d : Nat} {a0 : Nat} {h : ZH} {Q : Option Value → ZH → Prop} (hw : w_145 E d a0 h Q) : Ct E (d + 1) 145 [.ref a0] h Q := by
  unfold w_145 at hw
  show Gx E (d + 1) 145 0 [.ref a0, .retAddr 0] [] h Q
  refine zg_aload zi_145_0 rfl ?_
  refine zg_const (v := 19) zi_145_1 (by rfl) ?_
  refine zg_const (v := 21) zi_145_2 (by rfl) ?_
  obtain ⟨t1, hw⟩ := hw
  refine Gx.call2 (as := [.ref a0, .int 19, .int 21]) (rest := []) zq_143 zi_145_3 rfl rfl rfl (Nat.le_of_ble_eq_true rfl) (Nat.le_of_ble_eq_true rfl) (zrv_v t1 rfl rfl) (Nat.le_of_ble_eq_true rfl) ?_
  refine Ct.mono hw ?_
  rintro v h2 ⟨rfl, hw⟩
  show Gx E (d + 1) 145 4 [.ref a0, .retAddr 0] [] h2 Q
  refine zg_aload zi_145_4 rfl ?_
  obtain ⟨t3, hw⟩ := hw
  refine zg_getI (v := .int (zI h2 a0 3)) zi_145_5 t3 (by rfl) rfl ?_
  have g6 : Gx E (d + 1) 145 15 [.ref a0, .retAddr 0] [.int (if ¬ (zI h2 a0 3 : Int32) = 0 then 0 else (1 : Int32) <<< (((zI h2 a0 8) - 19) &&& 31))] h2 Q := by
    refine zg_nameI fun x4 ex4 => ?_
    have hw := hw x4 ex4
    refine zg_istore (ls1 := [.ref a0, .int x4]) zi_145_15 (Nat.le_of_ble_eq_true rfl) rfl ?_
    refine zg_aload zi_145_16 rfl ?_
    obtain ⟨r5, er5, hw⟩ := hw
    refine zg_getR (v := .ref r5) zi_145_17 t3 (by rfl) (by show zrv (zR h2 a0 16) = _; rw [er5]; rfl) ?_
    refine zg_const (v := 13) zi_145_18 (by rfl) ?_
    obtain ⟨t6, hw⟩ := hw
    obtain ⟨hb, hw⟩ := hw
    refine zg_iaload (v := .int (zI h2 r5 13)) zi_145_19 t6 hb rfl ?_
    refine zg_iload zi_145_20 rfl ?_
    refine zg_iand zi_145_21 ?_
    refine zg_if_eq zi_145_22 (fun hc => ?_) (fun hc => ?_)
    · have hw := hw.1 hc
      exact okb_145_26 hw
    · have hw := hw.2 hc
      refine zg_aload zi_145_23 rfl ?_
      refine zg_const (v := 4) zi_145_24 (by rfl) ?_
      refine Gx.call2 (as := [.ref a0, .int 4]) (rest := []) zq_139 zi_145_25 rfl rfl rfl (Nat.le_of_ble_eq_true rfl) (Nat.le_of_ble_eq_true rfl) (zrv_v t3 rfl rfl) (Nat.le_of_ble_eq_true rfl) ?_
      refine Ct.mono hw ?_
      rintro v h13 ⟨rfl, hw⟩
      show Gx E (d + 1) 145 26 [.ref a0, .int x4] [] h13 Q
      exact okb_145_26 hw
  refine zg_if_ne zi_145_6 (fun hc6 => ?_) (fun hc6 => ?_)
  · skip
    refine zg_const (v := 0) zi_145_14 (by rfl) ?_
    have hg := g6
    simp only [if_pos hc6] at hg
    exact hg
  · skip
    refine zg_const (v := 1) zi_145_7 (by rfl) ?_
    refine zg_aload zi_145_8 rfl ?_
    refine zg_getI (v := .int (zI h2 a0 8)) zi_145_9 t3 (by rfl) rfl ?_
    refine zg_const (v := 19) zi_145_10 (by rfl) ?_
    refine zg_isub zi_145_11 ?_
    refine zg_ishl zi_145_12 ?_
    refine zg_goto zi_145_13 ?_
    have hg := g6
    simp only [if_neg hc6] at hg
    exact hg
theorem zq_146 : zQ 146 1 2 11 := by unfold zQ; decide +kernel
theorem zi_146_0 : (zM 146).1[0]? = some (.aload 0) := by rfl
theorem zi_146_1 : (zM 146).1[1]? = some (.iconst 0) := by rfl
theorem zi_146_2 : (zM 146).1[2]? = some (.iconst 2) := by rfl
theorem zi_146_3 : (zM 146).1[3]? = some (.invokevirtual 142) := by rfl
theorem zi_146_4 : (zM 146).1[4]? = some (.istore 1) := by rfl
theorem zi_146_5 : (zM 146).1[5]? = some (.aload 0) := by rfl
theorem zi_146_6 : (zM 146).1[6]? = some (.getfield 11003) := by rfl
theorem zi_146_7 : (zM 146).1[7]? = some (.ifCond .ne ((19 : Nat) : Int)) := by rfl
theorem zi_146_8 : (zM 146).1[8]? = some (.aload 0) := by rfl
theorem zi_146_9 : (zM 146).1[9]? = some (.getfield 11018) := by rfl
theorem zi_146_10 : (zM 146).1[10]? = some (.iload 1) := by rfl
theorem zi_146_11 : (zM 146).1[11]? = some (.ishr) := by rfl
theorem zi_146_12 : (zM 146).1[12]? = some (.iconst 1) := by rfl
theorem zi_146_13 : (zM 146).1[13]? = some (.iand) := by rfl
theorem zi_146_14 : (zM 146).1[14]? = some (.iconst 1) := by rfl
theorem zi_146_15 : (zM 146).1[15]? = some (.if_icmp .ne ((19 : Nat) : Int)) := by rfl
theorem zi_146_16 : (zM 146).1[16]? = some (.aload 0) := by rfl
theorem zi_146_17 : (zM 146).1[17]? = some (.iconst 4) := by rfl
theorem zi_146_18 : (zM 146).1[18]? = some (.invokevirtual 139) := by rfl
theorem zi_146_19 : (zM 146).1[19]? = some (.aload 0) := by rfl
theorem zi_146_20 : (zM 146).1[20]? = some (.dup) := by rfl
theorem zi_146_21 : (zM 146).1[21]? = some (.getfield 11018) := by rfl
theorem zi_146_22 : (zM 146).1[22]? = some (.iconst 1) := by rfl
theorem zi_146_23 : (zM 146).1[23]? = some (.iload 1) := by rfl
theorem zi_146_24 : (zM 146).1[24]? = some (.ishl) := by rfl
theorem zi_146_25 : (zM 146).1[25]? = some (.ior) := by rfl
theorem zi_146_26 : (zM 146).1[26]? = some (.putfield 11018) := by rfl
theorem zi_146_27 : (zM 146).1[27]? = some (.aload 0) := by rfl
theorem zi_146_28 : (zM 146).1[28]? = some (.invokevirtual 141) := by rfl
theorem zi_146_29 : (zM 146).1[29]? = some (.aload 0) := by rfl
theorem zi_146_30 : (zM 146).1[30]? = some (.getfield 11216) := by rfl
theorem zi_146_31 : (zM 146).1[31]? = some (.iconst 16) := by rfl
theorem zi_146_32 : (zM 146).1[32]? = some (.iload 1) := by rfl
theorem zi_146_33 : (zM 146).1[33]? = some (.iadd) := by rfl
theorem zi_146_34 : (zM 146).1[34]? = some (.aload 0) := by rfl
theorem zi_146_35 : (zM 146).1[35]? = some (.iconst 1) := by rfl
theorem zi_146_36 : (zM 146).1[36]? = some (.iconst 60) := by rfl
theorem zi_146_37 : (zM 146).1[37]? = some (.invokevirtual 142) := by rfl
theorem zi_146_38 : (zM 146).1[38]? = some (.iastore) := by rfl
theorem zi_146_39 : (zM 146).1[39]? = some (.aload 0) := by rfl
theorem zi_146_40 : (zM 146).1[40]? = some (.invokevirtual 141) := by rfl
theorem zi_146_41 : (zM 146).1[41]? = some (.return_) := by rfl
def wb_146_19 (E : Nat → Nat) (d : Nat) (Q : Option Value → ZH → Prop) (a0 : Nat) (a1 : Int32) (h : ZH) : Prop := ztag h a0 = 11 ∧ ∀ h6 : ZH, h6 = (zuI h a0 18 ((zI h a0 18) ||| ((1 : Int32) <<< (a1 &&& 31)))) → Ct E d 141 [.ref a0] h6 (fun v h7 => v = none ∧ ztag h7 a0 = 11 ∧ ∃ r9 : Nat, zR h7 a0 16 = r9 + 1 ∧ Ct E d 142 [.ref a0, .int 1, .int 60] h7 (fun v h10 => ∃ x11 : Int32, v = some (.int x11) ∧ ztag h10 r9 = 13 ∧ zin (16 + a1) (zlen h10 r9) = true ∧ ∀ h13 : ZH, h13 = (zuI h10 r9 (16 + a1 : Int32).toNatClampNeg x11) → ztag h13 a0 = 11 ∧ Ct E d 141 [.ref a0] h13 (fun v h15 => v = none ∧ Q none h15)))
set_option maxRecDepth 20000 in
theorem okb_146_19 {E : Nat → Nat} {d : Nat} {Q : Option Value → ZH → Prop} {a0 : Nat} {a1 : Int32} {h : ZH} (hw : wb_146_19 E d Q a0 a1 h) : Gx E (d + 1) 146 19 [.ref a0, .int a1] [] h Q := by
  unfold wb_146_19 at hw
  refine zg_aload zi_146_19 rfl ?_
  refine zg_dup zi_146_20 rfl ?_
  obtain ⟨t5, hw⟩ := hw
  refine zg_getI (v := .int (zI h a0 18)) zi_146_21 t5 (by rfl) rfl ?_
  refine zg_const (v := 1) zi_146_22 (by rfl) ?_
  refine zg_iload zi_146_23 rfl ?_
  refine zg_ishl zi_146_24 ?_
  refine zg_ior zi_146_25 ?_
  refine zg_putI (h1 := zuI h a0 18 ((zI h a0 18) ||| ((1 : Int32) <<< (a1 &&& 31)))) zi_146_26 t5 (by rfl) rfl ?_
  refine zg_nameH fun h6 eh6 => ?_
  have hw := hw h6 eh6
  refine zg_aload zi_146_27 rfl ?_
  refine Gx.call2 (as := [.ref a0]) (rest := []) zq_141 zi_146_28 rfl rfl rfl (Nat.le_of_ble_eq_true rfl) (Nat.le_of_ble_eq_true rfl) (zrv_v (by rw [eh6]; exact t5) rfl rfl) (Nat.le_of_ble_eq_true rfl) ?_
  refine Ct.mono hw ?_
  rintro v h7 ⟨rfl, hw⟩
  show Gx E (d + 1) 146 29 [.ref a0, .int a1] [] h7 Q
  refine zg_aload zi_146_29 rfl ?_
  obtain ⟨t8, hw⟩ := hw
  obtain ⟨r9, er9, hw⟩ := hw
  refine zg_getR (v := .ref r9) zi_146_30 t8 (by rfl) (by show zrv (zR h7 a0 16) = _; rw [er9]; rfl) ?_
  refine zg_const (v := 16) zi_146_31 (by rfl) ?_
  refine zg_iload zi_146_32 rfl ?_
  refine zg_iadd zi_146_33 ?_
  refine zg_aload zi_146_34 rfl ?_
  refine zg_const (v := 1) zi_146_35 (by rfl) ?_
  refine zg_const (v := 60) zi_146_36 (by rfl) ?_
  refine Gx.call2 (as := [.ref a0, .int 1, .int 60]) (rest := [.int (16 + a1), .ref r9]) zq_142 zi_146_37 rfl rfl rfl (Nat.le_of_ble_eq_true rfl) (Nat.le_of_ble_eq_true rfl) (zrv_v t8 rfl rfl) (Nat.le_of_ble_eq_true rfl) ?_
  refine Ct.mono hw ?_
  rintro v h10 ⟨x11, rfl, hw⟩
  show Gx E (d + 1) 146 38 [.ref a0, .int a1] [.int x11, .int (16 + a1), .ref r9] h10 Q
  obtain ⟨t12, hw⟩ := hw
  obtain ⟨hb, hw⟩ := hw
  refine zg_iastore (h1 := zuI h10 r9 (16 + a1 : Int32).toNatClampNeg x11) zi_146_38 t12 hb rfl ?_
  refine zg_nameH fun h13 eh13 => ?_
  have hw := hw h13 eh13
  refine zg_aload zi_146_39 rfl ?_
  obtain ⟨t14, hw⟩ := hw
  refine Gx.call2 (as := [.ref a0]) (rest := []) zq_141 zi_146_40 rfl rfl rfl (Nat.le_of_ble_eq_true rfl) (Nat.le_of_ble_eq_true rfl) (zrv_v t14 rfl rfl) (Nat.le_of_ble_eq_true rfl) ?_
  refine Ct.mono hw ?_
  rintro v h15 ⟨rfl, hw⟩
  show Gx E (d + 1) 146 41 [.ref a0, .int a1] [] h15 Q
  exact zg_return zi_146_41 hw
/-- TakeOrPayModel.readPrice()V -/
def w_146 (E : Nat → Nat) (d : Nat) (a0 : Nat) (h : ZH) (Q : Option Value → ZH → Prop) : Prop := ztag h a0 = 11 ∧ Ct E d 142 [.ref a0, .int 0, .int 2] h (fun v h2 => ∃ x3 : Int32, v = some (.int x3) ∧ ztag h2 a0 = 11 ∧ ((¬ (zI h2 a0 3 : Int32) = 0 → (wb_146_19 E d Q a0 x3 h2)) ∧ (¬ (¬ (zI h2 a0 3 : Int32) = 0) → ((¬ (((zI h2 a0 18) >>> (x3 &&& 31)) &&& 1 : Int32) = 1 → (wb_146_19 E d Q a0 x3 h2)) ∧ (¬ (¬ (((zI h2 a0 18) >>> (x3 &&& 31)) &&& 1 : Int32) = 1) → (Ct E d 139 [.ref a0, .int 4] h2 (fun v h16 => v = none ∧ wb_146_19 E d Q a0 x3 h16)))))))
set_option maxRecDepth 20000 in
theorem ok_146 {E : Nat → Nat} {d : Nat} {a0 : Nat} {h : ZH} {Q : Option Value → ZH → Prop} (hw : w_146 E d a0 h Q) : Ct E (d + 1) 146 [.ref a0] h Q := by
  unfold w_146 at hw
  show Gx E (d + 1) 146 0 [.ref a0, .retAddr 0] [] h Q
  refine zg_aload zi_146_0 rfl ?_
  refine zg_const (v := 0) zi_146_1 (by rfl) ?_
  refine zg_const (v := 2) zi_146_2 (by rfl) ?_
  obtain ⟨t1, hw⟩ := hw
  refine Gx.call2 (as := [.ref a0, .int 0, .int 2]) (rest := []) zq_142 zi_146_3 rfl rfl rfl (Nat.le_of_ble_eq_true rfl) (Nat.le_of_ble_eq_true rfl) (zrv_v t1 rfl rfl) (Nat.le_of_ble_eq_true rfl) ?_
  refine Ct.mono hw ?_
  rintro v h2 ⟨x3, rfl, hw⟩
  show Gx E (d + 1) 146 4 [.ref a0, .retAddr 0] [.int x3] h2 Q
  refine zg_istore (ls1 := [.ref a0, .int x3]) zi_146_4 (Nat.le_of_ble_eq_true rfl) rfl ?_
  refine zg_aload zi_146_5 rfl ?_
  obtain ⟨t4, hw⟩ := hw
  refine zg_getI (v := .int (zI h2 a0 3)) zi_146_6 t4 (by rfl) rfl ?_
  refine zg_if_ne zi_146_7 (fun hc => ?_) (fun hc => ?_)
  · have hw := hw.1 hc
    exact okb_146_19 hw
  · have hw := hw.2 hc
    refine zg_aload zi_146_8 rfl ?_
    refine zg_getI (v := .int (zI h2 a0 18)) zi_146_9 t4 (by rfl) rfl ?_
    refine zg_iload zi_146_10 rfl ?_
    refine zg_ishr zi_146_11 ?_
    refine zg_const (v := 1) zi_146_12 (by rfl) ?_
    refine zg_iand zi_146_13 ?_
    refine zg_const (v := 1) zi_146_14 (by rfl) ?_
    refine zg_icmp_ne zi_146_15 (fun hc => ?_) (fun hc => ?_)
    · have hw := hw.1 hc
      exact okb_146_19 hw
    · have hw := hw.2 hc
      refine zg_aload zi_146_16 rfl ?_
      refine zg_const (v := 4) zi_146_17 (by rfl) ?_
      refine Gx.call2 (as := [.ref a0, .int 4]) (rest := []) zq_139 zi_146_18 rfl rfl rfl (Nat.le_of_ble_eq_true rfl) (Nat.le_of_ble_eq_true rfl) (zrv_v t4 rfl rfl) (Nat.le_of_ble_eq_true rfl) ?_
      refine Ct.mono hw ?_
      rintro v h16 ⟨rfl, hw⟩
      show Gx E (d + 1) 146 19 [.ref a0, .int x3] [] h16 Q
      exact okb_146_19 hw
