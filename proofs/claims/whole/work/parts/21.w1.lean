/-! what each method needs and does, printed by wip/whole/dec.py: part 1 -/
theorem zq_76 : zQ 76 4 18 7 := by unfold zQ; decide +kernel
theorem zi_76_0 : (zM 76).1[0]? = some (.aload 1) := by rfl
theorem zi_76_1 : (zM 76).1[1]? = some (.getfield 206) := by rfl
theorem zi_76_2 : (zM 76).1[2]? = some (.astore 4) := by rfl
theorem zi_76_3 : (zM 76).1[3]? = some (.aload 0) := by rfl
theorem zi_76_4 : (zM 76).1[4]? = some (.getfield 7200) := by rfl
theorem zi_76_5 : (zM 76).1[5]? = some (.iload 3) := by rfl
theorem zi_76_6 : (zM 76).1[6]? = some (.laload) := by rfl
theorem zi_76_7 : (zM 76).1[7]? = some (.lstore 5) := by rfl
theorem zi_76_8 : (zM 76).1[8]? = some (.iload 3) := by rfl
theorem zi_76_9 : (zM 76).1[9]? = some (.iconst 3) := by rfl
theorem zi_76_10 : (zM 76).1[10]? = some (.irem) := by rfl
theorem zi_76_11 : (zM 76).1[11]? = some (.istore 7) := by rfl
theorem zi_76_12 : (zM 76).1[12]? = some (.iload 3) := by rfl
theorem zi_76_13 : (zM 76).1[13]? = some (.iconst 3) := by rfl
theorem zi_76_14 : (zM 76).1[14]? = some (.idiv) := by rfl
theorem zi_76_15 : (zM 76).1[15]? = some (.invokestatic 6) := by rfl
theorem zi_76_16 : (zM 76).1[16]? = some (.istore 8) := by rfl
theorem zi_76_17 : (zM 76).1[17]? = some (.iload 3) := by rfl
theorem zi_76_18 : (zM 76).1[18]? = some (.iconst 3) := by rfl
theorem zi_76_19 : (zM 76).1[19]? = some (.idiv) := by rfl
theorem zi_76_20 : (zM 76).1[20]? = some (.invokestatic 7) := by rfl
theorem zi_76_21 : (zM 76).1[21]? = some (.istore 9) := by rfl
theorem zi_76_22 : (zM 76).1[22]? = some (.iload 3) := by rfl
theorem zi_76_23 : (zM 76).1[23]? = some (.iconst 3) := by rfl
theorem zi_76_24 : (zM 76).1[24]? = some (.idiv) := by rfl
theorem zi_76_25 : (zM 76).1[25]? = some (.invokestatic 8) := by rfl
theorem zi_76_26 : (zM 76).1[26]? = some (.istore 10) := by rfl
theorem zi_76_27 : (zM 76).1[27]? = some (.aload 1) := by rfl
theorem zi_76_28 : (zM 76).1[28]? = some (.iload 2) := by rfl
theorem zi_76_29 : (zM 76).1[29]? = some (.iload 8) := by rfl
theorem zi_76_30 : (zM 76).1[30]? = some (.iload 9) := by rfl
theorem zi_76_31 : (zM 76).1[31]? = some (.iload 10) := by rfl
theorem zi_76_32 : (zM 76).1[32]? = some (.iload 7) := by rfl
theorem zi_76_33 : (zM 76).1[33]? = some (.invokevirtual 12) := by rfl
theorem zi_76_34 : (zM 76).1[34]? = some (.istore 11) := by rfl
theorem zi_76_35 : (zM 76).1[35]? = some (.aload 0) := by rfl
theorem zi_76_36 : (zM 76).1[36]? = some (.getfield 7206) := by rfl
theorem zi_76_37 : (zM 76).1[37]? = some (.aload 4) := by rfl
theorem zi_76_38 : (zM 76).1[38]? = some (.iload 2) := by rfl
theorem zi_76_39 : (zM 76).1[39]? = some (.iload 8) := by rfl
theorem zi_76_40 : (zM 76).1[40]? = some (.iload 9) := by rfl
theorem zi_76_41 : (zM 76).1[41]? = some (.iload 10) := by rfl
theorem zi_76_42 : (zM 76).1[42]? = some (.iload 11) := by rfl
theorem zi_76_43 : (zM 76).1[43]? = some (.invokevirtual 25) := by rfl
theorem zi_76_44 : (zM 76).1[44]? = some (.aload 0) := by rfl
theorem zi_76_45 : (zM 76).1[45]? = some (.getfield 7206) := by rfl
theorem zi_76_46 : (zM 76).1[46]? = some (.aload 4) := by rfl
theorem zi_76_47 : (zM 76).1[47]? = some (.iload 2) := by rfl
theorem zi_76_48 : (zM 76).1[48]? = some (.invokevirtual 26) := by rfl
theorem zi_76_49 : (zM 76).1[49]? = some (.aload 0) := by rfl
theorem zi_76_50 : (zM 76).1[50]? = some (.getfield 7206) := by rfl
theorem zi_76_51 : (zM 76).1[51]? = some (.getfield 2007) := by rfl
theorem zi_76_52 : (zM 76).1[52]? = some (.aload 0) := by rfl
theorem zi_76_53 : (zM 76).1[53]? = some (.getfield 7206) := by rfl
theorem zi_76_54 : (zM 76).1[54]? = some (.getfield 2008) := by rfl
theorem zi_76_55 : (zM 76).1[55]? = some (.iadd) := by rfl
theorem zi_76_56 : (zM 76).1[56]? = some (.iconst 100) := by rfl
theorem zi_76_57 : (zM 76).1[57]? = some (.aload 4) := by rfl
theorem zi_76_58 : (zM 76).1[58]? = some (.getfield 3200) := by rfl
theorem zi_76_59 : (zM 76).1[59]? = some (.iconst 14) := by rfl
theorem zi_76_60 : (zM 76).1[60]? = some (.iaload) := by rfl
theorem zi_76_61 : (zM 76).1[61]? = some (.imul) := by rfl
theorem zi_76_62 : (zM 76).1[62]? = some (.iload 11) := by rfl
theorem zi_76_63 : (zM 76).1[63]? = some (.imul) := by rfl
theorem zi_76_64 : (zM 76).1[64]? = some (.isub) := by rfl
theorem zi_76_65 : (zM 76).1[65]? = some (.istore 12) := by rfl
theorem zi_76_66 : (zM 76).1[66]? = some (.aload 0) := by rfl
theorem zi_76_67 : (zM 76).1[67]? = some (.getfield 7206) := by rfl
theorem zi_76_68 : (zM 76).1[68]? = some (.getfield 2002) := by rfl
theorem zi_76_69 : (zM 76).1[69]? = some (.aload 1) := by rfl
theorem zi_76_70 : (zM 76).1[70]? = some (.getfield 204) := by rfl
theorem zi_76_71 : (zM 76).1[71]? = some (.iconst 3) := by rfl
theorem zi_76_72 : (zM 76).1[72]? = some (.iload 2) := by rfl
theorem zi_76_73 : (zM 76).1[73]? = some (.imul) := by rfl
theorem zi_76_74 : (zM 76).1[74]? = some (.iload 7) := by rfl
theorem zi_76_75 : (zM 76).1[75]? = some (.iadd) := by rfl
theorem zi_76_76 : (zM 76).1[76]? = some (.iaload) := by rfl
theorem zi_76_77 : (zM 76).1[77]? = some (.imul) := by rfl
theorem zi_76_78 : (zM 76).1[78]? = some (.iconst 4) := by rfl
theorem zi_76_79 : (zM 76).1[79]? = some (.iload 12) := by rfl
theorem zi_76_80 : (zM 76).1[80]? = some (.imul) := by rfl
theorem zi_76_81 : (zM 76).1[81]? = some (.iadd) := by rfl
theorem zi_76_82 : (zM 76).1[82]? = some (.istore 13) := by rfl
theorem zi_76_83 : (zM 76).1[83]? = some (.lload 5) := by rfl
theorem zi_76_84 : (zM 76).1[84]? = some (.aload 1) := by rfl
theorem zi_76_85 : (zM 76).1[85]? = some (.getfield 205) := by rfl
theorem zi_76_86 : (zM 76).1[86]? = some (.iload 2) := by rfl
theorem zi_76_87 : (zM 76).1[87]? = some (.iconst 1) := by rfl
theorem zi_76_88 : (zM 76).1[88]? = some (.iadd) := by rfl
theorem zi_76_89 : (zM 76).1[89]? = some (.laload) := by rfl
theorem zi_76_90 : (zM 76).1[90]? = some (.lmul) := by rfl
theorem zi_76_91 : (zM 76).1[91]? = some (.lstore 14) := by rfl
theorem zi_76_92 : (zM 76).1[92]? = some (.aload 0) := by rfl
theorem zi_76_93 : (zM 76).1[93]? = some (.dup) := by rfl
theorem zi_76_94 : (zM 76).1[94]? = some (.getfield 7108) := by rfl
theorem zi_76_95 : (zM 76).1[95]? = some (.lload 14) := by rfl
theorem zi_76_96 : (zM 76).1[96]? = some (.iload 13) := by rfl
theorem zi_76_97 : (zM 76).1[97]? = some (.i2l) := by rfl
theorem zi_76_98 : (zM 76).1[98]? = some (.lmul) := by rfl
theorem zi_76_99 : (zM 76).1[99]? = some (.ladd) := by rfl
theorem zi_76_100 : (zM 76).1[100]? = some (.putfield 7108) := by rfl
theorem zi_76_101 : (zM 76).1[101]? = some (.aload 0) := by rfl
theorem zi_76_102 : (zM 76).1[102]? = some (.dup) := by rfl
theorem zi_76_103 : (zM 76).1[103]? = some (.getfield 7109) := by rfl
theorem zi_76_104 : (zM 76).1[104]? = some (.jsr_w 4) := by rfl
theorem zi_76_105 : (zM 76).1[105]? = some (.lload 14) := by rfl
theorem zi_76_106 : (zM 76).1[106]? = some (.lmul) := by rfl
theorem zi_76_107 : (zM 76).1[107]? = some (.iload 11) := by rfl
theorem zi_76_108 : (zM 76).1[108]? = some (.i2l) := by rfl
theorem zi_76_109 : (zM 76).1[109]? = some (.lmul) := by rfl
theorem zi_76_110 : (zM 76).1[110]? = some (.ladd) := by rfl
theorem zi_76_111 : (zM 76).1[111]? = some (.putfield 7109) := by rfl
theorem zi_76_112 : (zM 76).1[112]? = some (.aload 0) := by rfl
theorem zi_76_113 : (zM 76).1[113]? = some (.dup) := by rfl
theorem zi_76_114 : (zM 76).1[114]? = some (.getfield 7110) := by rfl
theorem zi_76_115 : (zM 76).1[115]? = some (.jsr_w 4) := by rfl
theorem zi_76_116 : (zM 76).1[116]? = some (.lload 14) := by rfl
theorem zi_76_117 : (zM 76).1[117]? = some (.lmul) := by rfl
theorem zi_76_118 : (zM 76).1[118]? = some (.aload 0) := by rfl
theorem zi_76_119 : (zM 76).1[119]? = some (.getfield 7206) := by rfl
theorem zi_76_120 : (zM 76).1[120]? = some (.getfield 2006) := by rfl
theorem zi_76_121 : (zM 76).1[121]? = some (.i2l) := by rfl
theorem zi_76_122 : (zM 76).1[122]? = some (.lmul) := by rfl
theorem zi_76_123 : (zM 76).1[123]? = some (.ladd) := by rfl
theorem zi_76_124 : (zM 76).1[124]? = some (.putfield 7110) := by rfl
theorem zi_76_125 : (zM 76).1[125]? = some (.aload 0) := by rfl
theorem zi_76_126 : (zM 76).1[126]? = some (.dup) := by rfl
theorem zi_76_127 : (zM 76).1[127]? = some (.getfield 7111) := by rfl
theorem zi_76_128 : (zM 76).1[128]? = some (.jsr_w 4) := by rfl
theorem zi_76_129 : (zM 76).1[129]? = some (.lload 14) := by rfl
theorem zi_76_130 : (zM 76).1[130]? = some (.lmul) := by rfl
theorem zi_76_131 : (zM 76).1[131]? = some (.aload 0) := by rfl
theorem zi_76_132 : (zM 76).1[132]? = some (.getfield 7206) := by rfl
theorem zi_76_133 : (zM 76).1[133]? = some (.getfield 2001) := by rfl
theorem zi_76_134 : (zM 76).1[134]? = some (.i2l) := by rfl
theorem zi_76_135 : (zM 76).1[135]? = some (.lmul) := by rfl
theorem zi_76_136 : (zM 76).1[136]? = some (.ladd) := by rfl
theorem zi_76_137 : (zM 76).1[137]? = some (.putfield 7111) := by rfl
theorem zi_76_138 : (zM 76).1[138]? = some (.iconst 3) := by rfl
theorem zi_76_139 : (zM 76).1[139]? = some (.aload 0) := by rfl
theorem zi_76_140 : (zM 76).1[140]? = some (.getfield 7206) := by rfl
theorem zi_76_141 : (zM 76).1[141]? = some (.getfield 2003) := by rfl
theorem zi_76_142 : (zM 76).1[142]? = some (.aload 0) := by rfl
theorem zi_76_143 : (zM 76).1[143]? = some (.getfield 7206) := by rfl
theorem zi_76_144 : (zM 76).1[144]? = some (.getfield 2004) := by rfl
theorem zi_76_145 : (zM 76).1[145]? = some (.aload 0) := by rfl
theorem zi_76_146 : (zM 76).1[146]? = some (.getfield 7206) := by rfl
theorem zi_76_147 : (zM 76).1[147]? = some (.getfield 2005) := by rfl
theorem zi_76_148 : (zM 76).1[148]? = some (.invokestatic 5) := by rfl
theorem zi_76_149 : (zM 76).1[149]? = some (.imul) := by rfl
theorem zi_76_150 : (zM 76).1[150]? = some (.istore 16) := by rfl
theorem zi_76_151 : (zM 76).1[151]? = some (.iconst 0) := by rfl
theorem zi_76_152 : (zM 76).1[152]? = some (.istore 17) := by rfl
theorem zi_76_153 : (zM 76).1[153]? = some (.iload 17) := by rfl
theorem zi_76_154 : (zM 76).1[154]? = some (.iconst 3) := by rfl
theorem zi_76_155 : (zM 76).1[155]? = some (.if_icmp .ge ((175 : Nat) : Int)) := by rfl
theorem zi_76_156 : (zM 76).1[156]? = some (.aload 4) := by rfl
theorem zi_76_157 : (zM 76).1[157]? = some (.iload 7) := by rfl
theorem zi_76_158 : (zM 76).1[158]? = some (.iload 17) := by rfl
theorem zi_76_159 : (zM 76).1[159]? = some (.invokevirtual 48) := by rfl
theorem zi_76_160 : (zM 76).1[160]? = some (.ifCond .le ((173 : Nat) : Int)) := by rfl
theorem zi_76_161 : (zM 76).1[161]? = some (.aload 0) := by rfl
theorem zi_76_162 : (zM 76).1[162]? = some (.iload 16) := by rfl
theorem zi_76_163 : (zM 76).1[163]? = some (.iload 17) := by rfl
theorem zi_76_164 : (zM 76).1[164]? = some (.iadd) := by rfl
theorem zi_76_165 : (zM 76).1[165]? = some (.lload 5) := by rfl
theorem zi_76_166 : (zM 76).1[166]? = some (.aload 4) := by rfl
theorem zi_76_167 : (zM 76).1[167]? = some (.iload 7) := by rfl
theorem zi_76_168 : (zM 76).1[168]? = some (.iload 17) := by rfl
theorem zi_76_169 : (zM 76).1[169]? = some (.invokevirtual 48) := by rfl
theorem zi_76_170 : (zM 76).1[170]? = some (.i2l) := by rfl
theorem zi_76_171 : (zM 76).1[171]? = some (.lmul) := by rfl
theorem zi_76_172 : (zM 76).1[172]? = some (.invokevirtual 75) := by rfl
theorem zi_76_173 : (zM 76).1[173]? = some (.iinc 17 1) := by rfl
theorem zi_76_174 : (zM 76).1[174]? = some (.goto ((153 : Nat) : Int)) := by rfl
theorem zi_76_175 : (zM 76).1[175]? = some (.return_) := by rfl
def wb_76_173 (E : Nat → Nat) (d : Nat) (Q : Option Value → ZH → Prop) (L_153 : Nat → Nat → Int64 → Int32 → Int32 → Int32 → ZH → Prop) (a0 : Nat) (a4 : Nat) (a5 : Int64) (a7 : Int32) (a16 : Int32) (a17 : Int32) (h : ZH) : Prop := ∀ x41 : Int32, x41 = (a17 + 1) → L_153 a0 a4 a5 a7 a16 x41 h
set_option maxRecDepth 20000 in
theorem okb_76_173 {E : Nat → Nat} {d : Nat} {Q : Option Value → ZH → Prop} {L_153 : Nat → Nat → Int64 → Int32 → Int32 → Int32 → ZH → Prop} (hL_153 : ∀ (b0 : Nat) (b4 : Nat) (b5 : Int64) (b7 : Int32) (b16 : Int32) (b17 : Int32) (h : ZH), L_153 b0 b4 b5 b7 b16 b17 h → Gx E (d + 1) 76 153 [.ref b0, .retAddr 0, .retAddr 0, .retAddr 0, .ref b4, .long b5, .retAddr 0, .int b7, .retAddr 0, .retAddr 0, .retAddr 0, .retAddr 0, .retAddr 0, .retAddr 0, .retAddr 0, .retAddr 0, .int b16, .int b17] [] h Q) {a0 : Nat} {a4 : Nat} {a5 : Int64} {a7 : Int32} {a16 : Int32} {a17 : Int32} {h : ZH} (hw : wb_76_173 E d Q L_153 a0 a4 a5 a7 a16 a17 h) : Gx E (d + 1) 76 173 [.ref a0, .retAddr 0, .retAddr 0, .retAddr 0, .ref a4, .long a5, .retAddr 0, .int a7, .retAddr 0, .retAddr 0, .retAddr 0, .retAddr 0, .retAddr 0, .retAddr 0, .retAddr 0, .retAddr 0, .int a16, .int a17] [] h Q := by
  unfold wb_76_173 at hw
  obtain ⟨x41, ex41⟩ : ∃ x : Int32, x = a17 + 1 := ⟨_, rfl⟩
  have hw := hw x41 ex41
  refine zg_iinc (v := x41) (ls1 := [.ref a0, .retAddr 0, .retAddr 0, .retAddr 0, .ref a4, .long a5, .retAddr 0, .int a7, .retAddr 0, .retAddr 0, .retAddr 0, .retAddr 0, .retAddr 0, .retAddr 0, .retAddr 0, .retAddr 0, .int a16, .int x41]) zi_76_173 rfl (by rw [ex41]; rfl) rfl ?_
  refine zg_goto zi_76_174 ?_
  exact hL_153 a0 a4 a5 a7 a16 x41 h hw
def wl_76_153 (E : Nat → Nat) (d : Nat) (Q : Option Value → ZH → Prop) : Nat → Nat → Nat → Int64 → Int32 → Int32 → Int32 → ZH → Prop
  | 0, _, _, _, _, _, _, _ => False
  | n + 1, a0, a4, a5, a7, a16, a17, h => (3 ≤ a17 → (Q none h)) ∧ (¬ (3 ≤ a17) → (ztag h a4 = 3 ∧ 1 ≤ d ∧ sz_48 E h a4 a7 a17 ∧ (((fz_48 E h a4 a7 a17 : Int32) ≤ 0 → (wb_76_173 E d Q (wl_76_153 E d Q n) a0 a4 a5 a7 a16 a17 h)) ∧ (¬ ((fz_48 E h a4 a7 a17 : Int32) ≤ 0) → (1 ≤ d ∧ sz_48 E h a4 a7 a17 ∧ ztag h a0 = 7 ∧ Ct E d 75 [.ref a0, .int (a16 + a17), .long (a5 * ((fz_48 E h a4 a7 a17 : Int32).toInt64))] h (fun v h43 => v = none ∧ wb_76_173 E d Q (wl_76_153 E d Q n) a0 a4 a5 a7 a16 a17 h43))))))
set_option maxRecDepth 20000 in
theorem okl_76_153 {E : Nat → Nat} {d : Nat} {Q : Option Value → ZH → Prop} : ∀ (n : Nat) (a0 : Nat) (a4 : Nat) (a5 : Int64) (a7 : Int32) (a16 : Int32) (a17 : Int32) (h : ZH), wl_76_153 E d Q n a0 a4 a5 a7 a16 a17 h → Gx E (d + 1) 76 153 [.ref a0, .retAddr 0, .retAddr 0, .retAddr 0, .ref a4, .long a5, .retAddr 0, .int a7, .retAddr 0, .retAddr 0, .retAddr 0, .retAddr 0, .retAddr 0, .retAddr 0, .retAddr 0, .retAddr 0, .int a16, .int a17] [] h Q := by
  intro n
  induction n with
  | zero => intro a0 a4 a5 a7 a16 a17 h hw; exact hw.elim
  | succ n ih =>
    intro a0 a4 a5 a7 a16 a17 h hw
    rw [wl_76_153] at hw
    refine zg_iload zi_76_153 rfl ?_
    refine zg_const (v := 3) zi_76_154 (by rfl) ?_
    refine zg_icmp_ge zi_76_155 (fun hc => ?_) (fun hc => ?_)
    · have hw := hw.1 hc
      exact zg_return zi_76_175 hw
    · have hw := hw.2 hc
      refine zg_aload zi_76_156 rfl ?_
      refine zg_iload zi_76_157 rfl ?_
      refine zg_iload zi_76_158 rfl ?_
      obtain ⟨t40, hw⟩ := hw
      obtain ⟨hd, hs, hw⟩ := hw
      refine Gx.call2 (as := [.ref a4, .int a7, .int a17]) (rest := []) zq_48 zi_76_159 rfl rfl rfl (Nat.le_of_ble_eq_true rfl) (Nat.le_of_ble_eq_true rfl) (zrv_v t40 rfl rfl) (Nat.le_of_ble_eq_true rfl) ?_
      refine cz_48 hd hs ?_
      show Gx E (d + 1) 76 160 [.ref a0, .retAddr 0, .retAddr 0, .retAddr 0, .ref a4, .long a5, .retAddr 0, .int a7, .retAddr 0, .retAddr 0, .retAddr 0, .retAddr 0, .retAddr 0, .retAddr 0, .retAddr 0, .retAddr 0, .int a16, .int a17] [.int (fz_48 E h a4 a7 a17)] h Q
      refine zg_if_le zi_76_160 (fun hc => ?_) (fun hc => ?_)
      · have hw := hw.1 hc
        exact okb_76_173 ih hw
      · have hw := hw.2 hc
        refine zg_aload zi_76_161 rfl ?_
        refine zg_iload zi_76_162 rfl ?_
        refine zg_iload zi_76_163 rfl ?_
        refine zg_iadd zi_76_164 ?_
        refine zg_lload zi_76_165 rfl ?_
        refine zg_aload zi_76_166 rfl ?_
        refine zg_iload zi_76_167 rfl ?_
        refine zg_iload zi_76_168 rfl ?_
        obtain ⟨hd, hs, hw⟩ := hw
        refine Gx.call2 (as := [.ref a4, .int a7, .int a17]) (rest := [.long a5, .int (a16 + a17), .ref a0]) zq_48 zi_76_169 rfl rfl rfl (Nat.le_of_ble_eq_true rfl) (Nat.le_of_ble_eq_true rfl) (zrv_v t40 rfl rfl) (Nat.le_of_ble_eq_true rfl) ?_
        refine cz_48 hd hs ?_
        show Gx E (d + 1) 76 170 [.ref a0, .retAddr 0, .retAddr 0, .retAddr 0, .ref a4, .long a5, .retAddr 0, .int a7, .retAddr 0, .retAddr 0, .retAddr 0, .retAddr 0, .retAddr 0, .retAddr 0, .retAddr 0, .retAddr 0, .int a16, .int a17] [.int (fz_48 E h a4 a7 a17), .long a5, .int (a16 + a17), .ref a0] h Q
        refine zg_i2l zi_76_170 ?_
        refine zg_lmul zi_76_171 ?_
        obtain ⟨t42, hw⟩ := hw
        refine Gx.call2 (as := [.ref a0, .int (a16 + a17), .long (a5 * ((fz_48 E h a4 a7 a17 : Int32).toInt64))]) (rest := []) zq_75 zi_76_172 rfl rfl rfl (Nat.le_of_ble_eq_true rfl) (Nat.le_of_ble_eq_true rfl) (zrv_v t42 rfl rfl) (Nat.le_of_ble_eq_true rfl) ?_
        refine Ct.mono hw ?_
        rintro v h43 ⟨rfl, hw⟩
        show Gx E (d + 1) 76 173 [.ref a0, .retAddr 0, .retAddr 0, .retAddr 0, .ref a4, .long a5, .retAddr 0, .int a7, .retAddr 0, .retAddr 0, .retAddr 0, .retAddr 0, .retAddr 0, .retAddr 0, .retAddr 0, .retAddr 0, .int a16, .int a17] [] h43 Q
        exact okb_76_173 ih hw
/-- TakeOrPay$Spread.follow(LTakeOrPay$Best;II)V -/
def w_76 (E : Nat → Nat) (d : Nat) (a0 : Nat) (a1 : Nat) (a2 : Int32) (a3 : Int32) (h : ZH) (Q : Option Value → ZH → Prop) : Prop := ztag h a1 = 0 ∧ ∃ r2 : Nat, zR h a1 6 = r2 + 1 ∧ ztag h a0 = 7 ∧ ∃ r4 : Nat, zR h a0 0 = r4 + 1 ∧ ztag h r4 = 14 ∧ zin a3 (zlen h r4) = true ∧ ∀ x6 : Int64, x6 = (zL h r4 a3.toNatClampNeg) → ∀ x7 : Int32, x7 = (a3 - a3 / 3 * 3) → 1 ≤ d ∧ sz_6 E h (a3 / 3) ∧ ∀ x8 : Int32, x8 = (fz_6 E h (a3 / 3)) → 5 ≤ d ∧ sz_7 E h (a3 / 3) ∧ ∀ x9 : Int32, x9 = (fz_7 E h (a3 / 3)) → 1 ≤ d ∧ sz_8 E h (a3 / 3) ∧ ∀ x10 : Int32, x10 = (fz_8 E h (a3 / 3)) → Ct E d 12 [.ref a1, .int a2, .int x8, .int x9, .int x10, .int x7] h (fun v h11 => ∃ x12 : Int32, v = some (.int x12) ∧ ztag h11 a0 = 7 ∧ ∃ r14 : Nat, zR h11 a0 6 = r14 + 1 ∧ ztag h11 r14 = 2 ∧ Ct E d 25 [.ref r14, .ref r2, .int a2, .int x8, .int x9, .int x10, .int x12] h11 (fun v h16 => v = none ∧ ztag h16 a0 = 7 ∧ ∃ r18 : Nat, zR h16 a0 6 = r18 + 1 ∧ ztag h16 r18 = 2 ∧ Ct E d 26 [.ref r18, .ref r2, .int a2] h16 (fun v h20 => v = none ∧ ztag h20 a0 = 7 ∧ ∃ r22 : Nat, zR h20 a0 6 = r22 + 1 ∧ ztag h20 r22 = 2 ∧ ztag h20 r2 = 3 ∧ ∃ r25 : Nat, zR h20 r2 0 = r25 + 1 ∧ (ztag h20 r25 = 13 ∨ ztag h20 r25 = 19) ∧ zin 14 (zlen h20 r25) = true ∧ ∀ x27 : Int32, x27 = (((zI h20 r22 7) + (zI h20 r22 8)) - ((100 * (zI h20 r25 14)) * x12)) → ztag h20 a1 = 0 ∧ ∃ r29 : Nat, zR h20 a1 4 = r29 + 1 ∧ (ztag h20 r29 = 13 ∨ ztag h20 r29 = 19) ∧ zin ((3 * a2) + x7) (zlen h20 r29) = true ∧ ∀ x31 : Int32, x31 = (((zI h20 r22 2) * (zI h20 r29 ((3 * a2) + x7 : Int32).toNatClampNeg)) + (4 * x27)) → ∃ r32 : Nat, zR h20 a1 5 = r32 + 1 ∧ ztag h20 r32 = 14 ∧ zin (a2 + 1) (zlen h20 r32) = true ∧ ∀ x34 : Int64, x34 = (x6 * (zL h20 r32 (a2 + 1 : Int32).toNatClampNeg)) → ∀ h35 : ZH, h35 = (zuL h20 a0 8 ((zL h20 a0 8) + (x34 * x31.toInt64))) → ∀ h36 : ZH, h36 = (zuL h35 a0 9 ((zL h35 a0 9) + ((4 * x34) * x12.toInt64))) → ∀ h37 : ZH, h37 = (zuL h36 a0 10 ((zL h36 a0 10) + ((4 * x34) * ((zI h36 r22 6 : Int32).toInt64)))) → ∀ h38 : ZH, h38 = (zuL h37 a0 11 ((zL h37 a0 11) + ((4 * x34) * ((zI h37 r22 1 : Int32).toInt64)))) → 1 ≤ d ∧ sz_5 E h38 (zI h38 r22 3) (zI h38 r22 4) (zI h38 r22 5) ∧ ∀ x39 : Int32, x39 = (3 * (fz_5 E h38 (zI h38 r22 3) (zI h38 r22 4) (zI h38 r22 5))) → (∃ mm : Nat, wl_76_153 E d Q mm a0 r2 x6 x7 x39 0 h38))))
set_option maxRecDepth 20000 in
theorem ok_76 {E : Nat → Nat} {d : Nat} {a0 : Nat} {a1 : Nat} {a2 : Int32} {a3 : Int32} {h : ZH} {Q : Option Value → ZH → Prop} (hw : w_76 E d a0 a1 a2 a3 h Q) : Ct E (d + 1) 76 [.ref a0, .ref a1, .int a2, .int a3] h Q := by
  unfold w_76 at hw
  show Gx E (d + 1) 76 0 [.ref a0, .ref a1, .int a2, .int a3, .retAddr 0, .retAddr 0, .retAddr 0, .retAddr 0, .retAddr 0, .retAddr 0, .retAddr 0, .retAddr 0, .retAddr 0, .retAddr 0, .retAddr 0, .retAddr 0, .retAddr 0, .retAddr 0] [] h Q
  refine zg_aload zi_76_0 rfl ?_
  obtain ⟨t1, hw⟩ := hw
  obtain ⟨r2, er2, hw⟩ := hw
  refine zg_getR (v := .ref r2) zi_76_1 t1 (by rfl) (by show zrv (zR h a1 6) = _; rw [er2]; rfl) ?_
  refine zg_astore (ls1 := [.ref a0, .ref a1, .int a2, .int a3, .ref r2, .retAddr 0, .retAddr 0, .retAddr 0, .retAddr 0, .retAddr 0, .retAddr 0, .retAddr 0, .retAddr 0, .retAddr 0, .retAddr 0, .retAddr 0, .retAddr 0, .retAddr 0]) zi_76_2 (Nat.le_of_ble_eq_true rfl) rfl ?_
  refine zg_aload zi_76_3 rfl ?_
  obtain ⟨t3, hw⟩ := hw
  obtain ⟨r4, er4, hw⟩ := hw
  refine zg_getR (v := .ref r4) zi_76_4 t3 (by rfl) (by show zrv (zR h a0 0) = _; rw [er4]; rfl) ?_
  refine zg_iload zi_76_5 rfl ?_
  obtain ⟨t5, hw⟩ := hw
  obtain ⟨hb, hw⟩ := hw
  refine zg_laload (v := .long (zL h r4 a3.toNatClampNeg)) zi_76_6 t5 hb rfl ?_
  refine zg_nameL fun x6 ex6 => ?_
  have hw := hw x6 ex6
  refine zg_lstore (ls1 := [.ref a0, .ref a1, .int a2, .int a3, .ref r2, .long x6, .retAddr 0, .retAddr 0, .retAddr 0, .retAddr 0, .retAddr 0, .retAddr 0, .retAddr 0, .retAddr 0, .retAddr 0, .retAddr 0, .retAddr 0, .retAddr 0]) zi_76_7 (Nat.le_of_ble_eq_true rfl) rfl ?_
  refine zg_iload zi_76_8 rfl ?_
  refine zg_const (v := 3) zi_76_9 (by rfl) ?_
  refine zg_irem zi_76_10 (by decide) ?_
  refine zg_nameI fun x7 ex7 => ?_
  have hw := hw x7 ex7
  refine zg_istore (ls1 := [.ref a0, .ref a1, .int a2, .int a3, .ref r2, .long x6, .retAddr 0, .int x7, .retAddr 0, .retAddr 0, .retAddr 0, .retAddr 0, .retAddr 0, .retAddr 0, .retAddr 0, .retAddr 0, .retAddr 0, .retAddr 0]) zi_76_11 (Nat.le_of_ble_eq_true rfl) rfl ?_
  refine zg_iload zi_76_12 rfl ?_
  refine zg_const (v := 3) zi_76_13 (by rfl) ?_
  refine zg_idiv zi_76_14 (by decide) ?_
  obtain ⟨hd, hs, hw⟩ := hw
  refine Gx.call2 (as := [.int (a3 / 3)]) (rest := []) zq_6 zi_76_15 rfl rfl rfl (Nat.le_of_ble_eq_true rfl) (Nat.le_of_ble_eq_true rfl) (rfl) (Nat.le_of_ble_eq_true rfl) ?_
  refine cz_6 hd hs ?_
  show Gx E (d + 1) 76 16 [.ref a0, .ref a1, .int a2, .int a3, .ref r2, .long x6, .retAddr 0, .int x7, .retAddr 0, .retAddr 0, .retAddr 0, .retAddr 0, .retAddr 0, .retAddr 0, .retAddr 0, .retAddr 0, .retAddr 0, .retAddr 0] [.int (fz_6 E h (a3 / 3))] h Q
  refine zg_nameI fun x8 ex8 => ?_
  have hw := hw x8 ex8
  refine zg_istore (ls1 := [.ref a0, .ref a1, .int a2, .int a3, .ref r2, .long x6, .retAddr 0, .int x7, .int x8, .retAddr 0, .retAddr 0, .retAddr 0, .retAddr 0, .retAddr 0, .retAddr 0, .retAddr 0, .retAddr 0, .retAddr 0]) zi_76_16 (Nat.le_of_ble_eq_true rfl) rfl ?_
  refine zg_iload zi_76_17 rfl ?_
  refine zg_const (v := 3) zi_76_18 (by rfl) ?_
  refine zg_idiv zi_76_19 (by decide) ?_
  obtain ⟨hd, hs, hw⟩ := hw
  refine Gx.call2 (as := [.int (a3 / 3)]) (rest := []) zq_7 zi_76_20 rfl rfl rfl (Nat.le_of_ble_eq_true rfl) (Nat.le_of_ble_eq_true rfl) (rfl) (Nat.le_of_ble_eq_true rfl) ?_
  refine cz_7 hd hs ?_
  show Gx E (d + 1) 76 21 [.ref a0, .ref a1, .int a2, .int a3, .ref r2, .long x6, .retAddr 0, .int x7, .int x8, .retAddr 0, .retAddr 0, .retAddr 0, .retAddr 0, .retAddr 0, .retAddr 0, .retAddr 0, .retAddr 0, .retAddr 0] [.int (fz_7 E h (a3 / 3))] h Q
  refine zg_nameI fun x9 ex9 => ?_
  have hw := hw x9 ex9
  refine zg_istore (ls1 := [.ref a0, .ref a1, .int a2, .int a3, .ref r2, .long x6, .retAddr 0, .int x7, .int x8, .int x9, .retAddr 0, .retAddr 0, .retAddr 0, .retAddr 0, .retAddr 0, .retAddr 0, .retAddr 0, .retAddr 0]) zi_76_21 (Nat.le_of_ble_eq_true rfl) rfl ?_
  refine zg_iload zi_76_22 rfl ?_
  refine zg_const (v := 3) zi_76_23 (by rfl) ?_
  refine zg_idiv zi_76_24 (by decide) ?_
  obtain ⟨hd, hs, hw⟩ := hw
  refine Gx.call2 (as := [.int (a3 / 3)]) (rest := []) zq_8 zi_76_25 rfl rfl rfl (Nat.le_of_ble_eq_true rfl) (Nat.le_of_ble_eq_true rfl) (rfl) (Nat.le_of_ble_eq_true rfl) ?_
  refine cz_8 hd hs ?_
  show Gx E (d + 1) 76 26 [.ref a0, .ref a1, .int a2, .int a3, .ref r2, .long x6, .retAddr 0, .int x7, .int x8, .int x9, .retAddr 0, .retAddr 0, .retAddr 0, .retAddr 0, .retAddr 0, .retAddr 0, .retAddr 0, .retAddr 0] [.int (fz_8 E h (a3 / 3))] h Q
  refine zg_nameI fun x10 ex10 => ?_
  have hw := hw x10 ex10
  refine zg_istore (ls1 := [.ref a0, .ref a1, .int a2, .int a3, .ref r2, .long x6, .retAddr 0, .int x7, .int x8, .int x9, .int x10, .retAddr 0, .retAddr 0, .retAddr 0, .retAddr 0, .retAddr 0, .retAddr 0, .retAddr 0]) zi_76_26 (Nat.le_of_ble_eq_true rfl) rfl ?_
  refine zg_aload zi_76_27 rfl ?_
  refine zg_iload zi_76_28 rfl ?_
  refine zg_iload zi_76_29 rfl ?_
  refine zg_iload zi_76_30 rfl ?_
  refine zg_iload zi_76_31 rfl ?_
  refine zg_iload zi_76_32 rfl ?_
  refine Gx.call2 (as := [.ref a1, .int a2, .int x8, .int x9, .int x10, .int x7]) (rest := []) zq_12 zi_76_33 rfl rfl rfl (Nat.le_of_ble_eq_true rfl) (Nat.le_of_ble_eq_true rfl) (zrv_v t1 rfl rfl) (Nat.le_of_ble_eq_true rfl) ?_
  refine Ct.mono hw ?_
  rintro v h11 ⟨x12, rfl, hw⟩
  show Gx E (d + 1) 76 34 [.ref a0, .ref a1, .int a2, .int a3, .ref r2, .long x6, .retAddr 0, .int x7, .int x8, .int x9, .int x10, .retAddr 0, .retAddr 0, .retAddr 0, .retAddr 0, .retAddr 0, .retAddr 0, .retAddr 0] [.int x12] h11 Q
  refine zg_istore (ls1 := [.ref a0, .ref a1, .int a2, .int a3, .ref r2, .long x6, .retAddr 0, .int x7, .int x8, .int x9, .int x10, .int x12, .retAddr 0, .retAddr 0, .retAddr 0, .retAddr 0, .retAddr 0, .retAddr 0]) zi_76_34 (Nat.le_of_ble_eq_true rfl) rfl ?_
  refine zg_aload zi_76_35 rfl ?_
  obtain ⟨t13, hw⟩ := hw
  obtain ⟨r14, er14, hw⟩ := hw
  refine zg_getR (v := .ref r14) zi_76_36 t13 (by rfl) (by show zrv (zR h11 a0 6) = _; rw [er14]; rfl) ?_
  refine zg_aload zi_76_37 rfl ?_
  refine zg_iload zi_76_38 rfl ?_
  refine zg_iload zi_76_39 rfl ?_
  refine zg_iload zi_76_40 rfl ?_
  refine zg_iload zi_76_41 rfl ?_
  refine zg_iload zi_76_42 rfl ?_
  obtain ⟨t15, hw⟩ := hw
  refine Gx.call2 (as := [.ref r14, .ref r2, .int a2, .int x8, .int x9, .int x10, .int x12]) (rest := []) zq_25 zi_76_43 rfl rfl rfl (Nat.le_of_ble_eq_true rfl) (Nat.le_of_ble_eq_true rfl) (zrv_v t15 rfl rfl) (Nat.le_of_ble_eq_true rfl) ?_
  refine Ct.mono hw ?_
  rintro v h16 ⟨rfl, hw⟩
  show Gx E (d + 1) 76 44 [.ref a0, .ref a1, .int a2, .int a3, .ref r2, .long x6, .retAddr 0, .int x7, .int x8, .int x9, .int x10, .int x12, .retAddr 0, .retAddr 0, .retAddr 0, .retAddr 0, .retAddr 0, .retAddr 0] [] h16 Q
  refine zg_aload zi_76_44 rfl ?_
  obtain ⟨t17, hw⟩ := hw
  obtain ⟨r18, er18, hw⟩ := hw
  refine zg_getR (v := .ref r18) zi_76_45 t17 (by rfl) (by show zrv (zR h16 a0 6) = _; rw [er18]; rfl) ?_
  refine zg_aload zi_76_46 rfl ?_
  refine zg_iload zi_76_47 rfl ?_
  obtain ⟨t19, hw⟩ := hw
  refine Gx.call2 (as := [.ref r18, .ref r2, .int a2]) (rest := []) zq_26 zi_76_48 rfl rfl rfl (Nat.le_of_ble_eq_true rfl) (Nat.le_of_ble_eq_true rfl) (zrv_v t19 rfl rfl) (Nat.le_of_ble_eq_true rfl) ?_
  refine Ct.mono hw ?_
  rintro v h20 ⟨rfl, hw⟩
  show Gx E (d + 1) 76 49 [.ref a0, .ref a1, .int a2, .int a3, .ref r2, .long x6, .retAddr 0, .int x7, .int x8, .int x9, .int x10, .int x12, .retAddr 0, .retAddr 0, .retAddr 0, .retAddr 0, .retAddr 0, .retAddr 0] [] h20 Q
  refine zg_aload zi_76_49 rfl ?_
  obtain ⟨t21, hw⟩ := hw
  obtain ⟨r22, er22, hw⟩ := hw
  refine zg_getR (v := .ref r22) zi_76_50 t21 (by rfl) (by show zrv (zR h20 a0 6) = _; rw [er22]; rfl) ?_
  obtain ⟨t23, hw⟩ := hw
  refine zg_getI (v := .int (zI h20 r22 7)) zi_76_51 t23 (by rfl) rfl ?_
  refine zg_aload zi_76_52 rfl ?_
  refine zg_getR (v := .ref r22) zi_76_53 t21 (by rfl) (by show zrv (zR h20 a0 6) = _; rw [er22]; rfl) ?_
  refine zg_getI (v := .int (zI h20 r22 8)) zi_76_54 t23 (by rfl) rfl ?_
  refine zg_iadd zi_76_55 ?_
  refine zg_const (v := 100) zi_76_56 (by rfl) ?_
  refine zg_aload zi_76_57 rfl ?_
  obtain ⟨t24, hw⟩ := hw
  obtain ⟨r25, er25, hw⟩ := hw
  refine zg_getR (v := .ref r25) zi_76_58 t24 (by rfl) (by show zrv (zR h20 r2 0) = _; rw [er25]; rfl) ?_
  refine zg_const (v := 14) zi_76_59 (by rfl) ?_
  obtain ⟨t26, hw⟩ := hw
  obtain ⟨hb, hw⟩ := hw
  refine zg_iaload (v := .int (zI h20 r25 14)) zi_76_60 t26 hb rfl ?_
  refine zg_imul zi_76_61 ?_
  refine zg_iload zi_76_62 rfl ?_
  refine zg_imul zi_76_63 ?_
  refine zg_isub zi_76_64 ?_
  refine zg_nameI fun x27 ex27 => ?_
  have hw := hw x27 ex27
  refine zg_istore (ls1 := [.ref a0, .ref a1, .int a2, .int a3, .ref r2, .long x6, .retAddr 0, .int x7, .int x8, .int x9, .int x10, .int x12, .int x27, .retAddr 0, .retAddr 0, .retAddr 0, .retAddr 0, .retAddr 0]) zi_76_65 (Nat.le_of_ble_eq_true rfl) rfl ?_
  refine zg_aload zi_76_66 rfl ?_
  refine zg_getR (v := .ref r22) zi_76_67 t21 (by rfl) (by show zrv (zR h20 a0 6) = _; rw [er22]; rfl) ?_
  refine zg_getI (v := .int (zI h20 r22 2)) zi_76_68 t23 (by rfl) rfl ?_
  refine zg_aload zi_76_69 rfl ?_
  obtain ⟨t28, hw⟩ := hw
  obtain ⟨r29, er29, hw⟩ := hw
  refine zg_getR (v := .ref r29) zi_76_70 t28 (by rfl) (by show zrv (zR h20 a1 4) = _; rw [er29]; rfl) ?_
  refine zg_const (v := 3) zi_76_71 (by rfl) ?_
  refine zg_iload zi_76_72 rfl ?_
  refine zg_imul zi_76_73 ?_
  refine zg_iload zi_76_74 rfl ?_
  refine zg_iadd zi_76_75 ?_
  obtain ⟨t30, hw⟩ := hw
  obtain ⟨hb, hw⟩ := hw
  refine zg_iaload (v := .int (zI h20 r29 ((3 * a2) + x7 : Int32).toNatClampNeg)) zi_76_76 t30 hb rfl ?_
  refine zg_imul zi_76_77 ?_
  refine zg_const (v := 4) zi_76_78 (by rfl) ?_
  refine zg_iload zi_76_79 rfl ?_
  refine zg_imul zi_76_80 ?_
  refine zg_iadd zi_76_81 ?_
  refine zg_nameI fun x31 ex31 => ?_
  have hw := hw x31 ex31
  refine zg_istore (ls1 := [.ref a0, .ref a1, .int a2, .int a3, .ref r2, .long x6, .retAddr 0, .int x7, .int x8, .int x9, .int x10, .int x12, .int x27, .int x31, .retAddr 0, .retAddr 0, .retAddr 0, .retAddr 0]) zi_76_82 (Nat.le_of_ble_eq_true rfl) rfl ?_
  refine zg_lload zi_76_83 rfl ?_
  refine zg_aload zi_76_84 rfl ?_
  obtain ⟨r32, er32, hw⟩ := hw
  refine zg_getR (v := .ref r32) zi_76_85 t28 (by rfl) (by show zrv (zR h20 a1 5) = _; rw [er32]; rfl) ?_
  refine zg_iload zi_76_86 rfl ?_
  refine zg_const (v := 1) zi_76_87 (by rfl) ?_
  refine zg_iadd zi_76_88 ?_
  obtain ⟨t33, hw⟩ := hw
  obtain ⟨hb, hw⟩ := hw
  refine zg_laload (v := .long (zL h20 r32 (a2 + 1 : Int32).toNatClampNeg)) zi_76_89 t33 hb rfl ?_
  refine zg_lmul zi_76_90 ?_
  refine zg_nameL fun x34 ex34 => ?_
  have hw := hw x34 ex34
  refine zg_lstore (ls1 := [.ref a0, .ref a1, .int a2, .int a3, .ref r2, .long x6, .retAddr 0, .int x7, .int x8, .int x9, .int x10, .int x12, .int x27, .int x31, .long x34, .retAddr 0, .retAddr 0, .retAddr 0]) zi_76_91 (Nat.le_of_ble_eq_true rfl) rfl ?_
  refine zg_aload zi_76_92 rfl ?_
  refine zg_dup zi_76_93 rfl ?_
  refine zg_getL (v := .long (zL h20 a0 8)) zi_76_94 t21 (by rfl) rfl ?_
  refine zg_lload zi_76_95 rfl ?_
  refine zg_iload zi_76_96 rfl ?_
  refine zg_i2l zi_76_97 ?_
  refine zg_lmul zi_76_98 ?_
  refine zg_ladd zi_76_99 ?_
  refine zg_putL (h1 := zuL h20 a0 8 ((zL h20 a0 8) + (x34 * x31.toInt64))) zi_76_100 t21 (by rfl) rfl ?_
  refine zg_nameH fun h35 eh35 => ?_
  have hw := hw h35 eh35
  refine zg_aload zi_76_101 rfl ?_
  refine zg_dup zi_76_102 rfl ?_
  refine zg_getL (v := .long (zL h35 a0 9)) zi_76_103 (by rw [eh35]; exact t21) (by rfl) rfl ?_
  refine zg_lconst (v := 4) zi_76_104 (by rfl) ?_
  refine zg_lload zi_76_105 rfl ?_
  refine zg_lmul zi_76_106 ?_
  refine zg_iload zi_76_107 rfl ?_
  refine zg_i2l zi_76_108 ?_
  refine zg_lmul zi_76_109 ?_
  refine zg_ladd zi_76_110 ?_
  refine zg_putL (h1 := zuL h35 a0 9 ((zL h35 a0 9) + ((4 * x34) * x12.toInt64))) zi_76_111 (by rw [eh35]; exact t21) (by rfl) rfl ?_
  refine zg_nameH fun h36 eh36 => ?_
  have hw := hw h36 eh36
  refine zg_aload zi_76_112 rfl ?_
  refine zg_dup zi_76_113 rfl ?_
  refine zg_getL (v := .long (zL h36 a0 10)) zi_76_114 (by rw [eh36, eh35]; exact t21) (by rfl) rfl ?_
  refine zg_lconst (v := 4) zi_76_115 (by rfl) ?_
  refine zg_lload zi_76_116 rfl ?_
  refine zg_lmul zi_76_117 ?_
  refine zg_aload zi_76_118 rfl ?_
  refine zg_getR (v := .ref r22) zi_76_119 (by rw [eh36, eh35]; exact t21) (by rfl) (by rw [eh36, eh35]; show zrv (zR h20 a0 6) = _; rw [er22]; rfl) ?_
  refine zg_getI (v := .int (zI h36 r22 6)) zi_76_120 (by rw [eh36, eh35]; exact t23) (by rfl) rfl ?_
  refine zg_i2l zi_76_121 ?_
  refine zg_lmul zi_76_122 ?_
  refine zg_ladd zi_76_123 ?_
  refine zg_putL (h1 := zuL h36 a0 10 ((zL h36 a0 10) + ((4 * x34) * ((zI h36 r22 6 : Int32).toInt64)))) zi_76_124 (by rw [eh36, eh35]; exact t21) (by rfl) rfl ?_
  refine zg_nameH fun h37 eh37 => ?_
  have hw := hw h37 eh37
  refine zg_aload zi_76_125 rfl ?_
  refine zg_dup zi_76_126 rfl ?_
  refine zg_getL (v := .long (zL h37 a0 11)) zi_76_127 (by rw [eh37, eh36, eh35]; exact t21) (by rfl) rfl ?_
  refine zg_lconst (v := 4) zi_76_128 (by rfl) ?_
  refine zg_lload zi_76_129 rfl ?_
  refine zg_lmul zi_76_130 ?_
  refine zg_aload zi_76_131 rfl ?_
  refine zg_getR (v := .ref r22) zi_76_132 (by rw [eh37, eh36, eh35]; exact t21) (by rfl) (by rw [eh37, eh36, eh35]; show zrv (zR h20 a0 6) = _; rw [er22]; rfl) ?_
  refine zg_getI (v := .int (zI h37 r22 1)) zi_76_133 (by rw [eh37, eh36, eh35]; exact t23) (by rfl) rfl ?_
  refine zg_i2l zi_76_134 ?_
  refine zg_lmul zi_76_135 ?_
  refine zg_ladd zi_76_136 ?_
  refine zg_putL (h1 := zuL h37 a0 11 ((zL h37 a0 11) + ((4 * x34) * ((zI h37 r22 1 : Int32).toInt64)))) zi_76_137 (by rw [eh37, eh36, eh35]; exact t21) (by rfl) rfl ?_
  refine zg_nameH fun h38 eh38 => ?_
  have hw := hw h38 eh38
  refine zg_const (v := 3) zi_76_138 (by rfl) ?_
  refine zg_aload zi_76_139 rfl ?_
  refine zg_getR (v := .ref r22) zi_76_140 (by rw [eh38, eh37, eh36, eh35]; exact t21) (by rfl) (by rw [eh38, eh37, eh36, eh35]; show zrv (zR h20 a0 6) = _; rw [er22]; rfl) ?_
  refine zg_getI (v := .int (zI h38 r22 3)) zi_76_141 (by rw [eh38, eh37, eh36, eh35]; exact t23) (by rfl) rfl ?_
  refine zg_aload zi_76_142 rfl ?_
  refine zg_getR (v := .ref r22) zi_76_143 (by rw [eh38, eh37, eh36, eh35]; exact t21) (by rfl) (by rw [eh38, eh37, eh36, eh35]; show zrv (zR h20 a0 6) = _; rw [er22]; rfl) ?_
  refine zg_getI (v := .int (zI h38 r22 4)) zi_76_144 (by rw [eh38, eh37, eh36, eh35]; exact t23) (by rfl) rfl ?_
  refine zg_aload zi_76_145 rfl ?_
  refine zg_getR (v := .ref r22) zi_76_146 (by rw [eh38, eh37, eh36, eh35]; exact t21) (by rfl) (by rw [eh38, eh37, eh36, eh35]; show zrv (zR h20 a0 6) = _; rw [er22]; rfl) ?_
  refine zg_getI (v := .int (zI h38 r22 5)) zi_76_147 (by rw [eh38, eh37, eh36, eh35]; exact t23) (by rfl) rfl ?_
  obtain ⟨hd, hs, hw⟩ := hw
  refine Gx.call2 (as := [.int (zI h38 r22 3), .int (zI h38 r22 4), .int (zI h38 r22 5)]) (rest := [.int 3]) zq_5 zi_76_148 rfl rfl rfl (Nat.le_of_ble_eq_true rfl) (Nat.le_of_ble_eq_true rfl) (rfl) (Nat.le_of_ble_eq_true rfl) ?_
  refine cz_5 hd hs ?_
  show Gx E (d + 1) 76 149 [.ref a0, .ref a1, .int a2, .int a3, .ref r2, .long x6, .retAddr 0, .int x7, .int x8, .int x9, .int x10, .int x12, .int x27, .int x31, .long x34, .retAddr 0, .retAddr 0, .retAddr 0] [.int (fz_5 E h38 (zI h38 r22 3) (zI h38 r22 4) (zI h38 r22 5)), .int 3] h38 Q
  refine zg_imul zi_76_149 ?_
  refine zg_nameI fun x39 ex39 => ?_
  have hw := hw x39 ex39
  refine zg_istore (ls1 := [.ref a0, .ref a1, .int a2, .int a3, .ref r2, .long x6, .retAddr 0, .int x7, .int x8, .int x9, .int x10, .int x12, .int x27, .int x31, .long x34, .retAddr 0, .int x39, .retAddr 0]) zi_76_150 (Nat.le_of_ble_eq_true rfl) rfl ?_
  refine zg_const (v := 0) zi_76_151 (by rfl) ?_
  refine zg_istore (ls1 := [.ref a0, .ref a1, .int a2, .int a3, .ref r2, .long x6, .retAddr 0, .int x7, .int x8, .int x9, .int x10, .int x12, .int x27, .int x31, .long x34, .retAddr 0, .int x39, .int 0]) zi_76_152 (Nat.le_of_ble_eq_true rfl) rfl ?_
  obtain ⟨mm, hw⟩ := hw
  exact Gx.forget (zrk (zrd (zrd (zrd (zrk (zrk (zrk (zrk (zrd (zrd (zrd (zrd (zrd (zrd (zrd (zrk (zrk (zrk zr0)))))))))))))))))) (okl_76_153 mm a0 r2 x6 x7 x39 0 h38 hw)
theorem zq_73 : zQ 73 2 5 7 := by unfold zQ; decide +kernel
theorem zi_73_0 : (zM 73).1[0]? = some (.aload 1) := by rfl
theorem zi_73_1 : (zM 73).1[1]? = some (.getfield 206) := by rfl
theorem zi_73_2 : (zM 73).1[2]? = some (.astore 2) := by rfl
theorem zi_73_3 : (zM 73).1[3]? = some (.aload 1) := by rfl
theorem zi_73_4 : (zM 73).1[4]? = some (.iconst 0) := by rfl
theorem zi_73_5 : (zM 73).1[5]? = some (.iconst 0) := by rfl
theorem zi_73_6 : (zM 73).1[6]? = some (.iconst 0) := by rfl
theorem zi_73_7 : (zM 73).1[7]? = some (.iconst 0) := by rfl
theorem zi_73_8 : (zM 73).1[8]? = some (.invokevirtual 9) := by rfl
theorem zi_73_9 : (zM 73).1[9]? = some (.aload 0) := by rfl
theorem zi_73_10 : (zM 73).1[10]? = some (.jsr_w 0) := by rfl
theorem zi_73_11 : (zM 73).1[11]? = some (.putfield 7108) := by rfl
theorem zi_73_12 : (zM 73).1[12]? = some (.aload 0) := by rfl
theorem zi_73_13 : (zM 73).1[13]? = some (.jsr_w 0) := by rfl
theorem zi_73_14 : (zM 73).1[14]? = some (.putfield 7109) := by rfl
theorem zi_73_15 : (zM 73).1[15]? = some (.aload 0) := by rfl
theorem zi_73_16 : (zM 73).1[16]? = some (.jsr_w 0) := by rfl
theorem zi_73_17 : (zM 73).1[17]? = some (.putfield 7110) := by rfl
theorem zi_73_18 : (zM 73).1[18]? = some (.aload 0) := by rfl
theorem zi_73_19 : (zM 73).1[19]? = some (.jsr_w 0) := by rfl
theorem zi_73_20 : (zM 73).1[20]? = some (.putfield 7111) := by rfl
theorem zi_73_21 : (zM 73).1[21]? = some (.aload 0) := by rfl
theorem zi_73_22 : (zM 73).1[22]? = some (.aload 2) := by rfl
theorem zi_73_23 : (zM 73).1[23]? = some (.getfield 3200) := by rfl
theorem zi_73_24 : (zM 73).1[24]? = some (.iconst 15) := by rfl
theorem zi_73_25 : (zM 73).1[25]? = some (.iaload) := by rfl
theorem zi_73_26 : (zM 73).1[26]? = some (.jsr_w 1) := by rfl
theorem zi_73_27 : (zM 73).1[27]? = some (.invokevirtual 75) := by rfl
theorem zi_73_28 : (zM 73).1[28]? = some (.iconst 0) := by rfl
theorem zi_73_29 : (zM 73).1[29]? = some (.istore 3) := by rfl
theorem zi_73_30 : (zM 73).1[30]? = some (.iload 3) := by rfl
theorem zi_73_31 : (zM 73).1[31]? = some (.aload 2) := by rfl
theorem zi_73_32 : (zM 73).1[32]? = some (.getfield 3006) := by rfl
theorem zi_73_33 : (zM 73).1[33]? = some (.if_icmp .ge ((62 : Nat) : Int)) := by rfl
theorem zi_73_34 : (zM 73).1[34]? = some (.aload 0) := by rfl
theorem zi_73_35 : (zM 73).1[35]? = some (.invokevirtual 74) := by rfl
theorem zi_73_36 : (zM 73).1[36]? = some (.iconst 0) := by rfl
theorem zi_73_37 : (zM 73).1[37]? = some (.istore 4) := by rfl
theorem zi_73_38 : (zM 73).1[38]? = some (.iload 4) := by rfl
theorem zi_73_39 : (zM 73).1[39]? = some (.aload 0) := by rfl
theorem zi_73_40 : (zM 73).1[40]? = some (.getfield 7004) := by rfl
theorem zi_73_41 : (zM 73).1[41]? = some (.if_icmp .ge ((60 : Nat) : Int)) := by rfl
theorem zi_73_42 : (zM 73).1[42]? = some (.aload 0) := by rfl
theorem zi_73_43 : (zM 73).1[43]? = some (.aload 1) := by rfl
theorem zi_73_44 : (zM 73).1[44]? = some (.iload 3) := by rfl
theorem zi_73_45 : (zM 73).1[45]? = some (.aload 0) := by rfl
theorem zi_73_46 : (zM 73).1[46]? = some (.getfield 7202) := by rfl
theorem zi_73_47 : (zM 73).1[47]? = some (.iload 4) := by rfl
theorem zi_73_48 : (zM 73).1[48]? = some (.iaload) := by rfl
theorem zi_73_49 : (zM 73).1[49]? = some (.invokevirtual 76) := by rfl
theorem zi_73_50 : (zM 73).1[50]? = some (.aload 0) := by rfl
theorem zi_73_51 : (zM 73).1[51]? = some (.getfield 7200) := by rfl
theorem zi_73_52 : (zM 73).1[52]? = some (.aload 0) := by rfl
theorem zi_73_53 : (zM 73).1[53]? = some (.getfield 7202) := by rfl
theorem zi_73_54 : (zM 73).1[54]? = some (.iload 4) := by rfl
theorem zi_73_55 : (zM 73).1[55]? = some (.iaload) := by rfl
theorem zi_73_56 : (zM 73).1[56]? = some (.jsr_w 0) := by rfl
theorem zi_73_57 : (zM 73).1[57]? = some (.lastore) := by rfl
theorem zi_73_58 : (zM 73).1[58]? = some (.iinc 4 1) := by rfl
theorem zi_73_59 : (zM 73).1[59]? = some (.goto ((38 : Nat) : Int)) := by rfl
theorem zi_73_60 : (zM 73).1[60]? = some (.iinc 3 1) := by rfl
theorem zi_73_61 : (zM 73).1[61]? = some (.goto ((30 : Nat) : Int)) := by rfl
theorem zi_73_62 : (zM 73).1[62]? = some (.aload 0) := by rfl
theorem zi_73_63 : (zM 73).1[63]? = some (.invokevirtual 74) := by rfl
theorem zi_73_64 : (zM 73).1[64]? = some (.iconst 0) := by rfl
theorem zi_73_65 : (zM 73).1[65]? = some (.istore 3) := by rfl
theorem zi_73_66 : (zM 73).1[66]? = some (.iload 3) := by rfl
theorem zi_73_67 : (zM 73).1[67]? = some (.aload 0) := by rfl
theorem zi_73_68 : (zM 73).1[68]? = some (.getfield 7004) := by rfl
theorem zi_73_69 : (zM 73).1[69]? = some (.if_icmp .ge ((80 : Nat) : Int)) := by rfl
theorem zi_73_70 : (zM 73).1[70]? = some (.aload 0) := by rfl
theorem zi_73_71 : (zM 73).1[71]? = some (.getfield 7200) := by rfl
theorem zi_73_72 : (zM 73).1[72]? = some (.aload 0) := by rfl
theorem zi_73_73 : (zM 73).1[73]? = some (.getfield 7202) := by rfl
theorem zi_73_74 : (zM 73).1[74]? = some (.iload 3) := by rfl
theorem zi_73_75 : (zM 73).1[75]? = some (.iaload) := by rfl
theorem zi_73_76 : (zM 73).1[76]? = some (.jsr_w 0) := by rfl
theorem zi_73_77 : (zM 73).1[77]? = some (.lastore) := by rfl
theorem zi_73_78 : (zM 73).1[78]? = some (.iinc 3 1) := by rfl
theorem zi_73_79 : (zM 73).1[79]? = some (.goto ((66 : Nat) : Int)) := by rfl
theorem zi_73_80 : (zM 73).1[80]? = some (.aload 1) := by rfl
theorem zi_73_81 : (zM 73).1[81]? = some (.iconst 0) := by rfl
theorem zi_73_82 : (zM 73).1[82]? = some (.iconst 0) := by rfl
theorem zi_73_83 : (zM 73).1[83]? = some (.iconst 0) := by rfl
theorem zi_73_84 : (zM 73).1[84]? = some (.iconst 0) := by rfl
theorem zi_73_85 : (zM 73).1[85]? = some (.aload 2) := by rfl
theorem zi_73_86 : (zM 73).1[86]? = some (.getfield 3200) := by rfl
theorem zi_73_87 : (zM 73).1[87]? = some (.iconst 15) := by rfl
theorem zi_73_88 : (zM 73).1[88]? = some (.iaload) := by rfl
theorem zi_73_89 : (zM 73).1[89]? = some (.invokevirtual 12) := by rfl
theorem zi_73_90 : (zM 73).1[90]? = some (.pop) := by rfl
theorem zi_73_91 : (zM 73).1[91]? = some (.aload 0) := by rfl
theorem zi_73_92 : (zM 73).1[92]? = some (.aload 1) := by rfl
theorem zi_73_93 : (zM 73).1[93]? = some (.getfield 111) := by rfl
theorem zi_73_94 : (zM 73).1[94]? = some (.putfield 7107) := by rfl
theorem zi_73_95 : (zM 73).1[95]? = some (.return_) := by rfl
def wb_73_80 (E : Nat → Nat) (d : Nat) (Q : Option Value → ZH → Prop) (a0 : Nat) (a1 : Nat) (a2 : Nat) (h : ZH) : Prop := ztag h a2 = 3 ∧ ∃ r18 : Nat, zR h a2 0 = r18 + 1 ∧ (ztag h r18 = 13 ∨ ztag h r18 = 19) ∧ zin 15 (zlen h r18) = true ∧ ztag h a1 = 0 ∧ Ct E d 12 [.ref a1, .int 0, .int 0, .int 0, .int 0, .int (zI h r18 15)] h (fun v h21 => ∃ x22 : Int32, v = some (.int x22) ∧ ztag h21 a1 = 0 ∧ ztag h21 a0 = 7 ∧ ∀ h25 : ZH, h25 = (zuL h21 a0 7 (zL h21 a1 11)) → Q none h25)
set_option maxRecDepth 20000 in
theorem okb_73_80 {E : Nat → Nat} {d : Nat} {Q : Option Value → ZH → Prop} {a0 : Nat} {a1 : Nat} {a2 : Nat} {h : ZH} (hw : wb_73_80 E d Q a0 a1 a2 h) : Gx E (d + 1) 73 80 [.ref a0, .ref a1, .ref a2, .retAddr 0, .retAddr 0] [] h Q := by
  unfold wb_73_80 at hw
  refine zg_aload zi_73_80 rfl ?_
  refine zg_const (v := 0) zi_73_81 (by rfl) ?_
  refine zg_const (v := 0) zi_73_82 (by rfl) ?_
  refine zg_const (v := 0) zi_73_83 (by rfl) ?_
  refine zg_const (v := 0) zi_73_84 (by rfl) ?_
  refine zg_aload zi_73_85 rfl ?_
  obtain ⟨t17, hw⟩ := hw
  obtain ⟨r18, er18, hw⟩ := hw
  refine zg_getR (v := .ref r18) zi_73_86 t17 (by rfl) (by show zrv (zR h a2 0) = _; rw [er18]; rfl) ?_
  refine zg_const (v := 15) zi_73_87 (by rfl) ?_
  obtain ⟨t19, hw⟩ := hw
  obtain ⟨hb, hw⟩ := hw
  refine zg_iaload (v := .int (zI h r18 15)) zi_73_88 t19 hb rfl ?_
  obtain ⟨t20, hw⟩ := hw
  refine Gx.call2 (as := [.ref a1, .int 0, .int 0, .int 0, .int 0, .int (zI h r18 15)]) (rest := []) zq_12 zi_73_89 rfl rfl rfl (Nat.le_of_ble_eq_true rfl) (Nat.le_of_ble_eq_true rfl) (zrv_v t20 rfl rfl) (Nat.le_of_ble_eq_true rfl) ?_
  refine Ct.mono hw ?_
  rintro v h21 ⟨x22, rfl, hw⟩
  show Gx E (d + 1) 73 90 [.ref a0, .ref a1, .ref a2, .retAddr 0, .retAddr 0] [.int x22] h21 Q
  refine zg_pop zi_73_90 rfl ?_
  refine zg_aload zi_73_91 rfl ?_
  refine zg_aload zi_73_92 rfl ?_
  obtain ⟨t23, hw⟩ := hw
  refine zg_getL (v := .long (zL h21 a1 11)) zi_73_93 t23 (by rfl) rfl ?_
  obtain ⟨t24, hw⟩ := hw
  refine zg_putL (h1 := zuL h21 a0 7 (zL h21 a1 11)) zi_73_94 t24 (by rfl) rfl ?_
  refine zg_nameH fun h25 eh25 => ?_
  have hw := hw h25 eh25
  exact zg_return zi_73_95 hw
def wl_73_66 (E : Nat → Nat) (d : Nat) (Q : Option Value → ZH → Prop) : Nat → Nat → Nat → Nat → Int32 → ZH → Prop
  | 0, _, _, _, _, _ => False
  | n + 1, a0, a1, a2, a3, h => ztag h a0 = 7 ∧ (((zI h a0 4 : Int32) ≤ a3 → (wb_73_80 E d Q a0 a1 a2 h)) ∧ (¬ ((zI h a0 4 : Int32) ≤ a3) → (∃ r26 : Nat, zR h a0 0 = r26 + 1 ∧ ∃ r27 : Nat, zR h a0 2 = r27 + 1 ∧ (ztag h r27 = 13 ∨ ztag h r27 = 19) ∧ zin a3 (zlen h r27) = true ∧ ztag h r26 = 14 ∧ zin (zI h r27 a3.toNatClampNeg) (zlen h r26) = true ∧ ∀ h30 : ZH, h30 = (zuL h r26 (zI h r27 a3.toNatClampNeg : Int32).toNatClampNeg 0) → ∀ x31 : Int32, x31 = (a3 + 1) → wl_73_66 E d Q n a0 a1 a2 x31 h30)))
set_option maxRecDepth 20000 in
theorem okl_73_66 {E : Nat → Nat} {d : Nat} {Q : Option Value → ZH → Prop} : ∀ (n : Nat) (a0 : Nat) (a1 : Nat) (a2 : Nat) (a3 : Int32) (h : ZH), wl_73_66 E d Q n a0 a1 a2 a3 h → Gx E (d + 1) 73 66 [.ref a0, .ref a1, .ref a2, .int a3, .retAddr 0] [] h Q := by
  intro n
  induction n with
  | zero => intro a0 a1 a2 a3 h hw; exact hw.elim
  | succ n ih =>
    intro a0 a1 a2 a3 h hw
    rw [wl_73_66] at hw
    refine zg_iload zi_73_66 rfl ?_
    refine zg_aload zi_73_67 rfl ?_
    obtain ⟨t16, hw⟩ := hw
    refine zg_getI (v := .int (zI h a0 4)) zi_73_68 t16 (by rfl) rfl ?_
    refine zg_icmp_ge zi_73_69 (fun hc => ?_) (fun hc => ?_)
    · have hw := hw.1 hc
      exact Gx.forget (zrk (zrk (zrk (zrd (zrk zr0))))) (okb_73_80 hw)
    · have hw := hw.2 hc
      refine zg_aload zi_73_70 rfl ?_
      obtain ⟨r26, er26, hw⟩ := hw
      refine zg_getR (v := .ref r26) zi_73_71 t16 (by rfl) (by show zrv (zR h a0 0) = _; rw [er26]; rfl) ?_
      refine zg_aload zi_73_72 rfl ?_
      obtain ⟨r27, er27, hw⟩ := hw
      refine zg_getR (v := .ref r27) zi_73_73 t16 (by rfl) (by show zrv (zR h a0 2) = _; rw [er27]; rfl) ?_
      refine zg_iload zi_73_74 rfl ?_
      obtain ⟨t28, hw⟩ := hw
      obtain ⟨hb, hw⟩ := hw
      refine zg_iaload (v := .int (zI h r27 a3.toNatClampNeg)) zi_73_75 t28 hb rfl ?_
      refine zg_lconst (v := 0) zi_73_76 (by rfl) ?_
      obtain ⟨t29, hw⟩ := hw
      obtain ⟨hb, hw⟩ := hw
      refine zg_lastore (h1 := zuL h r26 (zI h r27 a3.toNatClampNeg : Int32).toNatClampNeg 0) zi_73_77 t29 hb rfl ?_
      refine zg_nameH fun h30 eh30 => ?_
      have hw := hw h30 eh30
      obtain ⟨x31, ex31⟩ : ∃ x : Int32, x = a3 + 1 := ⟨_, rfl⟩
      have hw := hw x31 ex31
      refine zg_iinc (v := x31) (ls1 := [.ref a0, .ref a1, .ref a2, .int x31, .retAddr 0]) zi_73_78 rfl (by rw [ex31]; rfl) rfl ?_
      refine zg_goto zi_73_79 ?_
      exact ih a0 a1 a2 x31 h30 hw
def wb_73_62 (E : Nat → Nat) (d : Nat) (Q : Option Value → ZH → Prop) (a0 : Nat) (a1 : Nat) (a2 : Nat) (h : ZH) : Prop := ztag h a0 = 7 ∧ Ct E d 74 [.ref a0] h (fun v h15 => v = none ∧ (∃ mm : Nat, wl_73_66 E d Q mm a0 a1 a2 0 h15))
set_option maxRecDepth 20000 in
theorem okb_73_62 {E : Nat → Nat} {d : Nat} {Q : Option Value → ZH → Prop} {a0 : Nat} {a1 : Nat} {a2 : Nat} {h : ZH} (hw : wb_73_62 E d Q a0 a1 a2 h) : Gx E (d + 1) 73 62 [.ref a0, .ref a1, .ref a2, .retAddr 0, .retAddr 0] [] h Q := by
  unfold wb_73_62 at hw
  refine zg_aload zi_73_62 rfl ?_
  obtain ⟨t14, hw⟩ := hw
  refine Gx.call2 (as := [.ref a0]) (rest := []) zq_74 zi_73_63 rfl rfl rfl (Nat.le_of_ble_eq_true rfl) (Nat.le_of_ble_eq_true rfl) (zrv_v t14 rfl rfl) (Nat.le_of_ble_eq_true rfl) ?_
  refine Ct.mono hw ?_
  rintro v h15 ⟨rfl, hw⟩
  show Gx E (d + 1) 73 64 [.ref a0, .ref a1, .ref a2, .retAddr 0, .retAddr 0] [] h15 Q
  refine zg_const (v := 0) zi_73_64 (by rfl) ?_
  refine zg_istore (ls1 := [.ref a0, .ref a1, .ref a2, .int 0, .retAddr 0]) zi_73_65 (Nat.le_of_ble_eq_true rfl) rfl ?_
  obtain ⟨mm, hw⟩ := hw
  exact okl_73_66 mm a0 a1 a2 0 h15 hw
def wb_73_60 (E : Nat → Nat) (d : Nat) (Q : Option Value → ZH → Prop) (L_30 : Nat → Nat → Nat → Int32 → ZH → Prop) (a0 : Nat) (a1 : Nat) (a2 : Nat) (a3 : Int32) (h : ZH) : Prop := ∀ x35 : Int32, x35 = (a3 + 1) → L_30 a0 a1 a2 x35 h
set_option maxRecDepth 20000 in
theorem okb_73_60 {E : Nat → Nat} {d : Nat} {Q : Option Value → ZH → Prop} {L_30 : Nat → Nat → Nat → Int32 → ZH → Prop} (hL_30 : ∀ (b0 : Nat) (b1 : Nat) (b2 : Nat) (b3 : Int32) (h : ZH), L_30 b0 b1 b2 b3 h → Gx E (d + 1) 73 30 [.ref b0, .ref b1, .ref b2, .int b3, .retAddr 0] [] h Q) {a0 : Nat} {a1 : Nat} {a2 : Nat} {a3 : Int32} {h : ZH} (hw : wb_73_60 E d Q L_30 a0 a1 a2 a3 h) : Gx E (d + 1) 73 60 [.ref a0, .ref a1, .ref a2, .int a3, .retAddr 0] [] h Q := by
  unfold wb_73_60 at hw
  obtain ⟨x35, ex35⟩ : ∃ x : Int32, x = a3 + 1 := ⟨_, rfl⟩
  have hw := hw x35 ex35
  refine zg_iinc (v := x35) (ls1 := [.ref a0, .ref a1, .ref a2, .int x35, .retAddr 0]) zi_73_60 rfl (by rw [ex35]; rfl) rfl ?_
  refine zg_goto zi_73_61 ?_
  exact hL_30 a0 a1 a2 x35 h hw
def wl_73_38 (E : Nat → Nat) (d : Nat) (Q : Option Value → ZH → Prop) (L_30 : Nat → Nat → Nat → Int32 → ZH → Prop) : Nat → Nat → Nat → Nat → Int32 → Int32 → ZH → Prop
  | 0, _, _, _, _, _, _ => False
  | n + 1, a0, a1, a2, a3, a4, h => ztag h a0 = 7 ∧ (((zI h a0 4 : Int32) ≤ a4 → (wb_73_60 E d Q L_30 a0 a1 a2 a3 h)) ∧ (¬ ((zI h a0 4 : Int32) ≤ a4) → (∃ r36 : Nat, zR h a0 2 = r36 + 1 ∧ (ztag h r36 = 13 ∨ ztag h r36 = 19) ∧ zin a4 (zlen h r36) = true ∧ Ct E d 76 [.ref a0, .ref a1, .int a3, .int (zI h r36 a4.toNatClampNeg)] h (fun v h38 => v = none ∧ ztag h38 a0 = 7 ∧ ∃ r40 : Nat, zR h38 a0 0 = r40 + 1 ∧ ∃ r41 : Nat, zR h38 a0 2 = r41 + 1 ∧ (ztag h38 r41 = 13 ∨ ztag h38 r41 = 19) ∧ zin a4 (zlen h38 r41) = true ∧ ztag h38 r40 = 14 ∧ zin (zI h38 r41 a4.toNatClampNeg) (zlen h38 r40) = true ∧ ∀ h44 : ZH, h44 = (zuL h38 r40 (zI h38 r41 a4.toNatClampNeg : Int32).toNatClampNeg 0) → ∀ x45 : Int32, x45 = (a4 + 1) → wl_73_38 E d Q L_30 n a0 a1 a2 a3 x45 h44))))
set_option maxRecDepth 20000 in
theorem okl_73_38 {E : Nat → Nat} {d : Nat} {Q : Option Value → ZH → Prop} {L_30 : Nat → Nat → Nat → Int32 → ZH → Prop} (hL_30 : ∀ (b0 : Nat) (b1 : Nat) (b2 : Nat) (b3 : Int32) (h : ZH), L_30 b0 b1 b2 b3 h → Gx E (d + 1) 73 30 [.ref b0, .ref b1, .ref b2, .int b3, .retAddr 0] [] h Q) : ∀ (n : Nat) (a0 : Nat) (a1 : Nat) (a2 : Nat) (a3 : Int32) (a4 : Int32) (h : ZH), wl_73_38 E d Q L_30 n a0 a1 a2 a3 a4 h → Gx E (d + 1) 73 38 [.ref a0, .ref a1, .ref a2, .int a3, .int a4] [] h Q := by
  intro n
  induction n with
  | zero => intro a0 a1 a2 a3 a4 h hw; exact hw.elim
  | succ n ih =>
    intro a0 a1 a2 a3 a4 h hw
    rw [wl_73_38] at hw
    refine zg_iload zi_73_38 rfl ?_
    refine zg_aload zi_73_39 rfl ?_
    obtain ⟨t34, hw⟩ := hw
    refine zg_getI (v := .int (zI h a0 4)) zi_73_40 t34 (by rfl) rfl ?_
    refine zg_icmp_ge zi_73_41 (fun hc => ?_) (fun hc => ?_)
    · have hw := hw.1 hc
      exact Gx.forget (zrk (zrk (zrk (zrk (zrd zr0))))) (okb_73_60 hL_30 hw)
    · have hw := hw.2 hc
      refine zg_aload zi_73_42 rfl ?_
      refine zg_aload zi_73_43 rfl ?_
      refine zg_iload zi_73_44 rfl ?_
      refine zg_aload zi_73_45 rfl ?_
      obtain ⟨r36, er36, hw⟩ := hw
      refine zg_getR (v := .ref r36) zi_73_46 t34 (by rfl) (by show zrv (zR h a0 2) = _; rw [er36]; rfl) ?_
      refine zg_iload zi_73_47 rfl ?_
      obtain ⟨t37, hw⟩ := hw
      obtain ⟨hb, hw⟩ := hw
      refine zg_iaload (v := .int (zI h r36 a4.toNatClampNeg)) zi_73_48 t37 hb rfl ?_
      refine Gx.call2 (as := [.ref a0, .ref a1, .int a3, .int (zI h r36 a4.toNatClampNeg)]) (rest := []) zq_76 zi_73_49 rfl rfl rfl (Nat.le_of_ble_eq_true rfl) (Nat.le_of_ble_eq_true rfl) (zrv_v t34 rfl rfl) (Nat.le_of_ble_eq_true rfl) ?_
      refine Ct.mono hw ?_
      rintro v h38 ⟨rfl, hw⟩
      show Gx E (d + 1) 73 50 [.ref a0, .ref a1, .ref a2, .int a3, .int a4] [] h38 Q
      refine zg_aload zi_73_50 rfl ?_
      obtain ⟨t39, hw⟩ := hw
      obtain ⟨r40, er40, hw⟩ := hw
      refine zg_getR (v := .ref r40) zi_73_51 t39 (by rfl) (by show zrv (zR h38 a0 0) = _; rw [er40]; rfl) ?_
      refine zg_aload zi_73_52 rfl ?_
      obtain ⟨r41, er41, hw⟩ := hw
      refine zg_getR (v := .ref r41) zi_73_53 t39 (by rfl) (by show zrv (zR h38 a0 2) = _; rw [er41]; rfl) ?_
      refine zg_iload zi_73_54 rfl ?_
      obtain ⟨t42, hw⟩ := hw
      obtain ⟨hb, hw⟩ := hw
      refine zg_iaload (v := .int (zI h38 r41 a4.toNatClampNeg)) zi_73_55 t42 hb rfl ?_
      refine zg_lconst (v := 0) zi_73_56 (by rfl) ?_
      obtain ⟨t43, hw⟩ := hw
      obtain ⟨hb, hw⟩ := hw
      refine zg_lastore (h1 := zuL h38 r40 (zI h38 r41 a4.toNatClampNeg : Int32).toNatClampNeg 0) zi_73_57 t43 hb rfl ?_
      refine zg_nameH fun h44 eh44 => ?_
      have hw := hw h44 eh44
      obtain ⟨x45, ex45⟩ : ∃ x : Int32, x = a4 + 1 := ⟨_, rfl⟩
      have hw := hw x45 ex45
      refine zg_iinc (v := x45) (ls1 := [.ref a0, .ref a1, .ref a2, .int a3, .int x45]) zi_73_58 rfl (by rw [ex45]; rfl) rfl ?_
      refine zg_goto zi_73_59 ?_
      exact ih a0 a1 a2 a3 x45 h44 hw
def wl_73_30 (E : Nat → Nat) (d : Nat) (Q : Option Value → ZH → Prop) : Nat → Nat → Nat → Nat → Int32 → ZH → Prop
  | 0, _, _, _, _, _ => False
  | n + 1, a0, a1, a2, a3, h => ztag h a2 = 3 ∧ (((zI h a2 6 : Int32) ≤ a3 → (wb_73_62 E d Q a0 a1 a2 h)) ∧ (¬ ((zI h a2 6 : Int32) ≤ a3) → (ztag h a0 = 7 ∧ Ct E d 74 [.ref a0] h (fun v h33 => v = none ∧ (∃ mm : Nat, wl_73_38 E d Q (wl_73_30 E d Q n) mm a0 a1 a2 a3 0 h33)))))
set_option maxRecDepth 20000 in
theorem okl_73_30 {E : Nat → Nat} {d : Nat} {Q : Option Value → ZH → Prop} : ∀ (n : Nat) (a0 : Nat) (a1 : Nat) (a2 : Nat) (a3 : Int32) (h : ZH), wl_73_30 E d Q n a0 a1 a2 a3 h → Gx E (d + 1) 73 30 [.ref a0, .ref a1, .ref a2, .int a3, .retAddr 0] [] h Q := by
  intro n
  induction n with
  | zero => intro a0 a1 a2 a3 h hw; exact hw.elim
  | succ n ih =>
    intro a0 a1 a2 a3 h hw
    rw [wl_73_30] at hw
    refine zg_iload zi_73_30 rfl ?_
    refine zg_aload zi_73_31 rfl ?_
    obtain ⟨t13, hw⟩ := hw
    refine zg_getI (v := .int (zI h a2 6)) zi_73_32 t13 (by rfl) rfl ?_
    refine zg_icmp_ge zi_73_33 (fun hc => ?_) (fun hc => ?_)
    · have hw := hw.1 hc
      exact Gx.forget (zrk (zrk (zrk (zrd (zrk zr0))))) (okb_73_62 hw)
    · have hw := hw.2 hc
      refine zg_aload zi_73_34 rfl ?_
      obtain ⟨t32, hw⟩ := hw
      refine Gx.call2 (as := [.ref a0]) (rest := []) zq_74 zi_73_35 rfl rfl rfl (Nat.le_of_ble_eq_true rfl) (Nat.le_of_ble_eq_true rfl) (zrv_v t32 rfl rfl) (Nat.le_of_ble_eq_true rfl) ?_
      refine Ct.mono hw ?_
      rintro v h33 ⟨rfl, hw⟩
      show Gx E (d + 1) 73 36 [.ref a0, .ref a1, .ref a2, .int a3, .retAddr 0] [] h33 Q
      refine zg_const (v := 0) zi_73_36 (by rfl) ?_
      refine zg_istore (ls1 := [.ref a0, .ref a1, .ref a2, .int a3, .int 0]) zi_73_37 (Nat.le_of_ble_eq_true rfl) rfl ?_
      obtain ⟨mm, hw⟩ := hw
      exact okl_73_38 ih mm a0 a1 a2 a3 0 h33 hw
/-- TakeOrPay$Spread.reckon(LTakeOrPay$Best;)V -/
def w_73 (E : Nat → Nat) (d : Nat) (a0 : Nat) (a1 : Nat) (h : ZH) (Q : Option Value → ZH → Prop) : Prop := ztag h a1 = 0 ∧ ∃ r2 : Nat, zR h a1 6 = r2 + 1 ∧ Ct E d 9 [.ref a1, .int 0, .int 0, .int 0, .int 0] h (fun v h3 => v = none ∧ ztag h3 a0 = 7 ∧ ∀ h5 : ZH, h5 = (zuL h3 a0 8 0) → ∀ h6 : ZH, h6 = (zuL h5 a0 9 0) → ∀ h7 : ZH, h7 = (zuL h6 a0 10 0) → ∀ h8 : ZH, h8 = (zuL h7 a0 11 0) → ztag h8 r2 = 3 ∧ ∃ r10 : Nat, zR h8 r2 0 = r10 + 1 ∧ (ztag h8 r10 = 13 ∨ ztag h8 r10 = 19) ∧ zin 15 (zlen h8 r10) = true ∧ Ct E d 75 [.ref a0, .int (zI h8 r10 15), .long 1] h8 (fun v h12 => v = none ∧ (∃ mm : Nat, wl_73_30 E d Q mm a0 a1 r2 0 h12)))
set_option maxRecDepth 20000 in
theorem ok_73 {E : Nat → Nat} {d : Nat} {a0 : Nat} {a1 : Nat} {h : ZH} {Q : Option Value → ZH → Prop} (hw : w_73 E d a0 a1 h Q) : Ct E (d + 1) 73 [.ref a0, .ref a1] h Q := by
  unfold w_73 at hw
  show Gx E (d + 1) 73 0 [.ref a0, .ref a1, .retAddr 0, .retAddr 0, .retAddr 0] [] h Q
  refine zg_aload zi_73_0 rfl ?_
  obtain ⟨t1, hw⟩ := hw
  obtain ⟨r2, er2, hw⟩ := hw
  refine zg_getR (v := .ref r2) zi_73_1 t1 (by rfl) (by show zrv (zR h a1 6) = _; rw [er2]; rfl) ?_
  refine zg_astore (ls1 := [.ref a0, .ref a1, .ref r2, .retAddr 0, .retAddr 0]) zi_73_2 (Nat.le_of_ble_eq_true rfl) rfl ?_
  refine zg_aload zi_73_3 rfl ?_
  refine zg_const (v := 0) zi_73_4 (by rfl) ?_
  refine zg_const (v := 0) zi_73_5 (by rfl) ?_
  refine zg_const (v := 0) zi_73_6 (by rfl) ?_
  refine zg_const (v := 0) zi_73_7 (by rfl) ?_
  refine Gx.call2 (as := [.ref a1, .int 0, .int 0, .int 0, .int 0]) (rest := []) zq_9 zi_73_8 rfl rfl rfl (Nat.le_of_ble_eq_true rfl) (Nat.le_of_ble_eq_true rfl) (zrv_v t1 rfl rfl) (Nat.le_of_ble_eq_true rfl) ?_
  refine Ct.mono hw ?_
  rintro v h3 ⟨rfl, hw⟩
  show Gx E (d + 1) 73 9 [.ref a0, .ref a1, .ref r2, .retAddr 0, .retAddr 0] [] h3 Q
  refine zg_aload zi_73_9 rfl ?_
  refine zg_lconst (v := 0) zi_73_10 (by rfl) ?_
  obtain ⟨t4, hw⟩ := hw
  refine zg_putL (h1 := zuL h3 a0 8 0) zi_73_11 t4 (by rfl) rfl ?_
  refine zg_nameH fun h5 eh5 => ?_
  have hw := hw h5 eh5
  refine zg_aload zi_73_12 rfl ?_
  refine zg_lconst (v := 0) zi_73_13 (by rfl) ?_
  refine zg_putL (h1 := zuL h5 a0 9 0) zi_73_14 (by rw [eh5]; exact t4) (by rfl) rfl ?_
  refine zg_nameH fun h6 eh6 => ?_
  have hw := hw h6 eh6
  refine zg_aload zi_73_15 rfl ?_
  refine zg_lconst (v := 0) zi_73_16 (by rfl) ?_
  refine zg_putL (h1 := zuL h6 a0 10 0) zi_73_17 (by rw [eh6, eh5]; exact t4) (by rfl) rfl ?_
  refine zg_nameH fun h7 eh7 => ?_
  have hw := hw h7 eh7
  refine zg_aload zi_73_18 rfl ?_
  refine zg_lconst (v := 0) zi_73_19 (by rfl) ?_
  refine zg_putL (h1 := zuL h7 a0 11 0) zi_73_20 (by rw [eh7, eh6, eh5]; exact t4) (by rfl) rfl ?_
  refine zg_nameH fun h8 eh8 => ?_
  have hw := hw h8 eh8
  refine zg_aload zi_73_21 rfl ?_
  refine zg_aload zi_73_22 rfl ?_
  obtain ⟨t9, hw⟩ := hw
  obtain ⟨r10, er10, hw⟩ := hw
  refine zg_getR (v := .ref r10) zi_73_23 t9 (by rfl) (by show zrv (zR h8 r2 0) = _; rw [er10]; rfl) ?_
  refine zg_const (v := 15) zi_73_24 (by rfl) ?_
  obtain ⟨t11, hw⟩ := hw
  obtain ⟨hb, hw⟩ := hw
  refine zg_iaload (v := .int (zI h8 r10 15)) zi_73_25 t11 hb rfl ?_
  refine zg_lconst (v := 1) zi_73_26 (by rfl) ?_
  refine Gx.call2 (as := [.ref a0, .int (zI h8 r10 15), .long 1]) (rest := []) zq_75 zi_73_27 rfl rfl rfl (Nat.le_of_ble_eq_true rfl) (Nat.le_of_ble_eq_true rfl) (zrv_v (by rw [eh8, eh7, eh6, eh5]; exact t4) rfl rfl) (Nat.le_of_ble_eq_true rfl) ?_
  refine Ct.mono hw ?_
  rintro v h12 ⟨rfl, hw⟩
  show Gx E (d + 1) 73 28 [.ref a0, .ref a1, .ref r2, .retAddr 0, .retAddr 0] [] h12 Q
  refine zg_const (v := 0) zi_73_28 (by rfl) ?_
  refine zg_istore (ls1 := [.ref a0, .ref a1, .ref r2, .int 0, .retAddr 0]) zi_73_29 (Nat.le_of_ble_eq_true rfl) rfl ?_
  obtain ⟨mm, hw⟩ := hw
  exact okl_73_30 mm a0 a1 r2 0 h12 hw
theorem zq_18 : zQ 18 1 1 1 := by unfold zQ; decide +kernel
theorem zi_18_0 : (zM 18).1[0]? = some (.aload 0) := by rfl
theorem zi_18_1 : (zM 18).1[1]? = some (.invokevirtual 17) := by rfl
theorem zi_18_2 : (zM 18).1[2]? = some (.aload 0) := by rfl
theorem zi_18_3 : (zM 18).1[3]? = some (.getfield 1308) := by rfl
theorem zi_18_4 : (zM 18).1[4]? = some (.ifCond .eq ((6 : Nat) : Int)) := by rfl
theorem zi_18_5 : (zM 18).1[5]? = some (.return_) := by rfl
theorem zi_18_6 : (zM 18).1[6]? = some (.aload 0) := by rfl
theorem zi_18_7 : (zM 18).1[7]? = some (.getfield 1206) := by rfl
theorem zi_18_8 : (zM 18).1[8]? = some (.aload 0) := by rfl
theorem zi_18_9 : (zM 18).1[9]? = some (.iconst 0) := by rfl
theorem zi_18_10 : (zM 18).1[10]? = some (.iconst 0) := by rfl
theorem zi_18_11 : (zM 18).1[11]? = some (.iconst 0) := by rfl
theorem zi_18_12 : (zM 18).1[12]? = some (.iconst 0) := by rfl
theorem zi_18_13 : (zM 18).1[13]? = some (.invokevirtual 16) := by rfl
theorem zi_18_14 : (zM 18).1[14]? = some (.invokevirtual 73) := by rfl
theorem zi_18_15 : (zM 18).1[15]? = some (.aload 0) := by rfl
theorem zi_18_16 : (zM 18).1[16]? = some (.getfield 1212) := by rfl
theorem zi_18_17 : (zM 18).1[17]? = some (.iconst 0) := by rfl
theorem zi_18_18 : (zM 18).1[18]? = some (.aload 0) := by rfl
theorem zi_18_19 : (zM 18).1[19]? = some (.getfield 1206) := by rfl
theorem zi_18_20 : (zM 18).1[20]? = some (.getfield 7107) := by rfl
theorem zi_18_21 : (zM 18).1[21]? = some (.lastore) := by rfl
theorem zi_18_22 : (zM 18).1[22]? = some (.aload 0) := by rfl
theorem zi_18_23 : (zM 18).1[23]? = some (.getfield 1212) := by rfl
theorem zi_18_24 : (zM 18).1[24]? = some (.iconst 1) := by rfl
theorem zi_18_25 : (zM 18).1[25]? = some (.aload 0) := by rfl
theorem zi_18_26 : (zM 18).1[26]? = some (.getfield 1206) := by rfl
theorem zi_18_27 : (zM 18).1[27]? = some (.getfield 7108) := by rfl
theorem zi_18_28 : (zM 18).1[28]? = some (.lastore) := by rfl
theorem zi_18_29 : (zM 18).1[29]? = some (.aload 0) := by rfl
theorem zi_18_30 : (zM 18).1[30]? = some (.getfield 1212) := by rfl
theorem zi_18_31 : (zM 18).1[31]? = some (.iconst 2) := by rfl
theorem zi_18_32 : (zM 18).1[32]? = some (.aload 0) := by rfl
theorem zi_18_33 : (zM 18).1[33]? = some (.getfield 1206) := by rfl
theorem zi_18_34 : (zM 18).1[34]? = some (.getfield 7109) := by rfl
theorem zi_18_35 : (zM 18).1[35]? = some (.lastore) := by rfl
theorem zi_18_36 : (zM 18).1[36]? = some (.aload 0) := by rfl
theorem zi_18_37 : (zM 18).1[37]? = some (.getfield 1212) := by rfl
theorem zi_18_38 : (zM 18).1[38]? = some (.iconst 3) := by rfl
theorem zi_18_39 : (zM 18).1[39]? = some (.aload 0) := by rfl
theorem zi_18_40 : (zM 18).1[40]? = some (.getfield 1206) := by rfl
theorem zi_18_41 : (zM 18).1[41]? = some (.getfield 7110) := by rfl
theorem zi_18_42 : (zM 18).1[42]? = some (.lastore) := by rfl
theorem zi_18_43 : (zM 18).1[43]? = some (.aload 0) := by rfl
theorem zi_18_44 : (zM 18).1[44]? = some (.getfield 1212) := by rfl
theorem zi_18_45 : (zM 18).1[45]? = some (.iconst 4) := by rfl
theorem zi_18_46 : (zM 18).1[46]? = some (.aload 0) := by rfl
theorem zi_18_47 : (zM 18).1[47]? = some (.getfield 1206) := by rfl
theorem zi_18_48 : (zM 18).1[48]? = some (.getfield 7111) := by rfl
theorem zi_18_49 : (zM 18).1[49]? = some (.lastore) := by rfl
theorem zi_18_50 : (zM 18).1[50]? = some (.aload 0) := by rfl
theorem zi_18_51 : (zM 18).1[51]? = some (.iconst 1) := by rfl
theorem zi_18_52 : (zM 18).1[52]? = some (.putfield 1308) := by rfl
theorem zi_18_53 : (zM 18).1[53]? = some (.return_) := by rfl
/-- TakeOrPay$Figures.reckonWhole()V -/
def w_18 (E : Nat → Nat) (d : Nat) (a0 : Nat) (h : ZH) (Q : Option Value → ZH → Prop) : Prop := ztag h a0 = 1 ∧ Ct E d 17 [.ref a0] h (fun v h2 => v = none ∧ ztag h2 a0 = 1 ∧ (((zI h2 a0 8 : Int32) = 0 → (∃ r4 : Nat, zR h2 a0 6 = r4 + 1 ∧ Ct E d 16 [.ref a0, .int 0, .int 0, .int 0, .int 0] h2 (fun v h5 => ∃ r6 : Nat, v = some (.ref r6) ∧ ztag h5 r4 = 7 ∧ Ct E d 73 [.ref r4, .ref r6] h5 (fun v h8 => v = none ∧ ztag h8 a0 = 1 ∧ ∃ r10 : Nat, zR h8 a0 12 = r10 + 1 ∧ ∃ r11 : Nat, zR h8 a0 6 = r11 + 1 ∧ ztag h8 r11 = 7 ∧ ztag h8 r10 = 14 ∧ zin 0 (zlen h8 r10) = true ∧ ∀ h14 : ZH, h14 = (zuL h8 r10 0 (zL h8 r11 7)) → zin 1 (zlen h14 r10) = true ∧ ∀ h15 : ZH, h15 = (zuL h14 r10 1 (zL h14 r11 8)) → zin 2 (zlen h15 r10) = true ∧ ∀ h16 : ZH, h16 = (zuL h15 r10 2 (zL h15 r11 9)) → zin 3 (zlen h16 r10) = true ∧ ∀ h17 : ZH, h17 = (zuL h16 r10 3 (zL h16 r11 10)) → zin 4 (zlen h17 r10) = true ∧ ∀ h18 : ZH, h18 = (zuL h17 r10 4 (zL h17 r11 11)) → ∀ h19 : ZH, h19 = (zuI h18 a0 8 1) → Q none h19)))) ∧ (¬ ((zI h2 a0 8 : Int32) = 0) → (Q none h2))))
set_option maxRecDepth 20000 in
theorem ok_18 {E : Nat → Nat} {d : Nat} {a0 : Nat} {h : ZH} {Q : Option Value → ZH → Prop} (hw : w_18 E d a0 h Q) : Ct E (d + 1) 18 [.ref a0] h Q := by
  unfold w_18 at hw
  show Gx E (d + 1) 18 0 [.ref a0] [] h Q
  refine zg_aload zi_18_0 rfl ?_
  obtain ⟨t1, hw⟩ := hw
  refine Gx.call2 (as := [.ref a0]) (rest := []) zq_17 zi_18_1 rfl rfl rfl (Nat.le_of_ble_eq_true rfl) (Nat.le_of_ble_eq_true rfl) (zrv_v t1 rfl rfl) (Nat.le_of_ble_eq_true rfl) ?_
  refine Ct.mono hw ?_
  rintro v h2 ⟨rfl, hw⟩
  show Gx E (d + 1) 18 2 [.ref a0] [] h2 Q
  refine zg_aload zi_18_2 rfl ?_
  obtain ⟨t3, hw⟩ := hw
  refine zg_getZ (v := .int (zI h2 a0 8)) zi_18_3 t3 (by rfl) rfl ?_
  refine zg_if_eq zi_18_4 (fun hc => ?_) (fun hc => ?_)
  · have hw := hw.1 hc
    refine zg_aload zi_18_6 rfl ?_
    obtain ⟨r4, er4, hw⟩ := hw
    refine zg_getR (v := .ref r4) zi_18_7 t3 (by rfl) (by show zrv (zR h2 a0 6) = _; rw [er4]; rfl) ?_
    refine zg_aload zi_18_8 rfl ?_
    refine zg_const (v := 0) zi_18_9 (by rfl) ?_
    refine zg_const (v := 0) zi_18_10 (by rfl) ?_
    refine zg_const (v := 0) zi_18_11 (by rfl) ?_
    refine zg_const (v := 0) zi_18_12 (by rfl) ?_
    refine Gx.call2 (as := [.ref a0, .int 0, .int 0, .int 0, .int 0]) (rest := [.ref r4]) zq_16 zi_18_13 rfl rfl rfl (Nat.le_of_ble_eq_true rfl) (Nat.le_of_ble_eq_true rfl) (zrv_v t3 rfl rfl) (Nat.le_of_ble_eq_true rfl) ?_
    refine Ct.mono hw ?_
    rintro v h5 ⟨r6, rfl, hw⟩
    show Gx E (d + 1) 18 14 [.ref a0] [.ref r6, .ref r4] h5 Q
    obtain ⟨t7, hw⟩ := hw
    refine Gx.call2 (as := [.ref r4, .ref r6]) (rest := []) zq_73 zi_18_14 rfl rfl rfl (Nat.le_of_ble_eq_true rfl) (Nat.le_of_ble_eq_true rfl) (zrv_v t7 rfl rfl) (Nat.le_of_ble_eq_true rfl) ?_
    refine Ct.mono hw ?_
    rintro v h8 ⟨rfl, hw⟩
    show Gx E (d + 1) 18 15 [.ref a0] [] h8 Q
    refine zg_aload zi_18_15 rfl ?_
    obtain ⟨t9, hw⟩ := hw
    obtain ⟨r10, er10, hw⟩ := hw
    refine zg_getR (v := .ref r10) zi_18_16 t9 (by rfl) (by show zrv (zR h8 a0 12) = _; rw [er10]; rfl) ?_
    refine zg_const (v := 0) zi_18_17 (by rfl) ?_
    refine zg_aload zi_18_18 rfl ?_
    obtain ⟨r11, er11, hw⟩ := hw
    refine zg_getR (v := .ref r11) zi_18_19 t9 (by rfl) (by show zrv (zR h8 a0 6) = _; rw [er11]; rfl) ?_
    obtain ⟨t12, hw⟩ := hw
    refine zg_getL (v := .long (zL h8 r11 7)) zi_18_20 t12 (by rfl) rfl ?_
    obtain ⟨t13, hw⟩ := hw
    obtain ⟨hb, hw⟩ := hw
    refine zg_lastore (h1 := zuL h8 r10 0 (zL h8 r11 7)) zi_18_21 t13 hb rfl ?_
    refine zg_nameH fun h14 eh14 => ?_
    have hw := hw h14 eh14
    refine zg_aload zi_18_22 rfl ?_
    refine zg_getR (v := .ref r10) zi_18_23 (by rw [eh14]; exact t9) (by rfl) (by rw [eh14]; show zrv (zR h8 a0 12) = _; rw [er10]; rfl) ?_
    refine zg_const (v := 1) zi_18_24 (by rfl) ?_
    refine zg_aload zi_18_25 rfl ?_
    refine zg_getR (v := .ref r11) zi_18_26 (by rw [eh14]; exact t9) (by rfl) (by rw [eh14]; show zrv (zR h8 a0 6) = _; rw [er11]; rfl) ?_
    refine zg_getL (v := .long (zL h14 r11 8)) zi_18_27 (by rw [eh14]; exact t12) (by rfl) rfl ?_
    obtain ⟨hb, hw⟩ := hw
    refine zg_lastore (h1 := zuL h14 r10 1 (zL h14 r11 8)) zi_18_28 (by rw [eh14]; exact t13) hb rfl ?_
    refine zg_nameH fun h15 eh15 => ?_
    have hw := hw h15 eh15
    refine zg_aload zi_18_29 rfl ?_
    refine zg_getR (v := .ref r10) zi_18_30 (by rw [eh15, eh14]; exact t9) (by rfl) (by rw [eh15, eh14]; show zrv (zR h8 a0 12) = _; rw [er10]; rfl) ?_
    refine zg_const (v := 2) zi_18_31 (by rfl) ?_
    refine zg_aload zi_18_32 rfl ?_
    refine zg_getR (v := .ref r11) zi_18_33 (by rw [eh15, eh14]; exact t9) (by rfl) (by rw [eh15, eh14]; show zrv (zR h8 a0 6) = _; rw [er11]; rfl) ?_
    refine zg_getL (v := .long (zL h15 r11 9)) zi_18_34 (by rw [eh15, eh14]; exact t12) (by rfl) rfl ?_
    obtain ⟨hb, hw⟩ := hw
    refine zg_lastore (h1 := zuL h15 r10 2 (zL h15 r11 9)) zi_18_35 (by rw [eh15, eh14]; exact t13) hb rfl ?_
    refine zg_nameH fun h16 eh16 => ?_
    have hw := hw h16 eh16
    refine zg_aload zi_18_36 rfl ?_
    refine zg_getR (v := .ref r10) zi_18_37 (by rw [eh16, eh15, eh14]; exact t9) (by rfl) (by rw [eh16, eh15, eh14]; show zrv (zR h8 a0 12) = _; rw [er10]; rfl) ?_
    refine zg_const (v := 3) zi_18_38 (by rfl) ?_
    refine zg_aload zi_18_39 rfl ?_
    refine zg_getR (v := .ref r11) zi_18_40 (by rw [eh16, eh15, eh14]; exact t9) (by rfl) (by rw [eh16, eh15, eh14]; show zrv (zR h8 a0 6) = _; rw [er11]; rfl) ?_
    refine zg_getL (v := .long (zL h16 r11 10)) zi_18_41 (by rw [eh16, eh15, eh14]; exact t12) (by rfl) rfl ?_
    obtain ⟨hb, hw⟩ := hw
    refine zg_lastore (h1 := zuL h16 r10 3 (zL h16 r11 10)) zi_18_42 (by rw [eh16, eh15, eh14]; exact t13) hb rfl ?_
    refine zg_nameH fun h17 eh17 => ?_
    have hw := hw h17 eh17
    refine zg_aload zi_18_43 rfl ?_
    refine zg_getR (v := .ref r10) zi_18_44 (by rw [eh17, eh16, eh15, eh14]; exact t9) (by rfl) (by rw [eh17, eh16, eh15, eh14]; show zrv (zR h8 a0 12) = _; rw [er10]; rfl) ?_
    refine zg_const (v := 4) zi_18_45 (by rfl) ?_
    refine zg_aload zi_18_46 rfl ?_
    refine zg_getR (v := .ref r11) zi_18_47 (by rw [eh17, eh16, eh15, eh14]; exact t9) (by rfl) (by rw [eh17, eh16, eh15, eh14]; show zrv (zR h8 a0 6) = _; rw [er11]; rfl) ?_
    refine zg_getL (v := .long (zL h17 r11 11)) zi_18_48 (by rw [eh17, eh16, eh15, eh14]; exact t12) (by rfl) rfl ?_
    obtain ⟨hb, hw⟩ := hw
    refine zg_lastore (h1 := zuL h17 r10 4 (zL h17 r11 11)) zi_18_49 (by rw [eh17, eh16, eh15, eh14]; exact t13) hb rfl ?_
    refine zg_nameH fun h18 eh18 => ?_
    have hw := hw h18 eh18
    refine zg_aload zi_18_50 rfl ?_
    refine zg_const (v := 1) zi_18_51 (by rfl) ?_
    refine zg_putZ (h1 := zuI h18 a0 8 1) zi_18_52 (by rw [eh18, eh17, eh16, eh15, eh14]; exact t9) (by rfl) (by decide) rfl ?_
    refine zg_nameH fun h19 eh19 => ?_
    have hw := hw h19 eh19
    exact zg_return zi_18_53 hw
  · have hw := hw.2 hc
    exact zg_return zi_18_5 hw
theorem zq_31 : zQ 31 2 2 3 := by unfold zQ; decide +kernel
theorem zi_31_0 : (zM 31).1[0]? = some (.aload 1) := by rfl
theorem zi_31_1 : (zM 31).1[1]? = some (.getfield 3200) := by rfl
theorem zi_31_2 : (zM 31).1[2]? = some (.iconst 0) := by rfl
theorem zi_31_3 : (zM 31).1[3]? = some (.aload 0) := by rfl
theorem zi_31_4 : (zM 31).1[4]? = some (.getfield 3200) := by rfl
theorem zi_31_5 : (zM 31).1[5]? = some (.iconst 0) := by rfl
theorem zi_31_6 : (zM 31).1[6]? = some (.iconst 39) := by rfl
theorem zi_31_7 : (zM 31).1[7]? = some (.invokedynamic 2) := by rfl
theorem zi_31_8 : (zM 31).1[8]? = some (.return_) := by rfl
/-- TakeOrPay$Page.copyTerms(LTakeOrPay$Page;)V -/
def w_31 (E : Nat → Nat) (d : Nat) (a0 : Nat) (a1 : Nat) (h : ZH) (Q : Option Value → ZH → Prop) : Prop := ztag h a1 = 3 ∧ ∃ r2 : Nat, zR h a1 0 = r2 + 1 ∧ ztag h a0 = 3 ∧ ∃ r4 : Nat, zR h a0 0 = r4 + 1 ∧ (4 ≤ d ∧ ztag h r4 = 13 ∧ (ztag h r2 = 13 ∨ ztag h r2 = 19) ∧ 39 ≤ zlen h r2 ∧ 39 ≤ zlen h r4) ∧ ∀ h5 : ZH, h5 = (zuA h r4 (zcpy (zI h r2) (zI h r4) 0 0 39)) → Q none h5
set_option maxRecDepth 20000 in
theorem ok_31 {E : Nat → Nat} {d : Nat} {a0 : Nat} {a1 : Nat} {h : ZH} {Q : Option Value → ZH → Prop} (hw : w_31 E d a0 a1 h Q) : Ct E (d + 1) 31 [.ref a0, .ref a1] h Q := by
  unfold w_31 at hw
  show Gx E (d + 1) 31 0 [.ref a0, .ref a1] [] h Q
  refine zg_aload zi_31_0 rfl ?_
  obtain ⟨t1, hw⟩ := hw
  obtain ⟨r2, er2, hw⟩ := hw
  refine zg_getR (v := .ref r2) zi_31_1 t1 (by rfl) (by show zrv (zR h a1 0) = _; rw [er2]; rfl) ?_
  refine zg_const (v := 0) zi_31_2 (by rfl) ?_
  refine zg_aload zi_31_3 rfl ?_
  obtain ⟨t3, hw⟩ := hw
  obtain ⟨r4, er4, hw⟩ := hw
  refine zg_getR (v := .ref r4) zi_31_4 t3 (by rfl) (by show zrv (zR h a0 0) = _; rw [er4]; rfl) ?_
  refine zg_const (v := 0) zi_31_5 (by rfl) ?_
  refine zg_const (v := 39) zi_31_6 (by rfl) ?_
  obtain ⟨⟨hd, ha, hb, hn1, hn2⟩, hw⟩ := hw
  refine zg_copy (h1 := zuA h r4 (zcpy (zI h r2) (zI h r4) 0 0 39)) zi_31_7 ⟨by omega, Nat.le_of_ble_eq_true rfl, ha, hb, by decide, by decide, by decide, hn1, hn2⟩ rfl ?_
  refine zg_nameH fun h5 eh5 => ?_
  have hw := hw h5 eh5
  exact zg_return zi_31_8 hw
theorem zq_32 : zQ 32 2 2 3 := by unfold zQ; decide +kernel
theorem zi_32_0 : (zM 32).1[0]? = some (.aload 0) := by rfl
theorem zi_32_1 : (zM 32).1[1]? = some (.aload 1) := by rfl
theorem zi_32_2 : (zM 32).1[2]? = some (.invokevirtual 31) := by rfl
theorem zi_32_3 : (zM 32).1[3]? = some (.aload 1) := by rfl
theorem zi_32_4 : (zM 32).1[4]? = some (.getfield 3201) := by rfl
theorem zi_32_5 : (zM 32).1[5]? = some (.iconst 0) := by rfl
theorem zi_32_6 : (zM 32).1[6]? = some (.aload 0) := by rfl
theorem zi_32_7 : (zM 32).1[7]? = some (.getfield 3201) := by rfl
theorem zi_32_8 : (zM 32).1[8]? = some (.iconst 0) := by rfl
theorem zi_32_9 : (zM 32).1[9]? = some (.iconst 20) := by rfl
theorem zi_32_10 : (zM 32).1[10]? = some (.invokedynamic 2) := by rfl
theorem zi_32_11 : (zM 32).1[11]? = some (.return_) := by rfl
/-- TakeOrPay$Page.copyAll(LTakeOrPay$Page;)V -/
def w_32 (E : Nat → Nat) (d : Nat) (a0 : Nat) (a1 : Nat) (h : ZH) (Q : Option Value → ZH → Prop) : Prop := ztag h a0 = 3 ∧ Ct E d 31 [.ref a0, .ref a1] h (fun v h2 => v = none ∧ ztag h2 a1 = 3 ∧ ∃ r4 : Nat, zR h2 a1 1 = r4 + 1 ∧ ztag h2 a0 = 3 ∧ ∃ r6 : Nat, zR h2 a0 1 = r6 + 1 ∧ (4 ≤ d ∧ ztag h2 r6 = 13 ∧ (ztag h2 r4 = 13 ∨ ztag h2 r4 = 19) ∧ 20 ≤ zlen h2 r4 ∧ 20 ≤ zlen h2 r6) ∧ ∀ h7 : ZH, h7 = (zuA h2 r6 (zcpy (zI h2 r4) (zI h2 r6) 0 0 20)) → Q none h7)
set_option maxRecDepth 20000 in
theorem ok_32 {E : Nat → Nat} {d : Nat} {a0 : Nat} {a1 : Nat} {h : ZH} {Q : Option Value → ZH → Prop} (hw : w_32 E d a0 a1 h Q) : Ct E (d + 1) 32 [.ref a0, .ref a1] h Q := by
  unfold w_32 at hw
  show Gx E (d + 1) 32 0 [.ref a0, .ref a1] [] h Q
  refine zg_aload zi_32_0 rfl ?_
  refine zg_aload zi_32_1 rfl ?_
  obtain ⟨t1, hw⟩ := hw
  refine Gx.call2 (as := [.ref a0, .ref a1]) (rest := []) zq_31 zi_32_2 rfl rfl rfl (Nat.le_of_ble_eq_true rfl) (Nat.le_of_ble_eq_true rfl) (zrv_v t1 rfl rfl) (Nat.le_of_ble_eq_true rfl) ?_
  refine Ct.mono hw ?_
  rintro v h2 ⟨rfl, hw⟩
  show Gx E (d + 1) 32 3 [.ref a0, .ref a1] [] h2 Q
  refine zg_aload zi_32_3 rfl ?_
  obtain ⟨t3, hw⟩ := hw
  obtain ⟨r4, er4, hw⟩ := hw
  refine zg_getR (v := .ref r4) zi_32_4 t3 (by rfl) (by show zrv (zR h2 a1 1) = _; rw [er4]; rfl) ?_
  refine zg_const (v := 0) zi_32_5 (by rfl) ?_
  refine zg_aload zi_32_6 rfl ?_
  obtain ⟨t5, hw⟩ := hw
  obtain ⟨r6, er6, hw⟩ := hw
  refine zg_getR (v := .ref r6) zi_32_7 t5 (by rfl) (by show zrv (zR h2 a0 1) = _; rw [er6]; rfl) ?_
  refine zg_const (v := 0) zi_32_8 (by rfl) ?_
  refine zg_const (v := 20) zi_32_9 (by rfl) ?_
  obtain ⟨⟨hd, ha, hb, hn1, hn2⟩, hw⟩ := hw
  refine zg_copy (h1 := zuA h2 r6 (zcpy (zI h2 r4) (zI h2 r6) 0 0 20)) zi_32_10 ⟨by omega, Nat.le_of_ble_eq_true rfl, ha, hb, by decide, by decide, by decide, hn1, hn2⟩ rfl ?_
  refine zg_nameH fun h7 eh7 => ?_
  have hw := hw h7 eh7
  exact zg_return zi_32_11 hw
theorem zq_51 : zQ 51 2 2 3 := by unfold zQ; decide +kernel
theorem zi_51_0 : (zM 51).1[0]? = some (.aload 0) := by rfl
theorem zi_51_1 : (zM 51).1[1]? = some (.getfield 3200) := by rfl
theorem zi_51_2 : (zM 51).1[2]? = some (.getstatic 2) := by rfl
theorem zi_51_3 : (zM 51).1[3]? = some (.iload 1) := by rfl
theorem zi_51_4 : (zM 51).1[4]? = some (.iaload) := by rfl
theorem zi_51_5 : (zM 51).1[5]? = some (.iconst 0) := by rfl
theorem zi_51_6 : (zM 51).1[6]? = some (.iastore) := by rfl
theorem zi_51_7 : (zM 51).1[7]? = some (.getstatic 2) := by rfl
theorem zi_51_8 : (zM 51).1[8]? = some (.iload 1) := by rfl
theorem zi_51_9 : (zM 51).1[9]? = some (.iaload) := by rfl
theorem zi_51_10 : (zM 51).1[10]? = some (.iconst 9) := by rfl
theorem zi_51_11 : (zM 51).1[11]? = some (.if_icmp .ne ((17 : Nat) : Int)) := by rfl
theorem zi_51_12 : (zM 51).1[12]? = some (.aload 0) := by rfl
theorem zi_51_13 : (zM 51).1[13]? = some (.getfield 3200) := by rfl
theorem zi_51_14 : (zM 51).1[14]? = some (.iconst 10) := by rfl
theorem zi_51_15 : (zM 51).1[15]? = some (.iconst 0) := by rfl
theorem zi_51_16 : (zM 51).1[16]? = some (.iastore) := by rfl
theorem zi_51_17 : (zM 51).1[17]? = some (.aload 0) := by rfl
theorem zi_51_18 : (zM 51).1[18]? = some (.invokevirtual 34) := by rfl
theorem zi_51_19 : (zM 51).1[19]? = some (.return_) := by rfl
def wb_51_17 (E : Nat → Nat) (d : Nat) (Q : Option Value → ZH → Prop) (a0 : Nat) (h : ZH) : Prop := ztag h a0 = 3 ∧ Ct E d 34 [.ref a0] h (fun v h7 => v = none ∧ Q none h7)
set_option maxRecDepth 20000 in
theorem okb_51_17 {E : Nat → Nat} {d : Nat} {Q : Option Value → ZH → Prop} {a0 : Nat} {h : ZH} (hw : wb_51_17 E d Q a0 h) : Gx E (d + 1) 51 17 [.ref a0, .retAddr 0] [] h Q := by
  unfold wb_51_17 at hw
  refine zg_aload zi_51_17 rfl ?_
  obtain ⟨t6, hw⟩ := hw
  refine Gx.call2 (as := [.ref a0]) (rest := []) zq_34 zi_51_18 rfl rfl rfl (Nat.le_of_ble_eq_true rfl) (Nat.le_of_ble_eq_true rfl) (zrv_v t6 rfl rfl) (Nat.le_of_ble_eq_true rfl) ?_
  refine Ct.mono hw ?_
  rintro v h7 ⟨rfl, hw⟩
  show Gx E (d + 1) 51 19 [.ref a0, .retAddr 0] [] h7 Q
  exact zg_return zi_51_19 hw
/-- TakeOrPay$Page.leaveOut(I)V -/
def w_51 (E : Nat → Nat) (d : Nat) (a0 : Nat) (a1 : Int32) (h : ZH) (Q : Option Value → ZH → Prop) : Prop := ztag h a0 = 3 ∧ ∃ r2 : Nat, zR h a0 0 = r2 + 1 ∧ (ztag h (E 2) = 13 ∨ ztag h (E 2) = 19) ∧ zin a1 (zlen h (E 2)) = true ∧ ztag h r2 = 13 ∧ zin (zI h (E 2) a1.toNatClampNeg) (zlen h r2) = true ∧ ∀ h5 : ZH, h5 = (zuI h r2 (zI h (E 2) a1.toNatClampNeg : Int32).toNatClampNeg 0) → zin a1 (zlen h5 (E 2)) = true ∧ ((¬ (zI h5 (E 2) a1.toNatClampNeg : Int32) = 9 → (wb_51_17 E d Q a0 h5)) ∧ (¬ (¬ (zI h5 (E 2) a1.toNatClampNeg : Int32) = 9) → (zin 10 (zlen h5 r2) = true ∧ ∀ h8 : ZH, h8 = (zuI h5 r2 10 0) → wb_51_17 E d Q a0 h8)))
set_option maxRecDepth 20000 in
theorem ok_51 {E : Nat → Nat} {d : Nat} {a0 : Nat} {a1 : Int32} {h : ZH} {Q : Option Value → ZH → Prop} (hw : w_51 E d a0 a1 h Q) : Ct E (d + 1) 51 [.ref a0, .int a1] h Q := by
  unfold w_51 at hw
  show Gx E (d + 1) 51 0 [.ref a0, .int a1] [] h Q
  refine zg_aload zi_51_0 rfl ?_
  obtain ⟨t1, hw⟩ := hw
  obtain ⟨r2, er2, hw⟩ := hw
  refine zg_getR (v := .ref r2) zi_51_1 t1 (by rfl) (by show zrv (zR h a0 0) = _; rw [er2]; rfl) ?_
  refine zg_getstatic zi_51_2 ?_
  refine zg_iload zi_51_3 rfl ?_
  obtain ⟨t3, hw⟩ := hw
  obtain ⟨hb, hw⟩ := hw
  refine zg_iaload (v := .int (zI h (E 2) a1.toNatClampNeg)) zi_51_4 t3 hb rfl ?_
  refine zg_const (v := 0) zi_51_5 (by rfl) ?_
  obtain ⟨t4, hw⟩ := hw
  obtain ⟨hb, hw⟩ := hw
  refine zg_iastore (h1 := zuI h r2 (zI h (E 2) a1.toNatClampNeg : Int32).toNatClampNeg 0) zi_51_6 t4 hb rfl ?_
  refine zg_nameH fun h5 eh5 => ?_
  have hw := hw h5 eh5
  refine zg_getstatic zi_51_7 ?_
  refine zg_iload zi_51_8 rfl ?_
  obtain ⟨hb, hw⟩ := hw
  refine zg_iaload (v := .int (zI h5 (E 2) a1.toNatClampNeg)) zi_51_9 (by rw [eh5]; exact t3) hb rfl ?_
  refine zg_const (v := 9) zi_51_10 (by rfl) ?_
  refine zg_icmp_ne zi_51_11 (fun hc => ?_) (fun hc => ?_)
  · have hw := hw.1 hc
    exact Gx.forget (zrk (zrd zr0)) (okb_51_17 hw)
  · have hw := hw.2 hc
    refine zg_aload zi_51_12 rfl ?_
    refine zg_getR (v := .ref r2) zi_51_13 (by rw [eh5]; exact t1) (by rfl) (by rw [eh5]; show zrv (zR h a0 0) = _; rw [er2]; rfl) ?_
    refine zg_const (v := 10) zi_51_14 (by rfl) ?_
    refine zg_const (v := 0) zi_51_15 (by rfl) ?_
    obtain ⟨hb, hw⟩ := hw
    refine zg_iastore (h1 := zuI h5 r2 10 0) zi_51_16 (by rw [eh5]; exact t4) hb rfl ?_
    refine zg_nameH fun h8 eh8 => ?_
    have hw := hw h8 eh8
    exact Gx.forget (zrk (zrd zr0)) (okb_51_17 hw)
theorem zq_19 : zQ 19 2 2 1 := by unfold zQ; decide +kernel
theorem zi_19_0 : (zM 19).1[0]? = some (.aload 0) := by rfl
theorem zi_19_1 : (zM 19).1[1]? = some (.getfield 1211) := by rfl
theorem zi_19_2 : (zM 19).1[2]? = some (.iload 1) := by rfl
theorem zi_19_3 : (zM 19).1[3]? = some (.baload) := by rfl
theorem zi_19_4 : (zM 19).1[4]? = some (.ifCond .eq ((6 : Nat) : Int)) := by rfl
theorem zi_19_5 : (zM 19).1[5]? = some (.return_) := by rfl
theorem zi_19_6 : (zM 19).1[6]? = some (.aload 0) := by rfl
theorem zi_19_7 : (zM 19).1[7]? = some (.invokevirtual 18) := by rfl
theorem zi_19_8 : (zM 19).1[8]? = some (.aload 0) := by rfl
theorem zi_19_9 : (zM 19).1[9]? = some (.getfield 1202) := by rfl
theorem zi_19_10 : (zM 19).1[10]? = some (.aload 0) := by rfl
theorem zi_19_11 : (zM 19).1[11]? = some (.getfield 1200) := by rfl
theorem zi_19_12 : (zM 19).1[12]? = some (.invokevirtual 32) := by rfl
theorem zi_19_13 : (zM 19).1[13]? = some (.aload 0) := by rfl
theorem zi_19_14 : (zM 19).1[14]? = some (.getfield 1202) := by rfl
theorem zi_19_15 : (zM 19).1[15]? = some (.iload 1) := by rfl
theorem zi_19_16 : (zM 19).1[16]? = some (.invokevirtual 51) := by rfl
theorem zi_19_17 : (zM 19).1[17]? = some (.aload 0) := by rfl
theorem zi_19_18 : (zM 19).1[18]? = some (.getfield 1205) := by rfl
theorem zi_19_19 : (zM 19).1[19]? = some (.aload 0) := by rfl
theorem zi_19_20 : (zM 19).1[20]? = some (.getfield 1202) := by rfl
theorem zi_19_21 : (zM 19).1[21]? = some (.invokevirtual 1) := by rfl
theorem zi_19_22 : (zM 19).1[22]? = some (.aload 0) := by rfl
theorem zi_19_23 : (zM 19).1[23]? = some (.getfield 1206) := by rfl
theorem zi_19_24 : (zM 19).1[24]? = some (.aload 0) := by rfl
theorem zi_19_25 : (zM 19).1[25]? = some (.getfield 1205) := by rfl
theorem zi_19_26 : (zM 19).1[26]? = some (.invokevirtual 73) := by rfl
theorem zi_19_27 : (zM 19).1[27]? = some (.aload 0) := by rfl
theorem zi_19_28 : (zM 19).1[28]? = some (.getfield 1213) := by rfl
theorem zi_19_29 : (zM 19).1[29]? = some (.iconst 2) := by rfl
theorem zi_19_30 : (zM 19).1[30]? = some (.iload 1) := by rfl
theorem zi_19_31 : (zM 19).1[31]? = some (.imul) := by rfl
theorem zi_19_32 : (zM 19).1[32]? = some (.aload 0) := by rfl
theorem zi_19_33 : (zM 19).1[33]? = some (.getfield 1206) := by rfl
theorem zi_19_34 : (zM 19).1[34]? = some (.getfield 7107) := by rfl
theorem zi_19_35 : (zM 19).1[35]? = some (.aload 0) := by rfl
theorem zi_19_36 : (zM 19).1[36]? = some (.getfield 1212) := by rfl
theorem zi_19_37 : (zM 19).1[37]? = some (.iconst 0) := by rfl
theorem zi_19_38 : (zM 19).1[38]? = some (.laload) := by rfl
theorem zi_19_39 : (zM 19).1[39]? = some (.lsub) := by rfl
theorem zi_19_40 : (zM 19).1[40]? = some (.lastore) := by rfl
theorem zi_19_41 : (zM 19).1[41]? = some (.aload 0) := by rfl
theorem zi_19_42 : (zM 19).1[42]? = some (.getfield 1213) := by rfl
theorem zi_19_43 : (zM 19).1[43]? = some (.iconst 2) := by rfl
theorem zi_19_44 : (zM 19).1[44]? = some (.iload 1) := by rfl
theorem zi_19_45 : (zM 19).1[45]? = some (.imul) := by rfl
theorem zi_19_46 : (zM 19).1[46]? = some (.iconst 1) := by rfl
theorem zi_19_47 : (zM 19).1[47]? = some (.iadd) := by rfl
theorem zi_19_48 : (zM 19).1[48]? = some (.aload 0) := by rfl
theorem zi_19_49 : (zM 19).1[49]? = some (.getfield 1206) := by rfl
theorem zi_19_50 : (zM 19).1[50]? = some (.getfield 7108) := by rfl
theorem zi_19_51 : (zM 19).1[51]? = some (.aload 0) := by rfl
theorem zi_19_52 : (zM 19).1[52]? = some (.getfield 1212) := by rfl
theorem zi_19_53 : (zM 19).1[53]? = some (.iconst 1) := by rfl
theorem zi_19_54 : (zM 19).1[54]? = some (.laload) := by rfl
theorem zi_19_55 : (zM 19).1[55]? = some (.lsub) := by rfl
theorem zi_19_56 : (zM 19).1[56]? = some (.lastore) := by rfl
theorem zi_19_57 : (zM 19).1[57]? = some (.aload 0) := by rfl
theorem zi_19_58 : (zM 19).1[58]? = some (.getfield 1211) := by rfl
theorem zi_19_59 : (zM 19).1[59]? = some (.iload 1) := by rfl
theorem zi_19_60 : (zM 19).1[60]? = some (.iconst 1) := by rfl
theorem zi_19_61 : (zM 19).1[61]? = some (.bastore) := by rfl
theorem zi_19_62 : (zM 19).1[62]? = some (.return_) := by rfl
/-- TakeOrPay$Figures.reckonWithout(I)V -/
def w_19 (E : Nat → Nat) (d : Nat) (a0 : Nat) (a1 : Int32) (h : ZH) (Q : Option Value → ZH → Prop) : Prop := ztag h a0 = 1 ∧ ∃ r2 : Nat, zR h a0 11 = r2 + 1 ∧ (ztag h r2 = 12 ∨ ztag h r2 = 15) ∧ zin a1 (zlen h r2) = true ∧ (((zI h r2 a1.toNatClampNeg : Int32) = 0 → (Ct E d 18 [.ref a0] h (fun v h4 => v = none ∧ ztag h4 a0 = 1 ∧ ∃ r6 : Nat, zR h4 a0 2 = r6 + 1 ∧ ∃ r7 : Nat, zR h4 a0 0 = r7 + 1 ∧ ztag h4 r6 = 3 ∧ Ct E d 32 [.ref r6, .ref r7] h4 (fun v h9 => v = none ∧ ztag h9 a0 = 1 ∧ ∃ r11 : Nat, zR h9 a0 2 = r11 + 1 ∧ ztag h9 r11 = 3 ∧ Ct E d 51 [.ref r11, .int a1] h9 (fun v h13 => v = none ∧ ztag h13 a0 = 1 ∧ ∃ r15 : Nat, zR h13 a0 5 = r15 + 1 ∧ ∃ r16 : Nat, zR h13 a0 2 = r16 + 1 ∧ ztag h13 r15 = 0 ∧ Ct E d 1 [.ref r15, .ref r16] h13 (fun v h18 => v = none ∧ ztag h18 a0 = 1 ∧ ∃ r20 : Nat, zR h18 a0 6 = r20 + 1 ∧ ∃ r21 : Nat, zR h18 a0 5 = r21 + 1 ∧ ztag h18 r20 = 7 ∧ Ct E d 73 [.ref r20, .ref r21] h18 (fun v h23 => v = none ∧ ztag h23 a0 = 1 ∧ ∃ r25 : Nat, zR h23 a0 13 = r25 + 1 ∧ ∃ r26 : Nat, zR h23 a0 6 = r26 + 1 ∧ ztag h23 r26 = 7 ∧ ∃ r28 : Nat, zR h23 a0 12 = r28 + 1 ∧ ztag h23 r28 = 14 ∧ zin 0 (zlen h23 r28) = true ∧ ztag h23 r25 = 14 ∧ zin (2 * a1) (zlen h23 r25) = true ∧ ∀ h31 : ZH, h31 = (zuL h23 r25 (2 * a1 : Int32).toNatClampNeg ((zL h23 r26 7) - (zL h23 r28 0))) → zin 1 (zlen h31 r28) = true ∧ zin ((2 * a1) + 1) (zlen h31 r25) = true ∧ ∀ h32 : ZH, h32 = (zuL h31 r25 ((2 * a1) + 1 : Int32).toNatClampNeg ((zL h31 r26 8) - (zL h31 r28 1))) → ∃ r33 : Nat, zR h32 a0 11 = r33 + 1 ∧ (ztag h32 r33 = 12 ∨ ztag h32 r33 = 15) ∧ zin a1 (zlen h32 r33) = true ∧ ∀ h35 : ZH, h35 = (zuI h32 r33 a1.toNatClampNeg (zbyte (ztag h32 r33) 1)) → Q none h35))))))) ∧ (¬ ((zI h r2 a1.toNatClampNeg : Int32) = 0) → (Q none h)))
set_option maxRecDepth 20000 in
theorem ok_19 {E : Nat → Nat} {d : Nat} {a0 : Nat} {a1 : Int32} {h : ZH} {Q : Option Value → ZH → Prop} (hw : w_19 E d a0 a1 h Q) : Ct E (d + 1) 19 [.ref a0, .int a1] h Q := by
  unfold w_19 at hw
  show Gx E (d + 1) 19 0 [.ref a0, .int a1] [] h Q
  refine zg_aload zi_19_0 rfl ?_
  obtain ⟨t1, hw⟩ := hw
  obtain ⟨r2, er2, hw⟩ := hw
  refine zg_getR (v := .ref r2) zi_19_1 t1 (by rfl) (by show zrv (zR h a0 11) = _; rw [er2]; rfl) ?_
  refine zg_iload zi_19_2 rfl ?_
  obtain ⟨t3, hw⟩ := hw
  obtain ⟨hb, hw⟩ := hw
  refine zg_baload (v := .int (zI h r2 a1.toNatClampNeg)) zi_19_3 t3 hb rfl ?_
  refine zg_if_eq zi_19_4 (fun hc => ?_) (fun hc => ?_)
  · have hw := hw.1 hc
    refine zg_aload zi_19_6 rfl ?_
    refine Gx.call2 (as := [.ref a0]) (rest := []) zq_18 zi_19_7 rfl rfl rfl (Nat.le_of_ble_eq_true rfl) (Nat.le_of_ble_eq_true rfl) (zrv_v t1 rfl rfl) (Nat.le_of_ble_eq_true rfl) ?_
    refine Ct.mono hw ?_
    rintro v h4 ⟨rfl, hw⟩
    show Gx E (d + 1) 19 8 [.ref a0, .int a1] [] h4 Q
    refine zg_aload zi_19_8 rfl ?_
    obtain ⟨t5, hw⟩ := hw
    obtain ⟨r6, er6, hw⟩ := hw
    refine zg_getR (v := .ref r6) zi_19_9 t5 (by rfl) (by show zrv (zR h4 a0 2) = _; rw [er6]; rfl) ?_
    refine zg_aload zi_19_10 rfl ?_
    obtain ⟨r7, er7, hw⟩ := hw
    refine zg_getR (v := .ref r7) zi_19_11 t5 (by rfl) (by show zrv (zR h4 a0 0) = _; rw [er7]; rfl) ?_
    obtain ⟨t8, hw⟩ := hw
    refine Gx.call2 (as := [.ref r6, .ref r7]) (rest := []) zq_32 zi_19_12 rfl rfl rfl (Nat.le_of_ble_eq_true rfl) (Nat.le_of_ble_eq_true rfl) (zrv_v t8 rfl rfl) (Nat.le_of_ble_eq_true rfl) ?_
    refine Ct.mono hw ?_
    rintro v h9 ⟨rfl, hw⟩
    show Gx E (d + 1) 19 13 [.ref a0, .int a1] [] h9 Q
    refine zg_aload zi_19_13 rfl ?_
    obtain ⟨t10, hw⟩ := hw
    obtain ⟨r11, er11, hw⟩ := hw
    refine zg_getR (v := .ref r11) zi_19_14 t10 (by rfl) (by show zrv (zR h9 a0 2) = _; rw [er11]; rfl) ?_
    refine zg_iload zi_19_15 rfl ?_
    obtain ⟨t12, hw⟩ := hw
    refine Gx.call2 (as := [.ref r11, .int a1]) (rest := []) zq_51 zi_19_16 rfl rfl rfl (Nat.le_of_ble_eq_true rfl) (Nat.le_of_ble_eq_true rfl) (zrv_v t12 rfl rfl) (Nat.le_of_ble_eq_true rfl) ?_
    refine Ct.mono hw ?_
    rintro v h13 ⟨rfl, hw⟩
    show Gx E (d + 1) 19 17 [.ref a0, .int a1] [] h13 Q
    refine zg_aload zi_19_17 rfl ?_
    obtain ⟨t14, hw⟩ := hw
    obtain ⟨r15, er15, hw⟩ := hw
    refine zg_getR (v := .ref r15) zi_19_18 t14 (by rfl) (by show zrv (zR h13 a0 5) = _; rw [er15]; rfl) ?_
    refine zg_aload zi_19_19 rfl ?_
    obtain ⟨r16, er16, hw⟩ := hw
    refine zg_getR (v := .ref r16) zi_19_20 t14 (by rfl) (by show zrv (zR h13 a0 2) = _; rw [er16]; rfl) ?_
    obtain ⟨t17, hw⟩ := hw
    refine Gx.call2 (as := [.ref r15, .ref r16]) (rest := []) zq_1 zi_19_21 rfl rfl rfl (Nat.le_of_ble_eq_true rfl) (Nat.le_of_ble_eq_true rfl) (zrv_v t17 rfl rfl) (Nat.le_of_ble_eq_true rfl) ?_
    refine Ct.mono hw ?_
    rintro v h18 ⟨rfl, hw⟩
    show Gx E (d + 1) 19 22 [.ref a0, .int a1] [] h18 Q
    refine zg_aload zi_19_22 rfl ?_
    obtain ⟨t19, hw⟩ := hw
    obtain ⟨r20, er20, hw⟩ := hw
    refine zg_getR (v := .ref r20) zi_19_23 t19 (by rfl) (by show zrv (zR h18 a0 6) = _; rw [er20]; rfl) ?_
    refine zg_aload zi_19_24 rfl ?_
    obtain ⟨r21, er21, hw⟩ := hw
    refine zg_getR (v := .ref r21) zi_19_25 t19 (by rfl) (by show zrv (zR h18 a0 5) = _; rw [er21]; rfl) ?_
    obtain ⟨t22, hw⟩ := hw
    refine Gx.call2 (as := [.ref r20, .ref r21]) (rest := []) zq_73 zi_19_26 rfl rfl rfl (Nat.le_of_ble_eq_true rfl) (Nat.le_of_ble_eq_true rfl) (zrv_v t22 rfl rfl) (Nat.le_of_ble_eq_true rfl) ?_
    refine Ct.mono hw ?_
    rintro v h23 ⟨rfl, hw⟩
    show Gx E (d + 1) 19 27 [.ref a0, .int a1] [] h23 Q
    refine zg_aload zi_19_27 rfl ?_
    obtain ⟨t24, hw⟩ := hw
    obtain ⟨r25, er25, hw⟩ := hw
    refine zg_getR (v := .ref r25) zi_19_28 t24 (by rfl) (by show zrv (zR h23 a0 13) = _; rw [er25]; rfl) ?_
    refine zg_const (v := 2) zi_19_29 (by rfl) ?_
    refine zg_iload zi_19_30 rfl ?_
    refine zg_imul zi_19_31 ?_
    refine zg_aload zi_19_32 rfl ?_
    obtain ⟨r26, er26, hw⟩ := hw
    refine zg_getR (v := .ref r26) zi_19_33 t24 (by rfl) (by show zrv (zR h23 a0 6) = _; rw [er26]; rfl) ?_
    obtain ⟨t27, hw⟩ := hw
    refine zg_getL (v := .long (zL h23 r26 7)) zi_19_34 t27 (by rfl) rfl ?_
    refine zg_aload zi_19_35 rfl ?_
    obtain ⟨r28, er28, hw⟩ := hw
    refine zg_getR (v := .ref r28) zi_19_36 t24 (by rfl) (by show zrv (zR h23 a0 12) = _; rw [er28]; rfl) ?_
    refine zg_const (v := 0) zi_19_37 (by rfl) ?_
    obtain ⟨t29, hw⟩ := hw
    obtain ⟨hb, hw⟩ := hw
    refine zg_laload (v := .long (zL h23 r28 0)) zi_19_38 t29 hb rfl ?_
    refine zg_lsub zi_19_39 ?_
    obtain ⟨t30, hw⟩ := hw
    obtain ⟨hb, hw⟩ := hw
    refine zg_lastore (h1 := zuL h23 r25 (2 * a1 : Int32).toNatClampNeg ((zL h23 r26 7) - (zL h23 r28 0))) zi_19_40 t30 hb rfl ?_
    refine zg_nameH fun h31 eh31 => ?_
    have hw := hw h31 eh31
    refine zg_aload zi_19_41 rfl ?_
    refine zg_getR (v := .ref r25) zi_19_42 (by rw [eh31]; exact t24) (by rfl) (by rw [eh31]; show zrv (zR h23 a0 13) = _; rw [er25]; rfl) ?_
    refine zg_const (v := 2) zi_19_43 (by rfl) ?_
    refine zg_iload zi_19_44 rfl ?_
    refine zg_imul zi_19_45 ?_
    refine zg_const (v := 1) zi_19_46 (by rfl) ?_
    refine zg_iadd zi_19_47 ?_
    refine zg_aload zi_19_48 rfl ?_
    refine zg_getR (v := .ref r26) zi_19_49 (by rw [eh31]; exact t24) (by rfl) (by rw [eh31]; show zrv (zR h23 a0 6) = _; rw [er26]; rfl) ?_
    refine zg_getL (v := .long (zL h31 r26 8)) zi_19_50 (by rw [eh31]; exact t27) (by rfl) rfl ?_
    refine zg_aload zi_19_51 rfl ?_
    refine zg_getR (v := .ref r28) zi_19_52 (by rw [eh31]; exact t24) (by rfl) (by rw [eh31]; show zrv (zR h23 a0 12) = _; rw [er28]; rfl) ?_
    refine zg_const (v := 1) zi_19_53 (by rfl) ?_
    obtain ⟨hb, hw⟩ := hw
    refine zg_laload (v := .long (zL h31 r28 1)) zi_19_54 (by rw [eh31]; exact t29) hb rfl ?_
    refine zg_lsub zi_19_55 ?_
    obtain ⟨hb, hw⟩ := hw
    refine zg_lastore (h1 := zuL h31 r25 ((2 * a1) + 1 : Int32).toNatClampNeg ((zL h31 r26 8) - (zL h31 r28 1))) zi_19_56 (by rw [eh31]; exact t30) hb rfl ?_
    refine zg_nameH fun h32 eh32 => ?_
    have hw := hw h32 eh32
    refine zg_aload zi_19_57 rfl ?_
    obtain ⟨r33, er33, hw⟩ := hw
    refine zg_getR (v := .ref r33) zi_19_58 (by rw [eh32, eh31]; exact t24) (by rfl) (by show zrv (zR h32 a0 11) = _; rw [er33]; rfl) ?_
    refine zg_iload zi_19_59 rfl ?_
    refine zg_const (v := 1) zi_19_60 (by rfl) ?_
    obtain ⟨t34, hw⟩ := hw
    obtain ⟨hb, hw⟩ := hw
    refine zg_bastore (h1 := zuI h32 r33 a1.toNatClampNeg (zbyte (ztag h32 r33) 1)) zi_19_61 t34 hb rfl ?_
    refine zg_nameH fun h35 eh35 => ?_
    have hw := hw h35 eh35
    exact zg_return zi_19_62 hw
  · have hw := hw.2 hc
    exact zg_return zi_19_5 hw
theorem zq_21 : zQ 21 3 5 1 := by unfold zQ; decide +kernel
theorem zi_21_0 : (zM 21).1[0]? = some (.aload 0) := by rfl
theorem zi_21_1 : (zM 21).1[1]? = some (.getfield 1202) := by rfl
theorem zi_21_2 : (zM 21).1[2]? = some (.aload 0) := by rfl
theorem zi_21_3 : (zM 21).1[3]? = some (.getfield 1200) := by rfl
theorem zi_21_4 : (zM 21).1[4]? = some (.invokevirtual 32) := by rfl
theorem zi_21_5 : (zM 21).1[5]? = some (.aload 0) := by rfl
theorem zi_21_6 : (zM 21).1[6]? = some (.getfield 1202) := by rfl
theorem zi_21_7 : (zM 21).1[7]? = some (.getfield 3200) := by rfl
theorem zi_21_8 : (zM 21).1[8]? = some (.iconst 5) := by rfl
theorem zi_21_9 : (zM 21).1[9]? = some (.iload 1) := by rfl
theorem zi_21_10 : (zM 21).1[10]? = some (.iastore) := by rfl
theorem zi_21_11 : (zM 21).1[11]? = some (.aload 0) := by rfl
theorem zi_21_12 : (zM 21).1[12]? = some (.getfield 1202) := by rfl
theorem zi_21_13 : (zM 21).1[13]? = some (.getfield 3200) := by rfl
theorem zi_21_14 : (zM 21).1[14]? = some (.iconst 6) := by rfl
theorem zi_21_15 : (zM 21).1[15]? = some (.iload 2) := by rfl
theorem zi_21_16 : (zM 21).1[16]? = some (.iastore) := by rfl
theorem zi_21_17 : (zM 21).1[17]? = some (.aload 0) := by rfl
theorem zi_21_18 : (zM 21).1[18]? = some (.getfield 1202) := by rfl
theorem zi_21_19 : (zM 21).1[19]? = some (.invokevirtual 34) := by rfl
theorem zi_21_20 : (zM 21).1[20]? = some (.aload 0) := by rfl
theorem zi_21_21 : (zM 21).1[21]? = some (.getfield 1205) := by rfl
theorem zi_21_22 : (zM 21).1[22]? = some (.aload 0) := by rfl
theorem zi_21_23 : (zM 21).1[23]? = some (.getfield 1202) := by rfl
theorem zi_21_24 : (zM 21).1[24]? = some (.invokevirtual 1) := by rfl
theorem zi_21_25 : (zM 21).1[25]? = some (.aload 0) := by rfl
theorem zi_21_26 : (zM 21).1[26]? = some (.getfield 1206) := by rfl
theorem zi_21_27 : (zM 21).1[27]? = some (.aload 0) := by rfl
theorem zi_21_28 : (zM 21).1[28]? = some (.getfield 1205) := by rfl
theorem zi_21_29 : (zM 21).1[29]? = some (.invokevirtual 73) := by rfl
theorem zi_21_30 : (zM 21).1[30]? = some (.aload 0) := by rfl
theorem zi_21_31 : (zM 21).1[31]? = some (.getfield 1206) := by rfl
theorem zi_21_32 : (zM 21).1[32]? = some (.getfield 7107) := by rfl
theorem zi_21_33 : (zM 21).1[33]? = some (.aload 0) := by rfl
theorem zi_21_34 : (zM 21).1[34]? = some (.getfield 1212) := by rfl
theorem zi_21_35 : (zM 21).1[35]? = some (.iconst 0) := by rfl
theorem zi_21_36 : (zM 21).1[36]? = some (.laload) := by rfl
theorem zi_21_37 : (zM 21).1[37]? = some (.lcmp) := by rfl
theorem zi_21_38 : (zM 21).1[38]? = some (.ifCond .ge ((40 : Nat) : Int)) := by rfl
theorem zi_21_39 : (zM 21).1[39]? = some (.return_) := by rfl
theorem zi_21_40 : (zM 21).1[40]? = some (.aload 0) := by rfl
theorem zi_21_41 : (zM 21).1[41]? = some (.getfield 1206) := by rfl
theorem zi_21_42 : (zM 21).1[42]? = some (.getfield 7108) := by rfl
theorem zi_21_43 : (zM 21).1[43]? = some (.aload 0) := by rfl
theorem zi_21_44 : (zM 21).1[44]? = some (.getfield 1212) := by rfl
theorem zi_21_45 : (zM 21).1[45]? = some (.iconst 1) := by rfl
theorem zi_21_46 : (zM 21).1[46]? = some (.laload) := by rfl
theorem zi_21_47 : (zM 21).1[47]? = some (.lsub) := by rfl
theorem zi_21_48 : (zM 21).1[48]? = some (.lstore 3) := by rfl
theorem zi_21_49 : (zM 21).1[49]? = some (.aload 0) := by rfl
theorem zi_21_50 : (zM 21).1[50]? = some (.getfield 1014) := by rfl
theorem zi_21_51 : (zM 21).1[51]? = some (.ifCond .eq ((57 : Nat) : Int)) := by rfl
theorem zi_21_52 : (zM 21).1[52]? = some (.lload 3) := by rfl
theorem zi_21_53 : (zM 21).1[53]? = some (.aload 0) := by rfl
theorem zi_21_54 : (zM 21).1[54]? = some (.getfield 1117) := by rfl
theorem zi_21_55 : (zM 21).1[55]? = some (.lcmp) := by rfl
theorem zi_21_56 : (zM 21).1[56]? = some (.ifCond .le ((66 : Nat) : Int)) := by rfl
theorem zi_21_57 : (zM 21).1[57]? = some (.aload 0) := by rfl
theorem zi_21_58 : (zM 21).1[58]? = some (.iload 1) := by rfl
theorem zi_21_59 : (zM 21).1[59]? = some (.putfield 1015) := by rfl
theorem zi_21_60 : (zM 21).1[60]? = some (.aload 0) := by rfl
theorem zi_21_61 : (zM 21).1[61]? = some (.iload 2) := by rfl
theorem zi_21_62 : (zM 21).1[62]? = some (.putfield 1016) := by rfl
theorem zi_21_63 : (zM 21).1[63]? = some (.aload 0) := by rfl
theorem zi_21_64 : (zM 21).1[64]? = some (.lload 3) := by rfl
theorem zi_21_65 : (zM 21).1[65]? = some (.putfield 1117) := by rfl
theorem zi_21_66 : (zM 21).1[66]? = some (.aload 0) := by rfl
theorem zi_21_67 : (zM 21).1[67]? = some (.dup) := by rfl
theorem zi_21_68 : (zM 21).1[68]? = some (.getfield 1014) := by rfl
theorem zi_21_69 : (zM 21).1[69]? = some (.iconst 1) := by rfl
theorem zi_21_70 : (zM 21).1[70]? = some (.iadd) := by rfl
theorem zi_21_71 : (zM 21).1[71]? = some (.putfield 1014) := by rfl
theorem zi_21_72 : (zM 21).1[72]? = some (.return_) := by rfl
def wb_21_66 (E : Nat → Nat) (d : Nat) (Q : Option Value → ZH → Prop) (a0 : Nat) (h : ZH) : Prop := ztag h a0 = 1 ∧ ∀ h34 : ZH, h34 = (zuI h a0 14 ((zI h a0 14) + 1)) → Q none h34
set_option maxRecDepth 20000 in
theorem okb_21_66 {E : Nat → Nat} {d : Nat} {Q : Option Value → ZH → Prop} {a0 : Nat} {h : ZH} (hw : wb_21_66 E d Q a0 h) : Gx E (d + 1) 21 66 [.ref a0, .retAddr 0, .retAddr 0, .retAddr 0, .retAddr 0] [] h Q := by
  unfold wb_21_66 at hw
  refine zg_aload zi_21_66 rfl ?_
  refine zg_dup zi_21_67 rfl ?_
  obtain ⟨t33, hw⟩ := hw
  refine zg_getI (v := .int (zI h a0 14)) zi_21_68 t33 (by rfl) rfl ?_
  refine zg_const (v := 1) zi_21_69 (by rfl) ?_
  refine zg_iadd zi_21_70 ?_
  refine zg_putI (h1 := zuI h a0 14 ((zI h a0 14) + 1)) zi_21_71 t33 (by rfl) rfl ?_
  refine zg_nameH fun h34 eh34 => ?_
  have hw := hw h34 eh34
  exact zg_return zi_21_72 hw
/-- TakeOrPay$Figures.tryOffer(II)V -/
def w_21 (E : Nat → Nat) (d : Nat) (a0 : Nat) (a1 : Int32) (a2 : Int32) (h : ZH) (Q : Option Value → ZH → Prop) : Prop := ztag h a0 = 1 ∧ ∃ r2 : Nat, zR h a0 2 = r2 + 1 ∧ ∃ r3 : Nat, zR h a0 0 = r3 + 1 ∧ ztag h r2 = 3 ∧ Ct E d 32 [.ref r2, .ref r3] h (fun v h5 => v = none ∧ ztag h5 a0 = 1 ∧ ∃ r7 : Nat, zR h5 a0 2 = r7 + 1 ∧ ztag h5 r7 = 3 ∧ ∃ r9 : Nat, zR h5 r7 0 = r9 + 1 ∧ ztag h5 r9 = 13 ∧ zin 5 (zlen h5 r9) = true ∧ ∀ h11 : ZH, h11 = (zuI h5 r9 5 a1) → zin 6 (zlen h11 r9) = true ∧ ∀ h12 : ZH, h12 = (zuI h11 r9 6 a2) → Ct E d 34 [.ref r7] h12 (fun v h13 => v = none ∧ ztag h13 a0 = 1 ∧ ∃ r15 : Nat, zR h13 a0 5 = r15 + 1 ∧ ∃ r16 : Nat, zR h13 a0 2 = r16 + 1 ∧ ztag h13 r15 = 0 ∧ Ct E d 1 [.ref r15, .ref r16] h13 (fun v h18 => v = none ∧ ztag h18 a0 = 1 ∧ ∃ r20 : Nat, zR h18 a0 6 = r20 + 1 ∧ ∃ r21 : Nat, zR h18 a0 5 = r21 + 1 ∧ ztag h18 r20 = 7 ∧ Ct E d 73 [.ref r20, .ref r21] h18 (fun v h23 => v = none ∧ ztag h23 a0 = 1 ∧ ∃ r25 : Nat, zR h23 a0 6 = r25 + 1 ∧ ztag h23 r25 = 7 ∧ ∃ r27 : Nat, zR h23 a0 12 = r27 + 1 ∧ ztag h23 r27 = 14 ∧ zin 0 (zlen h23 r27) = true ∧ (((zL h23 r27 0 : Int64) ≤ (zL h23 r25 7 : Int64) → (zin 1 (zlen h23 r27) = true ∧ ∀ x29 : Int64, x29 = ((zL h23 r25 8) - (zL h23 r27 1)) → (((zI h23 a0 14 : Int32) = 0 → (∀ h30 : ZH, h30 = (zuI h23 a0 15 a1) → ∀ h31 : ZH, h31 = (zuI h30 a0 16 a2) → ∀ h32 : ZH, h32 = (zuL h31 a0 17 x29) → wb_21_66 E d Q a0 h32)) ∧ (¬ ((zI h23 a0 14 : Int32) = 0) → ((x29 ≤ (zL h23 a0 17 : Int64) → (wb_21_66 E d Q a0 h23)) ∧ (¬ (x29 ≤ (zL h23 a0 17 : Int64)) → (∀ h35 : ZH, h35 = (zuI h23 a0 15 a1) → ∀ h36 : ZH, h36 = (zuI h35 a0 16 a2) → ∀ h37 : ZH, h37 = (zuL h36 a0 17 x29) → wb_21_66 E d Q a0 h37))))))) ∧ (¬ ((zL h23 r27 0 : Int64) ≤ (zL h23 r25 7 : Int64)) → (Q none h23)))))))
set_option maxRecDepth 20000 in
theorem ok_21 {E : Nat → Nat} {d : Nat} {a0 : Nat} {a1 : Int32} {a2 : Int32} {h : ZH} {Q : Option Value → ZH → Prop} (hw : w_21 E d a0 a1 a2 h Q) : Ct E (d + 1) 21 [.ref a0, .int a1, .int a2] h Q := by
  unfold w_21 at hw
  show Gx E (d + 1) 21 0 [.ref a0, .int a1, .int a2, .retAddr 0, .retAddr 0] [] h Q
  refine zg_aload zi_21_0 rfl ?_
  obtain ⟨t1, hw⟩ := hw
  obtain ⟨r2, er2, hw⟩ := hw
  refine zg_getR (v := .ref r2) zi_21_1 t1 (by rfl) (by show zrv (zR h a0 2) = _; rw [er2]; rfl) ?_
  refine zg_aload zi_21_2 rfl ?_
  obtain ⟨r3, er3, hw⟩ := hw
  refine zg_getR (v := .ref r3) zi_21_3 t1 (by rfl) (by show zrv (zR h a0 0) = _; rw [er3]; rfl) ?_
  obtain ⟨t4, hw⟩ := hw
  refine Gx.call2 (as := [.ref r2, .ref r3]) (rest := []) zq_32 zi_21_4 rfl rfl rfl (Nat.le_of_ble_eq_true rfl) (Nat.le_of_ble_eq_true rfl) (zrv_v t4 rfl rfl) (Nat.le_of_ble_eq_true rfl) ?_
  refine Ct.mono hw ?_
  rintro v h5 ⟨rfl, hw⟩
  show Gx E (d + 1) 21 5 [.ref a0, .int a1, .int a2, .retAddr 0, .retAddr 0] [] h5 Q
  refine zg_aload zi_21_5 rfl ?_
  obtain ⟨t6, hw⟩ := hw
  obtain ⟨r7, er7, hw⟩ := hw
  refine zg_getR (v := .ref r7) zi_21_6 t6 (by rfl) (by show zrv (zR h5 a0 2) = _; rw [er7]; rfl) ?_
  obtain ⟨t8, hw⟩ := hw
  obtain ⟨r9, er9, hw⟩ := hw
  refine zg_getR (v := .ref r9) zi_21_7 t8 (by rfl) (by show zrv (zR h5 r7 0) = _; rw [er9]; rfl) ?_
  refine zg_const (v := 5) zi_21_8 (by rfl) ?_
  refine zg_iload zi_21_9 rfl ?_
  obtain ⟨t10, hw⟩ := hw
  obtain ⟨hb, hw⟩ := hw
  refine zg_iastore (h1 := zuI h5 r9 5 a1) zi_21_10 t10 hb rfl ?_
  refine zg_nameH fun h11 eh11 => ?_
  have hw := hw h11 eh11
  refine zg_aload zi_21_11 rfl ?_
  refine zg_getR (v := .ref r7) zi_21_12 (by rw [eh11]; exact t6) (by rfl) (by rw [eh11]; show zrv (zR h5 a0 2) = _; rw [er7]; rfl) ?_
  refine zg_getR (v := .ref r9) zi_21_13 (by rw [eh11]; exact t8) (by rfl) (by rw [eh11]; show zrv (zR h5 r7 0) = _; rw [er9]; rfl) ?_
  refine zg_const (v := 6) zi_21_14 (by rfl) ?_
  refine zg_iload zi_21_15 rfl ?_
  obtain ⟨hb, hw⟩ := hw
  refine zg_iastore (h1 := zuI h11 r9 6 a2) zi_21_16 (by rw [eh11]; exact t10) hb rfl ?_
  refine zg_nameH fun h12 eh12 => ?_
  have hw := hw h12 eh12
  refine zg_aload zi_21_17 rfl ?_
  refine zg_getR (v := .ref r7) zi_21_18 (by rw [eh12, eh11]; exact t6) (by rfl) (by rw [eh12, eh11]; show zrv (zR h5 a0 2) = _; rw [er7]; rfl) ?_
  refine Gx.call2 (as := [.ref r7]) (rest := []) zq_34 zi_21_19 rfl rfl rfl (Nat.le_of_ble_eq_true rfl) (Nat.le_of_ble_eq_true rfl) (zrv_v (by rw [eh12, eh11]; exact t8) rfl rfl) (Nat.le_of_ble_eq_true rfl) ?_
  refine Ct.mono hw ?_
  rintro v h13 ⟨rfl, hw⟩
  show Gx E (d + 1) 21 20 [.ref a0, .int a1, .int a2, .retAddr 0, .retAddr 0] [] h13 Q
  refine zg_aload zi_21_20 rfl ?_
  obtain ⟨t14, hw⟩ := hw
  obtain ⟨r15, er15, hw⟩ := hw
  refine zg_getR (v := .ref r15) zi_21_21 t14 (by rfl) (by show zrv (zR h13 a0 5) = _; rw [er15]; rfl) ?_
  refine zg_aload zi_21_22 rfl ?_
  obtain ⟨r16, er16, hw⟩ := hw
  refine zg_getR (v := .ref r16) zi_21_23 t14 (by rfl) (by show zrv (zR h13 a0 2) = _; rw [er16]; rfl) ?_
  obtain ⟨t17, hw⟩ := hw
  refine Gx.call2 (as := [.ref r15, .ref r16]) (rest := []) zq_1 zi_21_24 rfl rfl rfl (Nat.le_of_ble_eq_true rfl) (Nat.le_of_ble_eq_true rfl) (zrv_v t17 rfl rfl) (Nat.le_of_ble_eq_true rfl) ?_
  refine Ct.mono hw ?_
  rintro v h18 ⟨rfl, hw⟩
  show Gx E (d + 1) 21 25 [.ref a0, .int a1, .int a2, .retAddr 0, .retAddr 0] [] h18 Q
  refine zg_aload zi_21_25 rfl ?_
  obtain ⟨t19, hw⟩ := hw
  obtain ⟨r20, er20, hw⟩ := hw
  refine zg_getR (v := .ref r20) zi_21_26 t19 (by rfl) (by show zrv (zR h18 a0 6) = _; rw [er20]; rfl) ?_
  refine zg_aload zi_21_27 rfl ?_
  obtain ⟨r21, er21, hw⟩ := hw
  refine zg_getR (v := .ref r21) zi_21_28 t19 (by rfl) (by show zrv (zR h18 a0 5) = _; rw [er21]; rfl) ?_
  obtain ⟨t22, hw⟩ := hw
  refine Gx.call2 (as := [.ref r20, .ref r21]) (rest := []) zq_73 zi_21_29 rfl rfl rfl (Nat.le_of_ble_eq_true rfl) (Nat.le_of_ble_eq_true rfl) (zrv_v t22 rfl rfl) (Nat.le_of_ble_eq_true rfl) ?_
  refine Ct.mono hw ?_
  rintro v h23 ⟨rfl, hw⟩
  show Gx E (d + 1) 21 30 [.ref a0, .int a1, .int a2, .retAddr 0, .retAddr 0] [] h23 Q
  refine zg_aload zi_21_30 rfl ?_
  obtain ⟨t24, hw⟩ := hw
  obtain ⟨r25, er25, hw⟩ := hw
  refine zg_getR (v := .ref r25) zi_21_31 t24 (by rfl) (by show zrv (zR h23 a0 6) = _; rw [er25]; rfl) ?_
  obtain ⟨t26, hw⟩ := hw
  refine zg_getL (v := .long (zL h23 r25 7)) zi_21_32 t26 (by rfl) rfl ?_
  refine zg_aload zi_21_33 rfl ?_
  obtain ⟨r27, er27, hw⟩ := hw
  refine zg_getR (v := .ref r27) zi_21_34 t24 (by rfl) (by show zrv (zR h23 a0 12) = _; rw [er27]; rfl) ?_
  refine zg_const (v := 0) zi_21_35 (by rfl) ?_
  obtain ⟨t28, hw⟩ := hw
  obtain ⟨hb, hw⟩ := hw
  refine zg_laload (v := .long (zL h23 r27 0)) zi_21_36 t28 hb rfl ?_
  refine zg_lcmp_ge zi_21_37 zi_21_38 (fun hc => ?_) (fun hc => ?_)
  · have hw := hw.1 hc
    refine zg_aload zi_21_40 rfl ?_
    refine zg_getR (v := .ref r25) zi_21_41 t24 (by rfl) (by show zrv (zR h23 a0 6) = _; rw [er25]; rfl) ?_
    refine zg_getL (v := .long (zL h23 r25 8)) zi_21_42 t26 (by rfl) rfl ?_
    refine zg_aload zi_21_43 rfl ?_
    refine zg_getR (v := .ref r27) zi_21_44 t24 (by rfl) (by show zrv (zR h23 a0 12) = _; rw [er27]; rfl) ?_
    refine zg_const (v := 1) zi_21_45 (by rfl) ?_
    obtain ⟨hb, hw⟩ := hw
    refine zg_laload (v := .long (zL h23 r27 1)) zi_21_46 t28 hb rfl ?_
    refine zg_lsub zi_21_47 ?_
    refine zg_nameL fun x29 ex29 => ?_
    have hw := hw x29 ex29
    refine zg_lstore (ls1 := [.ref a0, .int a1, .int a2, .long x29, .retAddr 0]) zi_21_48 (Nat.le_of_ble_eq_true rfl) rfl ?_
    refine zg_aload zi_21_49 rfl ?_
    refine zg_getI (v := .int (zI h23 a0 14)) zi_21_50 t24 (by rfl) rfl ?_
    refine zg_if_eq zi_21_51 (fun hc => ?_) (fun hc => ?_)
    · have hw := hw.1 hc
      refine zg_aload zi_21_57 rfl ?_
      refine zg_iload zi_21_58 rfl ?_
      refine zg_putI (h1 := zuI h23 a0 15 a1) zi_21_59 t24 (by rfl) rfl ?_
      refine zg_nameH fun h30 eh30 => ?_
      have hw := hw h30 eh30
      refine zg_aload zi_21_60 rfl ?_
      refine zg_iload zi_21_61 rfl ?_
      refine zg_putI (h1 := zuI h30 a0 16 a2) zi_21_62 (by rw [eh30]; exact t24) (by rfl) rfl ?_
      refine zg_nameH fun h31 eh31 => ?_
      have hw := hw h31 eh31
      refine zg_aload zi_21_63 rfl ?_
      refine zg_lload zi_21_64 rfl ?_
      refine zg_putL (h1 := zuL h31 a0 17 x29) zi_21_65 (by rw [eh31, eh30]; exact t24) (by rfl) rfl ?_
      refine zg_nameH fun h32 eh32 => ?_
      have hw := hw h32 eh32
      exact Gx.forget (zrk (zrd (zrd (zrd (zrk zr0))))) (okb_21_66 hw)
    · have hw := hw.2 hc
      refine zg_lload zi_21_52 rfl ?_
      refine zg_aload zi_21_53 rfl ?_
      refine zg_getL (v := .long (zL h23 a0 17)) zi_21_54 t24 (by rfl) rfl ?_
      refine zg_lcmp_le zi_21_55 zi_21_56 (fun hc => ?_) (fun hc => ?_)
      · have hw := hw.1 hc
        exact Gx.forget (zrk (zrd (zrd (zrd (zrk zr0))))) (okb_21_66 hw)
      · have hw := hw.2 hc
        refine zg_aload zi_21_57 rfl ?_
        refine zg_iload zi_21_58 rfl ?_
        refine zg_putI (h1 := zuI h23 a0 15 a1) zi_21_59 t24 (by rfl) rfl ?_
        refine zg_nameH fun h35 eh35 => ?_
        have hw := hw h35 eh35
        refine zg_aload zi_21_60 rfl ?_
        refine zg_iload zi_21_61 rfl ?_
        refine zg_putI (h1 := zuI h35 a0 16 a2) zi_21_62 (by rw [eh35]; exact t24) (by rfl) rfl ?_
        refine zg_nameH fun h36 eh36 => ?_
        have hw := hw h36 eh36
        refine zg_aload zi_21_63 rfl ?_
        refine zg_lload zi_21_64 rfl ?_
        refine zg_putL (h1 := zuL h36 a0 17 x29) zi_21_65 (by rw [eh36, eh35]; exact t24) (by rfl) rfl ?_
        refine zg_nameH fun h37 eh37 => ?_
        have hw := hw h37 eh37
        exact Gx.forget (zrk (zrd (zrd (zrd (zrk zr0))))) (okb_21_66 hw)
  · have hw := hw.2 hc
    exact zg_return zi_21_39 hw
theorem zq_20 : zQ 20 1 5 1 := by unfold zQ; decide +kernel
theorem zi_20_0 : (zM 20).1[0]? = some (.aload 0) := by rfl
theorem zi_20_1 : (zM 20).1[1]? = some (.getfield 1309) := by rfl
theorem zi_20_2 : (zM 20).1[2]? = some (.ifCond .eq ((4 : Nat) : Int)) := by rfl
theorem zi_20_3 : (zM 20).1[3]? = some (.return_) := by rfl
theorem zi_20_4 : (zM 20).1[4]? = some (.aload 0) := by rfl
theorem zi_20_5 : (zM 20).1[5]? = some (.invokevirtual 18) := by rfl
theorem zi_20_6 : (zM 20).1[6]? = some (.aload 0) := by rfl
theorem zi_20_7 : (zM 20).1[7]? = some (.iconst 0) := by rfl
theorem zi_20_8 : (zM 20).1[8]? = some (.putfield 1014) := by rfl
theorem zi_20_9 : (zM 20).1[9]? = some (.aload 0) := by rfl
theorem zi_20_10 : (zM 20).1[10]? = some (.getfield 1200) := by rfl
theorem zi_20_11 : (zM 20).1[11]? = some (.getfield 3200) := by rfl
theorem zi_20_12 : (zM 20).1[12]? = some (.iconst 5) := by rfl
theorem zi_20_13 : (zM 20).1[13]? = some (.iaload) := by rfl
theorem zi_20_14 : (zM 20).1[14]? = some (.istore 1) := by rfl
theorem zi_20_15 : (zM 20).1[15]? = some (.aload 0) := by rfl
theorem zi_20_16 : (zM 20).1[16]? = some (.getfield 1200) := by rfl
theorem zi_20_17 : (zM 20).1[17]? = some (.getfield 3200) := by rfl
theorem zi_20_18 : (zM 20).1[18]? = some (.iconst 6) := by rfl
theorem zi_20_19 : (zM 20).1[19]? = some (.iaload) := by rfl
theorem zi_20_20 : (zM 20).1[20]? = some (.istore 2) := by rfl
theorem zi_20_21 : (zM 20).1[21]? = some (.iload 1) := by rfl
theorem zi_20_22 : (zM 20).1[22]? = some (.iconst 20) := by rfl
theorem zi_20_23 : (zM 20).1[23]? = some (.isub) := by rfl
theorem zi_20_24 : (zM 20).1[24]? = some (.istore 3) := by rfl
theorem zi_20_25 : (zM 20).1[25]? = some (.iload 3) := by rfl
theorem zi_20_26 : (zM 20).1[26]? = some (.iload 1) := by rfl
theorem zi_20_27 : (zM 20).1[27]? = some (.iconst 20) := by rfl
theorem zi_20_28 : (zM 20).1[28]? = some (.iadd) := by rfl
theorem zi_20_29 : (zM 20).1[29]? = some (.if_icmp .gt ((58 : Nat) : Int)) := by rfl
theorem zi_20_30 : (zM 20).1[30]? = some (.iload 2) := by rfl
theorem zi_20_31 : (zM 20).1[31]? = some (.iconst 1) := by rfl
theorem zi_20_32 : (zM 20).1[32]? = some (.isub) := by rfl
theorem zi_20_33 : (zM 20).1[33]? = some (.istore 4) := by rfl
theorem zi_20_34 : (zM 20).1[34]? = some (.iload 4) := by rfl
theorem zi_20_35 : (zM 20).1[35]? = some (.iload 2) := by rfl
theorem zi_20_36 : (zM 20).1[36]? = some (.iconst 1) := by rfl
theorem zi_20_37 : (zM 20).1[37]? = some (.iadd) := by rfl
theorem zi_20_38 : (zM 20).1[38]? = some (.if_icmp .gt ((56 : Nat) : Int)) := by rfl
theorem zi_20_39 : (zM 20).1[39]? = some (.iload 3) := by rfl
theorem zi_20_40 : (zM 20).1[40]? = some (.ifCond .lt ((54 : Nat) : Int)) := by rfl
theorem zi_20_41 : (zM 20).1[41]? = some (.iload 3) := by rfl
theorem zi_20_42 : (zM 20).1[42]? = some (.iconst 100) := by rfl
theorem zi_20_43 : (zM 20).1[43]? = some (.if_icmp .gt ((54 : Nat) : Int)) := by rfl
theorem zi_20_44 : (zM 20).1[44]? = some (.iload 4) := by rfl
theorem zi_20_45 : (zM 20).1[45]? = some (.iconst 1) := by rfl
theorem zi_20_46 : (zM 20).1[46]? = some (.if_icmp .lt ((54 : Nat) : Int)) := by rfl
theorem zi_20_47 : (zM 20).1[47]? = some (.iload 4) := by rfl
theorem zi_20_48 : (zM 20).1[48]? = some (.iconst 60) := by rfl
theorem zi_20_49 : (zM 20).1[49]? = some (.if_icmp .gt ((54 : Nat) : Int)) := by rfl
theorem zi_20_50 : (zM 20).1[50]? = some (.aload 0) := by rfl
theorem zi_20_51 : (zM 20).1[51]? = some (.iload 3) := by rfl
theorem zi_20_52 : (zM 20).1[52]? = some (.iload 4) := by rfl
theorem zi_20_53 : (zM 20).1[53]? = some (.invokevirtual 21) := by rfl
theorem zi_20_54 : (zM 20).1[54]? = some (.iinc 4 1) := by rfl
theorem zi_20_55 : (zM 20).1[55]? = some (.goto ((34 : Nat) : Int)) := by rfl
theorem zi_20_56 : (zM 20).1[56]? = some (.iinc 3 20) := by rfl
theorem zi_20_57 : (zM 20).1[57]? = some (.goto ((25 : Nat) : Int)) := by rfl
theorem zi_20_58 : (zM 20).1[58]? = some (.aload 0) := by rfl
theorem zi_20_59 : (zM 20).1[59]? = some (.iconst 1) := by rfl
theorem zi_20_60 : (zM 20).1[60]? = some (.putfield 1309) := by rfl
theorem zi_20_61 : (zM 20).1[61]? = some (.return_) := by rfl
def wb_20_58 (E : Nat → Nat) (d : Nat) (Q : Option Value → ZH → Prop) (a0 : Nat) (h : ZH) : Prop := ztag h a0 = 1 ∧ ∀ h13 : ZH, h13 = (zuI h a0 9 1) → Q none h13
set_option maxRecDepth 20000 in
theorem okb_20_58 {E : Nat → Nat} {d : Nat} {Q : Option Value → ZH → Prop} {a0 : Nat} {h : ZH} (hw : wb_20_58 E d Q a0 h) : Gx E (d + 1) 20 58 [.ref a0, .retAddr 0, .retAddr 0, .retAddr 0, .retAddr 0] [] h Q := by
  unfold wb_20_58 at hw
  refine zg_aload zi_20_58 rfl ?_
  refine zg_const (v := 1) zi_20_59 (by rfl) ?_
  obtain ⟨t12, hw⟩ := hw
  refine zg_putZ (h1 := zuI h a0 9 1) zi_20_60 t12 (by rfl) (by decide) rfl ?_
  refine zg_nameH fun h13 eh13 => ?_
  have hw := hw h13 eh13
  exact zg_return zi_20_61 hw
def wb_20_56 (E : Nat → Nat) (d : Nat) (Q : Option Value → ZH → Prop) (L_25 : Nat → Int32 → Int32 → Int32 → ZH → Prop) (a0 : Nat) (a1 : Int32) (a2 : Int32) (a3 : Int32) (h : ZH) : Prop := ∀ x15 : Int32, x15 = (a3 + 20) → L_25 a0 a1 a2 x15 h
set_option maxRecDepth 20000 in
theorem okb_20_56 {E : Nat → Nat} {d : Nat} {Q : Option Value → ZH → Prop} {L_25 : Nat → Int32 → Int32 → Int32 → ZH → Prop} (hL_25 : ∀ (b0 : Nat) (b1 : Int32) (b2 : Int32) (b3 : Int32) (h : ZH), L_25 b0 b1 b2 b3 h → Gx E (d + 1) 20 25 [.ref b0, .int b1, .int b2, .int b3, .retAddr 0] [] h Q) {a0 : Nat} {a1 : Int32} {a2 : Int32} {a3 : Int32} {h : ZH} (hw : wb_20_56 E d Q L_25 a0 a1 a2 a3 h) : Gx E (d + 1) 20 56 [.ref a0, .int a1, .int a2, .int a3, .retAddr 0] [] h Q := by
  unfold wb_20_56 at hw
  obtain ⟨x15, ex15⟩ : ∃ x : Int32, x = a3 + 20 := ⟨_, rfl⟩
  have hw := hw x15 ex15
  refine zg_iinc (v := x15) (ls1 := [.ref a0, .int a1, .int a2, .int x15, .retAddr 0]) zi_20_56 rfl (by rw [ex15]; rfl) rfl ?_
  refine zg_goto zi_20_57 ?_
  exact hL_25 a0 a1 a2 x15 h hw
def wb_20_54 (E : Nat → Nat) (d : Nat) (Q : Option Value → ZH → Prop) (L_25 : Nat → Int32 → Int32 → Int32 → ZH → Prop) (L_34 : Nat → Int32 → Int32 → Int32 → Int32 → ZH → Prop) (a0 : Nat) (a1 : Int32) (a2 : Int32) (a3 : Int32) (a4 : Int32) (h : ZH) : Prop := ∀ x16 : Int32, x16 = (a4 + 1) → L_34 a0 a1 a2 a3 x16 h
set_option maxRecDepth 20000 in
theorem okb_20_54 {E : Nat → Nat} {d : Nat} {Q : Option Value → ZH → Prop} {L_25 : Nat → Int32 → Int32 → Int32 → ZH → Prop} {L_34 : Nat → Int32 → Int32 → Int32 → Int32 → ZH → Prop} (hL_25 : ∀ (b0 : Nat) (b1 : Int32) (b2 : Int32) (b3 : Int32) (h : ZH), L_25 b0 b1 b2 b3 h → Gx E (d + 1) 20 25 [.ref b0, .int b1, .int b2, .int b3, .retAddr 0] [] h Q) (hL_34 : ∀ (b0 : Nat) (b1 : Int32) (b2 : Int32) (b3 : Int32) (b4 : Int32) (h : ZH), L_34 b0 b1 b2 b3 b4 h → Gx E (d + 1) 20 34 [.ref b0, .int b1, .int b2, .int b3, .int b4] [] h Q) {a0 : Nat} {a1 : Int32} {a2 : Int32} {a3 : Int32} {a4 : Int32} {h : ZH} (hw : wb_20_54 E d Q L_25 L_34 a0 a1 a2 a3 a4 h) : Gx E (d + 1) 20 54 [.ref a0, .int a1, .int a2, .int a3, .int a4] [] h Q := by
  unfold wb_20_54 at hw
  obtain ⟨x16, ex16⟩ : ∃ x : Int32, x = a4 + 1 := ⟨_, rfl⟩
  have hw := hw x16 ex16
  refine zg_iinc (v := x16) (ls1 := [.ref a0, .int a1, .int a2, .int a3, .int x16]) zi_20_54 rfl (by rw [ex16]; rfl) rfl ?_
  refine zg_goto zi_20_55 ?_
  exact hL_34 a0 a1 a2 a3 x16 h hw
def wl_20_34 (E : Nat → Nat) (d : Nat) (Q : Option Value → ZH → Prop) (L_25 : Nat → Int32 → Int32 → Int32 → ZH → Prop) : Nat → Nat → Int32 → Int32 → Int32 → Int32 → ZH → Prop
  | 0, _, _, _, _, _, _ => False
  | n + 1, a0, a1, a2, a3, a4, h => ((a2 + 1 : Int32) < a4 → (wb_20_56 E d Q L_25 a0 a1 a2 a3 h)) ∧ (¬ ((a2 + 1 : Int32) < a4) → ((a3 < 0 → (wb_20_54 E d Q L_25 (wl_20_34 E d Q L_25 n) a0 a1 a2 a3 a4 h)) ∧ (¬ (a3 < 0) → ((100 < a3 → (wb_20_54 E d Q L_25 (wl_20_34 E d Q L_25 n) a0 a1 a2 a3 a4 h)) ∧ (¬ (100 < a3) → ((a4 < 1 → (wb_20_54 E d Q L_25 (wl_20_34 E d Q L_25 n) a0 a1 a2 a3 a4 h)) ∧ (¬ (a4 < 1) → ((60 < a4 → (wb_20_54 E d Q L_25 (wl_20_34 E d Q L_25 n) a0 a1 a2 a3 a4 h)) ∧ (¬ (60 < a4) → (ztag h a0 = 1 ∧ Ct E d 21 [.ref a0, .int a3, .int a4] h (fun v h18 => v = none ∧ wb_20_54 E d Q L_25 (wl_20_34 E d Q L_25 n) a0 a1 a2 a3 a4 h18)))))))))))
set_option maxRecDepth 20000 in
theorem okl_20_34 {E : Nat → Nat} {d : Nat} {Q : Option Value → ZH → Prop} {L_25 : Nat → Int32 → Int32 → Int32 → ZH → Prop} (hL_25 : ∀ (b0 : Nat) (b1 : Int32) (b2 : Int32) (b3 : Int32) (h : ZH), L_25 b0 b1 b2 b3 h → Gx E (d + 1) 20 25 [.ref b0, .int b1, .int b2, .int b3, .retAddr 0] [] h Q) : ∀ (n : Nat) (a0 : Nat) (a1 : Int32) (a2 : Int32) (a3 : Int32) (a4 : Int32) (h : ZH), wl_20_34 E d Q L_25 n a0 a1 a2 a3 a4 h → Gx E (d + 1) 20 34 [.ref a0, .int a1, .int a2, .int a3, .int a4] [] h Q := by
  intro n
  induction n with
  | zero => intro a0 a1 a2 a3 a4 h hw; exact hw.elim
  | succ n ih =>
    intro a0 a1 a2 a3 a4 h hw
    rw [wl_20_34] at hw
    refine zg_iload zi_20_34 rfl ?_
    refine zg_iload zi_20_35 rfl ?_
    refine zg_const (v := 1) zi_20_36 (by rfl) ?_
    refine zg_iadd zi_20_37 ?_
    refine zg_icmp_gt zi_20_38 (fun hc => ?_) (fun hc => ?_)
    · have hw := hw.1 hc
      exact Gx.forget (zrk (zrk (zrk (zrk (zrd zr0))))) (okb_20_56 hL_25 hw)
    · have hw := hw.2 hc
      refine zg_iload zi_20_39 rfl ?_
      refine zg_if_lt zi_20_40 (fun hc => ?_) (fun hc => ?_)
      · have hw := hw.1 hc
        exact okb_20_54 hL_25 ih hw
      · have hw := hw.2 hc
        refine zg_iload zi_20_41 rfl ?_
        refine zg_const (v := 100) zi_20_42 (by rfl) ?_
        refine zg_icmp_gt zi_20_43 (fun hc => ?_) (fun hc => ?_)
        · have hw := hw.1 hc
          exact okb_20_54 hL_25 ih hw
        · have hw := hw.2 hc
          refine zg_iload zi_20_44 rfl ?_
          refine zg_const (v := 1) zi_20_45 (by rfl) ?_
          refine zg_icmp_lt zi_20_46 (fun hc => ?_) (fun hc => ?_)
          · have hw := hw.1 hc
            exact okb_20_54 hL_25 ih hw
          · have hw := hw.2 hc
            refine zg_iload zi_20_47 rfl ?_
            refine zg_const (v := 60) zi_20_48 (by rfl) ?_
            refine zg_icmp_gt zi_20_49 (fun hc => ?_) (fun hc => ?_)
            · have hw := hw.1 hc
              exact okb_20_54 hL_25 ih hw
            · have hw := hw.2 hc
              refine zg_aload zi_20_50 rfl ?_
              refine zg_iload zi_20_51 rfl ?_
              refine zg_iload zi_20_52 rfl ?_
              obtain ⟨t17, hw⟩ := hw
              refine Gx.call2 (as := [.ref a0, .int a3, .int a4]) (rest := []) zq_21 zi_20_53 rfl rfl rfl (Nat.le_of_ble_eq_true rfl) (Nat.le_of_ble_eq_true rfl) (zrv_v t17 rfl rfl) (Nat.le_of_ble_eq_true rfl) ?_
              refine Ct.mono hw ?_
              rintro v h18 ⟨rfl, hw⟩
              show Gx E (d + 1) 20 54 [.ref a0, .int a1, .int a2, .int a3, .int a4] [] h18 Q
              exact okb_20_54 hL_25 ih hw
def wl_20_25 (E : Nat → Nat) (d : Nat) (Q : Option Value → ZH → Prop) : Nat → Nat → Int32 → Int32 → Int32 → ZH → Prop
  | 0, _, _, _, _, _ => False
  | n + 1, a0, a1, a2, a3, h => ((a1 + 20 : Int32) < a3 → (wb_20_58 E d Q a0 h)) ∧ (¬ ((a1 + 20 : Int32) < a3) → (∀ x14 : Int32, x14 = (a2 - 1) → (∃ mm : Nat, wl_20_34 E d Q (wl_20_25 E d Q n) mm a0 a1 a2 a3 x14 h)))
set_option maxRecDepth 20000 in
theorem okl_20_25 {E : Nat → Nat} {d : Nat} {Q : Option Value → ZH → Prop} : ∀ (n : Nat) (a0 : Nat) (a1 : Int32) (a2 : Int32) (a3 : Int32) (h : ZH), wl_20_25 E d Q n a0 a1 a2 a3 h → Gx E (d + 1) 20 25 [.ref a0, .int a1, .int a2, .int a3, .retAddr 0] [] h Q := by
  intro n
  induction n with
  | zero => intro a0 a1 a2 a3 h hw; exact hw.elim
  | succ n ih =>
    intro a0 a1 a2 a3 h hw
    rw [wl_20_25] at hw
    refine zg_iload zi_20_25 rfl ?_
    refine zg_iload zi_20_26 rfl ?_
    refine zg_const (v := 20) zi_20_27 (by rfl) ?_
    refine zg_iadd zi_20_28 ?_
    refine zg_icmp_gt zi_20_29 (fun hc => ?_) (fun hc => ?_)
    · have hw := hw.1 hc
      exact Gx.forget (zrk (zrd (zrd (zrd (zrk zr0))))) (okb_20_58 hw)
    · have hw := hw.2 hc
      refine zg_iload zi_20_30 rfl ?_
      refine zg_const (v := 1) zi_20_31 (by rfl) ?_
      refine zg_isub zi_20_32 ?_
      refine zg_nameI fun x14 ex14 => ?_
      have hw := hw x14 ex14
      refine zg_istore (ls1 := [.ref a0, .int a1, .int a2, .int a3, .int x14]) zi_20_33 (Nat.le_of_ble_eq_true rfl) rfl ?_
      obtain ⟨mm, hw⟩ := hw
      exact okl_20_34 ih mm a0 a1 a2 a3 x14 h hw
/-- TakeOrPay$Figures.reckonOffers()V -/
def w_20 (E : Nat → Nat) (d : Nat) (a0 : Nat) (h : ZH) (Q : Option Value → ZH → Prop) : Prop := ztag h a0 = 1 ∧ (((zI h a0 9 : Int32) = 0 → (Ct E d 18 [.ref a0] h (fun v h2 => v = none ∧ ztag h2 a0 = 1 ∧ ∀ h4 : ZH, h4 = (zuI h2 a0 14 0) → ∃ r5 : Nat, zR h4 a0 0 = r5 + 1 ∧ ztag h4 r5 = 3 ∧ ∃ r7 : Nat, zR h4 r5 0 = r7 + 1 ∧ (ztag h4 r7 = 13 ∨ ztag h4 r7 = 19) ∧ zin 5 (zlen h4 r7) = true ∧ ∀ x9 : Int32, x9 = (zI h4 r7 5) → zin 6 (zlen h4 r7) = true ∧ ∀ x10 : Int32, x10 = (zI h4 r7 6) → ∀ x11 : Int32, x11 = (x9 - 20) → (∃ mm : Nat, wl_20_25 E d Q mm a0 x9 x10 x11 h4)))) ∧ (¬ ((zI h a0 9 : Int32) = 0) → (Q none h)))
set_option maxRecDepth 20000 in
theorem ok_20 {E : Nat → Nat} {d : Nat} {a0 : Nat} {h : ZH} {Q : Option Value → ZH → Prop} (hw : w_20 E d a0 h Q) : Ct E (d + 1) 20 [.ref a0] h Q := by
  unfold w_20 at hw
  show Gx E (d + 1) 20 0 [.ref a0, .retAddr 0, .retAddr 0, .retAddr 0, .retAddr 0] [] h Q
  refine zg_aload zi_20_0 rfl ?_
  obtain ⟨t1, hw⟩ := hw
  refine zg_getZ (v := .int (zI h a0 9)) zi_20_1 t1 (by rfl) rfl ?_
  refine zg_if_eq zi_20_2 (fun hc => ?_) (fun hc => ?_)
  · have hw := hw.1 hc
    refine zg_aload zi_20_4 rfl ?_
    refine Gx.call2 (as := [.ref a0]) (rest := []) zq_18 zi_20_5 rfl rfl rfl (Nat.le_of_ble_eq_true rfl) (Nat.le_of_ble_eq_true rfl) (zrv_v t1 rfl rfl) (Nat.le_of_ble_eq_true rfl) ?_
    refine Ct.mono hw ?_
    rintro v h2 ⟨rfl, hw⟩
    show Gx E (d + 1) 20 6 [.ref a0, .retAddr 0, .retAddr 0, .retAddr 0, .retAddr 0] [] h2 Q
    refine zg_aload zi_20_6 rfl ?_
    refine zg_const (v := 0) zi_20_7 (by rfl) ?_
    obtain ⟨t3, hw⟩ := hw
    refine zg_putI (h1 := zuI h2 a0 14 0) zi_20_8 t3 (by rfl) rfl ?_
    refine zg_nameH fun h4 eh4 => ?_
    have hw := hw h4 eh4
    refine zg_aload zi_20_9 rfl ?_
    obtain ⟨r5, er5, hw⟩ := hw
    refine zg_getR (v := .ref r5) zi_20_10 (by rw [eh4]; exact t3) (by rfl) (by show zrv (zR h4 a0 0) = _; rw [er5]; rfl) ?_
    obtain ⟨t6, hw⟩ := hw
    obtain ⟨r7, er7, hw⟩ := hw
    refine zg_getR (v := .ref r7) zi_20_11 t6 (by rfl) (by show zrv (zR h4 r5 0) = _; rw [er7]; rfl) ?_
    refine zg_const (v := 5) zi_20_12 (by rfl) ?_
    obtain ⟨t8, hw⟩ := hw
    obtain ⟨hb, hw⟩ := hw
    refine zg_iaload (v := .int (zI h4 r7 5)) zi_20_13 t8 hb rfl ?_
    refine zg_nameI fun x9 ex9 => ?_
    have hw := hw x9 ex9
    refine zg_istore (ls1 := [.ref a0, .int x9, .retAddr 0, .retAddr 0, .retAddr 0]) zi_20_14 (Nat.le_of_ble_eq_true rfl) rfl ?_
    refine zg_aload zi_20_15 rfl ?_
    refine zg_getR (v := .ref r5) zi_20_16 (by rw [eh4]; exact t3) (by rfl) (by show zrv (zR h4 a0 0) = _; rw [er5]; rfl) ?_
    refine zg_getR (v := .ref r7) zi_20_17 t6 (by rfl) (by show zrv (zR h4 r5 0) = _; rw [er7]; rfl) ?_
    refine zg_const (v := 6) zi_20_18 (by rfl) ?_
    obtain ⟨hb, hw⟩ := hw
    refine zg_iaload (v := .int (zI h4 r7 6)) zi_20_19 t8 hb rfl ?_
    refine zg_nameI fun x10 ex10 => ?_
    have hw := hw x10 ex10
    refine zg_istore (ls1 := [.ref a0, .int x9, .int x10, .retAddr 0, .retAddr 0]) zi_20_20 (Nat.le_of_ble_eq_true rfl) rfl ?_
    refine zg_iload zi_20_21 rfl ?_
    refine zg_const (v := 20) zi_20_22 (by rfl) ?_
    refine zg_isub zi_20_23 ?_
    refine zg_nameI fun x11 ex11 => ?_
    have hw := hw x11 ex11
    refine zg_istore (ls1 := [.ref a0, .int x9, .int x10, .int x11, .retAddr 0]) zi_20_24 (Nat.le_of_ble_eq_true rfl) rfl ?_
    obtain ⟨mm, hw⟩ := hw
    exact okl_20_25 mm a0 x9 x10 x11 h4 hw
  · have hw := hw.2 hc
    exact zg_return zi_20_3 hw
theorem zq_22 : zQ 22 1 3 1 := by unfold zQ; decide +kernel
theorem zi_22_0 : (zM 22).1[0]? = some (.aload 0) := by rfl
theorem zi_22_1 : (zM 22).1[1]? = some (.getfield 1310) := by rfl
theorem zi_22_2 : (zM 22).1[2]? = some (.ifCond .eq ((4 : Nat) : Int)) := by rfl
theorem zi_22_3 : (zM 22).1[3]? = some (.return_) := by rfl
theorem zi_22_4 : (zM 22).1[4]? = some (.aload 0) := by rfl
theorem zi_22_5 : (zM 22).1[5]? = some (.invokevirtual 17) := by rfl
theorem zi_22_6 : (zM 22).1[6]? = some (.aload 0) := by rfl
theorem zi_22_7 : (zM 22).1[7]? = some (.getfield 1205) := by rfl
theorem zi_22_8 : (zM 22).1[8]? = some (.aload 0) := by rfl
theorem zi_22_9 : (zM 22).1[9]? = some (.getfield 1200) := by rfl
theorem zi_22_10 : (zM 22).1[10]? = some (.aload 0) := by rfl
theorem zi_22_11 : (zM 22).1[11]? = some (.getfield 1201) := by rfl
theorem zi_22_12 : (zM 22).1[12]? = some (.invokevirtual 2) := by rfl
theorem zi_22_13 : (zM 22).1[13]? = some (.aload 0) := by rfl
theorem zi_22_14 : (zM 22).1[14]? = some (.getfield 1205) := by rfl
theorem zi_22_15 : (zM 22).1[15]? = some (.iconst 0) := by rfl
theorem zi_22_16 : (zM 22).1[16]? = some (.iconst 0) := by rfl
theorem zi_22_17 : (zM 22).1[17]? = some (.iconst 0) := by rfl
theorem zi_22_18 : (zM 22).1[18]? = some (.iconst 0) := by rfl
theorem zi_22_19 : (zM 22).1[19]? = some (.invokevirtual 9) := by rfl
theorem zi_22_20 : (zM 22).1[20]? = some (.aload 0) := by rfl
theorem zi_22_21 : (zM 22).1[21]? = some (.getfield 1205) := by rfl
theorem zi_22_22 : (zM 22).1[22]? = some (.iconst 0) := by rfl
theorem zi_22_23 : (zM 22).1[23]? = some (.iconst 0) := by rfl
theorem zi_22_24 : (zM 22).1[24]? = some (.iconst 0) := by rfl
theorem zi_22_25 : (zM 22).1[25]? = some (.iconst 0) := by rfl
theorem zi_22_26 : (zM 22).1[26]? = some (.iconst 0) := by rfl
theorem zi_22_27 : (zM 22).1[27]? = some (.invokevirtual 12) := by rfl
theorem zi_22_28 : (zM 22).1[28]? = some (.pop) := by rfl
theorem zi_22_29 : (zM 22).1[29]? = some (.aload 0) := by rfl
theorem zi_22_30 : (zM 22).1[30]? = some (.aload 0) := by rfl
theorem zi_22_31 : (zM 22).1[31]? = some (.getfield 1205) := by rfl
theorem zi_22_32 : (zM 22).1[32]? = some (.getfield 111) := by rfl
theorem zi_22_33 : (zM 22).1[33]? = some (.iconst 2) := by rfl
theorem zi_22_34 : (zM 22).1[34]? = some (.aload 0) := by rfl
theorem zi_22_35 : (zM 22).1[35]? = some (.getfield 1200) := by rfl
theorem zi_22_36 : (zM 22).1[36]? = some (.getfield 3006) := by rfl
theorem zi_22_37 : (zM 22).1[37]? = some (.imul) := by rfl
theorem zi_22_38 : (zM 22).1[38]? = some (.lshr) := by rfl
theorem zi_22_39 : (zM 22).1[39]? = some (.l2i) := by rfl
theorem zi_22_40 : (zM 22).1[40]? = some (.putfield 1018) := by rfl
theorem zi_22_41 : (zM 22).1[41]? = some (.aload 0) := by rfl
theorem zi_22_42 : (zM 22).1[42]? = some (.iconst 0) := by rfl
theorem zi_22_43 : (zM 22).1[43]? = some (.putfield 1019) := by rfl
theorem zi_22_44 : (zM 22).1[44]? = some (.aload 0) := by rfl
theorem zi_22_45 : (zM 22).1[45]? = some (.getfield 1203) := by rfl
theorem zi_22_46 : (zM 22).1[46]? = some (.iconst 0) := by rfl
theorem zi_22_47 : (zM 22).1[47]? = some (.iconst 0) := by rfl
theorem zi_22_48 : (zM 22).1[48]? = some (.iconst 0) := by rfl
theorem zi_22_49 : (zM 22).1[49]? = some (.invokevirtual 24) := by rfl
theorem zi_22_50 : (zM 22).1[50]? = some (.iconst 0) := by rfl
theorem zi_22_51 : (zM 22).1[51]? = some (.istore 1) := by rfl
theorem zi_22_52 : (zM 22).1[52]? = some (.iload 1) := by rfl
theorem zi_22_53 : (zM 22).1[53]? = some (.aload 0) := by rfl
theorem zi_22_54 : (zM 22).1[54]? = some (.getfield 1200) := by rfl
theorem zi_22_55 : (zM 22).1[55]? = some (.getfield 3006) := by rfl
theorem zi_22_56 : (zM 22).1[56]? = some (.if_icmp .ge ((109 : Nat) : Int)) := by rfl
theorem zi_22_57 : (zM 22).1[57]? = some (.aload 0) := by rfl
theorem zi_22_58 : (zM 22).1[58]? = some (.getfield 1200) := by rfl
theorem zi_22_59 : (zM 22).1[59]? = some (.getfield 3006) := by rfl
theorem zi_22_60 : (zM 22).1[60]? = some (.iconst 13) := by rfl
theorem zi_22_61 : (zM 22).1[61]? = some (.if_icmp .gt ((109 : Nat) : Int)) := by rfl
theorem zi_22_62 : (zM 22).1[62]? = some (.aload 0) := by rfl
theorem zi_22_63 : (zM 22).1[63]? = some (.getfield 1205) := by rfl
theorem zi_22_64 : (zM 22).1[64]? = some (.iload 1) := by rfl
theorem zi_22_65 : (zM 22).1[65]? = some (.aload 0) := by rfl
theorem zi_22_66 : (zM 22).1[66]? = some (.getfield 1203) := by rfl
theorem zi_22_67 : (zM 22).1[67]? = some (.getfield 2003) := by rfl
theorem zi_22_68 : (zM 22).1[68]? = some (.aload 0) := by rfl
theorem zi_22_69 : (zM 22).1[69]? = some (.getfield 1203) := by rfl
theorem zi_22_70 : (zM 22).1[70]? = some (.getfield 2004) := by rfl
theorem zi_22_71 : (zM 22).1[71]? = some (.aload 0) := by rfl
theorem zi_22_72 : (zM 22).1[72]? = some (.getfield 1203) := by rfl
theorem zi_22_73 : (zM 22).1[73]? = some (.getfield 2005) := by rfl
theorem zi_22_74 : (zM 22).1[74]? = some (.iconst 0) := by rfl
theorem zi_22_75 : (zM 22).1[75]? = some (.invokevirtual 12) := by rfl
theorem zi_22_76 : (zM 22).1[76]? = some (.istore 2) := by rfl
theorem zi_22_77 : (zM 22).1[77]? = some (.aload 0) := by rfl
theorem zi_22_78 : (zM 22).1[78]? = some (.getfield 1203) := by rfl
theorem zi_22_79 : (zM 22).1[79]? = some (.aload 0) := by rfl
theorem zi_22_80 : (zM 22).1[80]? = some (.getfield 1200) := by rfl
theorem zi_22_81 : (zM 22).1[81]? = some (.iload 1) := by rfl
theorem zi_22_82 : (zM 22).1[82]? = some (.aload 0) := by rfl
theorem zi_22_83 : (zM 22).1[83]? = some (.getfield 1203) := by rfl
theorem zi_22_84 : (zM 22).1[84]? = some (.getfield 2003) := by rfl
theorem zi_22_85 : (zM 22).1[85]? = some (.aload 0) := by rfl
theorem zi_22_86 : (zM 22).1[86]? = some (.getfield 1203) := by rfl
theorem zi_22_87 : (zM 22).1[87]? = some (.getfield 2004) := by rfl
theorem zi_22_88 : (zM 22).1[88]? = some (.aload 0) := by rfl
theorem zi_22_89 : (zM 22).1[89]? = some (.getfield 1203) := by rfl
theorem zi_22_90 : (zM 22).1[90]? = some (.getfield 2005) := by rfl
theorem zi_22_91 : (zM 22).1[91]? = some (.iload 2) := by rfl
theorem zi_22_92 : (zM 22).1[92]? = some (.invokevirtual 25) := by rfl
theorem zi_22_93 : (zM 22).1[93]? = some (.aload 0) := by rfl
theorem zi_22_94 : (zM 22).1[94]? = some (.getfield 1203) := by rfl
theorem zi_22_95 : (zM 22).1[95]? = some (.aload 0) := by rfl
theorem zi_22_96 : (zM 22).1[96]? = some (.getfield 1200) := by rfl
theorem zi_22_97 : (zM 22).1[97]? = some (.iload 1) := by rfl
theorem zi_22_98 : (zM 22).1[98]? = some (.invokevirtual 26) := by rfl
theorem zi_22_99 : (zM 22).1[99]? = some (.aload 0) := by rfl
theorem zi_22_100 : (zM 22).1[100]? = some (.iconst 5) := by rfl
theorem zi_22_101 : (zM 22).1[101]? = some (.aload 0) := by rfl
theorem zi_22_102 : (zM 22).1[102]? = some (.getfield 1019) := by rfl
theorem zi_22_103 : (zM 22).1[103]? = some (.imul) := by rfl
theorem zi_22_104 : (zM 22).1[104]? = some (.iload 2) := by rfl
theorem zi_22_105 : (zM 22).1[105]? = some (.iadd) := by rfl
theorem zi_22_106 : (zM 22).1[106]? = some (.putfield 1019) := by rfl
theorem zi_22_107 : (zM 22).1[107]? = some (.iinc 1 1) := by rfl
theorem zi_22_108 : (zM 22).1[108]? = some (.goto ((52 : Nat) : Int)) := by rfl
theorem zi_22_109 : (zM 22).1[109]? = some (.aload 0) := by rfl
theorem zi_22_110 : (zM 22).1[110]? = some (.iconst 1) := by rfl
theorem zi_22_111 : (zM 22).1[111]? = some (.putfield 1310) := by rfl
theorem zi_22_112 : (zM 22).1[112]? = some (.return_) := by rfl
def wb_22_109 (E : Nat → Nat) (d : Nat) (Q : Option Value → ZH → Prop) (a0 : Nat) (h : ZH) : Prop := ztag h a0 = 1 ∧ ∀ h32 : ZH, h32 = (zuI h a0 10 1) → Q none h32
set_option maxRecDepth 20000 in
theorem okb_22_109 {E : Nat → Nat} {d : Nat} {Q : Option Value → ZH → Prop} {a0 : Nat} {h : ZH} (hw : wb_22_109 E d Q a0 h) : Gx E (d + 1) 22 109 [.ref a0, .retAddr 0, .retAddr 0] [] h Q := by
  unfold wb_22_109 at hw
  refine zg_aload zi_22_109 rfl ?_
  refine zg_const (v := 1) zi_22_110 (by rfl) ?_
  obtain ⟨t31, hw⟩ := hw
  refine zg_putZ (h1 := zuI h a0 10 1) zi_22_111 t31 (by rfl) (by decide) rfl ?_
  refine zg_nameH fun h32 eh32 => ?_
  have hw := hw h32 eh32
  exact zg_return zi_22_112 hw
def wl_22_52 (E : Nat → Nat) (d : Nat) (Q : Option Value → ZH → Prop) : Nat → Nat → Int32 → ZH → Prop
  | 0, _, _, _ => False
  | n + 1, a0, a1, h => ztag h a0 = 1 ∧ ∃ r29 : Nat, zR h a0 0 = r29 + 1 ∧ ztag h r29 = 3 ∧ (((zI h r29 6 : Int32) ≤ a1 → (wb_22_109 E d Q a0 h)) ∧ (¬ ((zI h r29 6 : Int32) ≤ a1) → ((13 < (zI h r29 6 : Int32) → (wb_22_109 E d Q a0 h)) ∧ (¬ (13 < (zI h r29 6 : Int32)) → (∃ r33 : Nat, zR h a0 5 = r33 + 1 ∧ ∃ r34 : Nat, zR h a0 3 = r34 + 1 ∧ ztag h r34 = 2 ∧ ztag h r33 = 0 ∧ Ct E d 12 [.ref r33, .int a1, .int (zI h r34 3), .int (zI h r34 4), .int (zI h r34 5), .int 0] h (fun v h37 => ∃ x38 : Int32, v = some (.int x38) ∧ ztag h37 a0 = 1 ∧ ∃ r40 : Nat, zR h37 a0 3 = r40 + 1 ∧ ∃ r41 : Nat, zR h37 a0 0 = r41 + 1 ∧ ztag h37 r40 = 2 ∧ Ct E d 25 [.ref r40, .ref r41, .int a1, .int (zI h37 r40 3), .int (zI h37 r40 4), .int (zI h37 r40 5), .int x38] h37 (fun v h43 => v = none ∧ ztag h43 a0 = 1 ∧ ∃ r45 : Nat, zR h43 a0 3 = r45 + 1 ∧ ∃ r46 : Nat, zR h43 a0 0 = r46 + 1 ∧ ztag h43 r45 = 2 ∧ Ct E d 26 [.ref r45, .ref r46, .int a1] h43 (fun v h48 => v = none ∧ ztag h48 a0 = 1 ∧ ∀ h50 : ZH, h50 = (zuI h48 a0 19 ((5 * (zI h48 a0 19)) + x38)) → ∀ x51 : Int32, x51 = (a1 + 1) → wl_22_52 E d Q n a0 x51 h50))))))))
set_option maxRecDepth 20000 in
theorem okl_22_52 {E : Nat → Nat} {d : Nat} {Q : Option Value → ZH → Prop} : ∀ (n : Nat) (a0 : Nat) (a1 : Int32) (h : ZH), wl_22_52 E d Q n a0 a1 h → Gx E (d + 1) 22 52 [.ref a0, .int a1, .retAddr 0] [] h Q := by
  intro n
  induction n with
  | zero => intro a0 a1 h hw; exact hw.elim
  | succ n ih =>
    intro a0 a1 h hw
    rw [wl_22_52] at hw
    refine zg_iload zi_22_52 rfl ?_
    refine zg_aload zi_22_53 rfl ?_
    obtain ⟨t28, hw⟩ := hw
    obtain ⟨r29, er29, hw⟩ := hw
    refine zg_getR (v := .ref r29) zi_22_54 t28 (by rfl) (by show zrv (zR h a0 0) = _; rw [er29]; rfl) ?_
    obtain ⟨t30, hw⟩ := hw
    refine zg_getI (v := .int (zI h r29 6)) zi_22_55 t30 (by rfl) rfl ?_
    refine zg_icmp_ge zi_22_56 (fun hc => ?_) (fun hc => ?_)
    · have hw := hw.1 hc
      exact Gx.forget (zrk (zrd (zrk zr0))) (okb_22_109 hw)
    · have hw := hw.2 hc
      refine zg_aload zi_22_57 rfl ?_
      refine zg_getR (v := .ref r29) zi_22_58 t28 (by rfl) (by show zrv (zR h a0 0) = _; rw [er29]; rfl) ?_
      refine zg_getI (v := .int (zI h r29 6)) zi_22_59 t30 (by rfl) rfl ?_
      refine zg_const (v := 13) zi_22_60 (by rfl) ?_
      refine zg_icmp_gt zi_22_61 (fun hc => ?_) (fun hc => ?_)
      · have hw := hw.1 hc
        exact Gx.forget (zrk (zrd (zrk zr0))) (okb_22_109 hw)
      · have hw := hw.2 hc
        refine zg_aload zi_22_62 rfl ?_
        obtain ⟨r33, er33, hw⟩ := hw
        refine zg_getR (v := .ref r33) zi_22_63 t28 (by rfl) (by show zrv (zR h a0 5) = _; rw [er33]; rfl) ?_
        refine zg_iload zi_22_64 rfl ?_
        refine zg_aload zi_22_65 rfl ?_
        obtain ⟨r34, er34, hw⟩ := hw
        refine zg_getR (v := .ref r34) zi_22_66 t28 (by rfl) (by show zrv (zR h a0 3) = _; rw [er34]; rfl) ?_
        obtain ⟨t35, hw⟩ := hw
        refine zg_getI (v := .int (zI h r34 3)) zi_22_67 t35 (by rfl) rfl ?_
        refine zg_aload zi_22_68 rfl ?_
        refine zg_getR (v := .ref r34) zi_22_69 t28 (by rfl) (by show zrv (zR h a0 3) = _; rw [er34]; rfl) ?_
        refine zg_getI (v := .int (zI h r34 4)) zi_22_70 t35 (by rfl) rfl ?_
        refine zg_aload zi_22_71 rfl ?_
        refine zg_getR (v := .ref r34) zi_22_72 t28 (by rfl) (by show zrv (zR h a0 3) = _; rw [er34]; rfl) ?_
        refine zg_getI (v := .int (zI h r34 5)) zi_22_73 t35 (by rfl) rfl ?_
        refine zg_const (v := 0) zi_22_74 (by rfl) ?_
        obtain ⟨t36, hw⟩ := hw
        refine Gx.call2 (as := [.ref r33, .int a1, .int (zI h r34 3), .int (zI h r34 4), .int (zI h r34 5), .int 0]) (rest := []) zq_12 zi_22_75 rfl rfl rfl (Nat.le_of_ble_eq_true rfl) (Nat.le_of_ble_eq_true rfl) (zrv_v t36 rfl rfl) (Nat.le_of_ble_eq_true rfl) ?_
        refine Ct.mono hw ?_
        rintro v h37 ⟨x38, rfl, hw⟩
        show Gx E (d + 1) 22 76 [.ref a0, .int a1, .retAddr 0] [.int x38] h37 Q
        refine zg_istore (ls1 := [.ref a0, .int a1, .int x38]) zi_22_76 (Nat.le_of_ble_eq_true rfl) rfl ?_
        refine zg_aload zi_22_77 rfl ?_
        obtain ⟨t39, hw⟩ := hw
        obtain ⟨r40, er40, hw⟩ := hw
        refine zg_getR (v := .ref r40) zi_22_78 t39 (by rfl) (by show zrv (zR h37 a0 3) = _; rw [er40]; rfl) ?_
        refine zg_aload zi_22_79 rfl ?_
        obtain ⟨r41, er41, hw⟩ := hw
        refine zg_getR (v := .ref r41) zi_22_80 t39 (by rfl) (by show zrv (zR h37 a0 0) = _; rw [er41]; rfl) ?_
        refine zg_iload zi_22_81 rfl ?_
        refine zg_aload zi_22_82 rfl ?_
        refine zg_getR (v := .ref r40) zi_22_83 t39 (by rfl) (by show zrv (zR h37 a0 3) = _; rw [er40]; rfl) ?_
        obtain ⟨t42, hw⟩ := hw
        refine zg_getI (v := .int (zI h37 r40 3)) zi_22_84 t42 (by rfl) rfl ?_
        refine zg_aload zi_22_85 rfl ?_
        refine zg_getR (v := .ref r40) zi_22_86 t39 (by rfl) (by show zrv (zR h37 a0 3) = _; rw [er40]; rfl) ?_
        refine zg_getI (v := .int (zI h37 r40 4)) zi_22_87 t42 (by rfl) rfl ?_
        refine zg_aload zi_22_88 rfl ?_
        refine zg_getR (v := .ref r40) zi_22_89 t39 (by rfl) (by show zrv (zR h37 a0 3) = _; rw [er40]; rfl) ?_
        refine zg_getI (v := .int (zI h37 r40 5)) zi_22_90 t42 (by rfl) rfl ?_
        refine zg_iload zi_22_91 rfl ?_
        refine Gx.call2 (as := [.ref r40, .ref r41, .int a1, .int (zI h37 r40 3), .int (zI h37 r40 4), .int (zI h37 r40 5), .int x38]) (rest := []) zq_25 zi_22_92 rfl rfl rfl (Nat.le_of_ble_eq_true rfl) (Nat.le_of_ble_eq_true rfl) (zrv_v t42 rfl rfl) (Nat.le_of_ble_eq_true rfl) ?_
        refine Ct.mono hw ?_
        rintro v h43 ⟨rfl, hw⟩
        show Gx E (d + 1) 22 93 [.ref a0, .int a1, .int x38] [] h43 Q
        refine zg_aload zi_22_93 rfl ?_
        obtain ⟨t44, hw⟩ := hw
        obtain ⟨r45, er45, hw⟩ := hw
        refine zg_getR (v := .ref r45) zi_22_94 t44 (by rfl) (by show zrv (zR h43 a0 3) = _; rw [er45]; rfl) ?_
        refine zg_aload zi_22_95 rfl ?_
        obtain ⟨r46, er46, hw⟩ := hw
        refine zg_getR (v := .ref r46) zi_22_96 t44 (by rfl) (by show zrv (zR h43 a0 0) = _; rw [er46]; rfl) ?_
        refine zg_iload zi_22_97 rfl ?_
        obtain ⟨t47, hw⟩ := hw
        refine Gx.call2 (as := [.ref r45, .ref r46, .int a1]) (rest := []) zq_26 zi_22_98 rfl rfl rfl (Nat.le_of_ble_eq_true rfl) (Nat.le_of_ble_eq_true rfl) (zrv_v t47 rfl rfl) (Nat.le_of_ble_eq_true rfl) ?_
        refine Ct.mono hw ?_
        rintro v h48 ⟨rfl, hw⟩
        show Gx E (d + 1) 22 99 [.ref a0, .int a1, .int x38] [] h48 Q
        refine zg_aload zi_22_99 rfl ?_
        refine zg_const (v := 5) zi_22_100 (by rfl) ?_
        refine zg_aload zi_22_101 rfl ?_
        obtain ⟨t49, hw⟩ := hw
        refine zg_getI (v := .int (zI h48 a0 19)) zi_22_102 t49 (by rfl) rfl ?_
        refine zg_imul zi_22_103 ?_
        refine zg_iload zi_22_104 rfl ?_
        refine zg_iadd zi_22_105 ?_
        refine zg_putI (h1 := zuI h48 a0 19 ((5 * (zI h48 a0 19)) + x38)) zi_22_106 t49 (by rfl) rfl ?_
        refine zg_nameH fun h50 eh50 => ?_
        have hw := hw h50 eh50
        obtain ⟨x51, ex51⟩ : ∃ x : Int32, x = a1 + 1 := ⟨_, rfl⟩
        have hw := hw x51 ex51
        refine zg_iinc (v := x51) (ls1 := [.ref a0, .int x51, .int x38]) zi_22_107 rfl (by rw [ex51]; rfl) rfl ?_
        refine zg_goto zi_22_108 ?_
        exact Gx.forget (zrk (zrk (zrd zr0))) (ih a0 x51 h50 hw)
/-- TakeOrPay$Figures.reckonCame()V -/
def w_22 (E : Nat → Nat) (d : Nat) (a0 : Nat) (h : ZH) (Q : Option Value → ZH → Prop) : Prop := ztag h a0 = 1 ∧ (((zI h a0 10 : Int32) = 0 → (Ct E d 17 [.ref a0] h (fun v h2 => v = none ∧ ztag h2 a0 = 1 ∧ ∃ r4 : Nat, zR h2 a0 5 = r4 + 1 ∧ ∃ r5 : Nat, zR h2 a0 0 = r5 + 1 ∧ ∃ r6 : Nat, zR h2 a0 1 = r6 + 1 ∧ ztag h2 r4 = 0 ∧ Ct E d 2 [.ref r4, .ref r5, .ref r6] h2 (fun v h8 => v = none ∧ ztag h8 a0 = 1 ∧ ∃ r10 : Nat, zR h8 a0 5 = r10 + 1 ∧ ztag h8 r10 = 0 ∧ Ct E d 9 [.ref r10, .int 0, .int 0, .int 0, .int 0] h8 (fun v h12 => v = none ∧ ztag h12 a0 = 1 ∧ ∃ r14 : Nat, zR h12 a0 5 = r14 + 1 ∧ ztag h12 r14 = 0 ∧ Ct E d 12 [.ref r14, .int 0, .int 0, .int 0, .int 0, .int 0] h12 (fun v h16 => ∃ x17 : Int32, v = some (.int x17) ∧ ztag h16 a0 = 1 ∧ ∃ r19 : Nat, zR h16 a0 5 = r19 + 1 ∧ ztag h16 r19 = 0 ∧ ∃ r21 : Nat, zR h16 a0 0 = r21 + 1 ∧ ztag h16 r21 = 3 ∧ ∀ h23 : ZH, h23 = (zuI h16 a0 18 (((zL h16 r19 11) >>> ((2 * (zI h16 r21 6) : Int32).toInt64 &&& 63) : Int64).toInt32)) → ∀ h24 : ZH, h24 = (zuI h23 a0 19 0) → ∃ r25 : Nat, zR h24 a0 3 = r25 + 1 ∧ ztag h24 r25 = 2 ∧ Ct E d 24 [.ref r25, .int 0, .int 0, .int 0] h24 (fun v h27 => v = none ∧ (∃ mm : Nat, wl_22_52 E d Q mm a0 0 h27)))))))) ∧ (¬ ((zI h a0 10 : Int32) = 0) → (Q none h)))
set_option maxRecDepth 20000 in
theorem ok_22 {E : Nat → Nat} {d : Nat} {a0 : Nat} {h : ZH} {Q : Option Value → ZH → Prop} (hw : w_22 E d a0 h Q) : Ct E (d + 1) 22 [.ref a0] h Q := by
  unfold w_22 at hw
  show Gx E (d + 1) 22 0 [.ref a0, .retAddr 0, .retAddr 0] [] h Q
  refine zg_aload zi_22_0 rfl ?_
  obtain ⟨t1, hw⟩ := hw
  refine zg_getZ (v := .int (zI h a0 10)) zi_22_1 t1 (by rfl) rfl ?_
  refine zg_if_eq zi_22_2 (fun hc => ?_) (fun hc => ?_)
  · have hw := hw.1 hc
    refine zg_aload zi_22_4 rfl ?_
    refine Gx.call2 (as := [.ref a0]) (rest := []) zq_17 zi_22_5 rfl rfl rfl (Nat.le_of_ble_eq_true rfl) (Nat.le_of_ble_eq_true rfl) (zrv_v t1 rfl rfl) (Nat.le_of_ble_eq_true rfl) ?_
    refine Ct.mono hw ?_
    rintro v h2 ⟨rfl, hw⟩
    show Gx E (d + 1) 22 6 [.ref a0, .retAddr 0, .retAddr 0] [] h2 Q
    refine zg_aload zi_22_6 rfl ?_
    obtain ⟨t3, hw⟩ := hw
    obtain ⟨r4, er4, hw⟩ := hw
    refine zg_getR (v := .ref r4) zi_22_7 t3 (by rfl) (by show zrv (zR h2 a0 5) = _; rw [er4]; rfl) ?_
    refine zg_aload zi_22_8 rfl ?_
    obtain ⟨r5, er5, hw⟩ := hw
    refine zg_getR (v := .ref r5) zi_22_9 t3 (by rfl) (by show zrv (zR h2 a0 0) = _; rw [er5]; rfl) ?_
    refine zg_aload zi_22_10 rfl ?_
    obtain ⟨r6, er6, hw⟩ := hw
    refine zg_getR (v := .ref r6) zi_22_11 t3 (by rfl) (by show zrv (zR h2 a0 1) = _; rw [er6]; rfl) ?_
    obtain ⟨t7, hw⟩ := hw
    refine Gx.call2 (as := [.ref r4, .ref r5, .ref r6]) (rest := []) zq_2 zi_22_12 rfl rfl rfl (Nat.le_of_ble_eq_true rfl) (Nat.le_of_ble_eq_true rfl) (zrv_v t7 rfl rfl) (Nat.le_of_ble_eq_true rfl) ?_
    refine Ct.mono hw ?_
    rintro v h8 ⟨rfl, hw⟩
    show Gx E (d + 1) 22 13 [.ref a0, .retAddr 0, .retAddr 0] [] h8 Q
    refine zg_aload zi_22_13 rfl ?_
    obtain ⟨t9, hw⟩ := hw
    obtain ⟨r10, er10, hw⟩ := hw
    refine zg_getR (v := .ref r10) zi_22_14 t9 (by rfl) (by show zrv (zR h8 a0 5) = _; rw [er10]; rfl) ?_
    refine zg_const (v := 0) zi_22_15 (by rfl) ?_
    refine zg_const (v := 0) zi_22_16 (by rfl) ?_
    refine zg_const (v := 0) zi_22_17 (by rfl) ?_
    refine zg_const (v := 0) zi_22_18 (by rfl) ?_
    obtain ⟨t11, hw⟩ := hw
    refine Gx.call2 (as := [.ref r10, .int 0, .int 0, .int 0, .int 0]) (rest := []) zq_9 zi_22_19 rfl rfl rfl (Nat.le_of_ble_eq_true rfl) (Nat.le_of_ble_eq_true rfl) (zrv_v t11 rfl rfl) (Nat.le_of_ble_eq_true rfl) ?_
    refine Ct.mono hw ?_
    rintro v h12 ⟨rfl, hw⟩
    show Gx E (d + 1) 22 20 [.ref a0, .retAddr 0, .retAddr 0] [] h12 Q
    refine zg_aload zi_22_20 rfl ?_
    obtain ⟨t13, hw⟩ := hw
    obtain ⟨r14, er14, hw⟩ := hw
    refine zg_getR (v := .ref r14) zi_22_21 t13 (by rfl) (by show zrv (zR h12 a0 5) = _; rw [er14]; rfl) ?_
    refine zg_const (v := 0) zi_22_22 (by rfl) ?_
    refine zg_const (v := 0) zi_22_23 (by rfl) ?_
    refine zg_const (v := 0) zi_22_24 (by rfl) ?_
    refine zg_const (v := 0) zi_22_25 (by rfl) ?_
    refine zg_const (v := 0) zi_22_26 (by rfl) ?_
    obtain ⟨t15, hw⟩ := hw
    refine Gx.call2 (as := [.ref r14, .int 0, .int 0, .int 0, .int 0, .int 0]) (rest := []) zq_12 zi_22_27 rfl rfl rfl (Nat.le_of_ble_eq_true rfl) (Nat.le_of_ble_eq_true rfl) (zrv_v t15 rfl rfl) (Nat.le_of_ble_eq_true rfl) ?_
    refine Ct.mono hw ?_
    rintro v h16 ⟨x17, rfl, hw⟩
    show Gx E (d + 1) 22 28 [.ref a0, .retAddr 0, .retAddr 0] [.int x17] h16 Q
    refine zg_pop zi_22_28 rfl ?_
    refine zg_aload zi_22_29 rfl ?_
    refine zg_aload zi_22_30 rfl ?_
    obtain ⟨t18, hw⟩ := hw
    obtain ⟨r19, er19, hw⟩ := hw
    refine zg_getR (v := .ref r19) zi_22_31 t18 (by rfl) (by show zrv (zR h16 a0 5) = _; rw [er19]; rfl) ?_
    obtain ⟨t20, hw⟩ := hw
    refine zg_getL (v := .long (zL h16 r19 11)) zi_22_32 t20 (by rfl) rfl ?_
    refine zg_const (v := 2) zi_22_33 (by rfl) ?_
    refine zg_aload zi_22_34 rfl ?_
    obtain ⟨r21, er21, hw⟩ := hw
    refine zg_getR (v := .ref r21) zi_22_35 t18 (by rfl) (by show zrv (zR h16 a0 0) = _; rw [er21]; rfl) ?_
    obtain ⟨t22, hw⟩ := hw
    refine zg_getI (v := .int (zI h16 r21 6)) zi_22_36 t22 (by rfl) rfl ?_
    refine zg_imul zi_22_37 ?_
    refine zg_lshr zi_22_38 ?_
    refine zg_l2i zi_22_39 ?_
    refine zg_putI (h1 := zuI h16 a0 18 (((zL h16 r19 11) >>> ((2 * (zI h16 r21 6) : Int32).toInt64 &&& 63) : Int64).toInt32)) zi_22_40 t18 (by rfl) rfl ?_
    refine zg_nameH fun h23 eh23 => ?_
    have hw := hw h23 eh23
    refine zg_aload zi_22_41 rfl ?_
    refine zg_const (v := 0) zi_22_42 (by rfl) ?_
    refine zg_putI (h1 := zuI h23 a0 19 0) zi_22_43 (by rw [eh23]; exact t18) (by rfl) rfl ?_
    refine zg_nameH fun h24 eh24 => ?_
    have hw := hw h24 eh24
    refine zg_aload zi_22_44 rfl ?_
    obtain ⟨r25, er25, hw⟩ := hw
    refine zg_getR (v := .ref r25) zi_22_45 (by rw [eh24, eh23]; exact t18) (by rfl) (by show zrv (zR h24 a0 3) = _; rw [er25]; rfl) ?_
    refine zg_const (v := 0) zi_22_46 (by rfl) ?_
    refine zg_const (v := 0) zi_22_47 (by rfl) ?_
    refine zg_const (v := 0) zi_22_48 (by rfl) ?_
    obtain ⟨t26, hw⟩ := hw
    refine Gx.call2 (as := [.ref r25, .int 0, .int 0, .int 0]) (rest := []) zq_24 zi_22_49 rfl rfl rfl (Nat.le_of_ble_eq_true rfl) (Nat.le_of_ble_eq_true rfl) (zrv_v t26 rfl rfl) (Nat.le_of_ble_eq_true rfl) ?_
    refine Ct.mono hw ?_
    rintro v h27 ⟨rfl, hw⟩
    show Gx E (d + 1) 22 50 [.ref a0, .retAddr 0, .retAddr 0] [] h27 Q
    refine zg_const (v := 0) zi_22_50 (by rfl) ?_
    refine zg_istore (ls1 := [.ref a0, .int 0, .retAddr 0]) zi_22_51 (Nat.le_of_ble_eq_true rfl) rfl ?_
    obtain ⟨mm, hw⟩ := hw
    exact okl_22_52 mm a0 0 h27 hw
  · have hw := hw.2 hc
    exact zg_return zi_22_3 hw
theorem zq_27 : zQ 27 3 3 2 := by unfold zQ; decide +kernel
theorem zi_27_0 : (zM 27).1[0]? = some (.aload 0) := by rfl
theorem zi_27_1 : (zM 27).1[1]? = some (.getfield 2002) := by rfl
theorem zi_27_2 : (zM 27).1[2]? = some (.aload 1) := by rfl
theorem zi_27_3 : (zM 27).1[3]? = some (.aload 1) := by rfl
theorem zi_27_4 : (zM 27).1[4]? = some (.getfield 3200) := by rfl
theorem zi_27_5 : (zM 27).1[5]? = some (.iconst 20) := by rfl
theorem zi_27_6 : (zM 27).1[6]? = some (.iload 2) := by rfl
theorem zi_27_7 : (zM 27).1[7]? = some (.iadd) := by rfl
theorem zi_27_8 : (zM 27).1[8]? = some (.iaload) := by rfl
theorem zi_27_9 : (zM 27).1[9]? = some (.iconst 1) := by rfl
theorem zi_27_10 : (zM 27).1[10]? = some (.invokevirtual 47) := by rfl
theorem zi_27_11 : (zM 27).1[11]? = some (.imul) := by rfl
theorem zi_27_12 : (zM 27).1[12]? = some (.aload 0) := by rfl
theorem zi_27_13 : (zM 27).1[13]? = some (.getfield 2007) := by rfl
theorem zi_27_14 : (zM 27).1[14]? = some (.iadd) := by rfl
theorem zi_27_15 : (zM 27).1[15]? = some (.ireturn) := by rfl
/-- TakeOrPay$Move.paidFor(LTakeOrPay$Page;I)I -/
def w_27 (E : Nat → Nat) (d : Nat) (a0 : Nat) (a1 : Nat) (a2 : Int32) (h : ZH) (Q : Option Value → ZH → Prop) : Prop := ztag h a0 = 2 ∧ ztag h a1 = 3 ∧ ∃ r3 : Nat, zR h a1 0 = r3 + 1 ∧ (ztag h r3 = 13 ∨ ztag h r3 = 19) ∧ zin (20 + a2) (zlen h r3) = true ∧ 1 ≤ d ∧ sz_47 E h a1 (zI h r3 (20 + a2 : Int32).toNatClampNeg) 1 ∧ Q (some (.int (((zI h a0 2) * (fz_47 E h a1 (zI h r3 (20 + a2 : Int32).toNatClampNeg) 1)) + (zI h a0 7)))) h
set_option maxRecDepth 20000 in
theorem ok_27 {E : Nat → Nat} {d : Nat} {a0 : Nat} {a1 : Nat} {a2 : Int32} {h : ZH} {Q : Option Value → ZH → Prop} (hw : w_27 E d a0 a1 a2 h Q) : Ct E (d + 1) 27 [.ref a0, .ref a1, .int a2] h Q := by
  unfold w_27 at hw
  show Gx E (d + 1) 27 0 [.ref a0, .ref a1, .int a2] [] h Q
  refine zg_aload zi_27_0 rfl ?_
  obtain ⟨t1, hw⟩ := hw
  refine zg_getI (v := .int (zI h a0 2)) zi_27_1 t1 (by rfl) rfl ?_
  refine zg_aload zi_27_2 rfl ?_
  refine zg_aload zi_27_3 rfl ?_
  obtain ⟨t2, hw⟩ := hw
  obtain ⟨r3, er3, hw⟩ := hw
  refine zg_getR (v := .ref r3) zi_27_4 t2 (by rfl) (by show zrv (zR h a1 0) = _; rw [er3]; rfl) ?_
  refine zg_const (v := 20) zi_27_5 (by rfl) ?_
  refine zg_iload zi_27_6 rfl ?_
  refine zg_iadd zi_27_7 ?_
  obtain ⟨t4, hw⟩ := hw
  obtain ⟨hb, hw⟩ := hw
  refine zg_iaload (v := .int (zI h r3 (20 + a2 : Int32).toNatClampNeg)) zi_27_8 t4 hb rfl ?_
  refine zg_const (v := 1) zi_27_9 (by rfl) ?_
  obtain ⟨hd, hs, hw⟩ := hw
  refine Gx.call2 (as := [.ref a1, .int (zI h r3 (20 + a2 : Int32).toNatClampNeg), .int 1]) (rest := [.int (zI h a0 2)]) zq_47 zi_27_10 rfl rfl rfl (Nat.le_of_ble_eq_true rfl) (Nat.le_of_ble_eq_true rfl) (zrv_v t2 rfl rfl) (Nat.le_of_ble_eq_true rfl) ?_
  refine cz_47 hd hs ?_
  show Gx E (d + 1) 27 11 [.ref a0, .ref a1, .int a2] [.int (fz_47 E h a1 (zI h r3 (20 + a2 : Int32).toNatClampNeg) 1), .int (zI h a0 2)] h Q
  refine zg_imul zi_27_11 ?_
  refine zg_aload zi_27_12 rfl ?_
  refine zg_getI (v := .int (zI h a0 7)) zi_27_13 t1 (by rfl) rfl ?_
  refine zg_iadd zi_27_14 ?_
  exact zg_ireturn zi_27_15 (by decide) hw
def fz_27 (E : Nat → Nat) (h : ZH) (a0 : Nat) (a1 : Nat) (a2 : Int32) : Int32 := (fun r3 : Nat => ((zI h a0 2) * (fz_47 E h a1 (zI h r3 (20 + a2 : Int32).toNatClampNeg) 1)) + (zI h a0 7)) (zR h a1 0 - 1)
def sz_27 (E : Nat → Nat) (h : ZH) (a0 : Nat) (a1 : Nat) (a2 : Int32) : Prop := ztag h a0 = 2 ∧ ztag h a1 = 3 ∧ ∃ r3 : Nat, zR h a1 0 = r3 + 1 ∧ (ztag h r3 = 13 ∨ ztag h r3 = 19) ∧ zin (20 + a2) (zlen h r3) = true ∧ sz_47 E h a1 (zI h r3 (20 + a2 : Int32).toNatClampNeg) 1 ∧ True
set_option maxRecDepth 20000 in
theorem cz_27 {E : Nat → Nat} {d : Nat} {a0 : Nat} {a1 : Nat} {a2 : Int32} {h : ZH} {Q : Option Value → ZH → Prop} (hd : 2 ≤ d) (hs : sz_27 E h a0 a1 a2) (hq : Q (some (.int (fz_27 E h a0 a1 a2))) h) : Ct E d 27 [.ref a0, .ref a1, .int a2] h Q := by
  obtain ⟨d, rfl⟩ : ∃ n, d = n + 1 := ⟨d - 1, by omega⟩
  refine ok_27 ?_
  unfold w_27
  unfold sz_27 at hs
  unfold fz_27 at hq
  refine ⟨hs.1, ?_⟩
  have hs := hs.2
  refine ⟨hs.1, ?_⟩
  have hs := hs.2
  obtain ⟨r3, hr, hs⟩ := hs
  refine ⟨r3, hr, ?_⟩
  rw [hr] at hq
  simp only [Nat.add_sub_cancel] at hq
  refine ⟨hs.1, ?_⟩
  have hs := hs.2
  refine ⟨hs.1, ?_⟩
  have hs := hs.2
  refine ⟨by omega, ?_⟩
  refine ⟨hs.1, ?_⟩
  have hs := hs.2
  exact hq
theorem zq_28 : zQ 28 3 3 2 := by unfold zQ; decide +kernel
theorem zi_28_0 : (zM 28).1[0]? = some (.iconst 100) := by rfl
theorem zi_28_1 : (zM 28).1[1]? = some (.aload 1) := by rfl
theorem zi_28_2 : (zM 28).1[2]? = some (.getfield 3200) := by rfl
theorem zi_28_3 : (zM 28).1[3]? = some (.iconst 20) := by rfl
theorem zi_28_4 : (zM 28).1[4]? = some (.iload 2) := by rfl
theorem zi_28_5 : (zM 28).1[5]? = some (.iadd) := by rfl
theorem zi_28_6 : (zM 28).1[6]? = some (.iaload) := by rfl
theorem zi_28_7 : (zM 28).1[7]? = some (.imul) := by rfl
theorem zi_28_8 : (zM 28).1[8]? = some (.aload 0) := by rfl
theorem zi_28_9 : (zM 28).1[9]? = some (.getfield 2000) := by rfl
theorem zi_28_10 : (zM 28).1[10]? = some (.imul) := by rfl
theorem zi_28_11 : (zM 28).1[11]? = some (.aload 0) := by rfl
theorem zi_28_12 : (zM 28).1[12]? = some (.aload 1) := by rfl
theorem zi_28_13 : (zM 28).1[13]? = some (.iload 2) := by rfl
theorem zi_28_14 : (zM 28).1[14]? = some (.invokevirtual 27) := by rfl
theorem zi_28_15 : (zM 28).1[15]? = some (.isub) := by rfl
theorem zi_28_16 : (zM 28).1[16]? = some (.ireturn) := by rfl
/-- TakeOrPay$Move.gained(LTakeOrPay$Page;I)I -/
def w_28 (E : Nat → Nat) (d : Nat) (a0 : Nat) (a1 : Nat) (a2 : Int32) (h : ZH) (Q : Option Value → ZH → Prop) : Prop := ztag h a1 = 3 ∧ ∃ r2 : Nat, zR h a1 0 = r2 + 1 ∧ (ztag h r2 = 13 ∨ ztag h r2 = 19) ∧ zin (20 + a2) (zlen h r2) = true ∧ ztag h a0 = 2 ∧ 2 ≤ d ∧ sz_27 E h a0 a1 a2 ∧ Q (some (.int (((100 * (zI h r2 (20 + a2 : Int32).toNatClampNeg)) * (zI h a0 0)) - (fz_27 E h a0 a1 a2)))) h
set_option maxRecDepth 20000 in
theorem ok_28 {E : Nat → Nat} {d : Nat} {a0 : Nat} {a1 : Nat} {a2 : Int32} {h : ZH} {Q : Option Value → ZH → Prop} (hw : w_28 E d a0 a1 a2 h Q) : Ct E (d + 1) 28 [.ref a0, .ref a1, .int a2] h Q := by
  unfold w_28 at hw
  show Gx E (d + 1) 28 0 [.ref a0, .ref a1, .int a2] [] h Q
  refine zg_const (v := 100) zi_28_0 (by rfl) ?_
  refine zg_aload zi_28_1 rfl ?_
  obtain ⟨t1, hw⟩ := hw
  obtain ⟨r2, er2, hw⟩ := hw
  refine zg_getR (v := .ref r2) zi_28_2 t1 (by rfl) (by show zrv (zR h a1 0) = _; rw [er2]; rfl) ?_
  refine zg_const (v := 20) zi_28_3 (by rfl) ?_
  refine zg_iload zi_28_4 rfl ?_
  refine zg_iadd zi_28_5 ?_
  obtain ⟨t3, hw⟩ := hw
  obtain ⟨hb, hw⟩ := hw
  refine zg_iaload (v := .int (zI h r2 (20 + a2 : Int32).toNatClampNeg)) zi_28_6 t3 hb rfl ?_
  refine zg_imul zi_28_7 ?_
  refine zg_aload zi_28_8 rfl ?_
  obtain ⟨t4, hw⟩ := hw
  refine zg_getI (v := .int (zI h a0 0)) zi_28_9 t4 (by rfl) rfl ?_
  refine zg_imul zi_28_10 ?_
  refine zg_aload zi_28_11 rfl ?_
  refine zg_aload zi_28_12 rfl ?_
  refine zg_iload zi_28_13 rfl ?_
  obtain ⟨hd, hs, hw⟩ := hw
  refine Gx.call2 (as := [.ref a0, .ref a1, .int a2]) (rest := [.int ((100 * (zI h r2 (20 + a2 : Int32).toNatClampNeg)) * (zI h a0 0))]) zq_27 zi_28_14 rfl rfl rfl (Nat.le_of_ble_eq_true rfl) (Nat.le_of_ble_eq_true rfl) (zrv_v t4 rfl rfl) (Nat.le_of_ble_eq_true rfl) ?_
  refine cz_27 hd hs ?_
  show Gx E (d + 1) 28 15 [.ref a0, .ref a1, .int a2] [.int (fz_27 E h a0 a1 a2), .int ((100 * (zI h r2 (20 + a2 : Int32).toNatClampNeg)) * (zI h a0 0))] h Q
  refine zg_isub zi_28_15 ?_
  exact zg_ireturn zi_28_16 (by decide) hw
def fz_28 (E : Nat → Nat) (h : ZH) (a0 : Nat) (a1 : Nat) (a2 : Int32) : Int32 := (fun r2 : Nat => ((100 * (zI h r2 (20 + a2 : Int32).toNatClampNeg)) * (zI h a0 0)) - (fz_27 E h a0 a1 a2)) (zR h a1 0 - 1)
def sz_28 (E : Nat → Nat) (h : ZH) (a0 : Nat) (a1 : Nat) (a2 : Int32) : Prop := ztag h a1 = 3 ∧ ∃ r2 : Nat, zR h a1 0 = r2 + 1 ∧ (ztag h r2 = 13 ∨ ztag h r2 = 19) ∧ zin (20 + a2) (zlen h r2) = true ∧ ztag h a0 = 2 ∧ sz_27 E h a0 a1 a2 ∧ True
set_option maxRecDepth 20000 in
theorem cz_28 {E : Nat → Nat} {d : Nat} {a0 : Nat} {a1 : Nat} {a2 : Int32} {h : ZH} {Q : Option Value → ZH → Prop} (hd : 3 ≤ d) (hs : sz_28 E h a0 a1 a2) (hq : Q (some (.int (fz_28 E h a0 a1 a2))) h) : Ct E d 28 [.ref a0, .ref a1, .int a2] h Q := by
  obtain ⟨d, rfl⟩ : ∃ n, d = n + 1 := ⟨d - 1, by omega⟩
  refine ok_28 ?_
  unfold w_28
  unfold sz_28 at hs
  unfold fz_28 at hq
  refine ⟨hs.1, ?_⟩
  have hs := hs.2
  obtain ⟨r2, hr, hs⟩ := hs
  refine ⟨r2, hr, ?_⟩
  rw [hr] at hq
  simp only [Nat.add_sub_cancel] at hq
  refine ⟨hs.1, ?_⟩
  have hs := hs.2
  refine ⟨hs.1, ?_⟩
  have hs := hs.2
  refine ⟨hs.1, ?_⟩
  have hs := hs.2
  refine ⟨by omega, ?_⟩
  refine ⟨hs.1, ?_⟩
  have hs := hs.2
  exact hq
theorem zq_35 : zQ 35 2 2 3 := by unfold zQ; decide +kernel
theorem zi_35_0 : (zM 35).1[0]? = some (.iload 1) := by rfl
theorem zi_35_1 : (zM 35).1[1]? = some (.ifCond .lt ((8 : Nat) : Int)) := by rfl
theorem zi_35_2 : (zM 35).1[2]? = some (.iload 1) := by rfl
theorem zi_35_3 : (zM 35).1[3]? = some (.aload 0) := by rfl
theorem zi_35_4 : (zM 35).1[4]? = some (.getfield 3006) := by rfl
theorem zi_35_5 : (zM 35).1[5]? = some (.if_icmp .ge ((8 : Nat) : Int)) := by rfl
theorem zi_35_6 : (zM 35).1[6]? = some (.iconst 1) := by rfl
theorem zi_35_7 : (zM 35).1[7]? = some (.goto ((9 : Nat) : Int)) := by rfl
theorem zi_35_8 : (zM 35).1[8]? = some (.iconst 0) := by rfl
theorem zi_35_9 : (zM 35).1[9]? = some (.ireturn) := by rfl
/-- TakeOrPay$Page.hasDay(I)Z -/
def w_35 (E : Nat → Nat) (d : Nat) (a0 : Nat) (a1 : Int32) (h : ZH) (Q : Option Value → ZH → Prop) : Prop := ((a1 < 0 → (True)) ∧ (¬ (a1 < 0) → (ztag h a0 = 3 ∧ True))) ∧ Q (some (.int (if a1 < 0 then 0 else if (zI h a0 6 : Int32) ≤ a1 then 0 else 1))) h
set_option maxRecDepth 20000 in
theorem ok_35 {E : Nat → Nat} {d : Nat} {a0 : Nat} {a1 : Int32} {h : ZH} {Q : Option Value → ZH → Prop} (hw : w_35 E d a0 a1 h Q) : Ct E (d + 1) 35 [.ref a0, .int a1] h Q := by
  unfold w_35 at hw
  show Gx E (d + 1) 35 0 [.ref a0, .int a1] [] h Q
  refine zg_iload zi_35_0 rfl ?_
  obtain ⟨hsd1, hw⟩ := hw
  have g1 : Gx E (d + 1) 35 9 [.ref a0, .int a1] [.int (if a1 < 0 then 0 else if (zI h a0 6 : Int32) ≤ a1 then 0 else 1)] h Q := by
    exact zg_zreturn zi_35_9 (by (repeat' split) <;> first | (left; rfl) | (right; rfl)) hw
  refine zg_if_lt zi_35_1 (fun hc1 => ?_) (fun hc1 => ?_)
  · have hw := hsd1.1 hc1
    refine zg_const (v := 0) zi_35_8 (by rfl) ?_
    have hg := g1
    simp only [if_pos hc1] at hg
    exact hg
  · have hw := hsd1.2 hc1
    refine zg_iload zi_35_2 rfl ?_
    refine zg_aload zi_35_3 rfl ?_
    obtain ⟨t1, hw⟩ := hw
    refine zg_getI (v := .int (zI h a0 6)) zi_35_4 t1 (by rfl) rfl ?_
    have g5 : Gx E (d + 1) 35 9 [.ref a0, .int a1] [.int (if (zI h a0 6 : Int32) ≤ a1 then 0 else 1)] h Q := by
      have hg := g1
      simp only [if_neg hc1] at hg
      exact hg
    refine zg_icmp_ge zi_35_5 (fun hc5 => ?_) (fun hc5 => ?_)
    · skip
      refine zg_const (v := 0) zi_35_8 (by rfl) ?_
      have hg := g5
      simp only [if_pos hc5] at hg
      exact hg
    · skip
      refine zg_const (v := 1) zi_35_6 (by rfl) ?_
      refine zg_goto zi_35_7 ?_
      have hg := g5
      simp only [if_neg hc5] at hg
      exact hg
def fz_35 (E : Nat → Nat) (h : ZH) (a0 : Nat) (a1 : Int32) : Int32 := if a1 < 0 then 0 else if (zI h a0 6 : Int32) ≤ a1 then 0 else 1
def sz_35 (E : Nat → Nat) (h : ZH) (a0 : Nat) (a1 : Int32) : Prop := ((a1 < 0 → (True)) ∧ (¬ (a1 < 0) → (ztag h a0 = 3 ∧ True))) ∧ True
set_option maxRecDepth 20000 in
theorem fb_35 {E : Nat → Nat} {h : ZH} {a0 : Nat} {a1 : Int32} : fz_35 E h a0 a1 = 0 ∨ fz_35 E h a0 a1 = 1 := by
  unfold fz_35
  (try dsimp only)
  (repeat' split) <;> first | (left; rfl) | (right; rfl)
set_option maxRecDepth 20000 in
theorem cz_35 {E : Nat → Nat} {d : Nat} {a0 : Nat} {a1 : Int32} {h : ZH} {Q : Option Value → ZH → Prop} (hd : 1 ≤ d) (hs : sz_35 E h a0 a1) (hq : Q (some (.int (fz_35 E h a0 a1))) h) : Ct E d 35 [.ref a0, .int a1] h Q := by
  obtain ⟨d, rfl⟩ : ∃ n, d = n + 1 := ⟨d - 1, by omega⟩
  refine ok_35 ?_
  unfold w_35
  unfold sz_35 at hs
  unfold fz_35 at hq
  refine ⟨⟨fun hc => ?_, fun hc => ?_⟩, ?_⟩
  · have hs := hs.1.1 hc
    trivial
  · have hs := hs.1.2 hc
    refine ⟨hs.1, ?_⟩
    have hs := hs.2
    trivial
  have hs := hs.2
  exact hq
theorem zq_36 : zQ 36 2 2 3 := by unfold zQ; decide +kernel
theorem zi_36_0 : (zM 36).1[0]? = some (.iload 1) := by rfl
theorem zi_36_1 : (zM 36).1[1]? = some (.ifCond .lt ((10 : Nat) : Int)) := by rfl
theorem zi_36_2 : (zM 36).1[2]? = some (.iload 1) := by rfl
theorem zi_36_3 : (zM 36).1[3]? = some (.aload 0) := by rfl
theorem zi_36_4 : (zM 36).1[4]? = some (.getfield 3200) := by rfl
theorem zi_36_5 : (zM 36).1[5]? = some (.iconst 0) := by rfl
theorem zi_36_6 : (zM 36).1[6]? = some (.iaload) := by rfl
theorem zi_36_7 : (zM 36).1[7]? = some (.if_icmp .ge ((10 : Nat) : Int)) := by rfl
theorem zi_36_8 : (zM 36).1[8]? = some (.iconst 1) := by rfl
theorem zi_36_9 : (zM 36).1[9]? = some (.goto ((11 : Nat) : Int)) := by rfl
theorem zi_36_10 : (zM 36).1[10]? = some (.iconst 0) := by rfl
theorem zi_36_11 : (zM 36).1[11]? = some (.ireturn) := by rfl
/-- TakeOrPay$Page.hasYear(I)Z -/
def w_36 (E : Nat → Nat) (d : Nat) (a0 : Nat) (a1 : Int32) (h : ZH) (Q : Option Value → ZH → Prop) : Prop := ((a1 < 0 → (True)) ∧ (¬ (a1 < 0) → (ztag h a0 = 3 ∧ ¬ zR h a0 0 = 0 ∧ (ztag h (zR h a0 0 - 1) = 13 ∨ ztag h (zR h a0 0 - 1) = 19) ∧ zin 0 (zlen h (zR h a0 0 - 1)) = true ∧ True))) ∧ Q (some (.int (if a1 < 0 then 0 else if (zI h (zR h a0 0 - 1) 0 : Int32) ≤ a1 then 0 else 1))) h
set_option maxRecDepth 20000 in
theorem ok_36 {E : Nat → Nat} {d : Nat} {a0 : Nat} {a1 : Int32} {h : ZH} {Q : Option Value → ZH → Prop} (hw : w_36 E d a0 a1 h Q) : Ct E (d + 1) 36 [.ref a0, .int a1] h Q := by
  unfold w_36 at hw
  show Gx E (d + 1) 36 0 [.ref a0, .int a1] [] h Q
  refine zg_iload zi_36_0 rfl ?_
  obtain ⟨hsd1, hw⟩ := hw
  have g1 : Gx E (d + 1) 36 11 [.ref a0, .int a1] [.int (if a1 < 0 then 0 else if (zI h (zR h a0 0 - 1) 0 : Int32) ≤ a1 then 0 else 1)] h Q := by
    exact zg_zreturn zi_36_11 (by (repeat' split) <;> first | (left; rfl) | (right; rfl)) hw
  refine zg_if_lt zi_36_1 (fun hc1 => ?_) (fun hc1 => ?_)
  · have hw := hsd1.1 hc1
    refine zg_const (v := 0) zi_36_10 (by rfl) ?_
    have hg := g1
    simp only [if_pos hc1] at hg
    exact hg
  · have hw := hsd1.2 hc1
    refine zg_iload zi_36_2 rfl ?_
    refine zg_aload zi_36_3 rfl ?_
    obtain ⟨t1, hw⟩ := hw
    obtain ⟨hr, hw⟩ := hw
    refine zg_getR (v := .ref (zR h a0 0 - 1)) zi_36_4 t1 (by rfl) (zrv_p hr) ?_
    refine zg_const (v := 0) zi_36_5 (by rfl) ?_
    obtain ⟨t2, hw⟩ := hw
    obtain ⟨hb, hw⟩ := hw
    refine zg_iaload (v := .int (zI h (zR h a0 0 - 1) 0)) zi_36_6 t2 hb rfl ?_
    have g7 : Gx E (d + 1) 36 11 [.ref a0, .int a1] [.int (if (zI h (zR h a0 0 - 1) 0 : Int32) ≤ a1 then 0 else 1)] h Q := by
      have hg := g1
      simp only [if_neg hc1] at hg
      exact hg
    refine zg_icmp_ge zi_36_7 (fun hc7 => ?_) (fun hc7 => ?_)
    · skip
      refine zg_const (v := 0) zi_36_10 (by rfl) ?_
      have hg := g7
      simp only [if_pos hc7] at hg
      exact hg
    · skip
      refine zg_const (v := 1) zi_36_8 (by rfl) ?_
      refine zg_goto zi_36_9 ?_
      have hg := g7
      simp only [if_neg hc7] at hg
      exact hg
def fz_36 (E : Nat → Nat) (h : ZH) (a0 : Nat) (a1 : Int32) : Int32 := if a1 < 0 then 0 else if (zI h (zR h a0 0 - 1) 0 : Int32) ≤ a1 then 0 else 1
def sz_36 (E : Nat → Nat) (h : ZH) (a0 : Nat) (a1 : Int32) : Prop := ((a1 < 0 → (True)) ∧ (¬ (a1 < 0) → (ztag h a0 = 3 ∧ ¬ zR h a0 0 = 0 ∧ (ztag h (zR h a0 0 - 1) = 13 ∨ ztag h (zR h a0 0 - 1) = 19) ∧ zin 0 (zlen h (zR h a0 0 - 1)) = true ∧ True))) ∧ True
set_option maxRecDepth 20000 in
theorem fb_36 {E : Nat → Nat} {h : ZH} {a0 : Nat} {a1 : Int32} : fz_36 E h a0 a1 = 0 ∨ fz_36 E h a0 a1 = 1 := by
  unfold fz_36
  (try dsimp only)
  (repeat' split) <;> first | (left; rfl) | (right; rfl)
set_option maxRecDepth 20000 in
theorem cz_36 {E : Nat → Nat} {d : Nat} {a0 : Nat} {a1 : Int32} {h : ZH} {Q : Option Value → ZH → Prop} (hd : 1 ≤ d) (hs : sz_36 E h a0 a1) (hq : Q (some (.int (fz_36 E h a0 a1))) h) : Ct E d 36 [.ref a0, .int a1] h Q := by
  obtain ⟨d, rfl⟩ : ∃ n, d = n + 1 := ⟨d - 1, by omega⟩
  refine ok_36 ?_
  unfold w_36
  unfold sz_36 at hs
  unfold fz_36 at hq
  refine ⟨⟨fun hc => ?_, fun hc => ?_⟩, ?_⟩
  · have hs := hs.1.1 hc
    trivial
  · have hs := hs.1.2 hc
    refine ⟨hs.1, ?_⟩
    have hs := hs.2
    refine ⟨hs.1, ?_⟩
    have hs := hs.2
    refine ⟨hs.1, ?_⟩
    have hs := hs.2
    refine ⟨hs.1, ?_⟩
    have hs := hs.2
    trivial
  have hs := hs.2
  exact hq
theorem zq_37 : zQ 37 2 2 3 := by unfold zQ; decide +kernel
theorem zi_37_0 : (zM 37).1[0]? = some (.iload 1) := by rfl
theorem zi_37_1 : (zM 37).1[1]? = some (.iconst 1) := by rfl
theorem zi_37_2 : (zM 37).1[2]? = some (.iadd) := by rfl
theorem zi_37_3 : (zM 37).1[3]? = some (.aload 0) := by rfl
theorem zi_37_4 : (zM 37).1[4]? = some (.getfield 3200) := by rfl
theorem zi_37_5 : (zM 37).1[5]? = some (.iconst 1) := by rfl
theorem zi_37_6 : (zM 37).1[6]? = some (.iaload) := by rfl
theorem zi_37_7 : (zM 37).1[7]? = some (.imul) := by rfl
theorem zi_37_8 : (zM 37).1[8]? = some (.iconst 1) := by rfl
theorem zi_37_9 : (zM 37).1[9]? = some (.isub) := by rfl
theorem zi_37_10 : (zM 37).1[10]? = some (.ireturn) := by rfl
/-- TakeOrPay$Page.lastDayOf(I)I -/
def w_37 (E : Nat → Nat) (d : Nat) (a0 : Nat) (a1 : Int32) (h : ZH) (Q : Option Value → ZH → Prop) : Prop := ztag h a0 = 3 ∧ ∃ r2 : Nat, zR h a0 0 = r2 + 1 ∧ (ztag h r2 = 13 ∨ ztag h r2 = 19) ∧ zin 1 (zlen h r2) = true ∧ Q (some (.int (((a1 + 1) * (zI h r2 1)) - 1))) h
set_option maxRecDepth 20000 in
theorem ok_37 {E : Nat → Nat} {d : Nat} {a0 : Nat} {a1 : Int32} {h : ZH} {Q : Option Value → ZH → Prop} (hw : w_37 E d a0 a1 h Q) : Ct E (d + 1) 37 [.ref a0, .int a1] h Q := by
  unfold w_37 at hw
  show Gx E (d + 1) 37 0 [.ref a0, .int a1] [] h Q
  refine zg_iload zi_37_0 rfl ?_
  refine zg_const (v := 1) zi_37_1 (by rfl) ?_
  refine zg_iadd zi_37_2 ?_
  refine zg_aload zi_37_3 rfl ?_
  obtain ⟨t1, hw⟩ := hw
  obtain ⟨r2, er2, hw⟩ := hw
  refine zg_getR (v := .ref r2) zi_37_4 t1 (by rfl) (by show zrv (zR h a0 0) = _; rw [er2]; rfl) ?_
  refine zg_const (v := 1) zi_37_5 (by rfl) ?_
  obtain ⟨t3, hw⟩ := hw
  obtain ⟨hb, hw⟩ := hw
  refine zg_iaload (v := .int (zI h r2 1)) zi_37_6 t3 hb rfl ?_
  refine zg_imul zi_37_7 ?_
  refine zg_const (v := 1) zi_37_8 (by rfl) ?_
  refine zg_isub zi_37_9 ?_
  exact zg_ireturn zi_37_10 (by decide) hw
def fz_37 (E : Nat → Nat) (h : ZH) (a0 : Nat) (a1 : Int32) : Int32 := (fun r2 : Nat => ((a1 + 1) * (zI h r2 1)) - 1) (zR h a0 0 - 1)
def sz_37 (E : Nat → Nat) (h : ZH) (a0 : Nat) (a1 : Int32) : Prop := ztag h a0 = 3 ∧ ∃ r2 : Nat, zR h a0 0 = r2 + 1 ∧ (ztag h r2 = 13 ∨ ztag h r2 = 19) ∧ zin 1 (zlen h r2) = true ∧ True
set_option maxRecDepth 20000 in
theorem cz_37 {E : Nat → Nat} {d : Nat} {a0 : Nat} {a1 : Int32} {h : ZH} {Q : Option Value → ZH → Prop} (hd : 1 ≤ d) (hs : sz_37 E h a0 a1) (hq : Q (some (.int (fz_37 E h a0 a1))) h) : Ct E d 37 [.ref a0, .int a1] h Q := by
  obtain ⟨d, rfl⟩ : ∃ n, d = n + 1 := ⟨d - 1, by omega⟩
  refine ok_37 ?_
  unfold w_37
  unfold sz_37 at hs
  unfold fz_37 at hq
  refine ⟨hs.1, ?_⟩
  have hs := hs.2
  obtain ⟨r2, hr, hs⟩ := hs
  refine ⟨r2, hr, ?_⟩
  rw [hr] at hq
  simp only [Nat.add_sub_cancel] at hq
  refine ⟨hs.1, ?_⟩
  have hs := hs.2
  refine ⟨hs.1, ?_⟩
  have hs := hs.2
  exact hq
theorem zq_42 : zQ 42 2 4 3 := by unfold zQ; decide +kernel
theorem zi_42_0 : (zM 42).1[0]? = some (.iconst 0) := by rfl
theorem zi_42_1 : (zM 42).1[1]? = some (.istore 2) := by rfl
theorem zi_42_2 : (zM 42).1[2]? = some (.iconst 0) := by rfl
theorem zi_42_3 : (zM 42).1[3]? = some (.istore 3) := by rfl
theorem zi_42_4 : (zM 42).1[4]? = some (.iload 3) := by rfl
theorem zi_42_5 : (zM 42).1[5]? = some (.aload 0) := by rfl
theorem zi_42_6 : (zM 42).1[6]? = some (.getfield 3006) := by rfl
theorem zi_42_7 : (zM 42).1[7]? = some (.if_icmp .ge ((23 : Nat) : Int)) := by rfl
theorem zi_42_8 : (zM 42).1[8]? = some (.aload 0) := by rfl
theorem zi_42_9 : (zM 42).1[9]? = some (.getfield 3204) := by rfl
theorem zi_42_10 : (zM 42).1[10]? = some (.iload 3) := by rfl
theorem zi_42_11 : (zM 42).1[11]? = some (.iaload) := by rfl
theorem zi_42_12 : (zM 42).1[12]? = some (.iload 1) := by rfl
theorem zi_42_13 : (zM 42).1[13]? = some (.if_icmp .ne ((21 : Nat) : Int)) := by rfl
theorem zi_42_14 : (zM 42).1[14]? = some (.aload 0) := by rfl
theorem zi_42_15 : (zM 42).1[15]? = some (.getfield 3201) := by rfl
theorem zi_42_16 : (zM 42).1[16]? = some (.iload 3) := by rfl
theorem zi_42_17 : (zM 42).1[17]? = some (.iaload) := by rfl
theorem zi_42_18 : (zM 42).1[18]? = some (.iconst (-4)) := by rfl
theorem zi_42_19 : (zM 42).1[19]? = some (.if_icmp .eq ((21 : Nat) : Int)) := by rfl
theorem zi_42_20 : (zM 42).1[20]? = some (.iinc 2 1) := by rfl
theorem zi_42_21 : (zM 42).1[21]? = some (.iinc 3 1) := by rfl
theorem zi_42_22 : (zM 42).1[22]? = some (.goto ((4 : Nat) : Int)) := by rfl
theorem zi_42_23 : (zM 42).1[23]? = some (.iload 2) := by rfl
theorem zi_42_24 : (zM 42).1[24]? = some (.ireturn) := by rfl
def wb_42_23 (E : Nat → Nat) (d : Nat) (Q : Option Value → ZH → Prop) (a2 : Int32) (h : ZH) : Prop := Q (some (.int a2)) h
set_option maxRecDepth 20000 in
theorem okb_42_23 {E : Nat → Nat} {d : Nat} {Q : Option Value → ZH → Prop} {a2 : Int32} {h : ZH} (hw : wb_42_23 E d Q a2 h) : Gx E (d + 1) 42 23 [.retAddr 0, .retAddr 0, .int a2, .retAddr 0] [] h Q := by
  unfold wb_42_23 at hw
  refine zg_iload zi_42_23 rfl ?_
  exact zg_ireturn zi_42_24 (by decide) hw
def wl_42_4 (E : Nat → Nat) (d : Nat) (Q : Option Value → ZH → Prop) : Nat → Nat → Int32 → Int32 → Int32 → ZH → Prop
  | 0, _, _, _, _, _ => False
  | n + 1, a0, a1, a2, a3, h => ztag h a0 = 3 ∧ (((zI h a0 6 : Int32) ≤ a3 → (wb_42_23 E d Q a2 h)) ∧ (¬ ((zI h a0 6 : Int32) ≤ a3) → (∃ r2 : Nat, zR h a0 4 = r2 + 1 ∧ (ztag h r2 = 13 ∨ ztag h r2 = 19) ∧ zin a3 (zlen h r2) = true ∧ (((¬ (zI h r2 a3.toNatClampNeg : Int32) = a1 → (True)) ∧ (¬ (¬ (zI h r2 a3.toNatClampNeg : Int32) = a1) → (¬ zR h a0 1 = 0 ∧ (ztag h (zR h a0 1 - 1) = 13 ∨ ztag h (zR h a0 1 - 1) = 19) ∧ zin a3 (zlen h (zR h a0 1 - 1)) = true ∧ True))) ∧ ∀ x5 : Int32, x5 = (a3 + 1) → wl_42_4 E d Q n a0 a1 (if ¬ (zI h r2 a3.toNatClampNeg : Int32) = a1 then a2 else if (zI h (zR h a0 1 - 1) a3.toNatClampNeg : Int32) = ((-4) : Int32) then a2 else a2 + 1) x5 h))))
set_option maxRecDepth 20000 in
theorem okl_42_4 {E : Nat → Nat} {d : Nat} {Q : Option Value → ZH → Prop} : ∀ (n : Nat) (a0 : Nat) (a1 : Int32) (a2 : Int32) (a3 : Int32) (h : ZH), wl_42_4 E d Q n a0 a1 a2 a3 h → Gx E (d + 1) 42 4 [.ref a0, .int a1, .int a2, .int a3] [] h Q := by
  intro n
  induction n with
  | zero => intro a0 a1 a2 a3 h hw; exact hw.elim
  | succ n ih =>
    intro a0 a1 a2 a3 h hw
    rw [wl_42_4] at hw
    refine zg_iload zi_42_4 rfl ?_
    refine zg_aload zi_42_5 rfl ?_
    obtain ⟨t1, hw⟩ := hw
    refine zg_getI (v := .int (zI h a0 6)) zi_42_6 t1 (by rfl) rfl ?_
    refine zg_icmp_ge zi_42_7 (fun hc => ?_) (fun hc => ?_)
    · have hw := hw.1 hc
      exact Gx.forget (zrd (zrd (zrk (zrd zr0)))) (okb_42_23 hw)
    · have hw := hw.2 hc
      refine zg_aload zi_42_8 rfl ?_
      obtain ⟨r2, er2, hw⟩ := hw
      refine zg_getR (v := .ref r2) zi_42_9 t1 (by rfl) (by show zrv (zR h a0 4) = _; rw [er2]; rfl) ?_
      refine zg_iload zi_42_10 rfl ?_
      obtain ⟨t3, hw⟩ := hw
      obtain ⟨hb, hw⟩ := hw
      refine zg_iaload (v := .int (zI h r2 a3.toNatClampNeg)) zi_42_11 t3 hb rfl ?_
      refine zg_iload zi_42_12 rfl ?_
      obtain ⟨hsd13, hw⟩ := hw
      have g13 : Gx E (d + 1) 42 21 [.ref a0, .int a1, .int (if ¬ (zI h r2 a3.toNatClampNeg : Int32) = a1 then a2 else if (zI h (zR h a0 1 - 1) a3.toNatClampNeg : Int32) = ((-4) : Int32) then a2 else a2 + 1), .int a3] [] h Q := by
        obtain ⟨x5, ex5⟩ : ∃ x : Int32, x = a3 + 1 := ⟨_, rfl⟩
        have hw := hw x5 ex5
        refine zg_iinc (v := x5) (ls1 := [.ref a0, .int a1, .int (if ¬ (zI h r2 a3.toNatClampNeg : Int32) = a1 then a2 else if (zI h (zR h a0 1 - 1) a3.toNatClampNeg : Int32) = ((-4) : Int32) then a2 else a2 + 1), .int x5]) zi_42_21 rfl (by rw [ex5]; rfl) rfl ?_
        refine zg_goto zi_42_22 ?_
        exact ih a0 a1 (if ¬ (zI h r2 a3.toNatClampNeg : Int32) = a1 then a2 else if (zI h (zR h a0 1 - 1) a3.toNatClampNeg : Int32) = ((-4) : Int32) then a2 else a2 + 1) x5 h hw
      refine zg_icmp_ne zi_42_13 (fun hc13 => ?_) (fun hc13 => ?_)
      · have hw := hsd13.1 hc13
        have hg := g13
        simp only [if_pos hc13] at hg
        exact hg
      · have hw := hsd13.2 hc13
        refine zg_aload zi_42_14 rfl ?_
        obtain ⟨hr, hw⟩ := hw
        refine zg_getR (v := .ref (zR h a0 1 - 1)) zi_42_15 t1 (by rfl) (zrv_p hr) ?_
        refine zg_iload zi_42_16 rfl ?_
        obtain ⟨t4, hw⟩ := hw
        obtain ⟨hb, hw⟩ := hw
        refine zg_iaload (v := .int (zI h (zR h a0 1 - 1) a3.toNatClampNeg)) zi_42_17 t4 hb rfl ?_
        refine zg_const (v := (-4)) zi_42_18 (by rfl) ?_
        have g19 : Gx E (d + 1) 42 21 [.ref a0, .int a1, .int (if (zI h (zR h a0 1 - 1) a3.toNatClampNeg : Int32) = ((-4) : Int32) then a2 else a2 + 1), .int a3] [] h Q := by
          have hg := g13
          simp only [if_neg hc13] at hg
          exact hg
        refine zg_icmp_eq zi_42_19 (fun hc19 => ?_) (fun hc19 => ?_)
        · skip
          have hg := g19
          simp only [if_pos hc19] at hg
          exact hg
        · skip
          refine zg_iinc (v := a2 + 1) (ls1 := [.ref a0, .int a1, .int (a2 + 1), .int a3]) zi_42_20 rfl rfl rfl ?_
          have hg := g19
          simp only [if_neg hc19] at hg
          exact hg
/-- TakeOrPay$Page.shutOnes(I)I -/
def w_42 (E : Nat → Nat) (d : Nat) (a0 : Nat) (a1 : Int32) (h : ZH) (Q : Option Value → ZH → Prop) : Prop := ∃ mm : Nat, wl_42_4 E d Q mm a0 a1 0 0 h
set_option maxRecDepth 20000 in
theorem ok_42 {E : Nat → Nat} {d : Nat} {a0 : Nat} {a1 : Int32} {h : ZH} {Q : Option Value → ZH → Prop} (hw : w_42 E d a0 a1 h Q) : Ct E (d + 1) 42 [.ref a0, .int a1] h Q := by
  unfold w_42 at hw
  show Gx E (d + 1) 42 0 [.ref a0, .int a1, .retAddr 0, .retAddr 0] [] h Q
  refine zg_const (v := 0) zi_42_0 (by rfl) ?_
  refine zg_istore (ls1 := [.ref a0, .int a1, .int 0, .retAddr 0]) zi_42_1 (Nat.le_of_ble_eq_true rfl) rfl ?_
  refine zg_const (v := 0) zi_42_2 (by rfl) ?_
  refine zg_istore (ls1 := [.ref a0, .int a1, .int 0, .int 0]) zi_42_3 (Nat.le_of_ble_eq_true rfl) rfl ?_
  obtain ⟨mm, hw⟩ := hw
  exact okl_42_4 mm a0 a1 0 0 h hw
theorem zq_43 : zQ 43 1 3 3 := by unfold zQ; decide +kernel
theorem zi_43_0 : (zM 43).1[0]? = some (.iconst 0) := by rfl
theorem zi_43_1 : (zM 43).1[1]? = some (.istore 1) := by rfl
theorem zi_43_2 : (zM 43).1[2]? = some (.iconst 0) := by rfl
theorem zi_43_3 : (zM 43).1[3]? = some (.istore 2) := by rfl
theorem zi_43_4 : (zM 43).1[4]? = some (.iload 2) := by rfl
theorem zi_43_5 : (zM 43).1[5]? = some (.aload 0) := by rfl
theorem zi_43_6 : (zM 43).1[6]? = some (.getfield 3200) := by rfl
theorem zi_43_7 : (zM 43).1[7]? = some (.iconst 0) := by rfl
theorem zi_43_8 : (zM 43).1[8]? = some (.iaload) := by rfl
theorem zi_43_9 : (zM 43).1[9]? = some (.if_icmp .ge ((18 : Nat) : Int)) := by rfl
theorem zi_43_10 : (zM 43).1[10]? = some (.iload 1) := by rfl
theorem zi_43_11 : (zM 43).1[11]? = some (.aload 0) := by rfl
theorem zi_43_12 : (zM 43).1[12]? = some (.iload 2) := by rfl
theorem zi_43_13 : (zM 43).1[13]? = some (.invokevirtual 42) := by rfl
theorem zi_43_14 : (zM 43).1[14]? = some (.iadd) := by rfl
theorem zi_43_15 : (zM 43).1[15]? = some (.istore 1) := by rfl
theorem zi_43_16 : (zM 43).1[16]? = some (.iinc 2 1) := by rfl
theorem zi_43_17 : (zM 43).1[17]? = some (.goto ((4 : Nat) : Int)) := by rfl
theorem zi_43_18 : (zM 43).1[18]? = some (.iload 1) := by rfl
theorem zi_43_19 : (zM 43).1[19]? = some (.ireturn) := by rfl
def wb_43_18 (E : Nat → Nat) (d : Nat) (Q : Option Value → ZH → Prop) (a1 : Int32) (h : ZH) : Prop := Q (some (.int a1)) h
set_option maxRecDepth 20000 in
theorem okb_43_18 {E : Nat → Nat} {d : Nat} {Q : Option Value → ZH → Prop} {a1 : Int32} {h : ZH} (hw : wb_43_18 E d Q a1 h) : Gx E (d + 1) 43 18 [.retAddr 0, .int a1, .retAddr 0] [] h Q := by
  unfold wb_43_18 at hw
  refine zg_iload zi_43_18 rfl ?_
  exact zg_ireturn zi_43_19 (by decide) hw
def wl_43_4 (E : Nat → Nat) (d : Nat) (Q : Option Value → ZH → Prop) : Nat → Nat → Int32 → Int32 → ZH → Prop
  | 0, _, _, _, _ => False
  | n + 1, a0, a1, a2, h => ztag h a0 = 3 ∧ ∃ r2 : Nat, zR h a0 0 = r2 + 1 ∧ (ztag h r2 = 13 ∨ ztag h r2 = 19) ∧ zin 0 (zlen h r2) = true ∧ (((zI h r2 0 : Int32) ≤ a2 → (wb_43_18 E d Q a1 h)) ∧ (¬ ((zI h r2 0 : Int32) ≤ a2) → (Ct E d 42 [.ref a0, .int a2] h (fun v h4 => ∃ x5 : Int32, v = some (.int x5) ∧ ∀ x6 : Int32, x6 = (a1 + x5) → ∀ x7 : Int32, x7 = (a2 + 1) → wl_43_4 E d Q n a0 x6 x7 h4))))
set_option maxRecDepth 20000 in
theorem okl_43_4 {E : Nat → Nat} {d : Nat} {Q : Option Value → ZH → Prop} : ∀ (n : Nat) (a0 : Nat) (a1 : Int32) (a2 : Int32) (h : ZH), wl_43_4 E d Q n a0 a1 a2 h → Gx E (d + 1) 43 4 [.ref a0, .int a1, .int a2] [] h Q := by
  intro n
  induction n with
  | zero => intro a0 a1 a2 h hw; exact hw.elim
  | succ n ih =>
    intro a0 a1 a2 h hw
    rw [wl_43_4] at hw
    refine zg_iload zi_43_4 rfl ?_
    refine zg_aload zi_43_5 rfl ?_
    obtain ⟨t1, hw⟩ := hw
    obtain ⟨r2, er2, hw⟩ := hw
    refine zg_getR (v := .ref r2) zi_43_6 t1 (by rfl) (by show zrv (zR h a0 0) = _; rw [er2]; rfl) ?_
    refine zg_const (v := 0) zi_43_7 (by rfl) ?_
    obtain ⟨t3, hw⟩ := hw
    obtain ⟨hb, hw⟩ := hw
    refine zg_iaload (v := .int (zI h r2 0)) zi_43_8 t3 hb rfl ?_
    refine zg_icmp_ge zi_43_9 (fun hc => ?_) (fun hc => ?_)
    · have hw := hw.1 hc
      exact Gx.forget (zrd (zrk (zrd zr0))) (okb_43_18 hw)
    · have hw := hw.2 hc
      refine zg_iload zi_43_10 rfl ?_
      refine zg_aload zi_43_11 rfl ?_
      refine zg_iload zi_43_12 rfl ?_
      refine Gx.call2 (as := [.ref a0, .int a2]) (rest := [.int a1]) zq_42 zi_43_13 rfl rfl rfl (Nat.le_of_ble_eq_true rfl) (Nat.le_of_ble_eq_true rfl) (zrv_v t1 rfl rfl) (Nat.le_of_ble_eq_true rfl) ?_
      refine Ct.mono hw ?_
      rintro v h4 ⟨x5, rfl, hw⟩
      show Gx E (d + 1) 43 14 [.ref a0, .int a1, .int a2] [.int x5, .int a1] h4 Q
      refine zg_iadd zi_43_14 ?_
      refine zg_nameI fun x6 ex6 => ?_
      have hw := hw x6 ex6
      refine zg_istore (ls1 := [.ref a0, .int x6, .int a2]) zi_43_15 (Nat.le_of_ble_eq_true rfl) rfl ?_
      obtain ⟨x7, ex7⟩ : ∃ x : Int32, x = a2 + 1 := ⟨_, rfl⟩
      have hw := hw x7 ex7
      refine zg_iinc (v := x7) (ls1 := [.ref a0, .int x6, .int x7]) zi_43_16 rfl (by rw [ex7]; rfl) rfl ?_
      refine zg_goto zi_43_17 ?_
      exact ih a0 x6 x7 h4 hw
/-- TakeOrPay$Page.allShutOnes()I -/
def w_43 (E : Nat → Nat) (d : Nat) (a0 : Nat) (h : ZH) (Q : Option Value → ZH → Prop) : Prop := ∃ mm : Nat, wl_43_4 E d Q mm a0 0 0 h
set_option maxRecDepth 20000 in
theorem ok_43 {E : Nat → Nat} {d : Nat} {a0 : Nat} {h : ZH} {Q : Option Value → ZH → Prop} (hw : w_43 E d a0 h Q) : Ct E (d + 1) 43 [.ref a0] h Q := by
  unfold w_43 at hw
  show Gx E (d + 1) 43 0 [.ref a0, .retAddr 0, .retAddr 0] [] h Q
  refine zg_const (v := 0) zi_43_0 (by rfl) ?_
  refine zg_istore (ls1 := [.ref a0, .int 0, .retAddr 0]) zi_43_1 (Nat.le_of_ble_eq_true rfl) rfl ?_
  refine zg_const (v := 0) zi_43_2 (by rfl) ?_
  refine zg_istore (ls1 := [.ref a0, .int 0, .int 0]) zi_43_3 (Nat.le_of_ble_eq_true rfl) rfl ?_
  obtain ⟨mm, hw⟩ := hw
  exact okl_43_4 mm a0 0 0 h hw
theorem zq_46 : zQ 46 3 3 3 := by unfold zQ; decide +kernel
theorem zi_46_0 : (zM 46).1[0]? = some (.iload 2) := by rfl
theorem zi_46_1 : (zM 46).1[1]? = some (.aload 0) := by rfl
theorem zi_46_2 : (zM 46).1[2]? = some (.iload 1) := by rfl
theorem zi_46_3 : (zM 46).1[3]? = some (.invokevirtual 44) := by rfl
theorem zi_46_4 : (zM 46).1[4]? = some (.if_icmp .lt ((12 : Nat) : Int)) := by rfl
theorem zi_46_5 : (zM 46).1[5]? = some (.iload 2) := by rfl
theorem zi_46_6 : (zM 46).1[6]? = some (.aload 0) := by rfl
theorem zi_46_7 : (zM 46).1[7]? = some (.iload 1) := by rfl
theorem zi_46_8 : (zM 46).1[8]? = some (.invokevirtual 45) := by rfl
theorem zi_46_9 : (zM 46).1[9]? = some (.if_icmp .gt ((12 : Nat) : Int)) := by rfl
theorem zi_46_10 : (zM 46).1[10]? = some (.iconst 1) := by rfl
theorem zi_46_11 : (zM 46).1[11]? = some (.goto ((13 : Nat) : Int)) := by rfl
theorem zi_46_12 : (zM 46).1[12]? = some (.iconst 0) := by rfl
theorem zi_46_13 : (zM 46).1[13]? = some (.ireturn) := by rfl
/-- TakeOrPay$Page.mayTake(II)Z -/
def w_46 (E : Nat → Nat) (d : Nat) (a0 : Nat) (a1 : Int32) (a2 : Int32) (h : ZH) (Q : Option Value → ZH → Prop) : Prop := ztag h a0 = 3 ∧ 1 ≤ d ∧ sz_44 E h a0 a1 ∧ (((a2 < (fz_44 E h a0 a1 : Int32) → (True)) ∧ (¬ (a2 < (fz_44 E h a0 a1 : Int32)) → (1 ≤ d ∧ sz_45 E h a0 a1 ∧ True))) ∧ Q (some (.int (if a2 < (fz_44 E h a0 a1 : Int32) then 0 else if (fz_45 E h a0 a1 : Int32) < a2 then 0 else 1))) h)
set_option maxRecDepth 20000 in
theorem ok_46 {E : Nat → Nat} {d : Nat} {a0 : Nat} {a1 : Int32} {a2 : Int32} {h : ZH} {Q : Option Value → ZH → Prop} (hw : w_46 E d a0 a1 a2 h Q) : Ct E (d + 1) 46 [.ref a0, .int a1, .int a2] h Q := by
  unfold w_46 at hw
  show Gx E (d + 1) 46 0 [.ref a0, .int a1, .int a2] [] h Q
  refine zg_iload zi_46_0 rfl ?_
  refine zg_aload zi_46_1 rfl ?_
  refine zg_iload zi_46_2 rfl ?_
  obtain ⟨t1, hw⟩ := hw
  obtain ⟨hd, hs, hw⟩ := hw
  refine Gx.call2 (as := [.ref a0, .int a1]) (rest := [.int a2]) zq_44 zi_46_3 rfl rfl rfl (Nat.le_of_ble_eq_true rfl) (Nat.le_of_ble_eq_true rfl) (zrv_v t1 rfl rfl) (Nat.le_of_ble_eq_true rfl) ?_
  refine cz_44 hd hs ?_
  show Gx E (d + 1) 46 4 [.ref a0, .int a1, .int a2] [.int (fz_44 E h a0 a1), .int a2] h Q
  obtain ⟨hsd4, hw⟩ := hw
  have g4 : Gx E (d + 1) 46 13 [.ref a0, .int a1, .int a2] [.int (if a2 < (fz_44 E h a0 a1 : Int32) then 0 else if (fz_45 E h a0 a1 : Int32) < a2 then 0 else 1)] h Q := by
    exact zg_zreturn zi_46_13 (by (repeat' split) <;> first | (left; rfl) | (right; rfl)) hw
  refine zg_icmp_lt zi_46_4 (fun hc4 => ?_) (fun hc4 => ?_)
  · have hw := hsd4.1 hc4
    refine zg_const (v := 0) zi_46_12 (by rfl) ?_
    have hg := g4
    simp only [if_pos hc4] at hg
    exact hg
  · have hw := hsd4.2 hc4
    refine zg_iload zi_46_5 rfl ?_
    refine zg_aload zi_46_6 rfl ?_
    refine zg_iload zi_46_7 rfl ?_
    obtain ⟨hd, hs, hw⟩ := hw
    refine Gx.call2 (as := [.ref a0, .int a1]) (rest := [.int a2]) zq_45 zi_46_8 rfl rfl rfl (Nat.le_of_ble_eq_true rfl) (Nat.le_of_ble_eq_true rfl) (zrv_v t1 rfl rfl) (Nat.le_of_ble_eq_true rfl) ?_
    refine cz_45 hd hs ?_
    show Gx E (d + 1) 46 9 [.ref a0, .int a1, .int a2] [.int (fz_45 E h a0 a1), .int a2] h Q
    have g9 : Gx E (d + 1) 46 13 [.ref a0, .int a1, .int a2] [.int (if (fz_45 E h a0 a1 : Int32) < a2 then 0 else 1)] h Q := by
      have hg := g4
      simp only [if_neg hc4] at hg
      exact hg
    refine zg_icmp_gt zi_46_9 (fun hc9 => ?_) (fun hc9 => ?_)
    · skip
      refine zg_const (v := 0) zi_46_12 (by rfl) ?_
      have hg := g9
      simp only [if_pos hc9] at hg
      exact hg
    · skip
      refine zg_const (v := 1) zi_46_10 (by rfl) ?_
      refine zg_goto zi_46_11 ?_
      have hg := g9
      simp only [if_neg hc9] at hg
      exact hg
def fz_46 (E : Nat → Nat) (h : ZH) (a0 : Nat) (a1 : Int32) (a2 : Int32) : Int32 := if a2 < (fz_44 E h a0 a1 : Int32) then 0 else if (fz_45 E h a0 a1 : Int32) < a2 then 0 else 1
def sz_46 (E : Nat → Nat) (h : ZH) (a0 : Nat) (a1 : Int32) (a2 : Int32) : Prop := ztag h a0 = 3 ∧ sz_44 E h a0 a1 ∧ (((a2 < (fz_44 E h a0 a1 : Int32) → (True)) ∧ (¬ (a2 < (fz_44 E h a0 a1 : Int32)) → (sz_45 E h a0 a1 ∧ True))) ∧ True)
set_option maxRecDepth 20000 in
theorem fb_46 {E : Nat → Nat} {h : ZH} {a0 : Nat} {a1 : Int32} {a2 : Int32} : fz_46 E h a0 a1 a2 = 0 ∨ fz_46 E h a0 a1 a2 = 1 := by
  unfold fz_46
  (try dsimp only)
  (repeat' split) <;> first | (left; rfl) | (right; rfl)
set_option maxRecDepth 20000 in
theorem cz_46 {E : Nat → Nat} {d : Nat} {a0 : Nat} {a1 : Int32} {a2 : Int32} {h : ZH} {Q : Option Value → ZH → Prop} (hd : 2 ≤ d) (hs : sz_46 E h a0 a1 a2) (hq : Q (some (.int (fz_46 E h a0 a1 a2))) h) : Ct E d 46 [.ref a0, .int a1, .int a2] h Q := by
  obtain ⟨d, rfl⟩ : ∃ n, d = n + 1 := ⟨d - 1, by omega⟩
  refine ok_46 ?_
  unfold w_46
  unfold sz_46 at hs
  unfold fz_46 at hq
  refine ⟨hs.1, ?_⟩
  have hs := hs.2
  refine ⟨by omega, ?_⟩
  refine ⟨hs.1, ?_⟩
  have hs := hs.2
  refine ⟨⟨fun hc => ?_, fun hc => ?_⟩, ?_⟩
  · have hs := hs.1.1 hc
    trivial
  · have hs := hs.1.2 hc
    refine ⟨by omega, ?_⟩
    refine ⟨hs.1, ?_⟩
    have hs := hs.2
    trivial
  have hs := hs.2
  exact hq
theorem zq_50 : zQ 50 3 3 3 := by unfold zQ; decide +kernel
theorem zi_50_0 : (zM 50).1[0]? = some (.iload 2) := by rfl
theorem zi_50_1 : (zM 50).1[1]? = some (.aload 0) := by rfl
theorem zi_50_2 : (zM 50).1[2]? = some (.iload 1) := by rfl
theorem zi_50_3 : (zM 50).1[3]? = some (.iconst 0) := by rfl
theorem zi_50_4 : (zM 50).1[4]? = some (.invokevirtual 48) := by rfl
theorem zi_50_5 : (zM 50).1[5]? = some (.if_icmp .ge ((8 : Nat) : Int)) := by rfl
theorem zi_50_6 : (zM 50).1[6]? = some (.iconst 0) := by rfl
theorem zi_50_7 : (zM 50).1[7]? = some (.ireturn) := by rfl
theorem zi_50_8 : (zM 50).1[8]? = some (.iload 2) := by rfl
theorem zi_50_9 : (zM 50).1[9]? = some (.aload 0) := by rfl
theorem zi_50_10 : (zM 50).1[10]? = some (.iload 1) := by rfl
theorem zi_50_11 : (zM 50).1[11]? = some (.iconst 0) := by rfl
theorem zi_50_12 : (zM 50).1[12]? = some (.invokevirtual 48) := by rfl
theorem zi_50_13 : (zM 50).1[13]? = some (.aload 0) := by rfl
theorem zi_50_14 : (zM 50).1[14]? = some (.iload 1) := by rfl
theorem zi_50_15 : (zM 50).1[15]? = some (.iconst 1) := by rfl
theorem zi_50_16 : (zM 50).1[16]? = some (.invokevirtual 48) := by rfl
theorem zi_50_17 : (zM 50).1[17]? = some (.iadd) := by rfl
theorem zi_50_18 : (zM 50).1[18]? = some (.if_icmp .ge ((21 : Nat) : Int)) := by rfl
theorem zi_50_19 : (zM 50).1[19]? = some (.iconst 1) := by rfl
theorem zi_50_20 : (zM 50).1[20]? = some (.goto ((22 : Nat) : Int)) := by rfl
theorem zi_50_21 : (zM 50).1[21]? = some (.iconst 2) := by rfl
theorem zi_50_22 : (zM 50).1[22]? = some (.ireturn) := by rfl
/-- TakeOrPay$Page.stateBehind(II)I -/
def w_50 (E : Nat → Nat) (d : Nat) (a0 : Nat) (a1 : Int32) (a2 : Int32) (h : ZH) (Q : Option Value → ZH → Prop) : Prop := ztag h a0 = 3 ∧ 1 ≤ d ∧ sz_48 E h a0 a1 0 ∧ (((fz_48 E h a0 a1 0 : Int32) ≤ a2 → (1 ≤ d ∧ sz_48 E h a0 a1 0 ∧ 1 ≤ d ∧ sz_48 E h a0 a1 1 ∧ Q (some (.int (if ((fz_48 E h a0 a1 0) + (fz_48 E h a0 a1 1) : Int32) ≤ a2 then 2 else 1))) h)) ∧ (¬ ((fz_48 E h a0 a1 0 : Int32) ≤ a2) → (Q (some (.int 0)) h)))
set_option maxRecDepth 20000 in
theorem ok_50 {E : Nat → Nat} {d : Nat} {a0 : Nat} {a1 : Int32} {a2 : Int32} {h : ZH} {Q : Option Value → ZH → Prop} (hw : w_50 E d a0 a1 a2 h Q) : Ct E (d + 1) 50 [.ref a0, .int a1, .int a2] h Q := by
  unfold w_50 at hw
  show Gx E (d + 1) 50 0 [.ref a0, .int a1, .int a2] [] h Q
  refine zg_iload zi_50_0 rfl ?_
  refine zg_aload zi_50_1 rfl ?_
  refine zg_iload zi_50_2 rfl ?_
  refine zg_const (v := 0) zi_50_3 (by rfl) ?_
  obtain ⟨t1, hw⟩ := hw
  obtain ⟨hd, hs, hw⟩ := hw
  refine Gx.call2 (as := [.ref a0, .int a1, .int 0]) (rest := [.int a2]) zq_48 zi_50_4 rfl rfl rfl (Nat.le_of_ble_eq_true rfl) (Nat.le_of_ble_eq_true rfl) (zrv_v t1 rfl rfl) (Nat.le_of_ble_eq_true rfl) ?_
  refine cz_48 hd hs ?_
  show Gx E (d + 1) 50 5 [.ref a0, .int a1, .int a2] [.int (fz_48 E h a0 a1 0), .int a2] h Q
  refine zg_icmp_ge zi_50_5 (fun hc => ?_) (fun hc => ?_)
  · have hw := hw.1 hc
    refine zg_iload zi_50_8 rfl ?_
    refine zg_aload zi_50_9 rfl ?_
    refine zg_iload zi_50_10 rfl ?_
    refine zg_const (v := 0) zi_50_11 (by rfl) ?_
    obtain ⟨hd, hs, hw⟩ := hw
    refine Gx.call2 (as := [.ref a0, .int a1, .int 0]) (rest := [.int a2]) zq_48 zi_50_12 rfl rfl rfl (Nat.le_of_ble_eq_true rfl) (Nat.le_of_ble_eq_true rfl) (zrv_v t1 rfl rfl) (Nat.le_of_ble_eq_true rfl) ?_
    refine cz_48 hd hs ?_
    show Gx E (d + 1) 50 13 [.ref a0, .int a1, .int a2] [.int (fz_48 E h a0 a1 0), .int a2] h Q
    refine zg_aload zi_50_13 rfl ?_
    refine zg_iload zi_50_14 rfl ?_
    refine zg_const (v := 1) zi_50_15 (by rfl) ?_
    obtain ⟨hd, hs, hw⟩ := hw
    refine Gx.call2 (as := [.ref a0, .int a1, .int 1]) (rest := [.int (fz_48 E h a0 a1 0), .int a2]) zq_48 zi_50_16 rfl rfl rfl (Nat.le_of_ble_eq_true rfl) (Nat.le_of_ble_eq_true rfl) (zrv_v t1 rfl rfl) (Nat.le_of_ble_eq_true rfl) ?_
    refine cz_48 hd hs ?_
    show Gx E (d + 1) 50 17 [.ref a0, .int a1, .int a2] [.int (fz_48 E h a0 a1 1), .int (fz_48 E h a0 a1 0), .int a2] h Q
    refine zg_iadd zi_50_17 ?_
    have g18 : Gx E (d + 1) 50 22 [.ref a0, .int a1, .int a2] [.int (if ((fz_48 E h a0 a1 0) + (fz_48 E h a0 a1 1) : Int32) ≤ a2 then 2 else 1)] h Q := by
      exact zg_ireturn zi_50_22 (by decide) hw
    refine zg_icmp_ge zi_50_18 (fun hc18 => ?_) (fun hc18 => ?_)
    · skip
      refine zg_const (v := 2) zi_50_21 (by rfl) ?_
      have hg := g18
      simp only [if_pos hc18] at hg
      exact hg
    · skip
      refine zg_const (v := 1) zi_50_19 (by rfl) ?_
      refine zg_goto zi_50_20 ?_
      have hg := g18
      simp only [if_neg hc18] at hg
      exact hg
  · have hw := hw.2 hc
    refine zg_const (v := 0) zi_50_6 (by rfl) ?_
    exact zg_ireturn zi_50_7 (by decide) hw
def fz_50 (E : Nat → Nat) (h : ZH) (a0 : Nat) (a1 : Int32) (a2 : Int32) : Int32 := if (fz_48 E h a0 a1 0 : Int32) ≤ a2 then (if ((fz_48 E h a0 a1 0) + (fz_48 E h a0 a1 1) : Int32) ≤ a2 then 2 else 1) else (0)
def sz_50 (E : Nat → Nat) (h : ZH) (a0 : Nat) (a1 : Int32) (a2 : Int32) : Prop := ztag h a0 = 3 ∧ sz_48 E h a0 a1 0 ∧ (((fz_48 E h a0 a1 0 : Int32) ≤ a2 → (sz_48 E h a0 a1 0 ∧ sz_48 E h a0 a1 1 ∧ True)) ∧ (¬ ((fz_48 E h a0 a1 0 : Int32) ≤ a2) → (True)))
set_option maxRecDepth 20000 in
theorem cz_50 {E : Nat → Nat} {d : Nat} {a0 : Nat} {a1 : Int32} {a2 : Int32} {h : ZH} {Q : Option Value → ZH → Prop} (hd : 2 ≤ d) (hs : sz_50 E h a0 a1 a2) (hq : Q (some (.int (fz_50 E h a0 a1 a2))) h) : Ct E d 50 [.ref a0, .int a1, .int a2] h Q := by
  obtain ⟨d, rfl⟩ : ∃ n, d = n + 1 := ⟨d - 1, by omega⟩
  refine ok_50 ?_
  unfold w_50
  unfold sz_50 at hs
  unfold fz_50 at hq
  refine ⟨hs.1, ?_⟩
  have hs := hs.2
  refine ⟨by omega, ?_⟩
  refine ⟨hs.1, ?_⟩
  have hs := hs.2
  refine ⟨fun hc => ?_, fun hc => ?_⟩
  · have hs := hs.1 hc
    rw [if_pos hc] at hq
    refine ⟨by omega, ?_⟩
    refine ⟨hs.1, ?_⟩
    have hs := hs.2
    refine ⟨by omega, ?_⟩
    refine ⟨hs.1, ?_⟩
    have hs := hs.2
    exact hq
  · have hs := hs.2 hc
    rw [if_neg hc] at hq
    exact hq
theorem zq_52 : zQ 52 2 2 4 := by unfold zQ; decide +kernel
theorem zi_52_0 : (zM 52).1[0]? = some (.aload 0) := by rfl
theorem zi_52_1 : (zM 52).1[1]? = some (.invokedynamic 3) := by rfl
theorem zi_52_2 : (zM 52).1[2]? = some (.aload 0) := by rfl
theorem zi_52_3 : (zM 52).1[3]? = some (.new 3) := by rfl
theorem zi_52_4 : (zM 52).1[4]? = some (.dup) := by rfl
theorem zi_52_5 : (zM 52).1[5]? = some (.invokespecial 29) := by rfl
theorem zi_52_6 : (zM 52).1[6]? = some (.putfield 4201) := by rfl
theorem zi_52_7 : (zM 52).1[7]? = some (.aload 0) := by rfl
theorem zi_52_8 : (zM 52).1[8]? = some (.aload 1) := by rfl
theorem zi_52_9 : (zM 52).1[9]? = some (.putfield 4200) := by rfl
theorem zi_52_10 : (zM 52).1[10]? = some (.return_) := by rfl
/-- TakeOrPay$Reader.<init>(LTakeOrPay$Tape;)V -/
def w_52 (E : Nat → Nat) (d : Nat) (a0 : Nat) (a1 : Nat) (h : ZH) (Q : Option Value → ZH → Prop) : Prop := 4 ≤ d ∧ ∀ h1 : ZH, h1 = (znew h 3 (zN 3)) → ∀ r2 : Nat, r2 = (zsz h) → ztag h1 r2 = 3 ∧ Ct E d 29 [.ref r2] h1 (fun v h4 => v = none ∧ ztag h4 a0 = 4 ∧ ∀ h6 : ZH, h6 = (zuR h4 a0 1 (r2 + 1)) → ztag h6 a0 = 4 ∧ ∀ h8 : ZH, h8 = (zuR h6 a0 0 (a1 + 1)) → Q none h8)
set_option maxRecDepth 20000 in
theorem ok_52 {E : Nat → Nat} {d : Nat} {a0 : Nat} {a1 : Nat} {h : ZH} {Q : Option Value → ZH → Prop} (hw : w_52 E d a0 a1 h Q) : Ct E (d + 1) 52 [.ref a0, .ref a1] h Q := by
  unfold w_52 at hw
  show Gx E (d + 1) 52 0 [.ref a0, .ref a1] [] h Q
  refine zg_aload zi_52_0 rfl ?_
  obtain ⟨hd, hw⟩ := hw
  refine zg_object zi_52_1 ⟨by omega, Nat.le_of_ble_eq_true rfl⟩ ?_
  refine zg_aload zi_52_2 rfl ?_
  refine zg_new zi_52_3 (by decide) ?_
  refine zg_nameH fun h1 eh1 => ?_
  have hw := hw h1 eh1
  refine zg_nameA fun r2 er2 => ?_
  have hw := hw r2 er2
  refine zg_dup zi_52_4 rfl ?_
  obtain ⟨t3, hw⟩ := hw
  refine Gx.call2 (as := [.ref r2]) (rest := [.ref r2, .ref a0]) zq_29 zi_52_5 rfl rfl rfl (Nat.le_of_ble_eq_true rfl) (Nat.le_of_ble_eq_true rfl) (zrv_i t3 rfl rfl) (Nat.le_of_ble_eq_true rfl) ?_
  refine Ct.mono hw ?_
  rintro v h4 ⟨rfl, hw⟩
  show Gx E (d + 1) 52 6 [.ref a0, .ref a1] [.ref r2, .ref a0] h4 Q
  obtain ⟨t5, hw⟩ := hw
  refine zg_putR (h1 := zuR h4 a0 1 (r2 + 1)) zi_52_6 t5 (by rfl) rfl ?_
  refine zg_nameH fun h6 eh6 => ?_
  have hw := hw h6 eh6
  refine zg_aload zi_52_7 rfl ?_
  refine zg_aload zi_52_8 rfl ?_
  obtain ⟨t7, hw⟩ := hw
  refine zg_putR (h1 := zuR h6 a0 0 (a1 + 1)) zi_52_9 t7 (by rfl) rfl ?_
  refine zg_nameH fun h8 eh8 => ?_
  have hw := hw h8 eh8
  exact zg_return zi_52_10 hw
theorem zq_80 : zQ 80 2 2 8 := by unfold zQ; decide +kernel
theorem zi_80_0 : (zM 80).1[0]? = some (.aload 0) := by rfl
theorem zi_80_1 : (zM 80).1[1]? = some (.getfield 8200) := by rfl
theorem zi_80_2 : (zM 80).1[2]? = some (.iload 1) := by rfl
theorem zi_80_3 : (zM 80).1[3]? = some (.baload) := by rfl
theorem zi_80_4 : (zM 80).1[4]? = some (.iconst 97) := by rfl
theorem zi_80_5 : (zM 80).1[5]? = some (.if_icmp .lt ((14 : Nat) : Int)) := by rfl
theorem zi_80_6 : (zM 80).1[6]? = some (.aload 0) := by rfl
theorem zi_80_7 : (zM 80).1[7]? = some (.getfield 8200) := by rfl
theorem zi_80_8 : (zM 80).1[8]? = some (.iload 1) := by rfl
theorem zi_80_9 : (zM 80).1[9]? = some (.baload) := by rfl
theorem zi_80_10 : (zM 80).1[10]? = some (.iconst 122) := by rfl
theorem zi_80_11 : (zM 80).1[11]? = some (.if_icmp .gt ((14 : Nat) : Int)) := by rfl
theorem zi_80_12 : (zM 80).1[12]? = some (.iconst 1) := by rfl
theorem zi_80_13 : (zM 80).1[13]? = some (.goto ((15 : Nat) : Int)) := by rfl
theorem zi_80_14 : (zM 80).1[14]? = some (.iconst 0) := by rfl
theorem zi_80_15 : (zM 80).1[15]? = some (.ireturn) := by rfl
/-- TakeOrPay$Tape.isLetter(I)Z -/
def w_80 (E : Nat → Nat) (d : Nat) (a0 : Nat) (a1 : Int32) (h : ZH) (Q : Option Value → ZH → Prop) : Prop := ztag h a0 = 8 ∧ ∃ r2 : Nat, zR h a0 0 = r2 + 1 ∧ (ztag h r2 = 12 ∨ ztag h r2 = 15) ∧ zin a1 (zlen h r2) = true ∧ ((((zI h r2 a1.toNatClampNeg : Int32) < 97 → (True)) ∧ (¬ ((zI h r2 a1.toNatClampNeg : Int32) < 97) → (zin a1 (zlen h r2) = true ∧ True))) ∧ Q (some (.int (if (zI h r2 a1.toNatClampNeg : Int32) < 97 then 0 else if 122 < (zI h r2 a1.toNatClampNeg : Int32) then 0 else 1))) h)
set_option maxRecDepth 20000 in
theorem ok_80 {E : Nat → Nat} {d : Nat} {a0 : Nat} {a1 : Int32} {h : ZH} {Q : Option Value → ZH → Prop} (hw : w_80 E d a0 a1 h Q) : Ct E (d + 1) 80 [.ref a0, .int a1] h Q := by
  unfold w_80 at hw
  show Gx E (d + 1) 80 0 [.ref a0, .int a1] [] h Q
  refine zg_aload zi_80_0 rfl ?_
  obtain ⟨t1, hw⟩ := hw
  obtain ⟨r2, er2, hw⟩ := hw
  refine zg_getR (v := .ref r2) zi_80_1 t1 (by rfl) (by show zrv (zR h a0 0) = _; rw [er2]; rfl) ?_
  refine zg_iload zi_80_2 rfl ?_
  obtain ⟨t3, hw⟩ := hw
  obtain ⟨hb, hw⟩ := hw
  refine zg_baload (v := .int (zI h r2 a1.toNatClampNeg)) zi_80_3 t3 hb rfl ?_
  refine zg_const (v := 97) zi_80_4 (by rfl) ?_
  obtain ⟨hsd5, hw⟩ := hw
  have g5 : Gx E (d + 1) 80 15 [.ref a0, .int a1] [.int (if (zI h r2 a1.toNatClampNeg : Int32) < 97 then 0 else if 122 < (zI h r2 a1.toNatClampNeg : Int32) then 0 else 1)] h Q := by
    exact zg_zreturn zi_80_15 (by (repeat' split) <;> first | (left; rfl) | (right; rfl)) hw
  refine zg_icmp_lt zi_80_5 (fun hc5 => ?_) (fun hc5 => ?_)
  · have hw := hsd5.1 hc5
    refine zg_const (v := 0) zi_80_14 (by rfl) ?_
    have hg := g5
    simp only [if_pos hc5] at hg
    exact hg
  · have hw := hsd5.2 hc5
    refine zg_aload zi_80_6 rfl ?_
    refine zg_getR (v := .ref r2) zi_80_7 t1 (by rfl) (by show zrv (zR h a0 0) = _; rw [er2]; rfl) ?_
    refine zg_iload zi_80_8 rfl ?_
    obtain ⟨hb, hw⟩ := hw
    refine zg_baload (v := .int (zI h r2 a1.toNatClampNeg)) zi_80_9 t3 hb rfl ?_
    refine zg_const (v := 122) zi_80_10 (by rfl) ?_
    have g11 : Gx E (d + 1) 80 15 [.ref a0, .int a1] [.int (if 122 < (zI h r2 a1.toNatClampNeg : Int32) then 0 else 1)] h Q := by
      have hg := g5
      simp only [if_neg hc5] at hg
      exact hg
    refine zg_icmp_gt zi_80_11 (fun hc11 => ?_) (fun hc11 => ?_)
    · skip
      refine zg_const (v := 0) zi_80_14 (by rfl) ?_
      have hg := g11
      simp only [if_pos hc11] at hg
      exact hg
    · skip
      refine zg_const (v := 1) zi_80_12 (by rfl) ?_
      refine zg_goto zi_80_13 ?_
      have hg := g11
      simp only [if_neg hc11] at hg
      exact hg
def fz_80 (E : Nat → Nat) (h : ZH) (a0 : Nat) (a1 : Int32) : Int32 := (fun r2 : Nat => if (zI h r2 a1.toNatClampNeg : Int32) < 97 then 0 else if 122 < (zI h r2 a1.toNatClampNeg : Int32) then 0 else 1) (zR h a0 0 - 1)
def sz_80 (E : Nat → Nat) (h : ZH) (a0 : Nat) (a1 : Int32) : Prop := ztag h a0 = 8 ∧ ∃ r2 : Nat, zR h a0 0 = r2 + 1 ∧ (ztag h r2 = 12 ∨ ztag h r2 = 15) ∧ zin a1 (zlen h r2) = true ∧ ((((zI h r2 a1.toNatClampNeg : Int32) < 97 → (True)) ∧ (¬ ((zI h r2 a1.toNatClampNeg : Int32) < 97) → (zin a1 (zlen h r2) = true ∧ True))) ∧ True)
set_option maxRecDepth 20000 in
theorem fb_80 {E : Nat → Nat} {h : ZH} {a0 : Nat} {a1 : Int32} : fz_80 E h a0 a1 = 0 ∨ fz_80 E h a0 a1 = 1 := by
  unfold fz_80
  (try dsimp only)
  (repeat' split) <;> first | (left; rfl) | (right; rfl)
set_option maxRecDepth 20000 in
theorem cz_80 {E : Nat → Nat} {d : Nat} {a0 : Nat} {a1 : Int32} {h : ZH} {Q : Option Value → ZH → Prop} (hd : 1 ≤ d) (hs : sz_80 E h a0 a1) (hq : Q (some (.int (fz_80 E h a0 a1))) h) : Ct E d 80 [.ref a0, .int a1] h Q := by
  obtain ⟨d, rfl⟩ : ∃ n, d = n + 1 := ⟨d - 1, by omega⟩
  refine ok_80 ?_
  unfold w_80
  unfold sz_80 at hs
  unfold fz_80 at hq
  refine ⟨hs.1, ?_⟩
  have hs := hs.2
  obtain ⟨r2, hr, hs⟩ := hs
  refine ⟨r2, hr, ?_⟩
  rw [hr] at hq
  simp only [Nat.add_sub_cancel] at hq
  refine ⟨hs.1, ?_⟩
  have hs := hs.2
  refine ⟨hs.1, ?_⟩
  have hs := hs.2
  refine ⟨⟨fun hc => ?_, fun hc => ?_⟩, ?_⟩
  · have hs := hs.1.1 hc
    trivial
  · have hs := hs.1.2 hc
    refine ⟨hs.1, ?_⟩
    have hs := hs.2
    trivial
  have hs := hs.2
  exact hq
theorem zq_84 : zQ 84 1 7 8 := by unfold zQ; decide +kernel
theorem zi_84_0 : (zM 84).1[0]? = some (.iconst 0) := by rfl
theorem zi_84_1 : (zM 84).1[1]? = some (.istore 1) := by rfl
theorem zi_84_2 : (zM 84).1[2]? = some (.iconst 0) := by rfl
theorem zi_84_3 : (zM 84).1[3]? = some (.istore 2) := by rfl
theorem zi_84_4 : (zM 84).1[4]? = some (.iconst 1) := by rfl
theorem zi_84_5 : (zM 84).1[5]? = some (.istore 3) := by rfl
theorem zi_84_6 : (zM 84).1[6]? = some (.iconst 0) := by rfl
theorem zi_84_7 : (zM 84).1[7]? = some (.istore 4) := by rfl
theorem zi_84_8 : (zM 84).1[8]? = some (.iload 4) := by rfl
theorem zi_84_9 : (zM 84).1[9]? = some (.ldc 7) := by rfl
theorem zi_84_10 : (zM 84).1[10]? = some (.invokedynamic 4) := by rfl
theorem zi_84_11 : (zM 84).1[11]? = some (.if_icmp .ge ((60 : Nat) : Int)) := by rfl
theorem zi_84_12 : (zM 84).1[12]? = some (.ldc 7) := by rfl
theorem zi_84_13 : (zM 84).1[13]? = some (.iload 4) := by rfl
theorem zi_84_14 : (zM 84).1[14]? = some (.invokedynamic 5) := by rfl
theorem zi_84_15 : (zM 84).1[15]? = some (.istore 5) := by rfl
theorem zi_84_16 : (zM 84).1[16]? = some (.iload 5) := by rfl
theorem zi_84_17 : (zM 84).1[17]? = some (.iconst 32) := by rfl
theorem zi_84_18 : (zM 84).1[18]? = some (.if_icmp .eq ((42 : Nat) : Int)) := by rfl
theorem zi_84_19 : (zM 84).1[19]? = some (.aload 0) := by rfl
theorem zi_84_20 : (zM 84).1[20]? = some (.getfield 8005) := by rfl
theorem zi_84_21 : (zM 84).1[21]? = some (.iload 2) := by rfl
theorem zi_84_22 : (zM 84).1[22]? = some (.iadd) := by rfl
theorem zi_84_23 : (zM 84).1[23]? = some (.istore 6) := by rfl
theorem zi_84_24 : (zM 84).1[24]? = some (.iload 3) := by rfl
theorem zi_84_25 : (zM 84).1[25]? = some (.ifCond .eq ((38 : Nat) : Int)) := by rfl
theorem zi_84_26 : (zM 84).1[26]? = some (.iload 6) := by rfl
theorem zi_84_27 : (zM 84).1[27]? = some (.aload 0) := by rfl
theorem zi_84_28 : (zM 84).1[28]? = some (.getfield 8002) := by rfl
theorem zi_84_29 : (zM 84).1[29]? = some (.if_icmp .ge ((38 : Nat) : Int)) := by rfl
theorem zi_84_30 : (zM 84).1[30]? = some (.aload 0) := by rfl
theorem zi_84_31 : (zM 84).1[31]? = some (.getfield 8200) := by rfl
theorem zi_84_32 : (zM 84).1[32]? = some (.iload 6) := by rfl
theorem zi_84_33 : (zM 84).1[33]? = some (.baload) := by rfl
theorem zi_84_34 : (zM 84).1[34]? = some (.iload 5) := by rfl
theorem zi_84_35 : (zM 84).1[35]? = some (.if_icmp .ne ((38 : Nat) : Int)) := by rfl
theorem zi_84_36 : (zM 84).1[36]? = some (.iconst 1) := by rfl
theorem zi_84_37 : (zM 84).1[37]? = some (.goto ((39 : Nat) : Int)) := by rfl
theorem zi_84_38 : (zM 84).1[38]? = some (.iconst 0) := by rfl
theorem zi_84_39 : (zM 84).1[39]? = some (.istore 3) := by rfl
theorem zi_84_40 : (zM 84).1[40]? = some (.iinc 2 1) := by rfl
theorem zi_84_41 : (zM 84).1[41]? = some (.goto ((58 : Nat) : Int)) := by rfl
theorem zi_84_42 : (zM 84).1[42]? = some (.iload 3) := by rfl
theorem zi_84_43 : (zM 84).1[43]? = some (.ifCond .eq ((53 : Nat) : Int)) := by rfl
theorem zi_84_44 : (zM 84).1[44]? = some (.iload 2) := by rfl
theorem zi_84_45 : (zM 84).1[45]? = some (.aload 0) := by rfl
theorem zi_84_46 : (zM 84).1[46]? = some (.getfield 8002) := by rfl
theorem zi_84_47 : (zM 84).1[47]? = some (.aload 0) := by rfl
theorem zi_84_48 : (zM 84).1[48]? = some (.getfield 8005) := by rfl
theorem zi_84_49 : (zM 84).1[49]? = some (.isub) := by rfl
theorem zi_84_50 : (zM 84).1[50]? = some (.if_icmp .ne ((53 : Nat) : Int)) := by rfl
theorem zi_84_51 : (zM 84).1[51]? = some (.iload 1) := by rfl
theorem zi_84_52 : (zM 84).1[52]? = some (.ireturn) := by rfl
theorem zi_84_53 : (zM 84).1[53]? = some (.iinc 1 1) := by rfl
theorem zi_84_54 : (zM 84).1[54]? = some (.iconst 0) := by rfl
theorem zi_84_55 : (zM 84).1[55]? = some (.istore 2) := by rfl
theorem zi_84_56 : (zM 84).1[56]? = some (.iconst 1) := by rfl
theorem zi_84_57 : (zM 84).1[57]? = some (.istore 3) := by rfl
theorem zi_84_58 : (zM 84).1[58]? = some (.iinc 4 1) := by rfl
theorem zi_84_59 : (zM 84).1[59]? = some (.goto ((8 : Nat) : Int)) := by rfl
theorem zi_84_60 : (zM 84).1[60]? = some (.iconst (-4)) := by rfl
theorem zi_84_61 : (zM 84).1[61]? = some (.ireturn) := by rfl
def wl_84_8 (E : Nat → Nat) (d : Nat) (Q : Option Value → ZH → Prop) : Nat → Nat → Int32 → Int32 → Int32 → Int32 → ZH → Prop
  | 0, _, _, _, _, _, _ => False
  | n + 1, a0, a1, a2, a3, a4, h => 4 ≤ d ∧ ztag h (E 7) = 18 ∧ (((Int32.ofNat (zlen h (E 7)) : Int32) ≤ a4 → (Q (some (.int ((-4)))) h)) ∧ (¬ ((Int32.ofNat (zlen h (E 7)) : Int32) ≤ a4) → (4 ≤ d ∧ ztag h (E 7) = 18 ∧ zin a4 (zlen h (E 7)) = true ∧ ∀ x1 : Int32, x1 = (zI h (E 7) a4.toNatClampNeg) → ((x1 = 32 → ((a3 = 0 → (∀ x2 : Int32, x2 = (a1 + 1) → ∀ x3 : Int32, x3 = (a4 + 1) → wl_84_8 E d Q n a0 x2 0 1 x3 h)) ∧ (¬ (a3 = 0) → (ztag h a0 = 8 ∧ ((¬ a2 = ((zI h a0 2) - (zI h a0 5) : Int32) → (∀ x5 : Int32, x5 = (a1 + 1) → ∀ x6 : Int32, x6 = (a4 + 1) → wl_84_8 E d Q n a0 x5 0 1 x6 h)) ∧ (¬ (¬ a2 = ((zI h a0 2) - (zI h a0 5) : Int32)) → (Q (some (.int a1)) h))))))) ∧ (¬ (x1 = 32) → (ztag h a0 = 8 ∧ ∀ x8 : Int32, x8 = ((zI h a0 5) + a2) → (((a3 = 0 → (True)) ∧ (¬ (a3 = 0) → ((((zI h a0 2 : Int32) ≤ x8 → (True)) ∧ (¬ ((zI h a0 2 : Int32) ≤ x8) → (¬ zR h a0 0 = 0 ∧ (ztag h (zR h a0 0 - 1) = 12 ∨ ztag h (zR h a0 0 - 1) = 15) ∧ zin x8 (zlen h (zR h a0 0 - 1)) = true ∧ True))) ∧ True))) ∧ ∀ x10 : Int32, x10 = (if a3 = 0 then 0 else if (zI h a0 2 : Int32) ≤ x8 then 0 else if ¬ (zI h (zR h a0 0 - 1) x8.toNatClampNeg : Int32) = x1 then 0 else 1) → ∀ x11 : Int32, x11 = (a2 + 1) → ∀ x12 : Int32, x12 = (a4 + 1) → wl_84_8 E d Q n a0 a1 x11 x10 x12 h)))))))
set_option maxRecDepth 20000 in
theorem okl_84_8 {E : Nat → Nat} {d : Nat} {Q : Option Value → ZH → Prop} : ∀ (n : Nat) (a0 : Nat) (a1 : Int32) (a2 : Int32) (a3 : Int32) (a4 : Int32) (h : ZH), wl_84_8 E d Q n a0 a1 a2 a3 a4 h → Gx E (d + 1) 84 8 [.ref a0, .int a1, .int a2, .int a3, .int a4, .retAddr 0, .retAddr 0] [] h Q := by
  intro n
  induction n with
  | zero => intro a0 a1 a2 a3 a4 h hw; exact hw.elim
  | succ n ih =>
    intro a0 a1 a2 a3 a4 h hw
    rw [wl_84_8] at hw
    refine zg_iload zi_84_8 rfl ?_
    refine zg_ldc zi_84_9 ?_
    obtain ⟨hd, ht, hw⟩ := hw
    refine zg_slen zi_84_10 ⟨by omega, Nat.le_of_ble_eq_true rfl, ht⟩ ?_
    refine zg_icmp_ge zi_84_11 (fun hc => ?_) (fun hc => ?_)
    · have hw := hw.1 hc
      refine zg_const (v := (-4)) zi_84_60 (by rfl) ?_
      exact zg_ireturn zi_84_61 (by decide) hw
    · have hw := hw.2 hc
      refine zg_ldc zi_84_12 ?_
      refine zg_iload zi_84_13 rfl ?_
      obtain ⟨hd, ht, hb, hw⟩ := hw
      refine zg_schar zi_84_14 ⟨by omega, Nat.le_of_ble_eq_true rfl, ht, hb⟩ ?_
      refine zg_nameI fun x1 ex1 => ?_
      have hw := hw x1 ex1
      refine zg_istore (ls1 := [.ref a0, .int a1, .int a2, .int a3, .int a4, .int x1, .retAddr 0]) zi_84_15 (Nat.le_of_ble_eq_true rfl) rfl ?_
      refine zg_iload zi_84_16 rfl ?_
      refine zg_const (v := 32) zi_84_17 (by rfl) ?_
      refine zg_icmp_eq zi_84_18 (fun hc => ?_) (fun hc => ?_)
      · have hw := hw.1 hc
        refine zg_iload zi_84_42 rfl ?_
        refine zg_if_eq zi_84_43 (fun hc => ?_) (fun hc => ?_)
        · have hw := hw.1 hc
          obtain ⟨x2, ex2⟩ : ∃ x : Int32, x = a1 + 1 := ⟨_, rfl⟩
          have hw := hw x2 ex2
          refine zg_iinc (v := x2) (ls1 := [.ref a0, .int x2, .int a2, .int a3, .int a4, .int x1, .retAddr 0]) zi_84_53 rfl (by rw [ex2]; rfl) rfl ?_
          refine zg_const (v := 0) zi_84_54 (by rfl) ?_
          refine zg_istore (ls1 := [.ref a0, .int x2, .int 0, .int a3, .int a4, .int x1, .retAddr 0]) zi_84_55 (Nat.le_of_ble_eq_true rfl) rfl ?_
          refine zg_const (v := 1) zi_84_56 (by rfl) ?_
          refine zg_istore (ls1 := [.ref a0, .int x2, .int 0, .int 1, .int a4, .int x1, .retAddr 0]) zi_84_57 (Nat.le_of_ble_eq_true rfl) rfl ?_
          obtain ⟨x3, ex3⟩ : ∃ x : Int32, x = a4 + 1 := ⟨_, rfl⟩
          have hw := hw x3 ex3
          refine zg_iinc (v := x3) (ls1 := [.ref a0, .int x2, .int 0, .int 1, .int x3, .int x1, .retAddr 0]) zi_84_58 rfl (by rw [ex3]; rfl) rfl ?_
          refine zg_goto zi_84_59 ?_
          exact Gx.forget (zrk (zrk (zrk (zrk (zrk (zrd (zrk zr0))))))) (ih a0 x2 0 1 x3 h hw)
        · have hw := hw.2 hc
          refine zg_iload zi_84_44 rfl ?_
          refine zg_aload zi_84_45 rfl ?_
          obtain ⟨t4, hw⟩ := hw
          refine zg_getI (v := .int (zI h a0 2)) zi_84_46 t4 (by rfl) rfl ?_
          refine zg_aload zi_84_47 rfl ?_
          refine zg_getI (v := .int (zI h a0 5)) zi_84_48 t4 (by rfl) rfl ?_
          refine zg_isub zi_84_49 ?_
          refine zg_icmp_ne zi_84_50 (fun hc => ?_) (fun hc => ?_)
          · have hw := hw.1 hc
            obtain ⟨x5, ex5⟩ : ∃ x : Int32, x = a1 + 1 := ⟨_, rfl⟩
            have hw := hw x5 ex5
            refine zg_iinc (v := x5) (ls1 := [.ref a0, .int x5, .int a2, .int a3, .int a4, .int x1, .retAddr 0]) zi_84_53 rfl (by rw [ex5]; rfl) rfl ?_
            refine zg_const (v := 0) zi_84_54 (by rfl) ?_
            refine zg_istore (ls1 := [.ref a0, .int x5, .int 0, .int a3, .int a4, .int x1, .retAddr 0]) zi_84_55 (Nat.le_of_ble_eq_true rfl) rfl ?_
            refine zg_const (v := 1) zi_84_56 (by rfl) ?_
            refine zg_istore (ls1 := [.ref a0, .int x5, .int 0, .int 1, .int a4, .int x1, .retAddr 0]) zi_84_57 (Nat.le_of_ble_eq_true rfl) rfl ?_
            obtain ⟨x6, ex6⟩ : ∃ x : Int32, x = a4 + 1 := ⟨_, rfl⟩
            have hw := hw x6 ex6
            refine zg_iinc (v := x6) (ls1 := [.ref a0, .int x5, .int 0, .int 1, .int x6, .int x1, .retAddr 0]) zi_84_58 rfl (by rw [ex6]; rfl) rfl ?_
            refine zg_goto zi_84_59 ?_
            exact Gx.forget (zrk (zrk (zrk (zrk (zrk (zrd (zrk zr0))))))) (ih a0 x5 0 1 x6 h hw)
          · have hw := hw.2 hc
            refine zg_iload zi_84_51 rfl ?_
            exact zg_ireturn zi_84_52 (by decide) hw
      · have hw := hw.2 hc
        refine zg_aload zi_84_19 rfl ?_
        obtain ⟨t7, hw⟩ := hw
        refine zg_getI (v := .int (zI h a0 5)) zi_84_20 t7 (by rfl) rfl ?_
        refine zg_iload zi_84_21 rfl ?_
        refine zg_iadd zi_84_22 ?_
        refine zg_nameI fun x8 ex8 => ?_
        have hw := hw x8 ex8
        refine zg_istore (ls1 := [.ref a0, .int a1, .int a2, .int a3, .int a4, .int x1, .int x8]) zi_84_23 (Nat.le_of_ble_eq_true rfl) rfl ?_
        refine zg_iload zi_84_24 rfl ?_
        obtain ⟨hsd25, hw⟩ := hw
        have g25 : Gx E (d + 1) 84 39 [.ref a0, .int a1, .int a2, .int a3, .int a4, .int x1, .int x8] [.int (if a3 = 0 then 0 else if (zI h a0 2 : Int32) ≤ x8 then 0 else if ¬ (zI h (zR h a0 0 - 1) x8.toNatClampNeg : Int32) = x1 then 0 else 1)] h Q := by
          refine zg_nameI fun x10 ex10 => ?_
          have hw := hw x10 ex10
          refine zg_istore (ls1 := [.ref a0, .int a1, .int a2, .int x10, .int a4, .int x1, .int x8]) zi_84_39 (Nat.le_of_ble_eq_true rfl) rfl ?_
          obtain ⟨x11, ex11⟩ : ∃ x : Int32, x = a2 + 1 := ⟨_, rfl⟩
          have hw := hw x11 ex11
          refine zg_iinc (v := x11) (ls1 := [.ref a0, .int a1, .int x11, .int x10, .int a4, .int x1, .int x8]) zi_84_40 rfl (by rw [ex11]; rfl) rfl ?_
          refine zg_goto zi_84_41 ?_
          obtain ⟨x12, ex12⟩ : ∃ x : Int32, x = a4 + 1 := ⟨_, rfl⟩
          have hw := hw x12 ex12
          refine zg_iinc (v := x12) (ls1 := [.ref a0, .int a1, .int x11, .int x10, .int x12, .int x1, .int x8]) zi_84_58 rfl (by rw [ex12]; rfl) rfl ?_
          refine zg_goto zi_84_59 ?_
          exact Gx.forget (zrk (zrk (zrk (zrk (zrk (zrd (zrd zr0))))))) (ih a0 a1 x11 x10 x12 h hw)
        refine zg_if_eq zi_84_25 (fun hc25 => ?_) (fun hc25 => ?_)
        · have hw := hsd25.1 hc25
          refine zg_const (v := 0) zi_84_38 (by rfl) ?_
          have hg := g25
          simp only [if_pos hc25] at hg
          exact hg
        · have hw := hsd25.2 hc25
          refine zg_iload zi_84_26 rfl ?_
          refine zg_aload zi_84_27 rfl ?_
          refine zg_getI (v := .int (zI h a0 2)) zi_84_28 t7 (by rfl) rfl ?_
          obtain ⟨hsd29, hw⟩ := hw
          have g29 : Gx E (d + 1) 84 39 [.ref a0, .int a1, .int a2, .int a3, .int a4, .int x1, .int x8] [.int (if (zI h a0 2 : Int32) ≤ x8 then 0 else if ¬ (zI h (zR h a0 0 - 1) x8.toNatClampNeg : Int32) = x1 then 0 else 1)] h Q := by
            have hg := g25
            simp only [if_neg hc25] at hg
            exact hg
          refine zg_icmp_ge zi_84_29 (fun hc29 => ?_) (fun hc29 => ?_)
          · have hw := hsd29.1 hc29
            refine zg_const (v := 0) zi_84_38 (by rfl) ?_
            have hg := g29
            simp only [if_pos hc29] at hg
            exact hg
          · have hw := hsd29.2 hc29
            refine zg_aload zi_84_30 rfl ?_
            obtain ⟨hr, hw⟩ := hw
            refine zg_getR (v := .ref (zR h a0 0 - 1)) zi_84_31 t7 (by rfl) (zrv_p hr) ?_
            refine zg_iload zi_84_32 rfl ?_
            obtain ⟨t9, hw⟩ := hw
            obtain ⟨hb, hw⟩ := hw
            refine zg_baload (v := .int (zI h (zR h a0 0 - 1) x8.toNatClampNeg)) zi_84_33 t9 hb rfl ?_
            refine zg_iload zi_84_34 rfl ?_
            have g35 : Gx E (d + 1) 84 39 [.ref a0, .int a1, .int a2, .int a3, .int a4, .int x1, .int x8] [.int (if ¬ (zI h (zR h a0 0 - 1) x8.toNatClampNeg : Int32) = x1 then 0 else 1)] h Q := by
              have hg := g29
              simp only [if_neg hc29] at hg
              exact hg
            refine zg_icmp_ne zi_84_35 (fun hc35 => ?_) (fun hc35 => ?_)
            · skip
              refine zg_const (v := 0) zi_84_38 (by rfl) ?_
              have hg := g35
              simp only [if_pos hc35] at hg
              exact hg
            · skip
              refine zg_const (v := 1) zi_84_36 (by rfl) ?_
              refine zg_goto zi_84_37 ?_
              have hg := g35
              simp only [if_neg hc35] at hg
              exact hg
/-- TakeOrPay$Tape.nameNumber()I -/
def w_84 (E : Nat → Nat) (d : Nat) (a0 : Nat) (h : ZH) (Q : Option Value → ZH → Prop) : Prop := ∃ mm : Nat, wl_84_8 E d Q mm a0 0 0 1 0 h
set_option maxRecDepth 20000 in
theorem ok_84 {E : Nat → Nat} {d : Nat} {a0 : Nat} {h : ZH} {Q : Option Value → ZH → Prop} (hw : w_84 E d a0 h Q) : Ct E (d + 1) 84 [.ref a0] h Q := by
  unfold w_84 at hw
  show Gx E (d + 1) 84 0 [.ref a0, .retAddr 0, .retAddr 0, .retAddr 0, .retAddr 0, .retAddr 0, .retAddr 0] [] h Q
  refine zg_const (v := 0) zi_84_0 (by rfl) ?_
  refine zg_istore (ls1 := [.ref a0, .int 0, .retAddr 0, .retAddr 0, .retAddr 0, .retAddr 0, .retAddr 0]) zi_84_1 (Nat.le_of_ble_eq_true rfl) rfl ?_
  refine zg_const (v := 0) zi_84_2 (by rfl) ?_
  refine zg_istore (ls1 := [.ref a0, .int 0, .int 0, .retAddr 0, .retAddr 0, .retAddr 0, .retAddr 0]) zi_84_3 (Nat.le_of_ble_eq_true rfl) rfl ?_
  refine zg_const (v := 1) zi_84_4 (by rfl) ?_
  refine zg_istore (ls1 := [.ref a0, .int 0, .int 0, .int 1, .retAddr 0, .retAddr 0, .retAddr 0]) zi_84_5 (Nat.le_of_ble_eq_true rfl) rfl ?_
  refine zg_const (v := 0) zi_84_6 (by rfl) ?_
  refine zg_istore (ls1 := [.ref a0, .int 0, .int 0, .int 1, .int 0, .retAddr 0, .retAddr 0]) zi_84_7 (Nat.le_of_ble_eq_true rfl) rfl ?_
  obtain ⟨mm, hw⟩ := hw
  exact okl_84_8 mm a0 0 0 1 0 h hw
theorem zq_82 : zQ 82 1 1 8 := by unfold zQ; decide +kernel
theorem zi_82_0 : (zM 82).1[0]? = some (.aload 0) := by rfl
theorem zi_82_1 : (zM 82).1[1]? = some (.getfield 8002) := by rfl
theorem zi_82_2 : (zM 82).1[2]? = some (.aload 0) := by rfl
theorem zi_82_3 : (zM 82).1[3]? = some (.getfield 8001) := by rfl
theorem zi_82_4 : (zM 82).1[4]? = some (.if_icmp .ge ((17 : Nat) : Int)) := by rfl
theorem zi_82_5 : (zM 82).1[5]? = some (.aload 0) := by rfl
theorem zi_82_6 : (zM 82).1[6]? = some (.aload 0) := by rfl
theorem zi_82_7 : (zM 82).1[7]? = some (.getfield 8002) := by rfl
theorem zi_82_8 : (zM 82).1[8]? = some (.invokevirtual 80) := by rfl
theorem zi_82_9 : (zM 82).1[9]? = some (.ifCond .eq ((17 : Nat) : Int)) := by rfl
theorem zi_82_10 : (zM 82).1[10]? = some (.aload 0) := by rfl
theorem zi_82_11 : (zM 82).1[11]? = some (.dup) := by rfl
theorem zi_82_12 : (zM 82).1[12]? = some (.getfield 8002) := by rfl
theorem zi_82_13 : (zM 82).1[13]? = some (.iconst 1) := by rfl
theorem zi_82_14 : (zM 82).1[14]? = some (.iadd) := by rfl
theorem zi_82_15 : (zM 82).1[15]? = some (.putfield 8002) := by rfl
theorem zi_82_16 : (zM 82).1[16]? = some (.goto ((0 : Nat) : Int)) := by rfl
theorem zi_82_17 : (zM 82).1[17]? = some (.aload 0) := by rfl
theorem zi_82_18 : (zM 82).1[18]? = some (.aload 0) := by rfl
theorem zi_82_19 : (zM 82).1[19]? = some (.invokevirtual 84) := by rfl
theorem zi_82_20 : (zM 82).1[20]? = some (.putfield 8004) := by rfl
theorem zi_82_21 : (zM 82).1[21]? = some (.aload 0) := by rfl
theorem zi_82_22 : (zM 82).1[22]? = some (.aload 0) := by rfl
theorem zi_82_23 : (zM 82).1[23]? = some (.getfield 8004) := by rfl
theorem zi_82_24 : (zM 82).1[24]? = some (.iconst (-4)) := by rfl
theorem zi_82_25 : (zM 82).1[25]? = some (.if_icmp .ne ((28 : Nat) : Int)) := by rfl
theorem zi_82_26 : (zM 82).1[26]? = some (.iconst 0) := by rfl
theorem zi_82_27 : (zM 82).1[27]? = some (.goto ((29 : Nat) : Int)) := by rfl
theorem zi_82_28 : (zM 82).1[28]? = some (.iconst 1) := by rfl
theorem zi_82_29 : (zM 82).1[29]? = some (.putfield 8003) := by rfl
theorem zi_82_30 : (zM 82).1[30]? = some (.return_) := by rfl
def wb_82_17 (E : Nat → Nat) (d : Nat) (Q : Option Value → ZH → Prop) (a0 : Nat) (h : ZH) : Prop := ztag h a0 = 8 ∧ Ct E d 84 [.ref a0] h (fun v h3 => ∃ x4 : Int32, v = some (.int x4) ∧ ztag h3 a0 = 8 ∧ ∀ h6 : ZH, h6 = (zuI h3 a0 4 x4) → ∀ h7 : ZH, h7 = (zuI h6 a0 3 (if ¬ (zI h6 a0 4 : Int32) = ((-4) : Int32) then 1 else 0)) → Q none h7)
set_option maxRecDepth 20000 in
theorem okb_82_17 {E : Nat → Nat} {d : Nat} {Q : Option Value → ZH → Prop} {a0 : Nat} {h : ZH} (hw : wb_82_17 E d Q a0 h) : Gx E (d + 1) 82 17 [.ref a0] [] h Q := by
  unfold wb_82_17 at hw
  refine zg_aload zi_82_17 rfl ?_
  refine zg_aload zi_82_18 rfl ?_
  obtain ⟨t2, hw⟩ := hw
  refine Gx.call2 (as := [.ref a0]) (rest := [.ref a0]) zq_84 zi_82_19 rfl rfl rfl (Nat.le_of_ble_eq_true rfl) (Nat.le_of_ble_eq_true rfl) (zrv_v t2 rfl rfl) (Nat.le_of_ble_eq_true rfl) ?_
  refine Ct.mono hw ?_
  rintro v h3 ⟨x4, rfl, hw⟩
  show Gx E (d + 1) 82 20 [.ref a0] [.int x4, .ref a0] h3 Q
  obtain ⟨t5, hw⟩ := hw
  refine zg_putI (h1 := zuI h3 a0 4 x4) zi_82_20 t5 (by rfl) rfl ?_
  refine zg_nameH fun h6 eh6 => ?_
  have hw := hw h6 eh6
  refine zg_aload zi_82_21 rfl ?_
  refine zg_aload zi_82_22 rfl ?_
  refine zg_getI (v := .int (zI h6 a0 4)) zi_82_23 (by rw [eh6]; exact t5) (by rfl) rfl ?_
  refine zg_const (v := (-4)) zi_82_24 (by rfl) ?_
  have g25 : Gx E (d + 1) 82 29 [.ref a0] [.int (if ¬ (zI h6 a0 4 : Int32) = ((-4) : Int32) then 1 else 0), .ref a0] h6 Q := by
    refine zg_putI (h1 := zuI h6 a0 3 (if ¬ (zI h6 a0 4 : Int32) = ((-4) : Int32) then 1 else 0)) zi_82_29 (by rw [eh6]; exact t5) (by rfl) rfl ?_
    refine zg_nameH fun h7 eh7 => ?_
    have hw := hw h7 eh7
    exact zg_return zi_82_30 hw
  refine zg_icmp_ne zi_82_25 (fun hc25 => ?_) (fun hc25 => ?_)
  · skip
    refine zg_const (v := 1) zi_82_28 (by rfl) ?_
    have hg := g25
    simp only [if_pos hc25] at hg
    exact hg
  · skip
    refine zg_const (v := 0) zi_82_26 (by rfl) ?_
    refine zg_goto zi_82_27 ?_
    have hg := g25
    simp only [if_neg hc25] at hg
    exact hg
def wl_82_0 (E : Nat → Nat) (d : Nat) (Q : Option Value → ZH → Prop) : Nat → Nat → ZH → Prop
  | 0, _, _ => False
  | n + 1, a0, h => ztag h a0 = 8 ∧ (((zI h a0 1 : Int32) ≤ (zI h a0 2 : Int32) → (wb_82_17 E d Q a0 h)) ∧ (¬ ((zI h a0 1 : Int32) ≤ (zI h a0 2 : Int32)) → (1 ≤ d ∧ sz_80 E h a0 (zI h a0 2) ∧ (((fz_80 E h a0 (zI h a0 2) : Int32) = 0 → (wb_82_17 E d Q a0 h)) ∧ (¬ ((fz_80 E h a0 (zI h a0 2) : Int32) = 0) → (∀ h8 : ZH, h8 = (zuI h a0 2 ((zI h a0 2) + 1)) → wl_82_0 E d Q n a0 h8))))))
set_option maxRecDepth 20000 in
theorem okl_82_0 {E : Nat → Nat} {d : Nat} {Q : Option Value → ZH → Prop} : ∀ (n : Nat) (a0 : Nat) (h : ZH), wl_82_0 E d Q n a0 h → Gx E (d + 1) 82 0 [.ref a0] [] h Q := by
  intro n
  induction n with
  | zero => intro a0 h hw; exact hw.elim
  | succ n ih =>
    intro a0 h hw
    rw [wl_82_0] at hw
    refine zg_aload zi_82_0 rfl ?_
    obtain ⟨t1, hw⟩ := hw
    refine zg_getI (v := .int (zI h a0 2)) zi_82_1 t1 (by rfl) rfl ?_
    refine zg_aload zi_82_2 rfl ?_
    refine zg_getI (v := .int (zI h a0 1)) zi_82_3 t1 (by rfl) rfl ?_
    refine zg_icmp_ge zi_82_4 (fun hc => ?_) (fun hc => ?_)
    · have hw := hw.1 hc
      exact okb_82_17 hw
    · have hw := hw.2 hc
      refine zg_aload zi_82_5 rfl ?_
      refine zg_aload zi_82_6 rfl ?_
      refine zg_getI (v := .int (zI h a0 2)) zi_82_7 t1 (by rfl) rfl ?_
      obtain ⟨hd, hs, hw⟩ := hw
      refine Gx.call2 (as := [.ref a0, .int (zI h a0 2)]) (rest := []) zq_80 zi_82_8 rfl rfl rfl (Nat.le_of_ble_eq_true rfl) (Nat.le_of_ble_eq_true rfl) (zrv_v t1 rfl rfl) (Nat.le_of_ble_eq_true rfl) ?_
      refine cz_80 hd hs ?_
      show Gx E (d + 1) 82 9 [.ref a0] [.int (fz_80 E h a0 (zI h a0 2))] h Q
      refine zg_if_eq zi_82_9 (fun hc => ?_) (fun hc => ?_)
      · have hw := hw.1 hc
        exact okb_82_17 hw
      · have hw := hw.2 hc
        refine zg_aload zi_82_10 rfl ?_
        refine zg_dup zi_82_11 rfl ?_
        refine zg_getI (v := .int (zI h a0 2)) zi_82_12 t1 (by rfl) rfl ?_
        refine zg_const (v := 1) zi_82_13 (by rfl) ?_
        refine zg_iadd zi_82_14 ?_
        refine zg_putI (h1 := zuI h a0 2 ((zI h a0 2) + 1)) zi_82_15 t1 (by rfl) rfl ?_
        refine zg_nameH fun h8 eh8 => ?_
        have hw := hw h8 eh8
        refine zg_goto zi_82_16 ?_
        exact ih a0 h8 hw
/-- TakeOrPay$Tape.readName()V -/
def w_82 (E : Nat → Nat) (d : Nat) (a0 : Nat) (h : ZH) (Q : Option Value → ZH → Prop) : Prop := ∃ mm : Nat, wl_82_0 E d Q mm a0 h
set_option maxRecDepth 20000 in
theorem ok_82 {E : Nat → Nat} {d : Nat} {a0 : Nat} {h : ZH} {Q : Option Value → ZH → Prop} (hw : w_82 E d a0 h Q) : Ct E (d + 1) 82 [.ref a0] h Q := by
  unfold w_82 at hw
  show Gx E (d + 1) 82 0 [.ref a0] [] h Q
  obtain ⟨mm, hw⟩ := hw
  exact okl_82_0 mm a0 h hw
theorem zq_81 : zQ 81 2 2 8 := by unfold zQ; decide +kernel
theorem zi_81_0 : (zM 81).1[0]? = some (.aload 0) := by rfl
theorem zi_81_1 : (zM 81).1[1]? = some (.getfield 8200) := by rfl
theorem zi_81_2 : (zM 81).1[2]? = some (.iload 1) := by rfl
theorem zi_81_3 : (zM 81).1[3]? = some (.baload) := by rfl
theorem zi_81_4 : (zM 81).1[4]? = some (.iconst 48) := by rfl
theorem zi_81_5 : (zM 81).1[5]? = some (.if_icmp .lt ((14 : Nat) : Int)) := by rfl
theorem zi_81_6 : (zM 81).1[6]? = some (.aload 0) := by rfl
theorem zi_81_7 : (zM 81).1[7]? = some (.getfield 8200) := by rfl
theorem zi_81_8 : (zM 81).1[8]? = some (.iload 1) := by rfl
theorem zi_81_9 : (zM 81).1[9]? = some (.baload) := by rfl
theorem zi_81_10 : (zM 81).1[10]? = some (.iconst 57) := by rfl
theorem zi_81_11 : (zM 81).1[11]? = some (.if_icmp .gt ((14 : Nat) : Int)) := by rfl
theorem zi_81_12 : (zM 81).1[12]? = some (.iconst 1) := by rfl
theorem zi_81_13 : (zM 81).1[13]? = some (.goto ((15 : Nat) : Int)) := by rfl
theorem zi_81_14 : (zM 81).1[14]? = some (.iconst 0) := by rfl
theorem zi_81_15 : (zM 81).1[15]? = some (.ireturn) := by rfl
/-- TakeOrPay$Tape.isFigure(I)Z -/
def w_81 (E : Nat → Nat) (d : Nat) (a0 : Nat) (a1 : Int32) (h : ZH) (Q : Option Value → ZH → Prop) : Prop := ztag h a0 = 8 ∧ ∃ r2 : Nat, zR h a0 0 = r2 + 1 ∧ (ztag h r2 = 12 ∨ ztag h r2 = 15) ∧ zin a1 (zlen h r2) = true ∧ ((((zI h r2 a1.toNatClampNeg : Int32) < 48 → (True)) ∧ (¬ ((zI h r2 a1.toNatClampNeg : Int32) < 48) → (zin a1 (zlen h r2) = true ∧ True))) ∧ Q (some (.int (if (zI h r2 a1.toNatClampNeg : Int32) < 48 then 0 else if 57 < (zI h r2 a1.toNatClampNeg : Int32) then 0 else 1))) h)
set_option maxRecDepth 20000 in
theorem ok_81 {E : Nat → Nat} {d : Nat} {a0 : Nat} {a1 : Int32} {h : ZH} {Q : Option Value → ZH → Prop} (hw : w_81 E d a0 a1 h Q) : Ct E (d + 1) 81 [.ref a0, .int a1] h Q := by
  unfold w_81 at hw
  show Gx E (d + 1) 81 0 [.ref a0, .int a1] [] h Q
  refine zg_aload zi_81_0 rfl ?_
  obtain ⟨t1, hw⟩ := hw
  obtain ⟨r2, er2, hw⟩ := hw
  refine zg_getR (v := .ref r2) zi_81_1 t1 (by rfl) (by show zrv (zR h a0 0) = _; rw [er2]; rfl) ?_
  refine zg_iload zi_81_2 rfl ?_
  obtain ⟨t3, hw⟩ := hw
  obtain ⟨hb, hw⟩ := hw
  refine zg_baload (v := .int (zI h r2 a1.toNatClampNeg)) zi_81_3 t3 hb rfl ?_
  refine zg_const (v := 48) zi_81_4 (by rfl) ?_
  obtain ⟨hsd5, hw⟩ := hw
  have g5 : Gx E (d + 1) 81 15 [.ref a0, .int a1] [.int (if (zI h r2 a1.toNatClampNeg : Int32) < 48 then 0 else if 57 < (zI h r2 a1.toNatClampNeg : Int32) then 0 else 1)] h Q := by
    exact zg_zreturn zi_81_15 (by (repeat' split) <;> first | (left; rfl) | (right; rfl)) hw
  refine zg_icmp_lt zi_81_5 (fun hc5 => ?_) (fun hc5 => ?_)
  · have hw := hsd5.1 hc5
    refine zg_const (v := 0) zi_81_14 (by rfl) ?_
    have hg := g5
    simp only [if_pos hc5] at hg
    exact hg
  · have hw := hsd5.2 hc5
    refine zg_aload zi_81_6 rfl ?_
    refine zg_getR (v := .ref r2) zi_81_7 t1 (by rfl) (by show zrv (zR h a0 0) = _; rw [er2]; rfl) ?_
    refine zg_iload zi_81_8 rfl ?_
    obtain ⟨hb, hw⟩ := hw
    refine zg_baload (v := .int (zI h r2 a1.toNatClampNeg)) zi_81_9 t3 hb rfl ?_
    refine zg_const (v := 57) zi_81_10 (by rfl) ?_
    have g11 : Gx E (d + 1) 81 15 [.ref a0, .int a1] [.int (if 57 < (zI h r2 a1.toNatClampNeg : Int32) then 0 else 1)] h Q := by
      have hg := g5
      simp only [if_neg hc5] at hg
      exact hg
    refine zg_icmp_gt zi_81_11 (fun hc11 => ?_) (fun hc11 => ?_)
    · skip
      refine zg_const (v := 0) zi_81_14 (by rfl) ?_
      have hg := g11
      simp only [if_pos hc11] at hg
      exact hg
    · skip
      refine zg_const (v := 1) zi_81_12 (by rfl) ?_
      refine zg_goto zi_81_13 ?_
      have hg := g11
      simp only [if_neg hc11] at hg
      exact hg
def fz_81 (E : Nat → Nat) (h : ZH) (a0 : Nat) (a1 : Int32) : Int32 := (fun r2 : Nat => if (zI h r2 a1.toNatClampNeg : Int32) < 48 then 0 else if 57 < (zI h r2 a1.toNatClampNeg : Int32) then 0 else 1) (zR h a0 0 - 1)
def sz_81 (E : Nat → Nat) (h : ZH) (a0 : Nat) (a1 : Int32) : Prop := ztag h a0 = 8 ∧ ∃ r2 : Nat, zR h a0 0 = r2 + 1 ∧ (ztag h r2 = 12 ∨ ztag h r2 = 15) ∧ zin a1 (zlen h r2) = true ∧ ((((zI h r2 a1.toNatClampNeg : Int32) < 48 → (True)) ∧ (¬ ((zI h r2 a1.toNatClampNeg : Int32) < 48) → (zin a1 (zlen h r2) = true ∧ True))) ∧ True)
set_option maxRecDepth 20000 in
theorem fb_81 {E : Nat → Nat} {h : ZH} {a0 : Nat} {a1 : Int32} : fz_81 E h a0 a1 = 0 ∨ fz_81 E h a0 a1 = 1 := by
  unfold fz_81
  (try dsimp only)
  (repeat' split) <;> first | (left; rfl) | (right; rfl)
set_option maxRecDepth 20000 in
theorem cz_81 {E : Nat → Nat} {d : Nat} {a0 : Nat} {a1 : Int32} {h : ZH} {Q : Option Value → ZH → Prop} (hd : 1 ≤ d) (hs : sz_81 E h a0 a1) (hq : Q (some (.int (fz_81 E h a0 a1))) h) : Ct E d 81 [.ref a0, .int a1] h Q := by
  obtain ⟨d, rfl⟩ : ∃ n, d = n + 1 := ⟨d - 1, by omega⟩
  refine ok_81 ?_
  unfold w_81
  unfold sz_81 at hs
  unfold fz_81 at hq
  refine ⟨hs.1, ?_⟩
  have hs := hs.2
  obtain ⟨r2, hr, hs⟩ := hs
  refine ⟨r2, hr, ?_⟩
  rw [hr] at hq
  simp only [Nat.add_sub_cancel] at hq
  refine ⟨hs.1, ?_⟩
  have hs := hs.2
  refine ⟨hs.1, ?_⟩
  have hs := hs.2
  refine ⟨⟨fun hc => ?_, fun hc => ?_⟩, ?_⟩
  · have hs := hs.1.1 hc
    trivial
  · have hs := hs.1.2 hc
    refine ⟨hs.1, ?_⟩
    have hs := hs.2
    trivial
  have hs := hs.2
  exact hq
theorem zq_83 : zQ 83 1 1 8 := by unfold zQ; decide +kernel
theorem zi_83_0 : (zM 83).1[0]? = some (.aload 0) := by rfl
theorem zi_83_1 : (zM 83).1[1]? = some (.getfield 8002) := by rfl
theorem zi_83_2 : (zM 83).1[2]? = some (.aload 0) := by rfl
theorem zi_83_3 : (zM 83).1[3]? = some (.getfield 8001) := by rfl
theorem zi_83_4 : (zM 83).1[4]? = some (.if_icmp .ge ((41 : Nat) : Int)) := by rfl
theorem zi_83_5 : (zM 83).1[5]? = some (.aload 0) := by rfl
theorem zi_83_6 : (zM 83).1[6]? = some (.aload 0) := by rfl
theorem zi_83_7 : (zM 83).1[7]? = some (.getfield 8002) := by rfl
theorem zi_83_8 : (zM 83).1[8]? = some (.invokevirtual 81) := by rfl
theorem zi_83_9 : (zM 83).1[9]? = some (.ifCond .eq ((41 : Nat) : Int)) := by rfl
theorem zi_83_10 : (zM 83).1[10]? = some (.aload 0) := by rfl
theorem zi_83_11 : (zM 83).1[11]? = some (.aload 0) := by rfl
theorem zi_83_12 : (zM 83).1[12]? = some (.getfield 8002) := by rfl
theorem zi_83_13 : (zM 83).1[13]? = some (.aload 0) := by rfl
theorem zi_83_14 : (zM 83).1[14]? = some (.getfield 8005) := by rfl
theorem zi_83_15 : (zM 83).1[15]? = some (.isub) := by rfl
theorem zi_83_16 : (zM 83).1[16]? = some (.iconst 3) := by rfl
theorem zi_83_17 : (zM 83).1[17]? = some (.if_icmp .ge ((31 : Nat) : Int)) := by rfl
theorem zi_83_18 : (zM 83).1[18]? = some (.iconst 10) := by rfl
theorem zi_83_19 : (zM 83).1[19]? = some (.aload 0) := by rfl
theorem zi_83_20 : (zM 83).1[20]? = some (.getfield 8004) := by rfl
theorem zi_83_21 : (zM 83).1[21]? = some (.imul) := by rfl
theorem zi_83_22 : (zM 83).1[22]? = some (.aload 0) := by rfl
theorem zi_83_23 : (zM 83).1[23]? = some (.getfield 8200) := by rfl
theorem zi_83_24 : (zM 83).1[24]? = some (.aload 0) := by rfl
theorem zi_83_25 : (zM 83).1[25]? = some (.getfield 8002) := by rfl
theorem zi_83_26 : (zM 83).1[26]? = some (.baload) := by rfl
theorem zi_83_27 : (zM 83).1[27]? = some (.iadd) := by rfl
theorem zi_83_28 : (zM 83).1[28]? = some (.iconst 48) := by rfl
theorem zi_83_29 : (zM 83).1[29]? = some (.isub) := by rfl
theorem zi_83_30 : (zM 83).1[30]? = some (.goto ((33 : Nat) : Int)) := by rfl
theorem zi_83_31 : (zM 83).1[31]? = some (.aload 0) := by rfl
theorem zi_83_32 : (zM 83).1[32]? = some (.getfield 8004) := by rfl
theorem zi_83_33 : (zM 83).1[33]? = some (.putfield 8004) := by rfl
theorem zi_83_34 : (zM 83).1[34]? = some (.aload 0) := by rfl
theorem zi_83_35 : (zM 83).1[35]? = some (.dup) := by rfl
theorem zi_83_36 : (zM 83).1[36]? = some (.getfield 8002) := by rfl
theorem zi_83_37 : (zM 83).1[37]? = some (.iconst 1) := by rfl
theorem zi_83_38 : (zM 83).1[38]? = some (.iadd) := by rfl
theorem zi_83_39 : (zM 83).1[39]? = some (.putfield 8002) := by rfl
theorem zi_83_40 : (zM 83).1[40]? = some (.goto ((0 : Nat) : Int)) := by rfl
theorem zi_83_41 : (zM 83).1[41]? = some (.aload 0) := by rfl
theorem zi_83_42 : (zM 83).1[42]? = some (.aload 0) := by rfl
theorem zi_83_43 : (zM 83).1[43]? = some (.getfield 8002) := by rfl
theorem zi_83_44 : (zM 83).1[44]? = some (.aload 0) := by rfl
theorem zi_83_45 : (zM 83).1[45]? = some (.getfield 8005) := by rfl
theorem zi_83_46 : (zM 83).1[46]? = some (.isub) := by rfl
theorem zi_83_47 : (zM 83).1[47]? = some (.iconst 3) := by rfl
theorem zi_83_48 : (zM 83).1[48]? = some (.if_icmp .le ((51 : Nat) : Int)) := by rfl
theorem zi_83_49 : (zM 83).1[49]? = some (.iconst 0) := by rfl
theorem zi_83_50 : (zM 83).1[50]? = some (.goto ((52 : Nat) : Int)) := by rfl
theorem zi_83_51 : (zM 83).1[51]? = some (.iconst 2) := by rfl
theorem zi_83_52 : (zM 83).1[52]? = some (.putfield 8003) := by rfl
theorem zi_83_53 : (zM 83).1[53]? = some (.return_) := by rfl
def wb_83_41 (E : Nat → Nat) (d : Nat) (Q : Option Value → ZH → Prop) (a0 : Nat) (h : ZH) : Prop := ztag h a0 = 8 ∧ ∀ h3 : ZH, h3 = (zuI h a0 3 (if ((zI h a0 2) - (zI h a0 5) : Int32) ≤ 3 then 2 else 0)) → Q none h3
set_option maxRecDepth 20000 in
theorem okb_83_41 {E : Nat → Nat} {d : Nat} {Q : Option Value → ZH → Prop} {a0 : Nat} {h : ZH} (hw : wb_83_41 E d Q a0 h) : Gx E (d + 1) 83 41 [.ref a0] [] h Q := by
  unfold wb_83_41 at hw
  refine zg_aload zi_83_41 rfl ?_
  refine zg_aload zi_83_42 rfl ?_
  obtain ⟨t2, hw⟩ := hw
  refine zg_getI (v := .int (zI h a0 2)) zi_83_43 t2 (by rfl) rfl ?_
  refine zg_aload zi_83_44 rfl ?_
  refine zg_getI (v := .int (zI h a0 5)) zi_83_45 t2 (by rfl) rfl ?_
  refine zg_isub zi_83_46 ?_
  refine zg_const (v := 3) zi_83_47 (by rfl) ?_
  have g48 : Gx E (d + 1) 83 52 [.ref a0] [.int (if ((zI h a0 2) - (zI h a0 5) : Int32) ≤ 3 then 2 else 0), .ref a0] h Q := by
    refine zg_putI (h1 := zuI h a0 3 (if ((zI h a0 2) - (zI h a0 5) : Int32) ≤ 3 then 2 else 0)) zi_83_52 t2 (by rfl) rfl ?_
    refine zg_nameH fun h3 eh3 => ?_
    have hw := hw h3 eh3
    exact zg_return zi_83_53 hw
  refine zg_icmp_le zi_83_48 (fun hc48 => ?_) (fun hc48 => ?_)
  · skip
    refine zg_const (v := 2) zi_83_51 (by rfl) ?_
    have hg := g48
    simp only [if_pos hc48] at hg
    exact hg
  · skip
    refine zg_const (v := 0) zi_83_49 (by rfl) ?_
    refine zg_goto zi_83_50 ?_
    have hg := g48
    simp only [if_neg hc48] at hg
    exact hg
def wl_83_0 (E : Nat → Nat) (d : Nat) (Q : Option Value → ZH → Prop) : Nat → Nat → ZH → Prop
  | 0, _, _ => False
  | n + 1, a0, h => ztag h a0 = 8 ∧ (((zI h a0 1 : Int32) ≤ (zI h a0 2 : Int32) → (wb_83_41 E d Q a0 h)) ∧ (¬ ((zI h a0 1 : Int32) ≤ (zI h a0 2 : Int32)) → (1 ≤ d ∧ sz_81 E h a0 (zI h a0 2) ∧ (((fz_81 E h a0 (zI h a0 2) : Int32) = 0 → (wb_83_41 E d Q a0 h)) ∧ (¬ ((fz_81 E h a0 (zI h a0 2) : Int32) = 0) → (((3 ≤ ((zI h a0 2) - (zI h a0 5) : Int32) → (True)) ∧ (¬ (3 ≤ ((zI h a0 2) - (zI h a0 5) : Int32)) → (¬ zR h a0 0 = 0 ∧ (ztag h (zR h a0 0 - 1) = 12 ∨ ztag h (zR h a0 0 - 1) = 15) ∧ zin (zI h a0 2) (zlen h (zR h a0 0 - 1)) = true ∧ True))) ∧ ∀ h5 : ZH, h5 = (zuI h a0 4 (if 3 ≤ ((zI h a0 2) - (zI h a0 5) : Int32) then zI h a0 4 else ((10 * (zI h a0 4)) + (zI h (zR h a0 0 - 1) (zI h a0 2 : Int32).toNatClampNeg)) - 48)) → ∀ h6 : ZH, h6 = (zuI h5 a0 2 ((zI h5 a0 2) + 1)) → wl_83_0 E d Q n a0 h6))))))
set_option maxRecDepth 20000 in
theorem okl_83_0 {E : Nat → Nat} {d : Nat} {Q : Option Value → ZH → Prop} : ∀ (n : Nat) (a0 : Nat) (h : ZH), wl_83_0 E d Q n a0 h → Gx E (d + 1) 83 0 [.ref a0] [] h Q := by
  intro n
  induction n with
  | zero => intro a0 h hw; exact hw.elim
  | succ n ih =>
    intro a0 h hw
    rw [wl_83_0] at hw
    refine zg_aload zi_83_0 rfl ?_
    obtain ⟨t1, hw⟩ := hw
    refine zg_getI (v := .int (zI h a0 2)) zi_83_1 t1 (by rfl) rfl ?_
    refine zg_aload zi_83_2 rfl ?_
    refine zg_getI (v := .int (zI h a0 1)) zi_83_3 t1 (by rfl) rfl ?_
    refine zg_icmp_ge zi_83_4 (fun hc => ?_) (fun hc => ?_)
    · have hw := hw.1 hc
      exact okb_83_41 hw
    · have hw := hw.2 hc
      refine zg_aload zi_83_5 rfl ?_
      refine zg_aload zi_83_6 rfl ?_
      refine zg_getI (v := .int (zI h a0 2)) zi_83_7 t1 (by rfl) rfl ?_
      obtain ⟨hd, hs, hw⟩ := hw
      refine Gx.call2 (as := [.ref a0, .int (zI h a0 2)]) (rest := []) zq_81 zi_83_8 rfl rfl rfl (Nat.le_of_ble_eq_true rfl) (Nat.le_of_ble_eq_true rfl) (zrv_v t1 rfl rfl) (Nat.le_of_ble_eq_true rfl) ?_
      refine cz_81 hd hs ?_
      show Gx E (d + 1) 83 9 [.ref a0] [.int (fz_81 E h a0 (zI h a0 2))] h Q
      refine zg_if_eq zi_83_9 (fun hc => ?_) (fun hc => ?_)
      · have hw := hw.1 hc
        exact okb_83_41 hw
      · have hw := hw.2 hc
        refine zg_aload zi_83_10 rfl ?_
        refine zg_aload zi_83_11 rfl ?_
        refine zg_getI (v := .int (zI h a0 2)) zi_83_12 t1 (by rfl) rfl ?_
        refine zg_aload zi_83_13 rfl ?_
        refine zg_getI (v := .int (zI h a0 5)) zi_83_14 t1 (by rfl) rfl ?_
        refine zg_isub zi_83_15 ?_
        refine zg_const (v := 3) zi_83_16 (by rfl) ?_
        obtain ⟨hsd17, hw⟩ := hw
        have g17 : Gx E (d + 1) 83 33 [.ref a0] [.int (if 3 ≤ ((zI h a0 2) - (zI h a0 5) : Int32) then zI h a0 4 else ((10 * (zI h a0 4)) + (zI h (zR h a0 0 - 1) (zI h a0 2 : Int32).toNatClampNeg)) - 48), .ref a0] h Q := by
          refine zg_putI (h1 := zuI h a0 4 (if 3 ≤ ((zI h a0 2) - (zI h a0 5) : Int32) then zI h a0 4 else ((10 * (zI h a0 4)) + (zI h (zR h a0 0 - 1) (zI h a0 2 : Int32).toNatClampNeg)) - 48)) zi_83_33 t1 (by rfl) rfl ?_
          refine zg_nameH fun h5 eh5 => ?_
          have hw := hw h5 eh5
          refine zg_aload zi_83_34 rfl ?_
          refine zg_dup zi_83_35 rfl ?_
          refine zg_getI (v := .int (zI h5 a0 2)) zi_83_36 (by rw [eh5]; exact t1) (by rfl) rfl ?_
          refine zg_const (v := 1) zi_83_37 (by rfl) ?_
          refine zg_iadd zi_83_38 ?_
          refine zg_putI (h1 := zuI h5 a0 2 ((zI h5 a0 2) + 1)) zi_83_39 (by rw [eh5]; exact t1) (by rfl) rfl ?_
          refine zg_nameH fun h6 eh6 => ?_
          have hw := hw h6 eh6
          refine zg_goto zi_83_40 ?_
          exact ih a0 h6 hw
        refine zg_icmp_ge zi_83_17 (fun hc17 => ?_) (fun hc17 => ?_)
        · have hw := hsd17.1 hc17
          refine zg_aload zi_83_31 rfl ?_
          refine zg_getI (v := .int (zI h a0 4)) zi_83_32 t1 (by rfl) rfl ?_
          have hg := g17
          simp only [if_pos hc17] at hg
          exact hg
        · have hw := hsd17.2 hc17
          refine zg_const (v := 10) zi_83_18 (by rfl) ?_
          refine zg_aload zi_83_19 rfl ?_
          refine zg_getI (v := .int (zI h a0 4)) zi_83_20 t1 (by rfl) rfl ?_
          refine zg_imul zi_83_21 ?_
          refine zg_aload zi_83_22 rfl ?_
          obtain ⟨hr, hw⟩ := hw
          refine zg_getR (v := .ref (zR h a0 0 - 1)) zi_83_23 t1 (by rfl) (zrv_p hr) ?_
          refine zg_aload zi_83_24 rfl ?_
          refine zg_getI (v := .int (zI h a0 2)) zi_83_25 t1 (by rfl) rfl ?_
          obtain ⟨t4, hw⟩ := hw
          obtain ⟨hb, hw⟩ := hw
          refine zg_baload (v := .int (zI h (zR h a0 0 - 1) (zI h a0 2 : Int32).toNatClampNeg)) zi_83_26 t4 hb rfl ?_
          refine zg_iadd zi_83_27 ?_
          refine zg_const (v := 48) zi_83_28 (by rfl) ?_
          refine zg_isub zi_83_29 ?_
          refine zg_goto zi_83_30 ?_
          have hg := g17
          simp only [if_neg hc17] at hg
          exact hg
/-- TakeOrPay$Tape.readNumber()V -/
def w_83 (E : Nat → Nat) (d : Nat) (a0 : Nat) (h : ZH) (Q : Option Value → ZH → Prop) : Prop := ∃ mm : Nat, wl_83_0 E d Q mm a0 h
set_option maxRecDepth 20000 in
theorem ok_83 {E : Nat → Nat} {d : Nat} {a0 : Nat} {h : ZH} {Q : Option Value → ZH → Prop} (hw : w_83 E d a0 h Q) : Ct E (d + 1) 83 [.ref a0] h Q := by
  unfold w_83 at hw
  show Gx E (d + 1) 83 0 [.ref a0] [] h Q
  obtain ⟨mm, hw⟩ := hw
  exact okl_83_0 mm a0 h hw
theorem zq_79 : zQ 79 1 1 8 := by unfold zQ; decide +kernel
theorem zi_79_0 : (zM 79).1[0]? = some (.aload 0) := by rfl
theorem zi_79_1 : (zM 79).1[1]? = some (.getfield 8002) := by rfl
theorem zi_79_2 : (zM 79).1[2]? = some (.aload 0) := by rfl
theorem zi_79_3 : (zM 79).1[3]? = some (.getfield 8001) := by rfl
theorem zi_79_4 : (zM 79).1[4]? = some (.if_icmp .ge ((19 : Nat) : Int)) := by rfl
theorem zi_79_5 : (zM 79).1[5]? = some (.aload 0) := by rfl
theorem zi_79_6 : (zM 79).1[6]? = some (.getfield 8200) := by rfl
theorem zi_79_7 : (zM 79).1[7]? = some (.aload 0) := by rfl
theorem zi_79_8 : (zM 79).1[8]? = some (.getfield 8002) := by rfl
theorem zi_79_9 : (zM 79).1[9]? = some (.baload) := by rfl
theorem zi_79_10 : (zM 79).1[10]? = some (.iconst 32) := by rfl
theorem zi_79_11 : (zM 79).1[11]? = some (.if_icmp .ne ((19 : Nat) : Int)) := by rfl
theorem zi_79_12 : (zM 79).1[12]? = some (.aload 0) := by rfl
theorem zi_79_13 : (zM 79).1[13]? = some (.dup) := by rfl
theorem zi_79_14 : (zM 79).1[14]? = some (.getfield 8002) := by rfl
theorem zi_79_15 : (zM 79).1[15]? = some (.iconst 1) := by rfl
theorem zi_79_16 : (zM 79).1[16]? = some (.iadd) := by rfl
theorem zi_79_17 : (zM 79).1[17]? = some (.putfield 8002) := by rfl
theorem zi_79_18 : (zM 79).1[18]? = some (.goto ((0 : Nat) : Int)) := by rfl
theorem zi_79_19 : (zM 79).1[19]? = some (.aload 0) := by rfl
theorem zi_79_20 : (zM 79).1[20]? = some (.aload 0) := by rfl
theorem zi_79_21 : (zM 79).1[21]? = some (.getfield 8002) := by rfl
theorem zi_79_22 : (zM 79).1[22]? = some (.putfield 8005) := by rfl
theorem zi_79_23 : (zM 79).1[23]? = some (.aload 0) := by rfl
theorem zi_79_24 : (zM 79).1[24]? = some (.iconst 0) := by rfl
theorem zi_79_25 : (zM 79).1[25]? = some (.putfield 8004) := by rfl
theorem zi_79_26 : (zM 79).1[26]? = some (.aload 0) := by rfl
theorem zi_79_27 : (zM 79).1[27]? = some (.getfield 8002) := by rfl
theorem zi_79_28 : (zM 79).1[28]? = some (.aload 0) := by rfl
theorem zi_79_29 : (zM 79).1[29]? = some (.getfield 8001) := by rfl
theorem zi_79_30 : (zM 79).1[30]? = some (.if_icmp .lt ((35 : Nat) : Int)) := by rfl
theorem zi_79_31 : (zM 79).1[31]? = some (.aload 0) := by rfl
theorem zi_79_32 : (zM 79).1[32]? = some (.iconst 4) := by rfl
theorem zi_79_33 : (zM 79).1[33]? = some (.putfield 8003) := by rfl
theorem zi_79_34 : (zM 79).1[34]? = some (.goto ((69 : Nat) : Int)) := by rfl
theorem zi_79_35 : (zM 79).1[35]? = some (.aload 0) := by rfl
theorem zi_79_36 : (zM 79).1[36]? = some (.aload 0) := by rfl
theorem zi_79_37 : (zM 79).1[37]? = some (.getfield 8002) := by rfl
theorem zi_79_38 : (zM 79).1[38]? = some (.invokevirtual 80) := by rfl
theorem zi_79_39 : (zM 79).1[39]? = some (.ifCond .eq ((43 : Nat) : Int)) := by rfl
theorem zi_79_40 : (zM 79).1[40]? = some (.aload 0) := by rfl
theorem zi_79_41 : (zM 79).1[41]? = some (.invokevirtual 82) := by rfl
theorem zi_79_42 : (zM 79).1[42]? = some (.goto ((69 : Nat) : Int)) := by rfl
theorem zi_79_43 : (zM 79).1[43]? = some (.aload 0) := by rfl
theorem zi_79_44 : (zM 79).1[44]? = some (.aload 0) := by rfl
theorem zi_79_45 : (zM 79).1[45]? = some (.getfield 8002) := by rfl
theorem zi_79_46 : (zM 79).1[46]? = some (.invokevirtual 81) := by rfl
theorem zi_79_47 : (zM 79).1[47]? = some (.ifCond .eq ((51 : Nat) : Int)) := by rfl
theorem zi_79_48 : (zM 79).1[48]? = some (.aload 0) := by rfl
theorem zi_79_49 : (zM 79).1[49]? = some (.invokevirtual 83) := by rfl
theorem zi_79_50 : (zM 79).1[50]? = some (.goto ((69 : Nat) : Int)) := by rfl
theorem zi_79_51 : (zM 79).1[51]? = some (.aload 0) := by rfl
theorem zi_79_52 : (zM 79).1[52]? = some (.aload 0) := by rfl
theorem zi_79_53 : (zM 79).1[53]? = some (.getfield 8200) := by rfl
theorem zi_79_54 : (zM 79).1[54]? = some (.aload 0) := by rfl
theorem zi_79_55 : (zM 79).1[55]? = some (.getfield 8002) := by rfl
theorem zi_79_56 : (zM 79).1[56]? = some (.baload) := by rfl
theorem zi_79_57 : (zM 79).1[57]? = some (.iconst 59) := by rfl
theorem zi_79_58 : (zM 79).1[58]? = some (.if_icmp .ne ((61 : Nat) : Int)) := by rfl
theorem zi_79_59 : (zM 79).1[59]? = some (.iconst 3) := by rfl
theorem zi_79_60 : (zM 79).1[60]? = some (.goto ((62 : Nat) : Int)) := by rfl
theorem zi_79_61 : (zM 79).1[61]? = some (.iconst 0) := by rfl
theorem zi_79_62 : (zM 79).1[62]? = some (.putfield 8003) := by rfl
theorem zi_79_63 : (zM 79).1[63]? = some (.aload 0) := by rfl
theorem zi_79_64 : (zM 79).1[64]? = some (.dup) := by rfl
theorem zi_79_65 : (zM 79).1[65]? = some (.getfield 8002) := by rfl
theorem zi_79_66 : (zM 79).1[66]? = some (.iconst 1) := by rfl
theorem zi_79_67 : (zM 79).1[67]? = some (.iadd) := by rfl
theorem zi_79_68 : (zM 79).1[68]? = some (.putfield 8002) := by rfl
theorem zi_79_69 : (zM 79).1[69]? = some (.return_) := by rfl
def wb_79_19 (E : Nat → Nat) (d : Nat) (Q : Option Value → ZH → Prop) (a0 : Nat) (h : ZH) : Prop := ztag h a0 = 8 ∧ ∀ h3 : ZH, h3 = (zuI h a0 5 (zI h a0 2)) → ∀ h4 : ZH, h4 = (zuI h3 a0 4 0) → (((zI h4 a0 2 : Int32) < (zI h4 a0 1 : Int32) → (1 ≤ d ∧ sz_80 E h4 a0 (zI h4 a0 2) ∧ (((fz_80 E h4 a0 (zI h4 a0 2) : Int32) = 0 → (1 ≤ d ∧ sz_81 E h4 a0 (zI h4 a0 2) ∧ (((fz_81 E h4 a0 (zI h4 a0 2) : Int32) = 0 → (∃ r5 : Nat, zR h4 a0 0 = r5 + 1 ∧ (ztag h4 r5 = 12 ∨ ztag h4 r5 = 15) ∧ zin (zI h4 a0 2) (zlen h4 r5) = true ∧ ∀ h7 : ZH, h7 = (zuI h4 a0 3 (if ¬ (zI h4 r5 (zI h4 a0 2 : Int32).toNatClampNeg : Int32) = 59 then 0 else 3)) → ∀ h8 : ZH, h8 = (zuI h7 a0 2 ((zI h7 a0 2) + 1)) → Q none h8)) ∧ (¬ ((fz_81 E h4 a0 (zI h4 a0 2) : Int32) = 0) → (Ct E d 83 [.ref a0] h4 (fun v h9 => v = none ∧ Q none h9)))))) ∧ (¬ ((fz_80 E h4 a0 (zI h4 a0 2) : Int32) = 0) → (Ct E d 82 [.ref a0] h4 (fun v h10 => v = none ∧ Q none h10)))))) ∧ (¬ ((zI h4 a0 2 : Int32) < (zI h4 a0 1 : Int32)) → (∀ h11 : ZH, h11 = (zuI h4 a0 3 4) → Q none h11)))
set_option maxRecDepth 20000 in
theorem okb_79_19 {E : Nat → Nat} {d : Nat} {Q : Option Value → ZH → Prop} {a0 : Nat} {h : ZH} (hw : wb_79_19 E d Q a0 h) : Gx E (d + 1) 79 19 [.ref a0] [] h Q := by
  unfold wb_79_19 at hw
  refine zg_aload zi_79_19 rfl ?_
  refine zg_aload zi_79_20 rfl ?_
  obtain ⟨t2, hw⟩ := hw
  refine zg_getI (v := .int (zI h a0 2)) zi_79_21 t2 (by rfl) rfl ?_
  refine zg_putI (h1 := zuI h a0 5 (zI h a0 2)) zi_79_22 t2 (by rfl) rfl ?_
  refine zg_nameH fun h3 eh3 => ?_
  have hw := hw h3 eh3
  refine zg_aload zi_79_23 rfl ?_
  refine zg_const (v := 0) zi_79_24 (by rfl) ?_
  refine zg_putI (h1 := zuI h3 a0 4 0) zi_79_25 (by rw [eh3]; exact t2) (by rfl) rfl ?_
  refine zg_nameH fun h4 eh4 => ?_
  have hw := hw h4 eh4
  refine zg_aload zi_79_26 rfl ?_
  refine zg_getI (v := .int (zI h4 a0 2)) zi_79_27 (by rw [eh4, eh3]; exact t2) (by rfl) rfl ?_
  refine zg_aload zi_79_28 rfl ?_
  refine zg_getI (v := .int (zI h4 a0 1)) zi_79_29 (by rw [eh4, eh3]; exact t2) (by rfl) rfl ?_
  refine zg_icmp_lt zi_79_30 (fun hc => ?_) (fun hc => ?_)
  · have hw := hw.1 hc
    refine zg_aload zi_79_35 rfl ?_
    refine zg_aload zi_79_36 rfl ?_
    refine zg_getI (v := .int (zI h4 a0 2)) zi_79_37 (by rw [eh4, eh3]; exact t2) (by rfl) rfl ?_
    obtain ⟨hd, hs, hw⟩ := hw
    refine Gx.call2 (as := [.ref a0, .int (zI h4 a0 2)]) (rest := []) zq_80 zi_79_38 rfl rfl rfl (Nat.le_of_ble_eq_true rfl) (Nat.le_of_ble_eq_true rfl) (zrv_v (by rw [eh4, eh3]; exact t2) rfl rfl) (Nat.le_of_ble_eq_true rfl) ?_
    refine cz_80 hd hs ?_
    show Gx E (d + 1) 79 39 [.ref a0] [.int (fz_80 E h4 a0 (zI h4 a0 2))] h4 Q
    refine zg_if_eq zi_79_39 (fun hc => ?_) (fun hc => ?_)
    · have hw := hw.1 hc
      refine zg_aload zi_79_43 rfl ?_
      refine zg_aload zi_79_44 rfl ?_
      refine zg_getI (v := .int (zI h4 a0 2)) zi_79_45 (by rw [eh4, eh3]; exact t2) (by rfl) rfl ?_
      obtain ⟨hd, hs, hw⟩ := hw
      refine Gx.call2 (as := [.ref a0, .int (zI h4 a0 2)]) (rest := []) zq_81 zi_79_46 rfl rfl rfl (Nat.le_of_ble_eq_true rfl) (Nat.le_of_ble_eq_true rfl) (zrv_v (by rw [eh4, eh3]; exact t2) rfl rfl) (Nat.le_of_ble_eq_true rfl) ?_
      refine cz_81 hd hs ?_
      show Gx E (d + 1) 79 47 [.ref a0] [.int (fz_81 E h4 a0 (zI h4 a0 2))] h4 Q
      refine zg_if_eq zi_79_47 (fun hc => ?_) (fun hc => ?_)
      · have hw := hw.1 hc
        refine zg_aload zi_79_51 rfl ?_
        refine zg_aload zi_79_52 rfl ?_
        obtain ⟨r5, er5, hw⟩ := hw
        refine zg_getR (v := .ref r5) zi_79_53 (by rw [eh4, eh3]; exact t2) (by rfl) (by show zrv (zR h4 a0 0) = _; rw [er5]; rfl) ?_
        refine zg_aload zi_79_54 rfl ?_
        refine zg_getI (v := .int (zI h4 a0 2)) zi_79_55 (by rw [eh4, eh3]; exact t2) (by rfl) rfl ?_
        obtain ⟨t6, hw⟩ := hw
        obtain ⟨hb, hw⟩ := hw
        refine zg_baload (v := .int (zI h4 r5 (zI h4 a0 2 : Int32).toNatClampNeg)) zi_79_56 t6 hb rfl ?_
        refine zg_const (v := 59) zi_79_57 (by rfl) ?_
        have g58 : Gx E (d + 1) 79 62 [.ref a0] [.int (if ¬ (zI h4 r5 (zI h4 a0 2 : Int32).toNatClampNeg : Int32) = 59 then 0 else 3), .ref a0] h4 Q := by
          refine zg_putI (h1 := zuI h4 a0 3 (if ¬ (zI h4 r5 (zI h4 a0 2 : Int32).toNatClampNeg : Int32) = 59 then 0 else 3)) zi_79_62 (by rw [eh4, eh3]; exact t2) (by rfl) rfl ?_
          refine zg_nameH fun h7 eh7 => ?_
          have hw := hw h7 eh7
          refine zg_aload zi_79_63 rfl ?_
          refine zg_dup zi_79_64 rfl ?_
          refine zg_getI (v := .int (zI h7 a0 2)) zi_79_65 (by rw [eh7, eh4, eh3]; exact t2) (by rfl) rfl ?_
          refine zg_const (v := 1) zi_79_66 (by rfl) ?_
          refine zg_iadd zi_79_67 ?_
          refine zg_putI (h1 := zuI h7 a0 2 ((zI h7 a0 2) + 1)) zi_79_68 (by rw [eh7, eh4, eh3]; exact t2) (by rfl) rfl ?_
          refine zg_nameH fun h8 eh8 => ?_
          have hw := hw h8 eh8
          exact zg_return zi_79_69 hw
        refine zg_icmp_ne zi_79_58 (fun hc58 => ?_) (fun hc58 => ?_)
        · skip
          refine zg_const (v := 0) zi_79_61 (by rfl) ?_
          have hg := g58
          simp only [if_pos hc58] at hg
          exact hg
        · skip
          refine zg_const (v := 3) zi_79_59 (by rfl) ?_
          refine zg_goto zi_79_60 ?_
          have hg := g58
          simp only [if_neg hc58] at hg
          exact hg
      · have hw := hw.2 hc
        refine zg_aload zi_79_48 rfl ?_
        refine Gx.call2 (as := [.ref a0]) (rest := []) zq_83 zi_79_49 rfl rfl rfl (Nat.le_of_ble_eq_true rfl) (Nat.le_of_ble_eq_true rfl) (zrv_v (by rw [eh4, eh3]; exact t2) rfl rfl) (Nat.le_of_ble_eq_true rfl) ?_
        refine Ct.mono hw ?_
        rintro v h9 ⟨rfl, hw⟩
        show Gx E (d + 1) 79 50 [.ref a0] [] h9 Q
        refine zg_goto zi_79_50 ?_
        exact zg_return zi_79_69 hw
    · have hw := hw.2 hc
      refine zg_aload zi_79_40 rfl ?_
      refine Gx.call2 (as := [.ref a0]) (rest := []) zq_82 zi_79_41 rfl rfl rfl (Nat.le_of_ble_eq_true rfl) (Nat.le_of_ble_eq_true rfl) (zrv_v (by rw [eh4, eh3]; exact t2) rfl rfl) (Nat.le_of_ble_eq_true rfl) ?_
      refine Ct.mono hw ?_
      rintro v h10 ⟨rfl, hw⟩
      show Gx E (d + 1) 79 42 [.ref a0] [] h10 Q
      refine zg_goto zi_79_42 ?_
      exact zg_return zi_79_69 hw
  · have hw := hw.2 hc
    refine zg_aload zi_79_31 rfl ?_
    refine zg_const (v := 4) zi_79_32 (by rfl) ?_
    refine zg_putI (h1 := zuI h4 a0 3 4) zi_79_33 (by rw [eh4, eh3]; exact t2) (by rfl) rfl ?_
    refine zg_nameH fun h11 eh11 => ?_
    have hw := hw h11 eh11
    refine zg_goto zi_79_34 ?_
    exact zg_return zi_79_69 hw
def wl_79_0 (E : Nat → Nat) (d : Nat) (Q : Option Value → ZH → Prop) : Nat → Nat → ZH → Prop
  | 0, _, _ => False
  | n + 1, a0, h => ztag h a0 = 8 ∧ (((zI h a0 1 : Int32) ≤ (zI h a0 2 : Int32) → (wb_79_19 E d Q a0 h)) ∧ (¬ ((zI h a0 1 : Int32) ≤ (zI h a0 2 : Int32)) → (∃ r12 : Nat, zR h a0 0 = r12 + 1 ∧ (ztag h r12 = 12 ∨ ztag h r12 = 15) ∧ zin (zI h a0 2) (zlen h r12) = true ∧ ((¬ (zI h r12 (zI h a0 2 : Int32).toNatClampNeg : Int32) = 32 → (wb_79_19 E d Q a0 h)) ∧ (¬ (¬ (zI h r12 (zI h a0 2 : Int32).toNatClampNeg : Int32) = 32) → (∀ h14 : ZH, h14 = (zuI h a0 2 ((zI h a0 2) + 1)) → wl_79_0 E d Q n a0 h14))))))
set_option maxRecDepth 20000 in
theorem okl_79_0 {E : Nat → Nat} {d : Nat} {Q : Option Value → ZH → Prop} : ∀ (n : Nat) (a0 : Nat) (h : ZH), wl_79_0 E d Q n a0 h → Gx E (d + 1) 79 0 [.ref a0] [] h Q := by
  intro n
  induction n with
  | zero => intro a0 h hw; exact hw.elim
  | succ n ih =>
    intro a0 h hw
    rw [wl_79_0] at hw
    refine zg_aload zi_79_0 rfl ?_
    obtain ⟨t1, hw⟩ := hw
    refine zg_getI (v := .int (zI h a0 2)) zi_79_1 t1 (by rfl) rfl ?_
    refine zg_aload zi_79_2 rfl ?_
    refine zg_getI (v := .int (zI h a0 1)) zi_79_3 t1 (by rfl) rfl ?_
    refine zg_icmp_ge zi_79_4 (fun hc => ?_) (fun hc => ?_)
    · have hw := hw.1 hc
      exact okb_79_19 hw
    · have hw := hw.2 hc
      refine zg_aload zi_79_5 rfl ?_
      obtain ⟨r12, er12, hw⟩ := hw
      refine zg_getR (v := .ref r12) zi_79_6 t1 (by rfl) (by show zrv (zR h a0 0) = _; rw [er12]; rfl) ?_
      refine zg_aload zi_79_7 rfl ?_
      refine zg_getI (v := .int (zI h a0 2)) zi_79_8 t1 (by rfl) rfl ?_
      obtain ⟨t13, hw⟩ := hw
      obtain ⟨hb, hw⟩ := hw
      refine zg_baload (v := .int (zI h r12 (zI h a0 2 : Int32).toNatClampNeg)) zi_79_9 t13 hb rfl ?_
      refine zg_const (v := 32) zi_79_10 (by rfl) ?_
      refine zg_icmp_ne zi_79_11 (fun hc => ?_) (fun hc => ?_)
      · have hw := hw.1 hc
        exact okb_79_19 hw
      · have hw := hw.2 hc
        refine zg_aload zi_79_12 rfl ?_
        refine zg_dup zi_79_13 rfl ?_
        refine zg_getI (v := .int (zI h a0 2)) zi_79_14 t1 (by rfl) rfl ?_
        refine zg_const (v := 1) zi_79_15 (by rfl) ?_
        refine zg_iadd zi_79_16 ?_
        refine zg_putI (h1 := zuI h a0 2 ((zI h a0 2) + 1)) zi_79_17 t1 (by rfl) rfl ?_
        refine zg_nameH fun h14 eh14 => ?_
        have hw := hw h14 eh14
        refine zg_goto zi_79_18 ?_
        exact ih a0 h14 hw
/-- TakeOrPay$Tape.readToken()V -/
def w_79 (E : Nat → Nat) (d : Nat) (a0 : Nat) (h : ZH) (Q : Option Value → ZH → Prop) : Prop := ∃ mm : Nat, wl_79_0 E d Q mm a0 h
set_option maxRecDepth 20000 in
theorem ok_79 {E : Nat → Nat} {d : Nat} {a0 : Nat} {h : ZH} {Q : Option Value → ZH → Prop} (hw : w_79 E d a0 h Q) : Ct E (d + 1) 79 [.ref a0] h Q := by
  unfold w_79 at hw
  show Gx E (d + 1) 79 0 [.ref a0] [] h Q
  obtain ⟨mm, hw⟩ := hw
  exact okl_79_0 mm a0 h hw
theorem zq_54 : zQ 54 2 2 4 := by unfold zQ; decide +kernel
theorem zi_54_0 : (zM 54).1[0]? = some (.aload 0) := by rfl
theorem zi_54_1 : (zM 54).1[1]? = some (.getfield 4003) := by rfl
theorem zi_54_2 : (zM 54).1[2]? = some (.ifCond .ne ((11 : Nat) : Int)) := by rfl
theorem zi_54_3 : (zM 54).1[3]? = some (.aload 0) := by rfl
theorem zi_54_4 : (zM 54).1[4]? = some (.iload 1) := by rfl
theorem zi_54_5 : (zM 54).1[5]? = some (.putfield 4003) := by rfl
theorem zi_54_6 : (zM 54).1[6]? = some (.aload 0) := by rfl
theorem zi_54_7 : (zM 54).1[7]? = some (.aload 0) := by rfl
theorem zi_54_8 : (zM 54).1[8]? = some (.getfield 4200) := by rfl
theorem zi_54_9 : (zM 54).1[9]? = some (.getfield 8005) := by rfl
theorem zi_54_10 : (zM 54).1[10]? = some (.putfield 4004) := by rfl
theorem zi_54_11 : (zM 54).1[11]? = some (.return_) := by rfl
/-- TakeOrPay$Reader.fail(I)V -/
def w_54 (E : Nat → Nat) (d : Nat) (a0 : Nat) (a1 : Int32) (h : ZH) (Q : Option Value → ZH → Prop) : Prop := ztag h a0 = 4 ∧ ((¬ (zI h a0 3 : Int32) = 0 → (Q none h)) ∧ (¬ (¬ (zI h a0 3 : Int32) = 0) → (∀ h2 : ZH, h2 = (zuI h a0 3 a1) → ∃ r3 : Nat, zR h2 a0 0 = r3 + 1 ∧ ztag h2 r3 = 8 ∧ ∀ h5 : ZH, h5 = (zuI h2 a0 4 (zI h2 r3 5)) → Q none h5)))
set_option maxRecDepth 20000 in
theorem ok_54 {E : Nat → Nat} {d : Nat} {a0 : Nat} {a1 : Int32} {h : ZH} {Q : Option Value → ZH → Prop} (hw : w_54 E d a0 a1 h Q) : Ct E (d + 1) 54 [.ref a0, .int a1] h Q := by
  unfold w_54 at hw
  show Gx E (d + 1) 54 0 [.ref a0, .int a1] [] h Q
  refine zg_aload zi_54_0 rfl ?_
  obtain ⟨t1, hw⟩ := hw
  refine zg_getI (v := .int (zI h a0 3)) zi_54_1 t1 (by rfl) rfl ?_
  refine zg_if_ne zi_54_2 (fun hc => ?_) (fun hc => ?_)
  · have hw := hw.1 hc
    exact zg_return zi_54_11 hw
  · have hw := hw.2 hc
    refine zg_aload zi_54_3 rfl ?_
    refine zg_iload zi_54_4 rfl ?_
    refine zg_putI (h1 := zuI h a0 3 a1) zi_54_5 t1 (by rfl) rfl ?_
    refine zg_nameH fun h2 eh2 => ?_
    have hw := hw h2 eh2
    refine zg_aload zi_54_6 rfl ?_
    refine zg_aload zi_54_7 rfl ?_
    obtain ⟨r3, er3, hw⟩ := hw
    refine zg_getR (v := .ref r3) zi_54_8 (by rw [eh2]; exact t1) (by rfl) (by show zrv (zR h2 a0 0) = _; rw [er3]; rfl) ?_
    obtain ⟨t4, hw⟩ := hw
    refine zg_getI (v := .int (zI h2 r3 5)) zi_54_9 t4 (by rfl) rfl ?_
    refine zg_putI (h1 := zuI h2 a0 4 (zI h2 r3 5)) zi_54_10 (by rw [eh2]; exact t1) (by rfl) rfl ?_
    refine zg_nameH fun h5 eh5 => ?_
    have hw := hw h5 eh5
    exact zg_return zi_54_11 hw
theorem zq_56 : zQ 56 2 2 4 := by unfold zQ; decide +kernel
theorem zi_56_0 : (zM 56).1[0]? = some (.aload 0) := by rfl
theorem zi_56_1 : (zM 56).1[1]? = some (.getfield 4002) := by rfl
theorem zi_56_2 : (zM 56).1[2]? = some (.iload 1) := by rfl
theorem zi_56_3 : (zM 56).1[3]? = some (.ishr) := by rfl
theorem zi_56_4 : (zM 56).1[4]? = some (.iconst 1) := by rfl
theorem zi_56_5 : (zM 56).1[5]? = some (.iand) := by rfl
theorem zi_56_6 : (zM 56).1[6]? = some (.iconst 1) := by rfl
theorem zi_56_7 : (zM 56).1[7]? = some (.if_icmp .ne ((11 : Nat) : Int)) := by rfl
theorem zi_56_8 : (zM 56).1[8]? = some (.aload 0) := by rfl
theorem zi_56_9 : (zM 56).1[9]? = some (.iconst 4) := by rfl
theorem zi_56_10 : (zM 56).1[10]? = some (.invokevirtual 54) := by rfl
theorem zi_56_11 : (zM 56).1[11]? = some (.aload 0) := by rfl
theorem zi_56_12 : (zM 56).1[12]? = some (.dup) := by rfl
theorem zi_56_13 : (zM 56).1[13]? = some (.getfield 4002) := by rfl
theorem zi_56_14 : (zM 56).1[14]? = some (.iconst 1) := by rfl
theorem zi_56_15 : (zM 56).1[15]? = some (.iload 1) := by rfl
theorem zi_56_16 : (zM 56).1[16]? = some (.ishl) := by rfl
theorem zi_56_17 : (zM 56).1[17]? = some (.ior) := by rfl
theorem zi_56_18 : (zM 56).1[18]? = some (.putfield 4002) := by rfl
theorem zi_56_19 : (zM 56).1[19]? = some (.return_) := by rfl
def wb_56_11 (E : Nat → Nat) (d : Nat) (Q : Option Value → ZH → Prop) (a0 : Nat) (a1 : Int32) (h : ZH) : Prop := ztag h a0 = 4 ∧ ∀ h3 : ZH, h3 = (zuI h a0 2 ((zI h a0 2) ||| ((1 : Int32) <<< (a1 &&& 31)))) → Q none h3
set_option maxRecDepth 20000 in
theorem okb_56_11 {E : Nat → Nat} {d : Nat} {Q : Option Value → ZH → Prop} {a0 : Nat} {a1 : Int32} {h : ZH} (hw : wb_56_11 E d Q a0 a1 h) : Gx E (d + 1) 56 11 [.ref a0, .int a1] [] h Q := by
  unfold wb_56_11 at hw
  refine zg_aload zi_56_11 rfl ?_
  refine zg_dup zi_56_12 rfl ?_
  obtain ⟨t2, hw⟩ := hw
  refine zg_getI (v := .int (zI h a0 2)) zi_56_13 t2 (by rfl) rfl ?_
  refine zg_const (v := 1) zi_56_14 (by rfl) ?_
  refine zg_iload zi_56_15 rfl ?_
  refine zg_ishl zi_56_16 ?_
  refine zg_ior zi_56_17 ?_
  refine zg_putI (h1 := zuI h a0 2 ((zI h a0 2) ||| ((1 : Int32) <<< (a1 &&& 31)))) zi_56_18 t2 (by rfl) rfl ?_
  refine zg_nameH fun h3 eh3 => ?_
  have hw := hw h3 eh3
  exact zg_return zi_56_19 hw
/-- TakeOrPay$Reader.markTold(I)V -/
def w_56 (E : Nat → Nat) (d : Nat) (a0 : Nat) (a1 : Int32) (h : ZH) (Q : Option Value → ZH → Prop) : Prop := ztag h a0 = 4 ∧ ((¬ (((zI h a0 2) >>> (a1 &&& 31)) &&& 1 : Int32) = 1 → (wb_56_11 E d Q a0 a1 h)) ∧ (¬ (¬ (((zI h a0 2) >>> (a1 &&& 31)) &&& 1 : Int32) = 1) → (Ct E d 54 [.ref a0, .int 4] h (fun v h4 => v = none ∧ wb_56_11 E d Q a0 a1 h4))))
set_option maxRecDepth 20000 in
theorem ok_56 {E : Nat → Nat} {d : Nat} {a0 : Nat} {a1 : Int32} {h : ZH} {Q : Option Value → ZH → Prop} (hw : w_56 E d a0 a1 h Q) : Ct E (d + 1) 56 [.ref a0, .int a1] h Q := by
  unfold w_56 at hw
  show Gx E (d + 1) 56 0 [.ref a0, .int a1] [] h Q
  refine zg_aload zi_56_0 rfl ?_
  obtain ⟨t1, hw⟩ := hw
  refine zg_getI (v := .int (zI h a0 2)) zi_56_1 t1 (by rfl) rfl ?_
  refine zg_iload zi_56_2 rfl ?_
  refine zg_ishr zi_56_3 ?_
  refine zg_const (v := 1) zi_56_4 (by rfl) ?_
  refine zg_iand zi_56_5 ?_
  refine zg_const (v := 1) zi_56_6 (by rfl) ?_
  refine zg_icmp_ne zi_56_7 (fun hc => ?_) (fun hc => ?_)
  · have hw := hw.1 hc
    exact okb_56_11 hw
  · have hw := hw.2 hc
    refine zg_aload zi_56_8 rfl ?_
    refine zg_const (v := 4) zi_56_9 (by rfl) ?_
    refine Gx.call2 (as := [.ref a0, .int 4]) (rest := []) zq_54 zi_56_10 rfl rfl rfl (Nat.le_of_ble_eq_true rfl) (Nat.le_of_ble_eq_true rfl) (zrv_v t1 rfl rfl) (Nat.le_of_ble_eq_true rfl) ?_
    refine Ct.mono hw ?_
    rintro v h4 ⟨rfl, hw⟩
    show Gx E (d + 1) 56 11 [.ref a0, .int a1] [] h4 Q
    exact okb_56_11 hw
theorem zq_57 : zQ 57 1 1 4 := by unfold zQ; decide +kernel
theorem zi_57_0 : (zM 57).1[0]? = some (.aload 0) := by rfl
theorem zi_57_1 : (zM 57).1[1]? = some (.getfield 4200) := by rfl
theorem zi_57_2 : (zM 57).1[2]? = some (.getfield 8003) := by rfl
theorem zi_57_3 : (zM 57).1[3]? = some (.iconst 1) := by rfl
theorem zi_57_4 : (zM 57).1[4]? = some (.if_icmp .ne ((10 : Nat) : Int)) := by rfl
theorem zi_57_5 : (zM 57).1[5]? = some (.aload 0) := by rfl
theorem zi_57_6 : (zM 57).1[6]? = some (.getfield 4200) := by rfl
theorem zi_57_7 : (zM 57).1[7]? = some (.getfield 8004) := by rfl
theorem zi_57_8 : (zM 57).1[8]? = some (.iconst 17) := by rfl
theorem zi_57_9 : (zM 57).1[9]? = some (.if_icmp .lt ((14 : Nat) : Int)) := by rfl
theorem zi_57_10 : (zM 57).1[10]? = some (.aload 0) := by rfl
theorem zi_57_11 : (zM 57).1[11]? = some (.iconst 2) := by rfl
theorem zi_57_12 : (zM 57).1[12]? = some (.invokevirtual 54) := by rfl
theorem zi_57_13 : (zM 57).1[13]? = some (.return_) := by rfl
theorem zi_57_14 : (zM 57).1[14]? = some (.aload 0) := by rfl
theorem zi_57_15 : (zM 57).1[15]? = some (.aload 0) := by rfl
theorem zi_57_16 : (zM 57).1[16]? = some (.getfield 4200) := by rfl
theorem zi_57_17 : (zM 57).1[17]? = some (.getfield 8004) := by rfl
theorem zi_57_18 : (zM 57).1[18]? = some (.putfield 4005) := by rfl
theorem zi_57_19 : (zM 57).1[19]? = some (.aload 0) := by rfl
theorem zi_57_20 : (zM 57).1[20]? = some (.iconst 0) := by rfl
theorem zi_57_21 : (zM 57).1[21]? = some (.putfield 4006) := by rfl
theorem zi_57_22 : (zM 57).1[22]? = some (.aload 0) := by rfl
theorem zi_57_23 : (zM 57).1[23]? = some (.getstatic 3) := by rfl
theorem zi_57_24 : (zM 57).1[24]? = some (.aload 0) := by rfl
theorem zi_57_25 : (zM 57).1[25]? = some (.getfield 4005) := by rfl
theorem zi_57_26 : (zM 57).1[26]? = some (.iaload) := by rfl
theorem zi_57_27 : (zM 57).1[27]? = some (.putfield 4007) := by rfl
theorem zi_57_28 : (zM 57).1[28]? = some (.aload 0) := by rfl
theorem zi_57_29 : (zM 57).1[29]? = some (.getfield 4005) := by rfl
theorem zi_57_30 : (zM 57).1[30]? = some (.iconst 14) := by rfl
theorem zi_57_31 : (zM 57).1[31]? = some (.if_icmp .eq ((44 : Nat) : Int)) := by rfl
theorem zi_57_32 : (zM 57).1[32]? = some (.aload 0) := by rfl
theorem zi_57_33 : (zM 57).1[33]? = some (.getfield 4005) := by rfl
theorem zi_57_34 : (zM 57).1[34]? = some (.iconst 15) := by rfl
theorem zi_57_35 : (zM 57).1[35]? = some (.if_icmp .eq ((44 : Nat) : Int)) := by rfl
theorem zi_57_36 : (zM 57).1[36]? = some (.aload 0) := by rfl
theorem zi_57_37 : (zM 57).1[37]? = some (.getfield 4005) := by rfl
theorem zi_57_38 : (zM 57).1[38]? = some (.iconst 12) := by rfl
theorem zi_57_39 : (zM 57).1[39]? = some (.if_icmp .eq ((44 : Nat) : Int)) := by rfl
theorem zi_57_40 : (zM 57).1[40]? = some (.aload 0) := by rfl
theorem zi_57_41 : (zM 57).1[41]? = some (.aload 0) := by rfl
theorem zi_57_42 : (zM 57).1[42]? = some (.getfield 4005) := by rfl
theorem zi_57_43 : (zM 57).1[43]? = some (.invokevirtual 56) := by rfl
theorem zi_57_44 : (zM 57).1[44]? = some (.getstatic 4) := by rfl
theorem zi_57_45 : (zM 57).1[45]? = some (.aload 0) := by rfl
theorem zi_57_46 : (zM 57).1[46]? = some (.getfield 4005) := by rfl
theorem zi_57_47 : (zM 57).1[47]? = some (.iaload) := by rfl
theorem zi_57_48 : (zM 57).1[48]? = some (.ifCond .ne ((56 : Nat) : Int)) := by rfl
theorem zi_57_49 : (zM 57).1[49]? = some (.aload 0) := by rfl
theorem zi_57_50 : (zM 57).1[50]? = some (.getfield 4201) := by rfl
theorem zi_57_51 : (zM 57).1[51]? = some (.getfield 3200) := by rfl
theorem zi_57_52 : (zM 57).1[52]? = some (.aload 0) := by rfl
theorem zi_57_53 : (zM 57).1[53]? = some (.getfield 4007) := by rfl
theorem zi_57_54 : (zM 57).1[54]? = some (.iconst 1) := by rfl
theorem zi_57_55 : (zM 57).1[55]? = some (.iastore) := by rfl
theorem zi_57_56 : (zM 57).1[56]? = some (.return_) := by rfl
def wb_57_44 (E : Nat → Nat) (d : Nat) (Q : Option Value → ZH → Prop) (a0 : Nat) (h : ZH) : Prop := ztag h a0 = 4 ∧ (ztag h (E 4) = 13 ∨ ztag h (E 4) = 19) ∧ zin (zI h a0 5) (zlen h (E 4)) = true ∧ ((¬ (zI h (E 4) (zI h a0 5 : Int32).toNatClampNeg : Int32) = 0 → (Q none h)) ∧ (¬ (¬ (zI h (E 4) (zI h a0 5 : Int32).toNatClampNeg : Int32) = 0) → (∃ r11 : Nat, zR h a0 1 = r11 + 1 ∧ ztag h r11 = 3 ∧ ∃ r13 : Nat, zR h r11 0 = r13 + 1 ∧ ztag h r13 = 13 ∧ zin (zI h a0 7) (zlen h r13) = true ∧ ∀ h15 : ZH, h15 = (zuI h r13 (zI h a0 7 : Int32).toNatClampNeg 1) → Q none h15)))
set_option maxRecDepth 20000 in
theorem okb_57_44 {E : Nat → Nat} {d : Nat} {Q : Option Value → ZH → Prop} {a0 : Nat} {h : ZH} (hw : wb_57_44 E d Q a0 h) : Gx E (d + 1) 57 44 [.ref a0] [] h Q := by
  unfold wb_57_44 at hw
  refine zg_getstatic zi_57_44 ?_
  refine zg_aload zi_57_45 rfl ?_
  obtain ⟨t9, hw⟩ := hw
  refine zg_getI (v := .int (zI h a0 5)) zi_57_46 t9 (by rfl) rfl ?_
  obtain ⟨t10, hw⟩ := hw
  obtain ⟨hb, hw⟩ := hw
  refine zg_iaload (v := .int (zI h (E 4) (zI h a0 5 : Int32).toNatClampNeg)) zi_57_47 t10 hb rfl ?_
  refine zg_if_ne zi_57_48 (fun hc => ?_) (fun hc => ?_)
  · have hw := hw.1 hc
    exact zg_return zi_57_56 hw
  · have hw := hw.2 hc
    refine zg_aload zi_57_49 rfl ?_
    obtain ⟨r11, er11, hw⟩ := hw
    refine zg_getR (v := .ref r11) zi_57_50 t9 (by rfl) (by show zrv (zR h a0 1) = _; rw [er11]; rfl) ?_
    obtain ⟨t12, hw⟩ := hw
    obtain ⟨r13, er13, hw⟩ := hw
    refine zg_getR (v := .ref r13) zi_57_51 t12 (by rfl) (by show zrv (zR h r11 0) = _; rw [er13]; rfl) ?_
    refine zg_aload zi_57_52 rfl ?_
    refine zg_getI (v := .int (zI h a0 7)) zi_57_53 t9 (by rfl) rfl ?_
    refine zg_const (v := 1) zi_57_54 (by rfl) ?_
    obtain ⟨t14, hw⟩ := hw
    obtain ⟨hb, hw⟩ := hw
    refine zg_iastore (h1 := zuI h r13 (zI h a0 7 : Int32).toNatClampNeg 1) zi_57_55 t14 hb rfl ?_
    refine zg_nameH fun h15 eh15 => ?_
    have hw := hw h15 eh15
    exact zg_return zi_57_56 hw
/-- TakeOrPay$Reader.takeLineName()V -/
def w_57 (E : Nat → Nat) (d : Nat) (a0 : Nat) (h : ZH) (Q : Option Value → ZH → Prop) : Prop := ztag h a0 = 4 ∧ ∃ r2 : Nat, zR h a0 0 = r2 + 1 ∧ ztag h r2 = 8 ∧ ((¬ (zI h r2 3 : Int32) = 1 → (Ct E d 54 [.ref a0, .int 2] h (fun v h4 => v = none ∧ Q none h4))) ∧ (¬ (¬ (zI h r2 3 : Int32) = 1) → (((zI h r2 4 : Int32) < 17 → (∀ h5 : ZH, h5 = (zuI h a0 5 (zI h r2 4)) → ∀ h6 : ZH, h6 = (zuI h5 a0 6 0) → (ztag h6 (E 3) = 13 ∨ ztag h6 (E 3) = 19) ∧ zin (zI h6 a0 5) (zlen h6 (E 3)) = true ∧ ∀ h8 : ZH, h8 = (zuI h6 a0 7 (zI h6 (E 3) (zI h6 a0 5 : Int32).toNatClampNeg)) → (((zI h8 a0 5 : Int32) = 14 → (wb_57_44 E d Q a0 h8)) ∧ (¬ ((zI h8 a0 5 : Int32) = 14) → (((zI h8 a0 5 : Int32) = 15 → (wb_57_44 E d Q a0 h8)) ∧ (¬ ((zI h8 a0 5 : Int32) = 15) → (((zI h8 a0 5 : Int32) = 12 → (wb_57_44 E d Q a0 h8)) ∧ (¬ ((zI h8 a0 5 : Int32) = 12) → (Ct E d 56 [.ref a0, .int (zI h8 a0 5)] h8 (fun v h16 => v = none ∧ wb_57_44 E d Q a0 h16)))))))))) ∧ (¬ ((zI h r2 4 : Int32) < 17) → (Ct E d 54 [.ref a0, .int 2] h (fun v h17 => v = none ∧ Q none h17))))))
set_option maxRecDepth 20000 in
theorem ok_57 {E : Nat → Nat} {d : Nat} {a0 : Nat} {h : ZH} {Q : Option Value → ZH → Prop} (hw : w_57 E d a0 h Q) : Ct E (d + 1) 57 [.ref a0] h Q := by
  unfold w_57 at hw
  show Gx E (d + 1) 57 0 [.ref a0] [] h Q
  refine zg_aload zi_57_0 rfl ?_
  obtain ⟨t1, hw⟩ := hw
  obtain ⟨r2, er2, hw⟩ := hw
  refine zg_getR (v := .ref r2) zi_57_1 t1 (by rfl) (by show zrv (zR h a0 0) = _; rw [er2]; rfl) ?_
  obtain ⟨t3, hw⟩ := hw
  refine zg_getI (v := .int (zI h r2 3)) zi_57_2 t3 (by rfl) rfl ?_
  refine zg_const (v := 1) zi_57_3 (by rfl) ?_
  refine zg_icmp_ne zi_57_4 (fun hc => ?_) (fun hc => ?_)
  · have hw := hw.1 hc
    refine zg_aload zi_57_10 rfl ?_
    refine zg_const (v := 2) zi_57_11 (by rfl) ?_
    refine Gx.call2 (as := [.ref a0, .int 2]) (rest := []) zq_54 zi_57_12 rfl rfl rfl (Nat.le_of_ble_eq_true rfl) (Nat.le_of_ble_eq_true rfl) (zrv_v t1 rfl rfl) (Nat.le_of_ble_eq_true rfl) ?_
    refine Ct.mono hw ?_
    rintro v h4 ⟨rfl, hw⟩
    show Gx E (d + 1) 57 13 [.ref a0] [] h4 Q
    exact zg_return zi_57_13 hw
  · have hw := hw.2 hc
    refine zg_aload zi_57_5 rfl ?_
    refine zg_getR (v := .ref r2) zi_57_6 t1 (by rfl) (by show zrv (zR h a0 0) = _; rw [er2]; rfl) ?_
    refine zg_getI (v := .int (zI h r2 4)) zi_57_7 t3 (by rfl) rfl ?_
    refine zg_const (v := 17) zi_57_8 (by rfl) ?_
    refine zg_icmp_lt zi_57_9 (fun hc => ?_) (fun hc => ?_)
    · have hw := hw.1 hc
      refine zg_aload zi_57_14 rfl ?_
      refine zg_aload zi_57_15 rfl ?_
      refine zg_getR (v := .ref r2) zi_57_16 t1 (by rfl) (by show zrv (zR h a0 0) = _; rw [er2]; rfl) ?_
      refine zg_getI (v := .int (zI h r2 4)) zi_57_17 t3 (by rfl) rfl ?_
      refine zg_putI (h1 := zuI h a0 5 (zI h r2 4)) zi_57_18 t1 (by rfl) rfl ?_
      refine zg_nameH fun h5 eh5 => ?_
      have hw := hw h5 eh5
      refine zg_aload zi_57_19 rfl ?_
      refine zg_const (v := 0) zi_57_20 (by rfl) ?_
      refine zg_putI (h1 := zuI h5 a0 6 0) zi_57_21 (by rw [eh5]; exact t1) (by rfl) rfl ?_
      refine zg_nameH fun h6 eh6 => ?_
      have hw := hw h6 eh6
      refine zg_aload zi_57_22 rfl ?_
      refine zg_getstatic zi_57_23 ?_
      refine zg_aload zi_57_24 rfl ?_
      refine zg_getI (v := .int (zI h6 a0 5)) zi_57_25 (by rw [eh6, eh5]; exact t1) (by rfl) rfl ?_
      obtain ⟨t7, hw⟩ := hw
      obtain ⟨hb, hw⟩ := hw
      refine zg_iaload (v := .int (zI h6 (E 3) (zI h6 a0 5 : Int32).toNatClampNeg)) zi_57_26 t7 hb rfl ?_
      refine zg_putI (h1 := zuI h6 a0 7 (zI h6 (E 3) (zI h6 a0 5 : Int32).toNatClampNeg)) zi_57_27 (by rw [eh6, eh5]; exact t1) (by rfl) rfl ?_
      refine zg_nameH fun h8 eh8 => ?_
      have hw := hw h8 eh8
      refine zg_aload zi_57_28 rfl ?_
      refine zg_getI (v := .int (zI h8 a0 5)) zi_57_29 (by rw [eh8, eh6, eh5]; exact t1) (by rfl) rfl ?_
      refine zg_const (v := 14) zi_57_30 (by rfl) ?_
      refine zg_icmp_eq zi_57_31 (fun hc => ?_) (fun hc => ?_)
      · have hw := hw.1 hc
        exact okb_57_44 hw
      · have hw := hw.2 hc
        refine zg_aload zi_57_32 rfl ?_
        refine zg_getI (v := .int (zI h8 a0 5)) zi_57_33 (by rw [eh8, eh6, eh5]; exact t1) (by rfl) rfl ?_
        refine zg_const (v := 15) zi_57_34 (by rfl) ?_
        refine zg_icmp_eq zi_57_35 (fun hc => ?_) (fun hc => ?_)
        · have hw := hw.1 hc
          exact okb_57_44 hw
        · have hw := hw.2 hc
          refine zg_aload zi_57_36 rfl ?_
          refine zg_getI (v := .int (zI h8 a0 5)) zi_57_37 (by rw [eh8, eh6, eh5]; exact t1) (by rfl) rfl ?_
          refine zg_const (v := 12) zi_57_38 (by rfl) ?_
          refine zg_icmp_eq zi_57_39 (fun hc => ?_) (fun hc => ?_)
          · have hw := hw.1 hc
            exact okb_57_44 hw
          · have hw := hw.2 hc
            refine zg_aload zi_57_40 rfl ?_
            refine zg_aload zi_57_41 rfl ?_
            refine zg_getI (v := .int (zI h8 a0 5)) zi_57_42 (by rw [eh8, eh6, eh5]; exact t1) (by rfl) rfl ?_
            refine Gx.call2 (as := [.ref a0, .int (zI h8 a0 5)]) (rest := []) zq_56 zi_57_43 rfl rfl rfl (Nat.le_of_ble_eq_true rfl) (Nat.le_of_ble_eq_true rfl) (zrv_v (by rw [eh8, eh6, eh5]; exact t1) rfl rfl) (Nat.le_of_ble_eq_true rfl) ?_
            refine Ct.mono hw ?_
            rintro v h16 ⟨rfl, hw⟩
            show Gx E (d + 1) 57 44 [.ref a0] [] h16 Q
            exact okb_57_44 hw
    · have hw := hw.2 hc
      refine zg_aload zi_57_10 rfl ?_
      refine zg_const (v := 2) zi_57_11 (by rfl) ?_
      refine Gx.call2 (as := [.ref a0, .int 2]) (rest := []) zq_54 zi_57_12 rfl rfl rfl (Nat.le_of_ble_eq_true rfl) (Nat.le_of_ble_eq_true rfl) (zrv_v t1 rfl rfl) (Nat.le_of_ble_eq_true rfl) ?_
      refine Ct.mono hw ?_
      rintro v h17 ⟨rfl, hw⟩
      show Gx E (d + 1) 57 13 [.ref a0] [] h17 Q
      exact zg_return zi_57_13 hw
theorem zq_58 : zQ 58 1 1 4 := by unfold zQ; decide +kernel
theorem zi_58_0 : (zM 58).1[0]? = some (.aload 0) := by rfl
theorem zi_58_1 : (zM 58).1[1]? = some (.getfield 4200) := by rfl
theorem zi_58_2 : (zM 58).1[2]? = some (.getfield 8003) := by rfl
theorem zi_58_3 : (zM 58).1[3]? = some (.iconst 3) := by rfl
theorem zi_58_4 : (zM 58).1[4]? = some (.if_icmp .eq ((8 : Nat) : Int)) := by rfl
theorem zi_58_5 : (zM 58).1[5]? = some (.aload 0) := by rfl
theorem zi_58_6 : (zM 58).1[6]? = some (.iconst 2) := by rfl
theorem zi_58_7 : (zM 58).1[7]? = some (.invokevirtual 54) := by rfl
theorem zi_58_8 : (zM 58).1[8]? = some (.aload 0) := by rfl
theorem zi_58_9 : (zM 58).1[9]? = some (.iconst (-4)) := by rfl
theorem zi_58_10 : (zM 58).1[10]? = some (.putfield 4005) := by rfl
theorem zi_58_11 : (zM 58).1[11]? = some (.return_) := by rfl
def wb_58_8 (E : Nat → Nat) (d : Nat) (Q : Option Value → ZH → Prop) (a0 : Nat) (h : ZH) : Prop := ztag h a0 = 4 ∧ ∀ h5 : ZH, h5 = (zuI h a0 5 ((-4))) → Q none h5
set_option maxRecDepth 20000 in
theorem okb_58_8 {E : Nat → Nat} {d : Nat} {Q : Option Value → ZH → Prop} {a0 : Nat} {h : ZH} (hw : wb_58_8 E d Q a0 h) : Gx E (d + 1) 58 8 [.ref a0] [] h Q := by
  unfold wb_58_8 at hw
  refine zg_aload zi_58_8 rfl ?_
  refine zg_const (v := (-4)) zi_58_9 (by rfl) ?_
  obtain ⟨t4, hw⟩ := hw
  refine zg_putI (h1 := zuI h a0 5 ((-4))) zi_58_10 t4 (by rfl) rfl ?_
  refine zg_nameH fun h5 eh5 => ?_
  have hw := hw h5 eh5
  exact zg_return zi_58_11 hw
/-- TakeOrPay$Reader.takeSign()V -/
def w_58 (E : Nat → Nat) (d : Nat) (a0 : Nat) (h : ZH) (Q : Option Value → ZH → Prop) : Prop := ztag h a0 = 4 ∧ ∃ r2 : Nat, zR h a0 0 = r2 + 1 ∧ ztag h r2 = 8 ∧ (((zI h r2 3 : Int32) = 3 → (wb_58_8 E d Q a0 h)) ∧ (¬ ((zI h r2 3 : Int32) = 3) → (Ct E d 54 [.ref a0, .int 2] h (fun v h6 => v = none ∧ wb_58_8 E d Q a0 h6))))
set_option maxRecDepth 20000 in
theorem ok_58 {E : Nat → Nat} {d : Nat} {a0 : Nat} {h : ZH} {Q : Option Value → ZH → Prop} (hw : w_58 E d a0 h Q) : Ct E (d + 1) 58 [.ref a0] h Q := by
  unfold w_58 at hw
  show Gx E (d + 1) 58 0 [.ref a0] [] h Q
  refine zg_aload zi_58_0 rfl ?_
  obtain ⟨t1, hw⟩ := hw
  obtain ⟨r2, er2, hw⟩ := hw
  refine zg_getR (v := .ref r2) zi_58_1 t1 (by rfl) (by show zrv (zR h a0 0) = _; rw [er2]; rfl) ?_
  obtain ⟨t3, hw⟩ := hw
  refine zg_getI (v := .int (zI h r2 3)) zi_58_2 t3 (by rfl) rfl ?_
  refine zg_const (v := 3) zi_58_3 (by rfl) ?_
  refine zg_icmp_eq zi_58_4 (fun hc => ?_) (fun hc => ?_)
  · have hw := hw.1 hc
    exact okb_58_8 hw
  · have hw := hw.2 hc
    refine zg_aload zi_58_5 rfl ?_
    refine zg_const (v := 2) zi_58_6 (by rfl) ?_
    refine Gx.call2 (as := [.ref a0, .int 2]) (rest := []) zq_54 zi_58_7 rfl rfl rfl (Nat.le_of_ble_eq_true rfl) (Nat.le_of_ble_eq_true rfl) (zrv_v t1 rfl rfl) (Nat.le_of_ble_eq_true rfl) ?_
    refine Ct.mono hw ?_
    rintro v h6 ⟨rfl, hw⟩
    show Gx E (d + 1) 58 8 [.ref a0] [] h6 Q
    exact okb_58_8 hw
theorem zq_59 : zQ 59 3 3 4 := by unfold zQ; decide +kernel
theorem zi_59_0 : (zM 59).1[0]? = some (.aload 0) := by rfl
theorem zi_59_1 : (zM 59).1[1]? = some (.getfield 4200) := by rfl
theorem zi_59_2 : (zM 59).1[2]? = some (.getfield 8003) := by rfl
theorem zi_59_3 : (zM 59).1[3]? = some (.iconst 1) := by rfl
theorem zi_59_4 : (zM 59).1[4]? = some (.if_icmp .ne ((19 : Nat) : Int)) := by rfl
theorem zi_59_5 : (zM 59).1[5]? = some (.aload 0) := by rfl
theorem zi_59_6 : (zM 59).1[6]? = some (.getfield 4200) := by rfl
theorem zi_59_7 : (zM 59).1[7]? = some (.getfield 8004) := by rfl
theorem zi_59_8 : (zM 59).1[8]? = some (.iload 1) := by rfl
theorem zi_59_9 : (zM 59).1[9]? = some (.if_icmp .lt ((19 : Nat) : Int)) := by rfl
theorem zi_59_10 : (zM 59).1[10]? = some (.aload 0) := by rfl
theorem zi_59_11 : (zM 59).1[11]? = some (.getfield 4200) := by rfl
theorem zi_59_12 : (zM 59).1[12]? = some (.getfield 8004) := by rfl
theorem zi_59_13 : (zM 59).1[13]? = some (.iload 1) := by rfl
theorem zi_59_14 : (zM 59).1[14]? = some (.iload 2) := by rfl
theorem zi_59_15 : (zM 59).1[15]? = some (.iadd) := by rfl
theorem zi_59_16 : (zM 59).1[16]? = some (.if_icmp .ge ((19 : Nat) : Int)) := by rfl
theorem zi_59_17 : (zM 59).1[17]? = some (.iconst 1) := by rfl
theorem zi_59_18 : (zM 59).1[18]? = some (.goto ((20 : Nat) : Int)) := by rfl
theorem zi_59_19 : (zM 59).1[19]? = some (.iconst 0) := by rfl
theorem zi_59_20 : (zM 59).1[20]? = some (.ireturn) := by rfl
/-- TakeOrPay$Reader.isName(II)Z -/
def w_59 (E : Nat → Nat) (d : Nat) (a0 : Nat) (a1 : Int32) (a2 : Int32) (h : ZH) (Q : Option Value → ZH → Prop) : Prop := ztag h a0 = 4 ∧ ∃ r2 : Nat, zR h a0 0 = r2 + 1 ∧ ztag h r2 = 8 ∧ Q (some (.int (if ¬ (zI h r2 3 : Int32) = 1 then 0 else if (zI h r2 4 : Int32) < a1 then 0 else if (a1 + a2 : Int32) ≤ (zI h r2 4 : Int32) then 0 else 1))) h
set_option maxRecDepth 20000 in
theorem ok_59 {E : Nat → Nat} {d : Nat} {a0 : Nat} {a1 : Int32} {a2 : Int32} {h : ZH} {Q : Option Value → ZH → Prop} (hw : w_59 E d a0 a1 a2 h Q) : Ct E (d + 1) 59 [.ref a0, .int a1, .int a2] h Q := by
  unfold w_59 at hw
  show Gx E (d + 1) 59 0 [.ref a0, .int a1, .int a2] [] h Q
  refine zg_aload zi_59_0 rfl ?_
  obtain ⟨t1, hw⟩ := hw
  obtain ⟨r2, er2, hw⟩ := hw
  refine zg_getR (v := .ref r2) zi_59_1 t1 (by rfl) (by show zrv (zR h a0 0) = _; rw [er2]; rfl) ?_
  obtain ⟨t3, hw⟩ := hw
  refine zg_getI (v := .int (zI h r2 3)) zi_59_2 t3 (by rfl) rfl ?_
  refine zg_const (v := 1) zi_59_3 (by rfl) ?_
  have g4 : Gx E (d + 1) 59 20 [.ref a0, .int a1, .int a2] [.int (if ¬ (zI h r2 3 : Int32) = 1 then 0 else if (zI h r2 4 : Int32) < a1 then 0 else if (a1 + a2 : Int32) ≤ (zI h r2 4 : Int32) then 0 else 1)] h Q := by
    exact zg_zreturn zi_59_20 (by (repeat' split) <;> first | (left; rfl) | (right; rfl)) hw
  refine zg_icmp_ne zi_59_4 (fun hc4 => ?_) (fun hc4 => ?_)
  · skip
    refine zg_const (v := 0) zi_59_19 (by rfl) ?_
    have hg := g4
    simp only [if_pos hc4] at hg
    exact hg
  · skip
    refine zg_aload zi_59_5 rfl ?_
    refine zg_getR (v := .ref r2) zi_59_6 t1 (by rfl) (by show zrv (zR h a0 0) = _; rw [er2]; rfl) ?_
    refine zg_getI (v := .int (zI h r2 4)) zi_59_7 t3 (by rfl) rfl ?_
    refine zg_iload zi_59_8 rfl ?_
    have g9 : Gx E (d + 1) 59 20 [.ref a0, .int a1, .int a2] [.int (if (zI h r2 4 : Int32) < a1 then 0 else if (a1 + a2 : Int32) ≤ (zI h r2 4 : Int32) then 0 else 1)] h Q := by
      have hg := g4
      simp only [if_neg hc4] at hg
      exact hg
    refine zg_icmp_lt zi_59_9 (fun hc9 => ?_) (fun hc9 => ?_)
    · skip
      refine zg_const (v := 0) zi_59_19 (by rfl) ?_
      have hg := g9
      simp only [if_pos hc9] at hg
      exact hg
    · skip
      refine zg_aload zi_59_10 rfl ?_
      refine zg_getR (v := .ref r2) zi_59_11 t1 (by rfl) (by show zrv (zR h a0 0) = _; rw [er2]; rfl) ?_
      refine zg_getI (v := .int (zI h r2 4)) zi_59_12 t3 (by rfl) rfl ?_
      refine zg_iload zi_59_13 rfl ?_
      refine zg_iload zi_59_14 rfl ?_
      refine zg_iadd zi_59_15 ?_
      have g16 : Gx E (d + 1) 59 20 [.ref a0, .int a1, .int a2] [.int (if (a1 + a2 : Int32) ≤ (zI h r2 4 : Int32) then 0 else 1)] h Q := by
        have hg := g9
        simp only [if_neg hc9] at hg
        exact hg
      refine zg_icmp_ge zi_59_16 (fun hc16 => ?_) (fun hc16 => ?_)
      · skip
        refine zg_const (v := 0) zi_59_19 (by rfl) ?_
        have hg := g16
        simp only [if_pos hc16] at hg
        exact hg
      · skip
        refine zg_const (v := 1) zi_59_17 (by rfl) ?_
        refine zg_goto zi_59_18 ?_
        have hg := g16
        simp only [if_neg hc16] at hg
        exact hg
def fz_59 (E : Nat → Nat) (h : ZH) (a0 : Nat) (a1 : Int32) (a2 : Int32) : Int32 := (fun r2 : Nat => if ¬ (zI h r2 3 : Int32) = 1 then 0 else if (zI h r2 4 : Int32) < a1 then 0 else if (a1 + a2 : Int32) ≤ (zI h r2 4 : Int32) then 0 else 1) (zR h a0 0 - 1)
def sz_59 (E : Nat → Nat) (h : ZH) (a0 : Nat) (a1 : Int32) (a2 : Int32) : Prop := ztag h a0 = 4 ∧ ∃ r2 : Nat, zR h a0 0 = r2 + 1 ∧ ztag h r2 = 8 ∧ True
set_option maxRecDepth 20000 in
theorem fb_59 {E : Nat → Nat} {h : ZH} {a0 : Nat} {a1 : Int32} {a2 : Int32} : fz_59 E h a0 a1 a2 = 0 ∨ fz_59 E h a0 a1 a2 = 1 := by
  unfold fz_59
  (try dsimp only)
  (repeat' split) <;> first | (left; rfl) | (right; rfl)
set_option maxRecDepth 20000 in
theorem cz_59 {E : Nat → Nat} {d : Nat} {a0 : Nat} {a1 : Int32} {a2 : Int32} {h : ZH} {Q : Option Value → ZH → Prop} (hd : 1 ≤ d) (hs : sz_59 E h a0 a1 a2) (hq : Q (some (.int (fz_59 E h a0 a1 a2))) h) : Ct E d 59 [.ref a0, .int a1, .int a2] h Q := by
  obtain ⟨d, rfl⟩ : ∃ n, d = n + 1 := ⟨d - 1, by omega⟩
  refine ok_59 ?_
  unfold w_59
  unfold sz_59 at hs
  unfold fz_59 at hq
  refine ⟨hs.1, ?_⟩
  have hs := hs.2
  obtain ⟨r2, hr, hs⟩ := hs
  refine ⟨r2, hr, ?_⟩
  rw [hr] at hq
  simp only [Nat.add_sub_cancel] at hq
  refine ⟨hs.1, ?_⟩
  have hs := hs.2
  exact hq
theorem zq_60 : zQ 60 1 1 4 := by unfold zQ; decide +kernel
theorem zi_60_0 : (zM 60).1[0]? = some (.aload 0) := by rfl
theorem zi_60_1 : (zM 60).1[1]? = some (.iconst 17) := by rfl
theorem zi_60_2 : (zM 60).1[2]? = some (.iconst 2) := by rfl
theorem zi_60_3 : (zM 60).1[3]? = some (.invokevirtual 59) := by rfl
theorem zi_60_4 : (zM 60).1[4]? = some (.ifCond .ne ((9 : Nat) : Int)) := by rfl
theorem zi_60_5 : (zM 60).1[5]? = some (.aload 0) := by rfl
theorem zi_60_6 : (zM 60).1[6]? = some (.iconst 2) := by rfl
theorem zi_60_7 : (zM 60).1[7]? = some (.invokevirtual 54) := by rfl
theorem zi_60_8 : (zM 60).1[8]? = some (.return_) := by rfl
theorem zi_60_9 : (zM 60).1[9]? = some (.aload 0) := by rfl
theorem zi_60_10 : (zM 60).1[10]? = some (.getfield 4201) := by rfl
theorem zi_60_11 : (zM 60).1[11]? = some (.getfield 3200) := by rfl
theorem zi_60_12 : (zM 60).1[12]? = some (.iconst 9) := by rfl
theorem zi_60_13 : (zM 60).1[13]? = some (.aload 0) := by rfl
theorem zi_60_14 : (zM 60).1[14]? = some (.getfield 4200) := by rfl
theorem zi_60_15 : (zM 60).1[15]? = some (.getfield 8004) := by rfl
theorem zi_60_16 : (zM 60).1[16]? = some (.iconst 17) := by rfl
theorem zi_60_17 : (zM 60).1[17]? = some (.isub) := by rfl
theorem zi_60_18 : (zM 60).1[18]? = some (.iconst 1) := by rfl
theorem zi_60_19 : (zM 60).1[19]? = some (.iadd) := by rfl
theorem zi_60_20 : (zM 60).1[20]? = some (.iastore) := by rfl
theorem zi_60_21 : (zM 60).1[21]? = some (.aload 0) := by rfl
theorem zi_60_22 : (zM 60).1[22]? = some (.dup) := by rfl
theorem zi_60_23 : (zM 60).1[23]? = some (.getfield 4006) := by rfl
theorem zi_60_24 : (zM 60).1[24]? = some (.iconst 1) := by rfl
theorem zi_60_25 : (zM 60).1[25]? = some (.iadd) := by rfl
theorem zi_60_26 : (zM 60).1[26]? = some (.putfield 4006) := by rfl
theorem zi_60_27 : (zM 60).1[27]? = some (.return_) := by rfl
/-- TakeOrPay$Reader.takeHow()V -/
def w_60 (E : Nat → Nat) (d : Nat) (a0 : Nat) (h : ZH) (Q : Option Value → ZH → Prop) : Prop := ztag h a0 = 4 ∧ 1 ≤ d ∧ sz_59 E h a0 17 2 ∧ ((¬ (fz_59 E h a0 17 2 : Int32) = 0 → (∃ r2 : Nat, zR h a0 1 = r2 + 1 ∧ ztag h r2 = 3 ∧ ∃ r4 : Nat, zR h r2 0 = r4 + 1 ∧ ∃ r5 : Nat, zR h a0 0 = r5 + 1 ∧ ztag h r5 = 8 ∧ ztag h r4 = 13 ∧ zin 9 (zlen h r4) = true ∧ ∀ h8 : ZH, h8 = (zuI h r4 9 (((zI h r5 4) - 17) + 1)) → ∀ h9 : ZH, h9 = (zuI h8 a0 6 ((zI h8 a0 6) + 1)) → Q none h9)) ∧ (¬ (¬ (fz_59 E h a0 17 2 : Int32) = 0) → (Ct E d 54 [.ref a0, .int 2] h (fun v h10 => v = none ∧ Q none h10))))
set_option maxRecDepth 20000 in
theorem ok_60 {E : Nat → Nat} {d : Nat} {a0 : Nat} {h : ZH} {Q : Option Value → ZH → Prop} (hw : w_60 E d a0 h Q) : Ct E (d + 1) 60 [.ref a0] h Q := by
  unfold w_60 at hw
  show Gx E (d + 1) 60 0 [.ref a0] [] h Q
  refine zg_aload zi_60_0 rfl ?_
  refine zg_const (v := 17) zi_60_1 (by rfl) ?_
  refine zg_const (v := 2) zi_60_2 (by rfl) ?_
  obtain ⟨t1, hw⟩ := hw
  obtain ⟨hd, hs, hw⟩ := hw
  refine Gx.call2 (as := [.ref a0, .int 17, .int 2]) (rest := []) zq_59 zi_60_3 rfl rfl rfl (Nat.le_of_ble_eq_true rfl) (Nat.le_of_ble_eq_true rfl) (zrv_v t1 rfl rfl) (Nat.le_of_ble_eq_true rfl) ?_
  refine cz_59 hd hs ?_
  show Gx E (d + 1) 60 4 [.ref a0] [.int (fz_59 E h a0 17 2)] h Q
  refine zg_if_ne zi_60_4 (fun hc => ?_) (fun hc => ?_)
  · have hw := hw.1 hc
    refine zg_aload zi_60_9 rfl ?_
    obtain ⟨r2, er2, hw⟩ := hw
    refine zg_getR (v := .ref r2) zi_60_10 t1 (by rfl) (by show zrv (zR h a0 1) = _; rw [er2]; rfl) ?_
    obtain ⟨t3, hw⟩ := hw
    obtain ⟨r4, er4, hw⟩ := hw
    refine zg_getR (v := .ref r4) zi_60_11 t3 (by rfl) (by show zrv (zR h r2 0) = _; rw [er4]; rfl) ?_
    refine zg_const (v := 9) zi_60_12 (by rfl) ?_
    refine zg_aload zi_60_13 rfl ?_
    obtain ⟨r5, er5, hw⟩ := hw
    refine zg_getR (v := .ref r5) zi_60_14 t1 (by rfl) (by show zrv (zR h a0 0) = _; rw [er5]; rfl) ?_
    obtain ⟨t6, hw⟩ := hw
    refine zg_getI (v := .int (zI h r5 4)) zi_60_15 t6 (by rfl) rfl ?_
    refine zg_const (v := 17) zi_60_16 (by rfl) ?_
    refine zg_isub zi_60_17 ?_
    refine zg_const (v := 1) zi_60_18 (by rfl) ?_
    refine zg_iadd zi_60_19 ?_
    obtain ⟨t7, hw⟩ := hw
    obtain ⟨hb, hw⟩ := hw
    refine zg_iastore (h1 := zuI h r4 9 (((zI h r5 4) - 17) + 1)) zi_60_20 t7 hb rfl ?_
    refine zg_nameH fun h8 eh8 => ?_
    have hw := hw h8 eh8
    refine zg_aload zi_60_21 rfl ?_
    refine zg_dup zi_60_22 rfl ?_
    refine zg_getI (v := .int (zI h8 a0 6)) zi_60_23 (by rw [eh8]; exact t1) (by rfl) rfl ?_
    refine zg_const (v := 1) zi_60_24 (by rfl) ?_
    refine zg_iadd zi_60_25 ?_
    refine zg_putI (h1 := zuI h8 a0 6 ((zI h8 a0 6) + 1)) zi_60_26 (by rw [eh8]; exact t1) (by rfl) rfl ?_
    refine zg_nameH fun h9 eh9 => ?_
    have hw := hw h9 eh9
    exact zg_return zi_60_27 hw
  · have hw := hw.2 hc
    refine zg_aload zi_60_5 rfl ?_
    refine zg_const (v := 2) zi_60_6 (by rfl) ?_
    refine Gx.call2 (as := [.ref a0, .int 2]) (rest := []) zq_54 zi_60_7 rfl rfl rfl (Nat.le_of_ble_eq_true rfl) (Nat.le_of_ble_eq_true rfl) (zrv_v t1 rfl rfl) (Nat.le_of_ble_eq_true rfl) ?_
    refine Ct.mono hw ?_
    rintro v h10 ⟨rfl, hw⟩
    show Gx E (d + 1) 60 8 [.ref a0] [] h10 Q
    exact zg_return zi_60_8 hw
theorem zq_61 : zQ 61 1 2 4 := by unfold zQ; decide +kernel
theorem zi_61_0 : (zM 61).1[0]? = some (.aload 0) := by rfl
theorem zi_61_1 : (zM 61).1[1]? = some (.iconst 19) := by rfl
theorem zi_61_2 : (zM 61).1[2]? = some (.iconst 3) := by rfl
theorem zi_61_3 : (zM 61).1[3]? = some (.invokevirtual 59) := by rfl
theorem zi_61_4 : (zM 61).1[4]? = some (.ifCond .ne ((9 : Nat) : Int)) := by rfl
theorem zi_61_5 : (zM 61).1[5]? = some (.aload 0) := by rfl
theorem zi_61_6 : (zM 61).1[6]? = some (.iconst 2) := by rfl
theorem zi_61_7 : (zM 61).1[7]? = some (.invokevirtual 54) := by rfl
theorem zi_61_8 : (zM 61).1[8]? = some (.return_) := by rfl
theorem zi_61_9 : (zM 61).1[9]? = some (.aload 0) := by rfl
theorem zi_61_10 : (zM 61).1[10]? = some (.getfield 4200) := by rfl
theorem zi_61_11 : (zM 61).1[11]? = some (.getfield 8004) := by rfl
theorem zi_61_12 : (zM 61).1[12]? = some (.iconst 19) := by rfl
theorem zi_61_13 : (zM 61).1[13]? = some (.isub) := by rfl
theorem zi_61_14 : (zM 61).1[14]? = some (.istore 1) := by rfl
theorem zi_61_15 : (zM 61).1[15]? = some (.aload 0) := by rfl
theorem zi_61_16 : (zM 61).1[16]? = some (.iconst 23) := by rfl
theorem zi_61_17 : (zM 61).1[17]? = some (.iload 1) := by rfl
theorem zi_61_18 : (zM 61).1[18]? = some (.iadd) := by rfl
theorem zi_61_19 : (zM 61).1[19]? = some (.invokevirtual 56) := by rfl
theorem zi_61_20 : (zM 61).1[20]? = some (.aload 0) := by rfl
theorem zi_61_21 : (zM 61).1[21]? = some (.getfield 4201) := by rfl
theorem zi_61_22 : (zM 61).1[22]? = some (.getfield 3200) := by rfl
theorem zi_61_23 : (zM 61).1[23]? = some (.iconst 13) := by rfl
theorem zi_61_24 : (zM 61).1[24]? = some (.dup2) := by rfl
theorem zi_61_25 : (zM 61).1[25]? = some (.iaload) := by rfl
theorem zi_61_26 : (zM 61).1[26]? = some (.iconst 1) := by rfl
theorem zi_61_27 : (zM 61).1[27]? = some (.iload 1) := by rfl
theorem zi_61_28 : (zM 61).1[28]? = some (.ishl) := by rfl
theorem zi_61_29 : (zM 61).1[29]? = some (.ior) := by rfl
theorem zi_61_30 : (zM 61).1[30]? = some (.iastore) := by rfl
theorem zi_61_31 : (zM 61).1[31]? = some (.aload 0) := by rfl
theorem zi_61_32 : (zM 61).1[32]? = some (.dup) := by rfl
theorem zi_61_33 : (zM 61).1[33]? = some (.getfield 4006) := by rfl
theorem zi_61_34 : (zM 61).1[34]? = some (.iconst 1) := by rfl
theorem zi_61_35 : (zM 61).1[35]? = some (.iadd) := by rfl
theorem zi_61_36 : (zM 61).1[36]? = some (.putfield 4006) := by rfl
theorem zi_61_37 : (zM 61).1[37]? = some (.return_) := by rfl
/-- TakeOrPay$Reader.takeWho()V -/
def w_61 (E : Nat → Nat) (d : Nat) (a0 : Nat) (h : ZH) (Q : Option Value → ZH → Prop) : Prop := ztag h a0 = 4 ∧ 1 ≤ d ∧ sz_59 E h a0 19 3 ∧ ((¬ (fz_59 E h a0 19 3 : Int32) = 0 → (∃ r2 : Nat, zR h a0 0 = r2 + 1 ∧ ztag h r2 = 8 ∧ ∀ x4 : Int32, x4 = ((zI h r2 4) - 19) → Ct E d 56 [.ref a0, .int (23 + x4)] h (fun v h5 => v = none ∧ ztag h5 a0 = 4 ∧ ∃ r7 : Nat, zR h5 a0 1 = r7 + 1 ∧ ztag h5 r7 = 3 ∧ ∃ r9 : Nat, zR h5 r7 0 = r9 + 1 ∧ (ztag h5 r9 = 13 ∨ ztag h5 r9 = 19) ∧ zin 13 (zlen h5 r9) = true ∧ ztag h5 r9 = 13 ∧ zin 13 (zlen h5 r9) = true ∧ ∀ h12 : ZH, h12 = (zuI h5 r9 13 ((zI h5 r9 13) ||| ((1 : Int32) <<< (x4 &&& 31)))) → ∀ h13 : ZH, h13 = (zuI h12 a0 6 ((zI h12 a0 6) + 1)) → Q none h13))) ∧ (¬ (¬ (fz_59 E h a0 19 3 : Int32) = 0) → (Ct E d 54 [.ref a0, .int 2] h (fun v h14 => v = none ∧ Q none h14))))
set_option maxRecDepth 20000 in
theorem ok_61 {E : Nat → Nat} {d : Nat} {a0 : Nat} {h : ZH} {Q : Option Value → ZH → Prop} (hw : w_61 E d a0 h Q) : Ct E (d + 1) 61 [.ref a0] h Q := by
  unfold w_61 at hw
  show Gx E (d + 1) 61 0 [.ref a0, .retAddr 0] [] h Q
  refine zg_aload zi_61_0 rfl ?_
  refine zg_const (v := 19) zi_61_1 (by rfl) ?_
  refine zg_const (v := 3) zi_61_2 (by rfl) ?_
  obtain ⟨t1, hw⟩ := hw
  obtain ⟨hd, hs, hw⟩ := hw
  refine Gx.call2 (as := [.ref a0, .int 19, .int 3]) (rest := []) zq_59 zi_61_3 rfl rfl rfl (Nat.le_of_ble_eq_true rfl) (Nat.le_of_ble_eq_true rfl) (zrv_v t1 rfl rfl) (Nat.le_of_ble_eq_true rfl) ?_
  refine cz_59 hd hs ?_
  show Gx E (d + 1) 61 4 [.ref a0, .retAddr 0] [.int (fz_59 E h a0 19 3)] h Q
  refine zg_if_ne zi_61_4 (fun hc => ?_) (fun hc => ?_)
  · have hw := hw.1 hc
    refine zg_aload zi_61_9 rfl ?_
    obtain ⟨r2, er2, hw⟩ := hw
    refine zg_getR (v := .ref r2) zi_61_10 t1 (by rfl) (by show zrv (zR h a0 0) = _; rw [er2]; rfl) ?_
    obtain ⟨t3, hw⟩ := hw
    refine zg_getI (v := .int (zI h r2 4)) zi_61_11 t3 (by rfl) rfl ?_
    refine zg_const (v := 19) zi_61_12 (by rfl) ?_
    refine zg_isub zi_61_13 ?_
    refine zg_nameI fun x4 ex4 => ?_
    have hw := hw x4 ex4
    refine zg_istore (ls1 := [.ref a0, .int x4]) zi_61_14 (Nat.le_of_ble_eq_true rfl) rfl ?_
    refine zg_aload zi_61_15 rfl ?_
    refine zg_const (v := 23) zi_61_16 (by rfl) ?_
    refine zg_iload zi_61_17 rfl ?_
    refine zg_iadd zi_61_18 ?_
    refine Gx.call2 (as := [.ref a0, .int (23 + x4)]) (rest := []) zq_56 zi_61_19 rfl rfl rfl (Nat.le_of_ble_eq_true rfl) (Nat.le_of_ble_eq_true rfl) (zrv_v t1 rfl rfl) (Nat.le_of_ble_eq_true rfl) ?_
    refine Ct.mono hw ?_
    rintro v h5 ⟨rfl, hw⟩
    show Gx E (d + 1) 61 20 [.ref a0, .int x4] [] h5 Q
    refine zg_aload zi_61_20 rfl ?_
    obtain ⟨t6, hw⟩ := hw
    obtain ⟨r7, er7, hw⟩ := hw
    refine zg_getR (v := .ref r7) zi_61_21 t6 (by rfl) (by show zrv (zR h5 a0 1) = _; rw [er7]; rfl) ?_
    obtain ⟨t8, hw⟩ := hw
    obtain ⟨r9, er9, hw⟩ := hw
    refine zg_getR (v := .ref r9) zi_61_22 t8 (by rfl) (by show zrv (zR h5 r7 0) = _; rw [er9]; rfl) ?_
    refine zg_const (v := 13) zi_61_23 (by rfl) ?_
    refine zg_dup2_11 zi_61_24 rfl ?_
    obtain ⟨t10, hw⟩ := hw
    obtain ⟨hb, hw⟩ := hw
    refine zg_iaload (v := .int (zI h5 r9 13)) zi_61_25 t10 hb rfl ?_
    refine zg_const (v := 1) zi_61_26 (by rfl) ?_
    refine zg_iload zi_61_27 rfl ?_
    refine zg_ishl zi_61_28 ?_
    refine zg_ior zi_61_29 ?_
    obtain ⟨t11, hw⟩ := hw
    obtain ⟨hb, hw⟩ := hw
    refine zg_iastore (h1 := zuI h5 r9 13 ((zI h5 r9 13) ||| ((1 : Int32) <<< (x4 &&& 31)))) zi_61_30 t11 hb rfl ?_
    refine zg_nameH fun h12 eh12 => ?_
    have hw := hw h12 eh12
    refine zg_aload zi_61_31 rfl ?_
    refine zg_dup zi_61_32 rfl ?_
    refine zg_getI (v := .int (zI h12 a0 6)) zi_61_33 (by rw [eh12]; exact t6) (by rfl) rfl ?_
    refine zg_const (v := 1) zi_61_34 (by rfl) ?_
    refine zg_iadd zi_61_35 ?_
    refine zg_putI (h1 := zuI h12 a0 6 ((zI h12 a0 6) + 1)) zi_61_36 (by rw [eh12]; exact t6) (by rfl) rfl ?_
    refine zg_nameH fun h13 eh13 => ?_
    have hw := hw h13 eh13
    exact zg_return zi_61_37 hw
  · have hw := hw.2 hc
    refine zg_aload zi_61_5 rfl ?_
    refine zg_const (v := 2) zi_61_6 (by rfl) ?_
    refine Gx.call2 (as := [.ref a0, .int 2]) (rest := []) zq_54 zi_61_7 rfl rfl rfl (Nat.le_of_ble_eq_true rfl) (Nat.le_of_ble_eq_true rfl) (zrv_v t1 rfl rfl) (Nat.le_of_ble_eq_true rfl) ?_
    refine Ct.mono hw ?_
    rintro v h14 ⟨rfl, hw⟩
    show Gx E (d + 1) 61 8 [.ref a0, .retAddr 0] [] h14 Q
    exact zg_return zi_61_8 hw
