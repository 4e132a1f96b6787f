/-! THE ONE STRING: length and charAt of the names, by the kit's rows -/
def JPc (E : Nat → Nat) (D : va_G) (cA : Nat → ClassId) (hs : ZH) (H0 : Heap) (as : List Value) : Array Value → State → Prop := fun a U => a = as.toArray ∧ ZK E D cA hs H0 U ∧ ∀ q, q < E 0 → U.heap[q]? = H0[q]?
def JQc (v : Option Value) : Array Value → State → Outcome → State → Prop := fun _ st o t => o = .returned v ∧ t.heap = st.heap
def jrm (d : Nat) : Room := { frames := d, cells := 0, slots := 0, locals := 64 * d }
section JS
variable {p : Program} {l : Launch} {e : Env} {R : Room} {s : State} {m : MethodId} {args : Array Value} {below : List Frame} {meth : Method} {c : Code} {Q : State → Prop}
variable {E : Nat → Nat} {D : va_G} {cA : Nat → ClassId} {hs : ZH} {H0 : Heap} {H : Heap} {locs : List Loc} {cells slots : Nat}
theorem jcall {pc : Nat} {arr : Array Slot} {st0 rest : List Value} {v : Option Value} {a : Array Value} (hr : va_Run p l e R s m args below meth c H locs cells slots 0 0 (F0 m pc arr st0) rest (JQc v a) (fun _ => False)) (kk : W p l e R s m args below meth c H locs cells slots Q (F0 m (pc + 3) arr (v.toList ++ rest))) : W p l e R s m args below meth c H locs cells slots Q (F0 m pc arr st0) := by
  intro T hT X
  obtain ⟨v2, st₀, t, T', L, r1, r2, r3, r4, r5, ⟨r6, r8⟩, r7⟩ := hr T hT X
  cases r6
  have hL : L = [] := by
    cases L with
    | nil => rfl
    | cons q L => exact (r3 q List.mem_cons_self).elim
  subst hL
  rw [List.append_nil] at r2
  obtain ⟨t2, c1, c2⟩ := kk T' (by rw [r4, r8, r1]) r2
  exact ⟨t2, r7 t2 c1, c2⟩
theorem jblind {as : List Value} : FrameBlind (JPc E D cA hs H0 as) := fun a U g mk hP => ⟨hP.1, ZK.same (s := U) (U := U.calling g mk a) rfl hP.2.1, hP.2.2⟩
theorem jpre {as : List Value} (hK : ZK E D cA hs H0 s) (hH : ∀ q, q < E 0 → H[q]? = H0[q]?) : PreS s H (JPc E D cA hs H0 as) as := ⟨jblind, fun U hU hW => ⟨rfl, hK.warm hW, by rw [hU]; exact hH⟩⟩
theorem jprev {as : List Value} (hK : ZK E D cA hs H0 s) (hH : ∀ q, q < E 0 → H[q]? = H0[q]?) : PreV s H "java/lang/String" (E 7) (JPc E D cA hs H0 (.ref (E 7) :: as)) as := by
  obtain ⟨adV, h7⟩ := id hK.2.2.2.2.2.2.1
  obtain ⟨cell, g1, g2, g3, g4⟩ := (h7.1 0 (by decide)).1
  exact ⟨jblind, ⟨cell, by rw [hH _ (Nat.not_le.mp g4)]; exact g1, g2, g3⟩, fun U hU hW => ⟨rfl, hK.warm hW, by rw [hU]; exact hH⟩⟩
/-- a static field below E 0 -/
theorem jstat {pc i : Nat} {arr : Array Slot} {rest : List Value} {cc : ByteArray} {own C n dsc : String} {v : Value} (hx : p.tables.exec = Jvm.exec) (hb : c.code = cc) (hown : s.vm.findClass own = some m.cls) (hZ : va_Z C n dsc v (fun q => E 0 ≤ q) s H0) (hH : ∀ q, q < E 0 → H[q]? = H0[q]?) (hlink : (Cond.fieldLink own i C n dsc).before args s = true) (hd : decode cc pc = .ok (.getstatic i, 3))
    (kk : W p l e R s m args below meth c H locs cells slots Q (F0 m (pc + 3) arr (v :: rest))) : W p l e R s m args below meth c H locs cells slots Q (F0 m pc arr rest) := by
  obtain ⟨cf, kf, fi, f, a, cell, g1, g2, g3, g4, g5, g6, g7, g8⟩ := hZ
  exact W.gets hx hb hown hlink g1 g2 g3 g4 (by rw [hH a (Nat.not_le.mp g8)]; exact g5) (fun e => by rw [e] at g6; cases g6) g7 rfl hd kk
theorem jfield {pc i q : Nat} {arr : Array Slot} {rest : List Value} {cc : ByteArray} {own C n dsc : String} {v : Value} (hx : p.tables.exec = Jvm.exec) (hb : c.code = cc) (hown : s.vm.findClass own = some m.cls) (hZ : va_OF C n dsc v q (fun q => E 0 ≤ q) s H0) (hH : ∀ q, q < E 0 → H[q]? = H0[q]?) (hlink : (Cond.fieldLink own i C n dsc).before args s = true) (hd : decode cc pc = .ok (.getfield i, 3))
    (kk : W p l e R s m args below meth c H locs cells slots Q (F0 m (pc + 3) arr (v :: rest))) : W p l e R s m args below meth c H locs cells slots Q (F0 m pc arr (.ref q :: rest)) := by
  obtain ⟨cf, k, i2, f, cell, g1, g2, g3, g4, g5, g6⟩ := hZ
  exact W.getf hx hb hown hlink g1 g2 (by rw [hH q (Nat.not_le.mp g6)]; exact g3) g4 g5 rfl rfl hd kk
end JS
set_option maxRecDepth 100000 in
theorem zSw : lw_tbl[142]? = some (.initialized "java/lang/String") ∧ lw_tbl[143]? = some (.initialized "java/lang/StringLatin1") ∧ lw_tbl[144]? = some (.initialized "jdk/internal/util/Preconditions") := by decide +kernel

def jy_len : MethodName := ⟨"java/lang/String", "length", "()I"⟩
set_option maxRecDepth 100000 in
theorem jw_len : lw_tbl[609]? = some (.code jy_len prog_15_method_54_code 1 (some .int)) := rfl
def jy_cod : MethodName := ⟨"java/lang/String", "coder", "()B"⟩
set_option maxRecDepth 100000 in
theorem jw_cod : lw_tbl[613]? = some (.code jy_cod prog_15_method_152_code 1 (some .byte)) := rfl
def jy_chr : MethodName := ⟨"java/lang/String", "charAt", "(I)C"⟩
set_option maxRecDepth 100000 in
theorem jw_chr : lw_tbl[619]? = some (.code jy_chr prog_15_method_56_code 2 (some .char)) := rfl
def jy_lat : MethodName := ⟨"java/lang/String", "isLatin1", "()Z"⟩
set_option maxRecDepth 100000 in
theorem jw_lat : lw_tbl[623]? = some (.code jy_lat prog_15_method_154_code 1 (some .boolean)) := rfl
def jy_lch : MethodName := ⟨"java/lang/StringLatin1", "charAt", "([BI)C"⟩
set_option maxRecDepth 100000 in
theorem jw_lch : lw_tbl[626]? = some (.code jy_lch prog_16_method_2_code 2 (some .char)) := rfl
def jy_chk : MethodName := ⟨"java/lang/String", "checkIndex", "(II)V"⟩
set_option maxRecDepth 100000 in
theorem jw_chk : lw_tbl[629]? = some (.code jy_chk prog_15_method_155_code 2 none) := rfl
def jy_pre : MethodName := ⟨"jdk/internal/util/Preconditions", "checkIndex", "(IILjava/util/function/BiFunction;)I"⟩
set_option maxRecDepth 100000 in
theorem jw_pre : lw_tbl[634]? = some (.code jy_pre prog_19_method_11_code 3 (some .int)) := rfl
set_option maxRecDepth 100000 in
theorem jl_coder_l : lw_tbl[610]? = some (.methodLink "java/lang/String" 335 jy_cod) := by decide +kernel
set_option maxRecDepth 100000 in
theorem jl_coder_i : lw_tbl[611]? = some (.instanceMethod jy_cod) := by decide +kernel
set_option maxRecDepth 100000 in
theorem jl_coder_s : lw_tbl[612]? = some (.selects "java/lang/String" jy_cod jy_cod) := by decide +kernel
set_option maxRecDepth 100000 in
theorem jl_cs : lw_tbl[614]? = some (.fieldLink "java/lang/String" 38 "java/lang/String" "COMPACT_STRINGS" "Z") := by decide +kernel
set_option maxRecDepth 100000 in
theorem jl_len_i : lw_tbl[607]? = some (.instanceMethod jy_len) := by decide +kernel
set_option maxRecDepth 100000 in
theorem jl_len_s : lw_tbl[608]? = some (.selects "java/lang/String" jy_len jy_len) := by decide +kernel
set_option maxRecDepth 100000 in
theorem jl_chr_i : lw_tbl[617]? = some (.instanceMethod jy_chr) := by decide +kernel
set_option maxRecDepth 100000 in
theorem jl_chr_s : lw_tbl[618]? = some (.selects "java/lang/String" jy_chr jy_chr) := by decide +kernel
set_option maxRecDepth 100000 in
theorem jl_lat_l : lw_tbl[620]? = some (.methodLink "java/lang/String" 492 jy_lat) := by decide +kernel
set_option maxRecDepth 100000 in
theorem jl_lat_i : lw_tbl[621]? = some (.instanceMethod jy_lat) := by decide +kernel
set_option maxRecDepth 100000 in
theorem jl_lat_s : lw_tbl[622]? = some (.selects "java/lang/String" jy_lat jy_lat) := by decide +kernel
set_option maxRecDepth 100000 in
theorem jl_lch_l : lw_tbl[624]? = some (.methodLink "java/lang/String" 495 jy_lch) := by decide +kernel
set_option maxRecDepth 100000 in
theorem jl_lch_t : lw_tbl[625]? = some (.static jy_lch) := by decide +kernel
set_option maxRecDepth 100000 in
theorem jl_chk_l : lw_tbl[627]? = some (.methodLink "java/lang/StringLatin1" 9 jy_chk) := by decide +kernel
set_option maxRecDepth 100000 in
theorem jl_chk_t : lw_tbl[628]? = some (.static jy_chk) := by decide +kernel
set_option maxRecDepth 100000 in
theorem jl_sio : lw_tbl[630]? = some (.fieldLink "java/lang/String" 1053 "jdk/internal/util/Preconditions" "SIOOBE_FORMATTER" "Ljava/util/function/BiFunction;") := by decide +kernel
set_option maxRecDepth 100000 in
theorem jl_pre_l : lw_tbl[632]? = some (.methodLink "java/lang/String" 1059 jy_pre) := by decide +kernel
set_option maxRecDepth 100000 in
theorem jl_pre_t : lw_tbl[633]? = some (.static jy_pre) := by decide +kernel
set_option maxRecDepth 100000 in
theorem jl_val : lw_tbl[1754]? = some (.fieldLink "java/lang/String" 9 "java/lang/String" "value" "[B") := by decide +kernel
set_option maxRecDepth 100000 in
theorem jl_cof : lw_tbl[1755]? = some (.fieldLink "java/lang/String" 15 "java/lang/String" "coder" "B") := by decide +kernel
section JM
variable {l : Launch} {E : Nat → Nat} {D : va_G} {cA : Nat → ClassId} {hs : ZH} {H0 : Heap} {d : Nat}
theorem jm_cod : Met l jy_cod [.code jy_cod prog_15_method_152_code 1 (some .byte)] (jrm (d + 1)) (JPc E D cA hs H0 [.ref (E 7)]) (JQc (some (.int 0))) 0 0 (fun _ => False) := by
  refine Met.ofW (cc := prog_15_method_152_code) (maxL := 1) (ret := (some .byte)) (by decide) rfl ?_
  intro p e s m args below meth c s₁ B hml hv
  obtain ⟨rfl, hK, hH⟩ := hv
  have hx := B.exec
  have hb := B.bytes
  have hr := B.returns
  have hlocks := B.notSynchronized
  have hown := findClass_of_methodNamed B.named
  have hl := lv_entry ([.ref (E 7)]) (n := 1) (Nat.le_of_ble_eq_true rfl)
  rw [lg_entry_eq]
  generalize (lg_sl ([.ref (E 7)]) ++ List.replicate (1 - (lg_sl ([.ref (E 7)])).length) Slot.unset).toArray = ls at hl ⊢
  refine jstat (own := "java/lang/String") hx hb hown hK.2.2.2.2.2.2.2.2.2.1 hH (hK.word jl_cs rfl _) (show decode prog_15_method_152_code 0 = .ok (.getstatic 38, 3) by decide +kernel) ?_
  refine lv_if_eq (tgt := 13) hx hb (show decode prog_15_method_152_code 3 = .ok (.ifCond .eq 10, 3) by decide +kernel) (by decide) (fun q => absurd q (by decide)) (fun _ => ?_)
  refine lv_aload_n hx hb (show decode prog_15_method_152_code 6 = .ok (.aload_n 0, 1) by decide +kernel) rfl (lv_at hl 0 rfl) ?_
  obtain ⟨adV, h7⟩ := hK.2.2.2.2.2.2.1
  refine jfield (own := "java/lang/String") hx hb hown (h7.1 0 (by decide)).2.1 hH (hK.word jl_cof rfl _) (show decode prog_15_method_152_code 7 = .ok (.getfield 15, 3) by decide +kernel) ?_
  refine lv_goto (tgt := 14) hx hb (show decode prog_15_method_152_code 10 = .ok (.goto 4, 3) by decide +kernel) (by decide) ?_
  exact W.zret hx hb hr rfl (fun t ht _ => ⟨rfl, ht⟩) (fun q hq => by cases hq) (show decode prog_15_method_152_code 14 = .ok (.ireturn, 1) by decide +kernel)
theorem jm_lat : Met l jy_lat [.code jy_lat prog_15_method_154_code 1 (some .boolean)] (jrm (d + 1)) (JPc E D cA hs H0 [.ref (E 7)]) (JQc (some (.int 1))) 0 0 (fun _ => False) := by
  refine Met.ofW (cc := prog_15_method_154_code) (maxL := 1) (ret := (some .boolean)) (by decide) rfl ?_
  intro p e s m args below meth c s₁ B hml hv
  obtain ⟨rfl, hK, hH⟩ := hv
  have hx := B.exec
  have hb := B.bytes
  have hr := B.returns
  have hlocks := B.notSynchronized
  have hown := findClass_of_methodNamed B.named
  have hl := lv_entry ([.ref (E 7)]) (n := 1) (Nat.le_of_ble_eq_true rfl)
  rw [lg_entry_eq]
  generalize (lg_sl ([.ref (E 7)]) ++ List.replicate (1 - (lg_sl ([.ref (E 7)])).length) Slot.unset).toArray = ls at hl ⊢
  refine jstat (own := "java/lang/String") hx hb hown hK.2.2.2.2.2.2.2.2.2.1 hH (hK.word jl_cs rfl _) (show decode prog_15_method_154_code 0 = .ok (.getstatic 38, 3) by decide +kernel) ?_
  refine lv_if_eq (tgt := 17) hx hb (show decode prog_15_method_154_code 3 = .ok (.ifCond .eq 14, 3) by decide +kernel) (by decide) (fun q => absurd q (by decide)) (fun _ => ?_)
  refine lv_aload_n hx hb (show decode prog_15_method_154_code 6 = .ok (.aload_n 0, 1) by decide +kernel) rfl (lv_at hl 0 rfl) ?_
  obtain ⟨adV, h7⟩ := hK.2.2.2.2.2.2.1
  refine jfield (own := "java/lang/String") hx hb hown (h7.1 0 (by decide)).2.1 hH (hK.word jl_cof rfl _) (show decode prog_15_method_154_code 7 = .ok (.getfield 15, 3) by decide +kernel) ?_
  refine lv_if_ne (tgt := 17) hx hb (show decode prog_15_method_154_code 10 = .ok (.ifCond .ne 7, 3) by decide +kernel) (by decide) (fun q => absurd rfl q) (fun _ => ?_)
  refine lv_iconst (v := 1) hx hb (show decode prog_15_method_154_code 13 = .ok (.iconst 1, 1) by decide +kernel) (by decide) ?_
  refine lv_goto (tgt := 18) hx hb (show decode prog_15_method_154_code 14 = .ok (.goto 4, 3) by decide +kernel) (by decide) ?_
  exact W.zret hx hb hr rfl (fun t ht _ => ⟨rfl, ht⟩) (fun q hq => by cases hq) (show decode prog_15_method_154_code 18 = .ok (.ireturn, 1) by decide +kernel)
theorem jsl {i n : Int32} {v : Value} (h : v.category = 1) : (lg_sl [.int i, .int n, v]).length ≤ 3 := by
  cases v <;> first | exact Nat.le_of_ble_eq_true rfl | (exact absurd h (fun q => by cases q))
theorem jm_pre {i n : Int32} {v : Value} (hv0 : v.category = 1) (h0 : ¬ i < 0) (h1 : i < n) : Met l jy_pre [.code jy_pre prog_19_method_11_code 3 (some .int)] (jrm (d + 1)) (JPc E D cA hs H0 [.int i, .int n, v]) (JQc (some (.int i))) 0 0 (fun _ => False) := by
  refine Met.ofW (cc := prog_19_method_11_code) (maxL := 3) (ret := (some .int)) (by decide) rfl ?_
  intro p e s m args below meth c s₁ B hml hv
  obtain ⟨rfl, hK, hH⟩ := hv
  have hx := B.exec
  have hb := B.bytes
  have hr := B.returns
  have hlocks := B.notSynchronized
  have hown := findClass_of_methodNamed B.named
  have hl := lv_entry ([.int i, .int n, v]) (n := 3) (jsl hv0)
  rw [lg_entry_eq]
  generalize (lg_sl ([.int i, .int n, v]) ++ List.replicate (3 - (lg_sl ([.int i, .int n, v])).length) Slot.unset).toArray = ls at hl ⊢
  have hl : lv_has ls 3 [(0, .int i), (1, .int n), (2, v)] := by
    have e : lv_args 0 [.int i, .int n, v] = [(0, .int i), (1, .int n), (2, v)] := by simp [lv_args, Value.category]
    rw [e] at hl
    exact hl
  refine lv_iload_n hx hb (show decode prog_19_method_11_code 0 = .ok (.iload_n 0, 1) by decide +kernel) rfl (lv_at hl 0 rfl) ?_
  refine lv_if_lt (tgt := 9) hx hb (show decode prog_19_method_11_code 1 = .ok (.ifCond .lt 8, 3) by decide +kernel) (by decide) (fun q => absurd q h0) (fun _ => ?_)
  refine lv_iload_n hx hb (show decode prog_19_method_11_code 4 = .ok (.iload_n 0, 1) by decide +kernel) rfl (lv_at hl 0 rfl) ?_
  refine lv_iload_n hx hb (show decode prog_19_method_11_code 5 = .ok (.iload_n 1, 1) by decide +kernel) rfl (lv_at hl 1 rfl) ?_
  refine lv_icmp_lt (tgt := 16) hx hb (show decode prog_19_method_11_code 6 = .ok (.if_icmp .lt 10, 3) by decide +kernel) (by decide) (fun _ => ?_) (fun q => absurd h1 q)
  refine lv_iload_n hx hb (show decode prog_19_method_11_code 16 = .ok (.iload_n 0, 1) by decide +kernel) rfl (lv_at hl 0 rfl) ?_
  exact W.iret hx hb hr (fun t ht _ => ⟨rfl, ht⟩) (fun q hq => by cases hq) (show decode prog_19_method_11_code 17 = .ok (.ireturn, 1) by decide +kernel)
theorem jws {E : Nat → Nat} {D : va_G} {cA : Nat → ClassId} {hs : ZH} {H0 : Heap} {s : State} (hK : ZK E D cA hs H0 s) {i : Nat} {y : MethodName} {b : ByteArray} {n : Nat} {r : Option FieldType} (hw : lw_tbl[i]? = some (.code y b n r)) : ∀ w ∈ [Cond.code y b n r], ∀ (a' : Array Value) (U : State), s.WarmedH U.vm → w.before a' U = true := by
  intro w hw1 a' U hW
  rw [List.mem_singleton.mp hw1]
  exact (hK.warm hW).word hw rfl a'
theorem jlen {y : MethodName} {n : Nat} (h : (parseMethodDescriptor y.desc).map (fun d => d.parameters.length) = some n) : ∀ sig, parseMethodDescriptor y.desc = some sig → n = sig.parameters.length := by
  intro sig hs
  rw [hs] at h
  exact (Option.some.inj h).symm
theorem jm_chk {i n : Int32} (h0 : ¬ i < 0) (h1 : i < n) : Met l jy_chk [.code jy_chk prog_15_method_155_code 2 none] (jrm (d + 2)) (JPc E D cA hs H0 [.int i, .int n]) (JQc none) 0 0 (fun _ => False) := by
  refine Met.ofW (cc := prog_15_method_155_code) (maxL := 2) (ret := none) (by decide) rfl ?_
  intro p e s m args below meth c s₁ B hml hv
  obtain ⟨rfl, hK, hH⟩ := hv
  have hx := B.exec
  have hb := B.bytes
  have hr := B.returns
  have hlocks := B.notSynchronized
  have hown := findClass_of_methodNamed B.named
  have hl := lv_entry ([.int i, .int n]) (n := 2) (Nat.le_of_ble_eq_true rfl)
  rw [lg_entry_eq]
  generalize (lg_sl ([.int i, .int n]) ++ List.replicate (2 - (lg_sl ([.int i, .int n])).length) Slot.unset).toArray = ls at hl ⊢
  have go : ∀ v : Value, v.category = 1 → va_Z "jdk/internal/util/Preconditions" "SIOOBE_FORMATTER" "Ljava/util/function/BiFunction;" v (fun q => E 0 ≤ q) s H0 → W p l e (headSpec [.code jy_chk prog_15_method_155_code 2 none] (jrm (d + 2))).room s m [.int i, .int n].toArray below meth c s.heap [] 0 0 (MQ below (JQc none) [.int i, .int n].toArray s 0 0 (fun _ => False)) (F0 m 0 ls []) := by
    intro v hv hZ
    refine lv_iload_n hx hb (show decode prog_15_method_155_code 0 = .ok (.iload_n 0, 1) by decide +kernel) rfl (lv_at hl 0 rfl) ?_
    refine lv_iload_n hx hb (show decode prog_15_method_155_code 1 = .ok (.iload_n 1, 1) by decide +kernel) rfl (lv_at hl 1 rfl) ?_
    refine jstat (own := "java/lang/String") hx hb hown hZ hH (hK.word jl_sio rfl _) (show decode prog_15_method_155_code 2 = .ok (.getstatic 1053, 3) by decide +kernel) ?_
    refine jcall (v := some (.int i)) (va_runS (bytes := prog_19_method_11_code) (maxL := 3) (ret := some .int) (n := 3) (index := 1059) (As := [.int i, .int n, v]) (rest := []) (own := "java/lang/String") (Ts := []) ⟨hx, hb, hml, hown, fun w hw => by cases hw⟩ (jm_pre (d := d) hv h0 h1) ⟨⟨rfl, rfl, by show d + 1 + 1 ≤ d + 2; omega, by show 8 + (3 + 11) + 64 * (d + 1) ≤ 64 * (d + 2); omega, jws hK jw_pre, List.mem_singleton.mpr rfl, hK.word jw_pre rfl _, hK.word zSw.2.2 rfl _, by decide, jlen (by decide +kernel), hK.word jl_pre_l rfl _⟩, hK.word jl_pre_t rfl _⟩ (jpre hK hH) rfl rfl hl.1 rfl (by show 2 * 0 + _ ≤ 8; decide) (show decode prog_15_method_155_code 5 = .ok (.invokestatic 1059, 3) by decide +kernel) ⟨Nat.le_refl _, Nat.le_refl _⟩) ?_
    refine lv_pop hx hb (show decode prog_15_method_155_code 8 = .ok (.pop, 1) by decide +kernel) rfl ?_
    exact W.vret hx hb hr (fun t ht _ => ⟨rfl, ht⟩) (fun q hq => by cases hq) (show decode prog_15_method_155_code 9 = .ok (.return_, 1) by decide +kernel)
  rcases hK.2.2.2.2.2.2.2.2.2.2 with hZ | ⟨t, hZ⟩
  · exact go _ rfl hZ
  · exact go _ rfl hZ
def JTx (E : Nat → Nat) (H0 : Heap) (adV : Nat) (U : State) : Prop := va_T .byte adV 135 (fun j => .int (zNames.getD j 0)) (fun q => E 0 ≤ q) U H0
def JPd (E : Nat → Nat) (D : va_G) (cA : Nat → ClassId) (hs : ZH) (H0 : Heap) (adV : Nat) (as : List Value) : Array Value → State → Prop := fun a U => JPc E D cA hs H0 as a U ∧ JTx E H0 adV U
theorem jblind2 {adV : Nat} {as : List Value} : FrameBlind (JPd E D cA hs H0 adV as) := fun a U g mk hP => ⟨jblind a U g mk hP.1, va_T.moved (u := U) (U := U.calling g mk a) (Vm.Alike.refl _) hP.2⟩
theorem zNames_ok : zNames.length = 135 ∧ ∀ j, j < 135 → (((zNames.getD j 0 &&& 255).toUInt32 % 65536).toInt32 = zNames.getD j 0 ∧ narrow .char (.int (zNames.getD j 0)) = .int (zNames.getD j 0)) := by decide +kernel
theorem jm_lch {i : Int32} {adV : Nat} (h0 : ¬ i < 0) (h1 : i < 135) (hi : i.toNatClampNeg < 135) : Met l jy_lch [.code jy_lch prog_16_method_2_code 2 (some .char)] (jrm (d + 3)) (JPd E D cA hs H0 adV [.ref adV, .int i]) (JQc (some (.int (zNames.getD i.toNatClampNeg 0)))) 0 0 (fun _ => False) := by
  refine Met.ofW (cc := prog_16_method_2_code) (maxL := 2) (ret := (some .char)) (by decide) rfl ?_
  intro p e s m args below meth c s₁ B hml hv
  obtain ⟨⟨rfl, hK, hH⟩, hT⟩ := hv
  have hx := B.exec
  have hb := B.bytes
  have hr := B.returns
  have hlocks := B.notSynchronized
  have hown := findClass_of_methodNamed B.named
  have hl := lv_entry ([.ref adV, .int i]) (n := 2) (Nat.le_of_ble_eq_true rfl)
  rw [lg_entry_eq]
  generalize (lg_sl ([.ref adV, .int i]) ++ List.replicate (2 - (lg_sl ([.ref adV, .int i])).length) Slot.unset).toArray = ls at hl ⊢
  obtain ⟨cell, t1, t2, t3, t4, t5, t6, t7⟩ := hT
  have hc : s.heap[adV]? = some cell := by rw [hH _ (Nat.not_le.mp t7)]; exact t1
  refine lv_iload_n hx hb (show decode prog_16_method_2_code 0 = .ok (.iload_n 1, 1) by decide +kernel) rfl (lv_at hl 1 rfl) ?_
  refine lv_aload_n hx hb (show decode prog_16_method_2_code 1 = .ok (.aload_n 0, 1) by decide +kernel) rfl (lv_at hl 0 rfl) ?_
  refine W.alen (n := 135) hx hb hc t2 t5 rfl rfl (show decode prog_16_method_2_code 2 = .ok (.arraylength, 1) by decide +kernel) ?_
  refine jcall (v := none) (va_runS (bytes := prog_15_method_155_code) (maxL := 2) (ret := none) (n := 2) (index := 9) (As := [.int i, .int 135]) (rest := []) (own := "java/lang/StringLatin1") (Ts := []) ⟨hx, hb, hml, hown, fun w hw => by cases hw⟩ (jm_chk (d := d) h0 h1) ⟨⟨rfl, rfl, by show d + 2 + 1 ≤ d + 3; omega, by show 8 + (2 + 11) + 64 * (d + 2) ≤ 64 * (d + 3); omega, jws hK jw_chk, List.mem_singleton.mpr rfl, hK.word jw_chk rfl _, hK.word zSw.1 rfl _, by decide, jlen (by decide +kernel), hK.word jl_chk_l rfl _⟩, hK.word jl_chk_t rfl _⟩ (jpre hK hH) rfl rfl hl.1 rfl (by show 2 * 0 + _ ≤ 8; decide) (show decode prog_16_method_2_code 3 = .ok (.invokestatic 9, 3) by decide +kernel) ⟨Nat.le_refl _, Nat.le_refl _⟩) ?_
  refine lv_aload_n hx hb (show decode prog_16_method_2_code 6 = .ok (.aload_n 0, 1) by decide +kernel) rfl (lv_at hl 0 rfl) ?_
  refine lv_iload_n hx hb (show decode prog_16_method_2_code 7 = .ok (.iload_n 1, 1) by decide +kernel) rfl (lv_at hl 1 rfl) ?_
  refine W.bald hx hb hc t2 t3 (fun q => q.elim h0 (fun q => by omega)) (t6 _ hi) rfl rfl (show decode prog_16_method_2_code 8 = .ok (.baload, 1) by decide +kernel) ?_
  refine lv_sipush (v := 255) hx hb (show decode prog_16_method_2_code 9 = .ok (.sipush 255, 3) by decide +kernel) (by decide) ?_
  refine lv_iand hx hb (show decode prog_16_method_2_code 12 = .ok (.iand, 1) by decide +kernel) ?_
  refine lv_i2c hx hb (show decode prog_16_method_2_code 13 = .ok (.i2c, 1) by decide +kernel) ((zNames_ok.2 _ hi).1) ?_
  exact W.zret hx hb hr ((zNames_ok.2 _ hi).2) (fun t ht _ => ⟨rfl, ht⟩) (fun q hq => by cases hq) (show decode prog_16_method_2_code 14 = .ok (.ireturn, 1) by decide +kernel)
set_option maxRecDepth 100000 in
theorem jm_chr {i : Int32} (h0 : ¬ i < 0) (h1 : i < 135) (hi : i.toNatClampNeg < 135) : Met l jy_chr [.code jy_chr prog_15_method_56_code 2 (some .char)] (jrm (d + 4)) (JPc E D cA hs H0 [.ref (E 7), .int i]) (JQc (some (.int (zNames.getD i.toNatClampNeg 0)))) 0 0 (fun _ => False) := by
  refine Met.ofW (cc := prog_15_method_56_code) (maxL := 2) (ret := (some .char)) (by decide) rfl ?_
  intro p e s m args below meth c s₁ B hml hv
  obtain ⟨rfl, hK, hH⟩ := hv
  have hx := B.exec
  have hb := B.bytes
  have hr := B.returns
  have hlocks := B.notSynchronized
  have hown := findClass_of_methodNamed B.named
  have hl := lv_entry ([.ref (E 7), .int i]) (n := 2) (Nat.le_of_ble_eq_true rfl)
  rw [lg_entry_eq]
  generalize (lg_sl ([.ref (E 7), .int i]) ++ List.replicate (2 - (lg_sl ([.ref (E 7), .int i])).length) Slot.unset).toArray = ls at hl ⊢
  refine lv_aload_n hx hb (show decode prog_15_method_56_code 0 = .ok (.aload_n 0, 1) by decide +kernel) rfl (lv_at hl 0 rfl) ?_
  refine jcall (v := some (.int 1)) (va_runV (bytes := prog_15_method_154_code) (maxL := 1) (ret := some .boolean) (n := 0) (index := 492) (As := []) (rest := []) (own := "java/lang/String") (C := "java/lang/String") (Ts := []) ⟨hx, hb, hml, hown, fun w hw => by cases hw⟩ (jm_lat (d := d + 2)) ⟨⟨rfl, rfl, by show d + 3 + 1 ≤ d + 4; omega, by show 8 + (1 + 11) + 64 * (d + 3) ≤ 64 * (d + 4); omega, jws hK jw_lat, List.mem_singleton.mpr rfl, hK.word jw_lat rfl _, hK.word zSw.1 rfl _, by decide, jlen (by decide +kernel), hK.word jl_lat_l rfl _⟩, hK.word jl_lat_i rfl _, hK.word jl_lat_s rfl _⟩ (jprev hK hH) rfl rfl hl.1 rfl (by show 2 * 0 + _ ≤ 8; decide) (show decode prog_15_method_56_code 1 = .ok (.invokevirtual 492, 3) by decide +kernel) ⟨Nat.le_refl _, Nat.le_refl _⟩) ?_
  refine lv_if_eq (tgt := 16) hx hb (show decode prog_15_method_56_code 4 = .ok (.ifCond .eq 12, 3) by decide +kernel) (by decide) (fun q => absurd q (by decide)) (fun _ => ?_)
  refine lv_aload_n hx hb (show decode prog_15_method_56_code 7 = .ok (.aload_n 0, 1) by decide +kernel) rfl (lv_at hl 0 rfl) ?_
  obtain ⟨adV, h7⟩ := id hK.2.2.2.2.2.2.1
  refine jfield (own := "java/lang/String") hx hb hown (h7.1 0 (by decide)).2.2.1 hH (hK.word jl_val rfl _) (show decode prog_15_method_56_code 8 = .ok (.getfield 9, 3) by decide +kernel) ?_
  refine lv_iload_n hx hb (show decode prog_15_method_56_code 11 = .ok (.iload_n 1, 1) by decide +kernel) rfl (lv_at hl 1 rfl) ?_
  refine jcall (v := some (.int (zNames.getD i.toNatClampNeg 0))) (va_runS (bytes := prog_16_method_2_code) (maxL := 2) (ret := some .char) (n := 2) (index := 495) (As := [.ref adV, .int i]) (rest := []) (own := "java/lang/String") (Ts := []) ⟨hx, hb, hml, hown, fun w hw => by cases hw⟩ (jm_lch (d := d) h0 h1 hi) ⟨⟨rfl, rfl, by show d + 3 + 1 ≤ d + 4; omega, by show 8 + (2 + 11) + 64 * (d + 3) ≤ 64 * (d + 4); omega, jws hK jw_lch, List.mem_singleton.mpr rfl, hK.word jw_lch rfl _, hK.word zSw.2.1 rfl _, by decide, jlen (by decide +kernel), hK.word jl_lch_l rfl _⟩, hK.word jl_lch_t rfl _⟩ ⟨jblind2, fun U hU hW => ⟨⟨rfl, hK.warm hW, by rw [hU]; exact hH⟩, va_T.moved hW.alike (h7.1 0 (by decide)).2.2.2⟩⟩ rfl rfl hl.1 rfl (by show 2 * 0 + _ ≤ 8; decide) (show decode prog_15_method_56_code 12 = .ok (.invokestatic 495, 3) by decide +kernel) ⟨Nat.le_refl _, Nat.le_refl _⟩) ?_
  exact W.zret hx hb hr ((zNames_ok.2 _ hi).2) (fun t ht _ => ⟨rfl, ht⟩) (fun q hq => by cases hq) (show decode prog_15_method_56_code 15 = .ok (.ireturn, 1) by decide +kernel)
theorem jm_len : Met l jy_len [.code jy_len prog_15_method_54_code 1 (some .int)] (jrm (d + 4)) (JPc E D cA hs H0 [.ref (E 7)]) (JQc (some (.int 135))) 0 0 (fun _ => False) := by
  refine Met.ofW (cc := prog_15_method_54_code) (maxL := 1) (ret := (some .int)) (by decide) rfl ?_
  intro p e s m args below meth c s₁ B hml hv
  obtain ⟨rfl, hK, hH⟩ := hv
  have hx := B.exec
  have hb := B.bytes
  have hr := B.returns
  have hlocks := B.notSynchronized
  have hown := findClass_of_methodNamed B.named
  have hl := lv_entry ([.ref (E 7)]) (n := 1) (Nat.le_of_ble_eq_true rfl)
  rw [lg_entry_eq]
  generalize (lg_sl ([.ref (E 7)]) ++ List.replicate (1 - (lg_sl ([.ref (E 7)])).length) Slot.unset).toArray = ls at hl ⊢
  refine lv_aload_n hx hb (show decode prog_15_method_54_code 0 = .ok (.aload_n 0, 1) by decide +kernel) rfl (lv_at hl 0 rfl) ?_
  obtain ⟨adV, h7⟩ := id hK.2.2.2.2.2.2.1
  refine jfield (own := "java/lang/String") hx hb hown (h7.1 0 (by decide)).2.2.1 hH (hK.word jl_val rfl _) (show decode prog_15_method_54_code 1 = .ok (.getfield 9, 3) by decide +kernel) ?_
  obtain ⟨cell, t1, t2, t3, t4, t5, t6, t7⟩ := (h7.1 0 (by decide)).2.2.2
  have hc : s.heap[adV]? = some cell := by rw [hH _ (Nat.not_le.mp t7)]; exact t1
  refine W.alen (n := 135) hx hb hc t2 t5 rfl rfl (show decode prog_15_method_54_code 4 = .ok (.arraylength, 1) by decide +kernel) ?_
  refine lv_aload_n hx hb (show decode prog_15_method_54_code 5 = .ok (.aload_n 0, 1) by decide +kernel) rfl (lv_at hl 0 rfl) ?_
  refine jcall (v := some (.int 0)) (va_runV (bytes := prog_15_method_152_code) (maxL := 1) (ret := some .byte) (n := 0) (index := 335) (As := []) (rest := [.int 135]) (own := "java/lang/String") (C := "java/lang/String") (Ts := []) ⟨hx, hb, hml, hown, fun w hw => by cases hw⟩ (jm_cod (d := d + 2)) ⟨⟨rfl, rfl, by show d + 3 + 1 ≤ d + 4; omega, by show 8 + (1 + 11) + 64 * (d + 3) ≤ 64 * (d + 4); omega, jws hK jw_cod, List.mem_singleton.mpr rfl, hK.word jw_cod rfl _, hK.word zSw.1 rfl _, by decide, jlen (by decide +kernel), hK.word jl_coder_l rfl _⟩, hK.word jl_coder_i rfl _, hK.word jl_coder_s rfl _⟩ (jprev hK hH) rfl rfl hl.1 rfl (by show 2 * 0 + _ ≤ 8; decide) (show decode prog_15_method_54_code 6 = .ok (.invokevirtual 335, 3) by decide +kernel) ⟨Nat.le_refl _, Nat.le_refl _⟩) ?_
  refine lv_ishr hx hb (show decode prog_15_method_54_code 9 = .ok (.ishr, 1) by decide +kernel) ?_
  exact W.iret hx hb hr (fun t ht _ => ⟨rfl, ht⟩) (fun q hq => by cases hq) (show decode prog_15_method_54_code 10 = .ok (.ireturn, 1) by decide +kernel)
end JM
