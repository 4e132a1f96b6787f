/-! THE CLAIM OUT OF ONE WALK OF THE LAW'S BODY. Your part is whole_start (and what it stands on); all else here is the same for every law, but numbers. -/
def R_law : String := "TakeOrPayLaw"
def lw_P (b : Addr) (xs : List Int32) (args : Array Value) (s : State) : Prop := args = #[.ref b] ∧ s.IntsAt b xs ∧ xs.length ≤ 4096 ∧ (Jvm.Cond.and given_1 narrow_1).before args s = true
def lw_Q (_ : Array Value) (s : State) (o : Outcome) (t : State) : Prop := o = .returned (some (.int 1)) ∧ Framed s o t [] 600000 7302250
def lw_Z (below : List Frame) (a : Array Value) (s : State) : State → Prop := fun t => ∃ o, t.status = .running ∧ Ended t below o ∧ lw_Q a s o t
/-- the law's own end, with 1 on the stack, nothing written that was there before, its room as the claim has it -/
theorem lw_ret {p : Program} {l : Launch} {e : Env} {s : State} {m : MethodId} {below : List Frame} {meth : Method} {c : Code} {b : Nat} (hx : p.tables.exec = Jvm.exec) (hb : c.code = code) (hr : meth.sig.returnType = ret) (hlocks : meth.locks = false) {pc : Nat} {H : Heap} {ls : Array Slot} (hdg : decode code pc = .ok (.ireturn, 1)) : W p l e room_1 s m #[Value.ref b] below meth c H [] 600000 7302250 (lw_Z below #[Value.ref b] s) (F0 m pc ls [.int 1]) := by
  intro T hT X
  obtain ⟨fs, hret, hrun, hended, hW, hframe⟩ := X.leave (v := some (.int 1)) (hlocks := hlocks) (fun h => by rw [hr] at h; cases h)
  have hmeth' : T.vm.method? m = some meth := X.method'
  refine ⟨T.setFrames fs, ?_, .returned (some (.int 1)), hrun, hended, rfl, ⟨_, rfl⟩, hW, hframe⟩
  jvm_step X.here [X.here.top, hx, hb, hdg, hmeth', hr, ret, narrow_b1]
  (try refine ⟨rfl, ?_⟩); (try refine ⟨rfl, ?_⟩)
  first | (intro acts; rw [hret _ acts rfl rfl rfl]) | rw [hret _ _ rfl rfl rfl]
  exact Steps.refl _
/-- what holds at the law's entry: the machine, the code, the tables' words (any of lw_tbl by 'hts w (by decide +kernel)'), the script of L ints xs at the cell b, what the Statement gives of the start (any of its parts by flat_of_before) -/
def lw_At (p : Program) (s : State) (m : MethodId) (meth : Method) (c : Code) (b L : Nat) (xs : Nat → Int32) : Prop :=
  p.tables.exec = Jvm.exec ∧ c.code = code ∧ meth.sig.returnType = ret ∧ c.maxLocals = 4 ∧ s.vm.findClass R_law = some m.cls ∧ (∀ w ∈ lw_tbl, w.before #[Value.ref b] s = true) ∧ va_X b L xs s s.heap ∧ b < s.heap.size ∧ meth.locks = false ∧ (Jvm.Cond.and given_1 narrow_1).before #[Value.ref b] s = true
/-! THE START: what the Statement gives of it, as a plain heap -/
def zfl : List Cond := flatC (Jvm.Cond.and given_1 narrow_1)
def zsp (k : Nat) : Nat := [0, 6, 133, 53, 73, 113, 93].getD k 0
def zsl (k : Nat) : Nat := [0, 167, 1075, 675, 681, 705, 703].getD k 0
abbrev zstm (k : Nat) : Term := .static (zSN.getD k ("", "")).1 (zSN.getD k ("", "")).2 "[I"
set_option maxRecDepth 100000 in
theorem zfl_len : ∀ k, k < 7 → 1 ≤ k → zfl[zsp k]? = some (.eq (.length (zstm k)) (.int (Int32.ofNat (zst k).length))) ∧ zfl[zsp k - 1]? = some (.arrayOf (zstm k) .int) := by decide +kernel
set_option maxRecDepth 100000 in
theorem zfl_el : ∀ k, k < 7 → 1 ≤ k → ∀ j, j < (zst k).length → zfl[zsp k + 1 + j]? = some (.eq (.elem (zstm k) (.int (Int32.ofNat j))) (.int ((zst k).getD j 0))) := by decide +kernel
set_option maxRecDepth 100000 in
theorem zfl_str : ∀ j, j < 135 → zfl[170 + j]? = some (.eq (.elem (.field (.string "TakeOrPay$Tape" 48) "java/lang/String" "value" "[B") (.int (Int32.ofNat j))) (.int (zNames.getD j 0))) := by decide +kernel
set_option maxRecDepth 100000 in
theorem zfl_s2 : zfl[166]? = some (.exactly (.string "TakeOrPay$Tape" 48) "java/lang/String") ∧ zfl[167]? = some (.eq (.field (.string "TakeOrPay$Tape" 48) "java/lang/String" "coder" "B") (.int 0)) ∧ zfl[168]? = some (.arrayOf (.field (.string "TakeOrPay$Tape" 48) "java/lang/String" "value" "[B") .byte) ∧ zfl[169]? = some (.eq (.length (.field (.string "TakeOrPay$Tape" 48) "java/lang/String" "value" "[B")) (.int (Int32.ofNat 135))) ∧ zfl[46]? = some (.eq (.static "java/lang/String" "COMPACT_STRINGS" "Z") (.int 1)) ∧ zfl[47]? = some (.isRef (.static "jdk/internal/util/Preconditions" "SIOOBE_FORMATTER" "Ljava/util/function/BiFunction;")) := by decide +kernel
set_option maxRecDepth 100000 in
theorem ztb_s : ∀ k, k < 7 → 1 ≤ k → lw_tbl[zsl k]? = some (.laysStatic (zSN.getD k ("", "")).1 (zSN.getD k ("", "")).2 "[I") ∧ lw_tbl[(if k < 3 then 131 else 135)]? = some (.initialized (zSN.getD k ("", "")).1) := by decide +kernel
set_option maxRecDepth 100000 in
theorem ztb_2 : lw_tbl[615]? = some (.laysStatic "java/lang/String" "COMPACT_STRINGS" "Z") ∧ lw_tbl[631]? = some (.laysStatic "jdk/internal/util/Preconditions" "SIOOBE_FORMATTER" "Ljava/util/function/BiFunction;") ∧ lw_tbl[605]? = some (.stringRef RX8 48 "years days quantity day paid base index surcharge made rest carried notice free cost price chance start first last nobody seller buyer ") ∧ lw_tbl[237]? = some (.arrayClass .int) ∧ lw_tbl[238]? = some (.arrayClass .boolean) ∧ lw_tbl[269]? = some (.arrayClass .byte) ∧ lw_tbl[519]? = some (.arrayClass .long) ∧ lw_tbl[521]? = some (.arrayOver (.object RX6)) ∧ lw_tbl[849]? = some (.arrayOver (.object RX2)) := by decide +kernel
theorem zs_arr {args : Array Value} {s : State} {tm : Term} {N : Nat} {xs : Nat → Int32} (hN : N < 2 ^ 31) (harr : (Cond.arrayOf tm .int).before args s = true) (hlen : (Cond.eq (.length tm) (.int (Int32.ofNat N))).before args s = true) (hel : ∀ j : Nat, j < N → (Cond.eq (.elem tm (.int (Int32.ofNat j))) (.int (xs j))).before args s = true) : ∃ b : Nat, tm.eval args s none [] s = some (.ref b) ∧ va_X b N xs s s.heap := by
  have hv := va_eqt hlen
  obtain ⟨t, ht, cell, h1, h2, h3, h4, h5, h6, h7⟩ := va_Tof (f := fun j => .int (xs j)) (A := fun _ => False) hN harr hv (fun j hj => va_eqt (hel j hj)) (fun _ _ q => q)
  have hsz : cell.slots.size < 2 ^ 31 := by
    obtain ⟨b, cell', ht', harr', -⟩ := Term.length_spec hv
    cases ht.symm.trans ht'
    obtain ⟨hc', -, -, -⟩ := State.arrayAt?_spec harr'
    cases h1.symm.trans hc'
    simp only [Term.eval, ht, harr', Option.bind_eq_bind, Option.bind_some] at hv
    by_cases hlt : cell.slots.size < 2147483648
    · exact hlt
    · simp [hlt] at hv
  have e : (Int32.ofNat cell.slots.size).toNatClampNeg = (Int32.ofNat N).toNatClampNeg := congrArg _ h5
  rw [Int32.toNatClampNeg_ofNat_of_lt hsz, Int32.toNatClampNeg_ofNat_of_lt hN] at e
  exact ⟨t, ht, cell, h1, h2, h3, e, h6⟩
/-- what the cells of the start hold, if they are rows of ints -/
def zcl0 (H : Heap) (a : Nat) : Nat := match H[a]? with
  | some c => c.slots.size
  | none => 0
def zci0 (H : Heap) (a j : Nat) : Int32 := match H[a]? with
  | some c => (match c.slots[j]? with
    | some (.int x) => x
    | _ => 0)
  | none => 0
theorem zc0_X {a L : Nat} {xs : Nat → Int32} {U : State} {H : Heap} (h : va_X a L xs U H) : zcl0 H a = L ∧ (∀ j, j < L → zci0 H a j = xs j) ∧ va_X a (zcl0 H a) (zci0 H a) U H := by
  obtain ⟨scr, h1, h2, h3, h4, h5⟩ := h
  have e1 : zcl0 H a = L := by unfold zcl0; rw [h1]; exact h4
  have e2 : ∀ j, j < L → zci0 H a j = xs j := fun j hj => by unfold zci0; rw [h1]; dsimp only; rw [h5 j hj]
  exact ⟨e1, e2, scr, h1, h2, h3, by rw [e1]; exact h4, fun j hj => by rw [e1] at hj; rw [e2 j hj]; exact h5 j hj⟩
theorem zX_lt {a L : Nat} {xs : Nat → Int32} {U : State} {H : Heap} (h : va_X a L xs U H) : a < H.size := by
  obtain ⟨scr, h1, -⟩ := h
  exact (Array.getElem?_eq_some_iff.mp h1).1
theorem zX_noS {a L v : Nat} {xs : Nat → Int32} {U : State} {H : Heap} {o n d : String} {A : Nat → Prop} (h : va_X a L xs U H) (g : va_OF o n d (.ref v) a A U H) : False := by
  obtain ⟨scr, h1, h2, h3, h4, h5⟩ := h
  obtain ⟨cf, k, i, f, cell, g1, g2, g3, g4, g5, g6⟩ := g
  cases h1.symm.trans g3
  have hl := (Array.getElem?_eq_some_iff.mp g5).1
  rw [h4] at hl
  rw [h5 _ hl] at g5
  cases g5
/-- the words of the tables hold whatever the arguments are -/
theorem zwords {a : Array Value} {s : State} (hts : ∀ w ∈ lw_tbl, w.before a s = true) (w : Cond) (hw : w ∈ lw_tbl) (hk : zkeep w = true) (A : Array Value) : w.before A s = true := by
  have h0 := hts w hw
  simp only [zkeep, Bool.or_eq_true] at hk
  rcases hk with hk | hk
  · rcases good_of_word hk with hg | ⟨ty, rfl⟩
    · simp only [Bool.and_eq_true] at hg
      exact va_tabs hg.1 rfl h0
    · exact h0
  · split at hk
    · exact va_tabs rfl rfl h0
    · exact va_tabs rfl rfl h0
    · exact Cond.arrayOver_alike (Vm.Alike.refl _) h0
    · simp at hk
def zsel (b : Nat) (e : Nat → Nat) (a : Nat) : Bool := decide (a = b) || (decide (a = e 1) || (decide (a = e 2) || (decide (a = e 3) || (decide (a = e 4) || (decide (a = e 5) || decide (a = e 6))))))
theorem zsel_b (b : Nat) (e : Nat → Nat) : zsel b e b = true := by simp [zsel]
theorem zsel_k (b : Nat) (e : Nat → Nat) {k : Nat} (h1 : 1 ≤ k) (h2 : k < 7) : zsel b e (e k) = true := by
  have : k = 1 ∨ k = 2 ∨ k = 3 ∨ k = 4 ∨ k = 5 ∨ k = 6 := by omega
  rcases this with q | q | q | q | q | q <;> subst q <;> simp [zsel]
theorem zsel_of {b a : Nat} {e : Nat → Nat} (h : zsel b e a = true) : a = b ∨ ∃ k, 1 ≤ k ∧ k < 7 ∧ a = e k := by
  simp only [zsel, Bool.or_eq_true, decide_eq_true_eq] at h
  rcases h with h | h | h | h | h | h | h
  · exact Or.inl h
  · exact Or.inr ⟨1, by omega, by omega, h⟩
  · exact Or.inr ⟨2, by omega, by omega, h⟩
  · exact Or.inr ⟨3, by omega, by omega, h⟩
  · exact Or.inr ⟨4, by omega, by omega, h⟩
  · exact Or.inr ⟨5, by omega, by omega, h⟩
  · exact Or.inr ⟨6, by omega, by omega, h⟩
def zhs (H : Heap) (b : Nat) (e : Nat → Nat) (w : Nat) : ZH := ((H.size, 0), fun a => if zsel b e a = true then 19 else if a = w then 18 else 99, fun a => if a = w then 135 else zcl0 H a, fun a => if a = w then (fun j => zNames.getD j 0) else zci0 H a, fun _ _ => 0, fun _ _ => 0)
def zE0 (n w : Nat) (e : Nat → Nat) : Nat → Nat := fun k => if k = 0 then n else if k = 7 then w else e k
theorem zE0_k (n w : Nat) (e : Nat → Nat) {k : Nat} (h1 : 1 ≤ k) (h2 : k < 7) : zE0 n w e k = e k := by
  unfold zE0
  rw [if_neg (by omega), if_neg (by omega)]
/-- what is known of the plain heap at the start -/
def zSt (E : Nat → Nat) (hs : ZH) (b L : Nat) (xs : Nat → Int32) : Prop := zsz hs = E 0 ∧ ztot hs = 0 ∧ (b < E 0 ∧ ztag hs b = 19 ∧ zlen hs b = L ∧ ∀ j, j < L → zI hs b j = xs j) ∧ (∀ k, 1 ≤ k → k < 7 → E k < E 0 ∧ ztag hs (E k) = 19 ∧ zlen hs (E k) = (zst k).length ∧ ∀ j, j < (zst k).length → zI hs (E k) j = (zst k).getD j 0) ∧ (E 7 < E 0 ∧ ztag hs (E 7) = 18 ∧ zlen hs (E 7) = 135 ∧ zI hs (E 7) = fun j => zNames.getD j 0)
set_option maxRecDepth 100000 in
theorem zstart {p : Program} {s : State} {m : MethodId} {meth : Method} {c : Code} {b L : Nat} {xs : Nat → Int32} (C0 : lw_At p s m meth c b L xs) : ∃ (E : Nat → Nat) (D : va_G) (cA : Nat → ClassId) (hs : ZH), ZK E D cA hs s.heap s ∧ ZRp E D cA hs s.heap hs s.heap ∧ zSt E hs b L xs := by
  obtain ⟨hx, hb, hret, hml, hown, hts, hX, hbl, hlk, hgv⟩ := C0
  have hfl : ∀ {i : Nat} {w : Cond}, zfl[i]? = some w → w.before #[Value.ref b] s = true := fun hi => flat_of_before _ hgv _ (List.mem_of_getElem? hi)
  have htb : ∀ {i : Nat} {w : Cond}, lw_tbl[i]? = some w → w.before #[Value.ref b] s = true := fun hi => hts _ (List.mem_of_getElem? hi)
  -- classes
  have hD : ∀ t : Nat, ∃ q : ClassId × (Nat → Nat), t < 12 → u_Kn s (zcn t) (zT t) (zN t) q.1 q.2 := by
    intro t
    by_cases ht : t < 12
    · obtain ⟨cC, iS, h⟩ := u_known (ws := lw_tbl) hts (zcl_ok t ht).2.1 (htb (zNI_ok t ht).1)
      exact ⟨(cC, iS), fun _ => h⟩
    · exact ⟨(0, fun _ => 0), fun q => absurd q ht⟩
  obtain ⟨dq, hdq⟩ := Classical.axiomOfChoice hD
  -- arrays
  have hAr : ∀ t : Nat, ∃ q : ClassId, 12 ≤ t → t ≤ 17 → ArrOfT s q (zaty t) ∧ va_RA s q (zaty t) := by
    intro t
    have hp : ∀ ty : FieldType, (∀ C, ty ≠ .object C) → (Cond.arrayClass ty).before #[Value.ref b] s = true → ∃ q : ClassId, ArrOfT s q ty ∧ va_RA s q ty := by
      intro ty hty hw
      obtain ⟨c1, k1, comp, g1, g2, g3⟩ := Cond.arrayClass_spec hw
      refine ⟨c1, fun n z => ⟨fun k h => (by cases h), k1, g2, comp, g3⟩, ?_⟩
      cases ty with
      | object C => exact absurd rfl (hty C)
      | _ => exact g1
    have ho : ∀ C : String, (Cond.arrayOver (.object C)).before #[Value.ref b] s = true → ∃ q : ClassId, ArrOfT s q (.object C) ∧ va_RA s q (.object C) := by
      intro C hw
      obtain ⟨comp, c1, k1, g1, g2, g3, g4, g5⟩ := Cond.arrayOver_spec hw
      exact ⟨c1, fun n z => ⟨fun k h => (by cases h), k1, g3, comp, g4⟩, k1, comp, g3, g4, g1, g5⟩
    by_cases h12 : t = 12
    · subst h12; obtain ⟨q, hq⟩ := hp .byte (fun C h => by cases h) (htb ztb_2.2.2.2.2.2.1); exact ⟨q, fun _ _ => hq⟩
    by_cases h13 : t = 13
    · subst h13; obtain ⟨q, hq⟩ := hp .int (fun C h => by cases h) (htb ztb_2.2.2.2.1); exact ⟨q, fun _ _ => hq⟩
    by_cases h14 : t = 14
    · subst h14; obtain ⟨q, hq⟩ := hp .long (fun C h => by cases h) (htb ztb_2.2.2.2.2.2.2.1); exact ⟨q, fun _ _ => hq⟩
    by_cases h15 : t = 15
    · subst h15; obtain ⟨q, hq⟩ := hp .boolean (fun C h => by cases h) (htb ztb_2.2.2.2.2.1); exact ⟨q, fun _ _ => hq⟩
    by_cases h16 : t = 16
    · subst h16; obtain ⟨q, hq⟩ := ho RX2 (htb ztb_2.2.2.2.2.2.2.2.2); exact ⟨q, fun _ _ => hq⟩
    by_cases h17 : t = 17
    · subst h17; obtain ⟨q, hq⟩ := ho RX6 (htb ztb_2.2.2.2.2.2.2.2.1); exact ⟨q, fun _ _ => hq⟩
    exact ⟨0, fun h h' => by omega⟩
  obtain ⟨cA, hcA⟩ := Classical.axiomOfChoice hAr
  -- the six rows
  have hE : ∀ k : Nat, ∃ a : Nat, 1 ≤ k → k < 7 → (zstm k).eval #[Value.ref b] s none [] s = some (.ref a) ∧ va_X a (zst k).length (fun j => (zst k).getD j 0) s s.heap := by
    intro k
    by_cases hk : 1 ≤ k ∧ k < 7
    · have hlen : (zst k).length < 2 ^ 31 := by
        have : k = 1 ∨ k = 2 ∨ k = 3 ∨ k = 4 ∨ k = 5 ∨ k = 6 := by omega
        rcases this with e | e | e | e | e | e <;> subst e <;> decide
      obtain ⟨a, ha⟩ := zs_arr hlen (hfl (zfl_len k hk.2 hk.1).2) (hfl (zfl_len k hk.2 hk.1).1) (fun j hj => hfl (zfl_el k hk.2 hk.1 j hj))
      exact ⟨a, fun _ _ => ha⟩
    · exact ⟨0, fun h h' => absurd ⟨h, h'⟩ hk⟩
  obtain ⟨e, he⟩ := Classical.axiomOfChoice hE
  -- the text
  have hA : ∀ a : Nat, a < s.heap.size → ¬ (s.heap.size ≤ a) := fun a h => by omega
  obtain ⟨adK, adV, hS, hSe⟩ := vk_Sof (args := #[Value.ref b]) (s := s) (N := 1) (tm := fun _ => .string "TakeOrPay$Tape" 48) (len := [135]) (byt := [zNames]) (A := fun q => s.heap.size ≤ q) (fun i hi => by rcases (show i = 0 by omega) with rfl; decide) (fun i _ => hfl zfl_s2.1) (fun i _ => hfl zfl_s2.2.1) (fun i _ => hfl zfl_s2.2.2.1) (fun i hi => by rcases (show i = 0 by omega) with rfl; exact hfl zfl_s2.2.2.2.1) (fun i hi j hj => by rcases (show i = 0 by omega) with rfl; exact hfl (zfl_str j hj)) (fun i j hi hj hn => absurd (by omega) hn) hA
  have hKl : adK 0 < s.heap.size := by
    obtain ⟨cell, g1, -⟩ := (hS.1 0 (by omega)).1
    exact (Array.getElem?_eq_some_iff.mp g1).1
  have hOF := (hS.1 0 (by omega)).2.2.1
  have nb : adK 0 ≠ b := fun q => zX_noS hX (q ▸ hOF)
  have ne : ∀ k, 1 ≤ k → k < 7 → adK 0 ≠ e k := fun k h1 h2 q => zX_noS (he k h1 h2).2 (q ▸ hOF)
  have nsel : ¬ zsel b e (adK 0) = true := fun q => by
    rcases zsel_of q with q | ⟨k, h1, h2, q⟩
    · exact nb q
    · exact ne k h1 h2 q
  have tgX : ∀ a, zsel b e a = true → ∃ N ys, va_X a N ys s s.heap := fun a q => by
    rcases zsel_of q with q | ⟨k, h1, h2, q⟩
    · exact ⟨L, xs, q ▸ hX⟩
    · exact ⟨_, _, q ▸ (he k h1 h2).2⟩
  have nw : ∀ a, zsel b e a = true → a ≠ adK 0 := fun a q r => nsel (r ▸ q)
  have t19 : ∀ a, zsel b e a = true → ztag (zhs s.heap b e (adK 0)) a = 19 := fun a q => by show (if zsel b e a = true then 19 else _) = 19; rw [if_pos q]
  have hln : ∀ a, zsel b e a = true → zlen (zhs s.heap b e (adK 0)) a = zcl0 s.heap a := fun a q => by show (if a = adK 0 then 135 else _) = _; rw [if_neg (nw a q)]
  have hin : ∀ a, zsel b e a = true → zI (zhs s.heap b e (adK 0)) a = zci0 s.heap a := fun a q => by show (if a = adK 0 then _ else zci0 s.heap a) = _; rw [if_neg (nw a q)]
  refine ⟨zE0 s.heap.size (adK 0) e, (fun t => (dq t).1, fun t => (dq t).2), cA, zhs s.heap b e (adK 0), ?_, ?_, rfl, rfl, ⟨hbl, t19 b (zsel_b b e), ?_, fun j hj => ?_⟩, fun k h1 h2 => ?_, ?_⟩
  · refine ⟨zwords hts, fun t q hq => ?_, fun t a b => hcA t a b, fun a ha => ⟨?_, fun h19 => ?_⟩, fun k h1 h2 => ?_, ?_, ⟨adV 0, fun i hi => ?_, fun i j hi hj _ => by omega⟩, fun a h18 => ?_, rfl, va_Zof (htb ztb_2.1) (htb zSw.1) (va_eqi (hfl zfl_s2.2.2.2.2.1)) hA, va_Zqof (htb ztb_2.2.1) (htb zSw.2.2) (hfl zfl_s2.2.2.2.2.2) hA⟩
    · have ht : t < 12 := (List.getElem?_eq_some_iff.mp hq).1
      rw [(zcl_ok t ht).1] at hq
      cases hq
      exact hdq t ht
    · show (if zsel b e a = true then 19 else if a = adK 0 then 18 else 99) = 18 ∨ (if zsel b e a = true then 19 else if a = adK 0 then 18 else 99) = 19 ∨ (if zsel b e a = true then 19 else if a = adK 0 then 18 else 99) = 99
      split
      · exact Or.inr (Or.inl rfl)
      · split
        · exact Or.inl rfl
        · exact Or.inr (Or.inr rfl)
    · have hsel : zsel b e a = true := by
        cases hq : zsel b e a with
        | true => rfl
        | false =>
          have h19' : (if zsel b e a = true then 19 else if a = adK 0 then 18 else 99) = 19 := h19
          rw [hq] at h19'
          simp only [Bool.false_eq_true, if_false] at h19'
          split at h19' <;> omega
      obtain ⟨N, ys, hN⟩ := tgX a hsel
      rw [hln a hsel, hin a hsel]
      exact (zc0_X hN).2.2
    · rw [zE0_k _ _ _ h1 h2]
      exact va_Zof (htb (ztb_s k h2 h1).1) (htb (ztb_s k h2 h1).2) (he k h1 h2).1 hA
    · exact vk_R.of (htb ztb_2.2.2.1) (hSe 0 (by omega))
    · rcases (show i = 0 by omega) with rfl
      exact hS.1 0 (by omega)
    · have h18' : (if zsel b e a = true then 19 else if a = adK 0 then 18 else 99) = 18 := h18
      have ha : a = adK 0 := by
        split at h18'
        · omega
        · split at h18'
          · next q => exact q
          · omega
      subst ha
      refine ⟨rfl, ?_, ?_⟩
      · show (if adK 0 = adK 0 then 135 else _) = 135
        rw [if_pos rfl]
      · show (if adK 0 = adK 0 then _ else _) = _
        rw [if_pos rfl]
  · refine ⟨rfl, Nat.le_refl _, fun a h1 h2 => ?_, fun a ha => ?_, fun a _ => ⟨rfl, rfl, rfl, rfl⟩⟩
    · exact absurd (Nat.lt_of_le_of_lt h1 h2) (Nat.lt_irrefl _)
    · have ha' : s.heap.size ≤ a := ha
      have h1 : ¬ zsel b e a = true := fun q => by
        obtain ⟨N, ys, hN⟩ := tgX a q
        have := zX_lt hN
        omega
      have h2 : a ≠ adK 0 := by omega
      show (if zsel b e a = true then 19 else if a = adK 0 then 18 else 99) = 99
      rw [if_neg h1, if_neg h2]
  · rw [hln b (zsel_b b e)]
    exact (zc0_X hX).1
  · rw [hin b (zsel_b b e)]
    exact (zc0_X hX).2.1 j hj
  · have hk := he k h1 h2
    have hsel := zsel_k b e h1 h2
    rw [zE0_k _ _ _ h1 h2]
    refine ⟨zX_lt hk.2, t19 _ hsel, ?_, fun j hj => ?_⟩
    · rw [hln _ hsel]
      exact (zc0_X hk.2).1
    · rw [hin _ hsel]
      exact (zc0_X hk.2).2.1 j hj
  · refine ⟨hKl, ?_, ?_, ?_⟩
    · show (if zsel b e (adK 0) = true then 19 else if adK 0 = adK 0 then 18 else 99) = 18
      rw [if_neg nsel, if_pos rfl]
    · show (if adK 0 = adK 0 then 135 else _) = 135
      rw [if_pos rfl]
    · show (if adK 0 = adK 0 then _ else _) = _
      rw [if_pos rfl]
theorem zwhole {p : Program} {e : Env} {s : State} {m : MethodId} {below : List Frame} {meth : Method} {c : Code} (l : Launch) {b L : Nat} {xs : Nat → Int32} (C0 : lw_At p s m meth c b L xs) {d : Nat} (hd : d ≤ 1300) (run : ∀ (E : Nat → Nat) (hs : ZH), zSt E hs b L xs → Ct E d 219 [.ref b] hs (fun v h' => v = some (.int 1) ∧ zsz h' - zsz hs ≤ 600000 ∧ ztot h' - ztot hs ≤ 7302250)) : W p l e room_1 s m #[Value.ref b] below meth c s.heap [] 0 0 (lw_Z below #[Value.ref b] s) (entryFrame m ([Value.ref b] : List Value).toArray 4) := by
  obtain ⟨E, D, cA, hs, hK, hR, hz⟩ := zstart C0
  obtain ⟨hx, hb, hret, hml, hown, hts, hX, hbl, hlk, hgv⟩ := C0
  obtain ⟨n, v, h', hzx, rfl, hc, hsl⟩ := run E hs hz
  have hE0 : E 0 = s.heap.size := hK.2.2.2.2.2.2.2.2.1
  have X : ZC p room_1 s m meth c E D cA hs s.heap 219 d := ⟨hx, hb, hml, hown, fun hi => absurd hi (by decide), hK, by show d ≤ 2048; omega, by show 64 * d ≤ 84000; omega⟩
  have S := zx_sound l E D cA hs s.heap n d 219 0 _ [] hs (some (.int 1)) h' hzx (by omega)
  rw [lg_entry_eq]
  refine S p e room_1 s m _ below meth c _ 0 4 0 0 X rfl rfl (by show 0 + _ ≤ 600000; omega) (by show 0 + _ ≤ 7302250; omega) ?_ _ s.heap [] (zLR.entry [.ref b] rfl (Nat.le_of_ble_eq_true rfl)) hR (fun q hq => by cases hq)
  intro pc i st arr H locs hmem hdc hr hR' hl
  rcases zret_spec hr with ⟨rfl, x, rfl, h1, hbx⟩ | ⟨rfl, x, rfl, h1⟩ | ⟨rfl, x, rfl, h1⟩ | ⟨rfl, rfl, h1⟩
  · cases h1
    refine va_forget (fun q hq => by have := hl q hq; rw [← hE0]; exact this) ?_
    refine W.widen (k := 600000) (n := 7302250) (by omega) (by omega) ?_
    exact lw_ret hx hb hret hlk hdc
  · cases h1
  · cases h1
  · cases h1
