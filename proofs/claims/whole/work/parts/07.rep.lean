/-! WHAT A PLAIN HEAP SAYS OF THE MACHINE'S: every address from E 0 on; below it nothing changes -/
def zaty (t : Nat) : FieldType := match t with
  | 12 => .byte
  | 13 => .int
  | 14 => .long
  | 15 => .boolean
  | 16 => .object RX2
  | _ => .object RX6
def zatn (t : Nat) : Nat := match t with
  | 14 => 1
  | 16 => 2
  | 17 => 2
  | _ => 0
def zval (ty : Nat) (h : ZH) (a k : Nat) : Value := match ty with
  | 1 => .long (zL h a k)
  | 2 => zrv (zR h a k)
  | _ => .int (zI h a k)
def zcell (D : va_G) (cA : Nat → ClassId) (h : ZH) (H : Heap) (a : Nat) : Prop :=
  (ztag h a < 12 ∧ t_OB a (D.1 (ztag h a)) (zN (ztag h a)) (D.2 (ztag h a)) H (fun k => zval (zty (ztag h a) k) h a k)) ∨
  (12 ≤ ztag h a ∧ ztag h a ≤ 17 ∧ H[a]? = some (arrV (cA (ztag h a)) (zlen h a) (fun j => zval (zatn (ztag h a)) h a j)))
def ZRp (E : Nat → Nat) (D : va_G) (cA : Nat → ClassId) (hs : ZH) (H0 : Heap) (h : ZH) (H : Heap) : Prop :=
  H.size = zsz h ∧ E 0 ≤ zsz h ∧ (∀ a, E 0 ≤ a → a < zsz h → zcell D cA h H a) ∧ (∀ a, zsz h ≤ a → ztag h a = 99) ∧
  ∀ a, a < E 0 → H[a]? = H0[a]? ∧ ztag h a = ztag hs a ∧ zlen h a = zlen hs a ∧ zI h a = zI hs a
def zkeep (w : Cond) : Bool := goodWord w || (match w with
  | .fieldLinkNest _ _ _ _ _ _ => true
  | .methodLinkNest _ _ _ _ => true
  | .arrayOver (.object _) => true
  | _ => false)
def zNames : List Int32 := "years days quantity day paid base index surcharge made rest carried notice free cost price chance start first last nobody seller buyer ".toList.map (fun c => nI c.toNat)
def ZK (E : Nat → Nat) (D : va_G) (cA : Nat → ClassId) (hs : ZH) (H0 : Heap) (U : State) : Prop :=
  (∀ w ∈ lw_tbl, zkeep w = true → ∀ A, w.before A U = true) ∧
  (∀ (c : Nat) (q : vw_C), zcl[c]? = some q → u_Kn U q.1 q.2.1 q.2.2 (D.1 c) (D.2 c)) ∧
  (∀ t, 12 ≤ t → t ≤ 17 → ArrOfT U (cA t) (zaty t) ∧ va_RA U (cA t) (zaty t)) ∧
  (∀ a, a < E 0 → (ztag hs a = 18 ∨ ztag hs a = 19 ∨ ztag hs a = 99) ∧ (ztag hs a = 19 → va_X a (zlen hs a) (zI hs a) U H0)) ∧
  (∀ k, 1 ≤ k → k < 7 → va_Z (zSN.getD k ("", "")).1 (zSN.getD k ("", "")).2 "[I" (.ref (E k)) (fun q => E 0 ≤ q) U H0) ∧
  vk_R RX8 48 "years days quantity day paid base index surcharge made rest carried notice free cost price chance start first last nobody seller buyer " (E 7) U ∧
  (∃ adV : Nat, vk_S 1 [135] [zNames] (fun _ => E 7) (fun _ => adV) (fun q => E 0 ≤ q) U H0) ∧
  (∀ a, ztag hs a = 18 → a = E 7 ∧ zlen hs a = 135 ∧ zI hs a = fun j => zNames.getD j 0) ∧ E 0 = H0.size ∧ va_Z "java/lang/String" "COMPACT_STRINGS" "Z" (.int 1) (fun q => E 0 ≤ q) U H0 ∧ va_Zq "jdk/internal/util/Preconditions" "SIOOBE_FORMATTER" "Ljava/util/function/BiFunction;" (fun q => E 0 ≤ q) U H0
theorem ZK.warm {E : Nat → Nat} {D : va_G} {cA : Nat → ClassId} {hs : ZH} {H0 : Heap} {s U : State} (hW : s.WarmedH U.vm) (h : ZK E D cA hs H0 s) : ZK E D cA hs H0 U := by
  obtain ⟨h1, h2, h3, h4, h5, h6, ⟨adV, h7⟩, h8, h9, h10, h11⟩ := h
  have al : s.vm.Alike U.vm := hW.alike
  refine ⟨fun w hw hk A => ?_, fun c q hq => u_Kn_moved al (h2 c q hq), fun t a b => ⟨arrOfT_moved al (h3 t a b).1, (h3 t a b).2.moved al⟩, fun a ha => ⟨(h4 a ha).1, fun e => ((h4 a ha).2 e).moved al⟩, fun k a b => (h5 k a b).moved al, h6.warm hW, ⟨adV, h7.moved al⟩, h8, h9, h10.moved al, h11.moved al⟩
  have h0 := h1 w hw hk #[]
  simp only [zkeep, Bool.or_eq_true] at hk
  rcases hk with hk | hk
  · exact word_at hW (good_of_word hk) h0
  · split at hk
    · exact va_Nw.use rfl (va_Nw.warmF hW h0)
    · exact va_Nw.use rfl (va_Nw.warmM hW h0)
    · exact Cond.arrayOver_alike al h0
    · simp at hk
theorem ZK.same {E : Nat → Nat} {D : va_G} {cA : Nat → ClassId} {hs : ZH} {H0 : Heap} {s U : State} (hv : s.vm = U.vm) (h : ZK E D cA hs H0 s) : ZK E D cA hs H0 U := by
  obtain ⟨h1, h2, h3, h4, h5, h6, ⟨adV, h7⟩, h8, h9, h10, h11⟩ := h
  have al : s.vm.Alike U.vm := by rw [hv]; exact Vm.Alike.refl _
  refine ⟨fun w hw hk A => ?_, fun c q hq => u_Kn_moved al (h2 c q hq), fun t a b => ⟨arrOfT_moved al (h3 t a b).1, (h3 t a b).2.moved al⟩, fun a ha => ⟨(h4 a ha).1, fun e => ((h4 a ha).2 e).moved al⟩, fun k a b => (h5 k a b).moved al, h6.same hv.symm, ⟨adV, h7.moved al⟩, h8, h9, h10.moved al, h11.moved al⟩
  have h0 := h1 w hw hk #[]
  simp only [zkeep, Bool.or_eq_true] at hk
  rcases hk with hk | hk
  · rcases good_of_word hk with hg | ⟨ty, rfl⟩
    · simp only [Bool.and_eq_true] at hg
      exact va_tabs hg.1 hv h0
    · have h1 : (Cond.arrayClass ty).before #[] (s.setVm U.vm) = true := by rw [← hv]; exact h0
      exact h1
  · split at hk
    · exact va_tabs rfl hv h0
    · exact va_tabs rfl hv h0
    · exact Cond.arrayOver_alike al h0
    · simp at hk
/-- a word by its place -/
theorem ZK.word {E : Nat → Nat} {D : va_G} {cA : Nat → ClassId} {hs : ZH} {H0 : Heap} {s : State} (h : ZK E D cA hs H0 s) {i : Nat} {w : Cond} (hi : lw_tbl[i]? = some w) (hk : zkeep w = true) (A : Array Value) : w.before A s = true := h.1 w (List.mem_of_getElem? hi) hk A
/-! locals -/
def zLR (arr : Array Slot) (nL : Nat) (ls : List Value) : Prop := arr.size = nL ∧ ls.length = nL ∧ lv_wf arr ∧ (∀ (i : Nat) (v : Value), ls[i]? = some v → v ≠ .retAddr 0 → arr[i]? = some (.val v)) ∧ ∀ w ∈ ls, w.category = 2 → ∃ x, w = .long x
def zLl (ls : List Value) : List (Nat × Value) := ((List.range ls.length).map (fun i => (i, ls.getD i (.retAddr 0)))).filter (fun q => q.2 ≠ .retAddr 0)
theorem zLl_mem {ls : List Value} {q : Nat × Value} : q ∈ zLl ls ↔ ls[q.1]? = some q.2 ∧ q.2 ≠ .retAddr 0 := by
  simp only [zLl, List.mem_filter, List.mem_map, List.mem_range, decide_eq_true_eq]
  constructor
  · rintro ⟨⟨i, hi, rfl⟩, h2⟩
    refine ⟨?_, h2⟩
    simp [List.getD_eq_getElem?_getD, hi]
  · rintro ⟨h1, h2⟩
    refine ⟨⟨q.1, (List.getElem?_eq_some_iff.mp h1).1, ?_⟩, h2⟩
    rw [List.getD_eq_getElem?_getD, h1]
    rfl
theorem zLR.has {arr : Array Slot} {nL : Nat} {ls : List Value} (h : zLR arr nL ls) : lv_has arr nL (zLl ls) := ⟨h.1, h.2.2.1, fun q hq => by
  have := zLl_mem.mp hq
  exact h.2.2.2.1 _ _ this.1 this.2⟩
theorem zcut_len (ls : List Value) (n : Nat) : (zcut ls n).length = ls.length := by
  unfold zcut
  split
  · rfl
  · split <;> simp
theorem zcut_mem {ls : List Value} {n : Nat} {w : Value} (h : w ∈ zcut ls n) : w ∈ ls ∨ w = .retAddr 0 := by
  unfold zcut at h
  split at h
  · exact Or.inl h
  · split at h
    · exact List.mem_or_eq_of_mem_set h
    · exact Or.inl h
theorem zcut_get {ls : List Value} {n i : Nat} {v : Value} (h : (zcut ls n)[i]? = some v) (hv : v ≠ .retAddr 0) : ls[i]? = some v ∧ ¬ (i + 1 = n ∧ v.category = 2 ∧ ∃ x, v = .long x) := by
  unfold zcut at h
  split at h
  · exact ⟨h, by simp⟩
  · next j =>
    split at h
    · next x hx =>
      rw [List.getElem?_set] at h
      split at h
      · next e =>
        split at h
        · cases h; exact absurd rfl hv
        · cases h
      · next e => exact ⟨h, fun q => e (by omega)⟩
    · next hx =>
      refine ⟨h, ?_⟩
      rintro ⟨e, -, x, rfl⟩
      have : i = j := by omega
      subst this
      exact hx x h
theorem zLR.store1 {arr : Array Slot} {nL : Nat} {ls : List Value} (h : zLR arr nL ls) {n : Nat} {v : Value} (hn : n < nL) (hc : v.category = 1) :
    ∃ arr', storeLocals arr n v = some arr' ∧ zLR arr' nL (zset1 ls n v) := by
  obtain ⟨arr', e, h1, h2, h3⟩ := lv_store1 h.has hn hc
  refine ⟨arr', e, h1, by simp [zset1, zcut_len, h.2.1], h2, fun i w hw hne => ?_, fun w hw hc2 => ?_⟩
  · unfold zset1 at hw
    rw [List.getElem?_set] at hw
    split at hw
    · next e =>
      split at hw
      · cases hw
        subst e
        exact h3 (n, v) List.mem_cons_self
      · cases hw
    · next e =>
      obtain ⟨a1, a2⟩ := zcut_get hw hne
      refine h3 (i, w) (List.mem_cons_of_mem _ (List.mem_filter.mpr ⟨zLl_mem.mpr ⟨a1, hne⟩, ?_⟩))
      simp only [Bool.and_eq_true, Bool.not_eq_true', beq_eq_false_iff_ne, ne_eq, Bool.and_eq_false_iff]
      refine ⟨fun q => e q.symm, ?_⟩
      rcases lv_cat w with c | c
      · right; simp [c]
      · left
        intro q
        obtain ⟨x, rfl⟩ := h.2.2.2.2 w (List.mem_of_getElem? a1) c
        exact a2 ⟨q, c, x, rfl⟩
  · rcases List.mem_or_eq_of_mem_set hw with hw | rfl
    · rcases zcut_mem hw with hw | rfl
      · exact h.2.2.2.2 w hw hc2
      · simp [Value.category] at hc2
    · omega
theorem zLR.store2 {arr : Array Slot} {nL : Nat} {ls : List Value} (h : zLR arr nL ls) {n : Nat} {x : Int64} (hn : n + 1 < nL) :
    ∃ arr', storeLocals arr n (.long x) = some arr' ∧ zLR arr' nL (zset2 ls n (.long x)) := by
  obtain ⟨arr', e, h1, h2, h3⟩ := lv_store2 (v := .long x) h.has hn rfl
  refine ⟨arr', e, h1, by simp [zset2, zcut_len, h.2.1], h2, fun i w hw hne => ?_, fun w hw hc2 => ?_⟩
  · unfold zset2 at hw
    rw [List.getElem?_set] at hw
    split at hw
    · split at hw
      · cases hw; exact absurd rfl hne
      · cases hw
    · next e1 =>
      rw [List.getElem?_set] at hw
      split at hw
      · next e =>
        split at hw
        · cases hw
          subst e
          exact h3 (n, .long x) List.mem_cons_self
        · cases hw
      · next e =>
        obtain ⟨a1, a2⟩ := zcut_get hw hne
        refine h3 (i, w) (List.mem_cons_of_mem _ (List.mem_filter.mpr ⟨zLl_mem.mpr ⟨a1, hne⟩, ?_⟩))
        simp only [Bool.and_eq_true, Bool.not_eq_true', beq_eq_false_iff_ne, ne_eq, Bool.and_eq_false_iff]
        refine ⟨fun q => e q.symm, fun q => e1 q.symm, ?_⟩
        rcases lv_cat w with c | c
        · right; simp [c]
        · left
          intro q
          obtain ⟨x, rfl⟩ := h.2.2.2.2 w (List.mem_of_getElem? a1) c
          exact a2 ⟨q, c, x, rfl⟩
  · rcases List.mem_or_eq_of_mem_set hw with hw | rfl
    · rcases List.mem_or_eq_of_mem_set hw with hw | rfl
      · rcases zcut_mem hw with hw | rfl
        · exact h.2.2.2.2 w hw hc2
        · simp [Value.category] at hc2
      · exact ⟨x, rfl⟩
    · simp [Value.category] at hc2
/-- what a call begins with -/
theorem zargs_get : ∀ (as : List Value), as.all zok = true → ∀ (b i : Nat) (v : Value), (zargs as)[i]? = some v → v ≠ .retAddr 0 → (b + i, v) ∈ lv_args b as := by
  intro as
  induction as with
  | nil => intro _ b i v h; simp [zargs] at h
  | cons a as ih0 =>
    intro hok b i v h hv
    simp only [List.all_cons, Bool.and_eq_true] at hok
    have ih := ih0 hok.2
    cases a with
    | long x =>
      simp only [zargs] at h
      simp only [lv_args, Value.category, if_true]
      match i, h with
      | 0, h => simp at h; subst h; simp
      | 1, h => simp at h; exact absurd h.symm hv
      | i + 2, h =>
        refine List.mem_cons_of_mem _ ?_
        have := ih (b + 2) i v (by simpa using h) hv
        rw [show b + (i + 2) = b + 2 + i by omega]
        exact this
    | double x => simp [zok] at hok
    | int x | float x | null | ref x | retAddr x =>
      simp only [zargs] at h
      simp only [lv_args, Value.category]
      match i, h with
      | 0, h => simp at h; subst h; simp
      | i + 1, h =>
        refine List.mem_cons_of_mem _ ?_
        have := ih (b + 1) i v (by simpa using h) hv
        rw [show b + (i + 1) = b + 1 + i by omega]
        simpa using this
theorem zargs_len : ∀ (as : List Value), as.all zok = true → (zargs as).length = (lg_sl as).length := by
  intro as
  induction as with
  | nil => intro _; rfl
  | cons a as ih =>
    intro hok
    simp only [List.all_cons, Bool.and_eq_true] at hok
    have h1 := ih hok.2
    have e : lg_sl (a :: as) = (if a.category = 2 then [Slot.val a, Slot.second] else [Slot.val a]) ++ lg_sl as := by simp [lg_sl]
    rw [e, List.length_append, ← h1]
    have h0 := hok.1
    cases a with
    | long x => simp [zargs, Value.category]; omega
    | int x => simp [zargs, Value.category]; omega
    | null => simp [zargs, Value.category]; omega
    | ref x => simp [zargs, Value.category]; omega
    | float x => simp [zok] at h0
    | double x => simp [zok] at h0
    | retAddr x => simp [zok] at h0
theorem zargs_long : ∀ (as : List Value), as.all zok = true → ∀ w ∈ zargs as, w.category = 2 → ∃ x, w = .long x := by
  intro as
  induction as with
  | nil => intro _ w hw; simp [zargs] at hw
  | cons a as ih =>
    intro hok w hw hc
    simp only [List.all_cons, Bool.and_eq_true] at hok
    have h1 := ih hok.2 w
    have h0 := hok.1
    cases a with
    | long x =>
      simp only [zargs, List.mem_cons] at hw
      rcases hw with rfl | rfl | hw
      · exact ⟨_, rfl⟩
      · simp [Value.category] at hc
      · exact h1 hw hc
    | int x | null | ref x =>
      simp only [zargs, List.mem_cons] at hw
      rcases hw with rfl | hw
      · simp [Value.category] at hc
      · exact h1 hw hc
    | float x => simp [zok] at h0
    | double x => simp [zok] at h0
    | retAddr x => simp [zok] at h0
theorem zLR.entry (as : List Value) (hok : as.all zok = true) {nL : Nat} (h : (zargs as).length ≤ nL) : zLR ((lg_sl as ++ List.replicate (nL - (lg_sl as).length) Slot.unset).toArray) nL (zframe nL as) := by
  have h1 := lv_entry as (n := nL) (by rw [← zargs_len as hok]; exact h)
  refine ⟨h1.1, by simp [zframe]; omega, h1.2.1, fun i v hv hne => ?_, fun w hw hc => ?_⟩
  · unfold zframe at hv
    rw [List.getElem?_append] at hv
    split at hv
    · have := zargs_get as hok 0 i v hv hne
      rw [Nat.zero_add] at this
      exact h1.2.2 _ this
    · rw [List.getElem?_replicate] at hv
      split at hv
      · cases hv; exact absurd rfl hne
      · cases hv
  · unfold zframe at hw
    rcases List.mem_append.mp hw with hw | hw
    · exact zargs_long as hok w hw hc
    · rw [(List.mem_replicate.mp hw).2] at hc
      simp [Value.category] at hc
