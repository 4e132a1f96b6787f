/-! RUNS, goal first: Gx .. Q: from here the plain machine ends, and Q holds of its answer and heap. A row an instruction. -/
theorem zx_fuel {E : Nat → Nat} {M : Nat → ZM} {T : Nat → Nat} : ∀ (n d y k : Nat) (ls st : List Value) (h : ZH) (r : Option Value × ZH), zx E M T n d y k ls st h = some r → zx E M T (n + 1) d y k ls st h = some r := by
  intro n
  induction n with
  | zero => intro d y k ls st h r hx; simp [zx] at hx
  | succ n ih =>
    intro d y k ls st h r hx
    rw [zx] at hx ⊢
    cases hi : (M y).1[k]? with
    | none => rw [hi] at hx; cases hx
    | some i =>
      rw [hi] at hx
      dsimp only at hx ⊢
      cases hv : zret (decide (100 ≤ T y)) i st with
      | some v => rw [hv] at hx; exact hx
      | none =>
        rw [hv] at hx
        dsimp only at hx ⊢
        cases hc : zcall i with
        | none =>
          rw [hc] at hx
          dsimp only at hx ⊢
          cases hs : zstep E d i k ls st h with
          | none => rw [hs] at hx; cases hx
          | some q =>
            obtain ⟨k1, ls1, st1, h1⟩ := q
            rw [hs] at hx
            exact ih _ _ _ _ _ _ _ hx
        | some z =>
          rw [hc] at hx
          dsimp only at hx ⊢
          cases d with
          | zero => cases hx
          | succ d' =>
            dsimp only at hx ⊢
            by_cases hcond : (M z).2.2 ≤ st.length ∧ zcat (st.drop (M z).2.2) ≤ 8 ∧ zrecv i h (T z % 100) (st.take (M z).2.2).reverse = true ∧ (zargs (st.take (M z).2.2).reverse).length ≤ (M z).2.1
            · rw [if_pos hcond] at hx ⊢
              cases hin : zx E M T n d' z 0 (zframe (M z).2.1 (st.take (M z).2.2).reverse) [] h with
              | none => rw [hin] at hx; cases hx
              | some q =>
                obtain ⟨v1, h1⟩ := q
                rw [hin] at hx
                rw [ih _ _ _ _ _ _ _ hin]
                exact ih _ _ _ _ _ _ _ hx
            · rw [if_neg hcond] at hx
              cases hx
theorem zx_fuels {E : Nat → Nat} {M : Nat → ZM} {T : Nat → Nat} {n d y k : Nat} {ls st : List Value} {h : ZH} {r : Option Value × ZH} (hx : zx E M T n d y k ls st h = some r) : ∀ j, zx E M T (n + j) d y k ls st h = some r
  | 0 => hx
  | j + 1 => zx_fuel _ _ _ _ _ _ _ _ (zx_fuels hx j)
def Gx (E : Nat → Nat) (d y k : Nat) (ls st : List Value) (h : ZH) (Q : Option Value → ZH → Prop) : Prop := ∃ (n : Nat) (v : Option Value) (h' : ZH), zx E zM zTg n d y k ls st h = some (v, h') ∧ Q v h'
def Ct (E : Nat → Nat) (d y : Nat) (as : List Value) (h : ZH) (Q : Option Value → ZH → Prop) : Prop := Gx E d y 0 (zframe (zM y).2.1 as) [] h Q
section GX
variable {E : Nat → Nat} {d y k : Nat} {ls st : List Value} {h : ZH} {Q : Option Value → ZH → Prop}
theorem Gx.mono {Q' : Option Value → ZH → Prop} (g : Gx E d y k ls st h Q) (hq : ∀ v h', Q v h' → Q' v h') : Gx E d y k ls st h Q' := by
  obtain ⟨n, v, h', a, b⟩ := g
  exact ⟨n, v, h', a, hq _ _ b⟩
theorem Ct.mono {as : List Value} {Q' : Option Value → ZH → Prop} (g : Ct E d y as h Q) (hq : ∀ v h', Q v h' → Q' v h') : Ct E d y as h Q' := Gx.mono g hq
theorem Gx.step {i : Instr} {k1 : Nat} {ls1 st1 : List Value} {h1 : ZH} (hi : (zM y).1[k]? = some i) (hr : zret (decide (100 ≤ zTg y)) i st = none) (hc : zcall i = none) (hs : zstep E d i k ls st h = some (k1, ls1, st1, h1)) (g : Gx E d y k1 ls1 st1 h1 Q) : Gx E d y k ls st h Q := by
  obtain ⟨n, v, h', a, b⟩ := g
  refine ⟨n + 1, v, h', ?_, b⟩
  rw [zx, hi]
  dsimp only
  rw [hr]
  dsimp only
  rw [hc]
  dsimp only
  rw [hs]
  exact a
theorem Gx.ret {i : Instr} {v : Option Value} (hi : (zM y).1[k]? = some i) (hr : zret (decide (100 ≤ zTg y)) i st = some v) (q : Q v h) : Gx E d y k ls st h Q := by
  refine ⟨1, v, h, ?_, q⟩
  rw [zx, hi]
  dsimp only
  rw [hr]
theorem Gx.call {i : Instr} {z : Nat} {as rest : List Value} {n : Nat} (hi : (zM y).1[k]? = some i) (hr : zret (decide (100 ≤ zTg y)) i st = none) (hc : zcall i = some z) (hn : (zM z).2.2 = n) (hst : st.take n = as.reverse) (hrest : st.drop n = rest) (hlen : n ≤ st.length) (h8 : zcat rest ≤ 8) (hrv : zrecv i h (zTg z % 100) as = true) (hL : (zargs as).length ≤ (zM z).2.1)
    (g : Ct E d z as h (fun v h1 => Gx E (d + 1) y (k + 1) ls (v.toList ++ rest) h1 Q)) : Gx E (d + 1) y k ls st h Q := by
  obtain ⟨n1, v, h1, a, n2, v2, h2, a2, b⟩ := g
  subst hn
  have e1 := zx_fuels a n2
  have e2 := zx_fuels a2 n1
  refine ⟨n1 + n2 + 1, v2, h2, ?_, b⟩
  rw [zx, hi]
  dsimp only
  rw [hr]
  dsimp only
  rw [hc]
  dsimp only
  rw [hst, hrest, List.reverse_reverse, if_pos ⟨hlen, h8, hrv, hL⟩, e1]
  dsimp only
  rw [Nat.add_comm n1 n2]
  exact e2

theorem zg_const {n : Int} {v : Int32} (hi : (zM y).1[k]? = some (.iconst n)) (hv : Int32.ofInt n = v) (g : Gx E d y (k + 1) ls (.int v :: st) h Q) : Gx E d y k ls st h Q := Gx.step hi (by rfl) rfl (by rw [← hv]; rfl) g
theorem zg_lconst {n : Int} {v : Int64} (hi : (zM y).1[k]? = some (.jsr_w n)) (hv : Int64.ofInt n = v) (g : Gx E d y (k + 1) ls (.long v :: st) h Q) : Gx E d y k ls st h Q := Gx.step hi (by rfl) rfl (by rw [← hv]; rfl) g
theorem zg_iload {n : Nat} {x : Int32} (hi : (zM y).1[k]? = some (.iload n)) (hl : ls[n]? = some (.int x)) (g : Gx E d y (k + 1) ls (.int x :: st) h Q) : Gx E d y k ls st h Q := Gx.step hi (by rfl) rfl (by simp only [zstep, hl]) g
theorem zg_lload {n : Nat} {x : Int64} (hi : (zM y).1[k]? = some (.lload n)) (hl : ls[n]? = some (.long x)) (g : Gx E d y (k + 1) ls (.long x :: st) h Q) : Gx E d y k ls st h Q := Gx.step hi (by rfl) rfl (by simp only [zstep, hl]) g
theorem zg_aload {n : Nat} {x : Nat} (hi : (zM y).1[k]? = some (.aload n)) (hl : ls[n]? = some (.ref x)) (g : Gx E d y (k + 1) ls (.ref x :: st) h Q) : Gx E d y k ls st h Q := Gx.step hi (by rfl) rfl (by simp only [zstep, hl]) g
theorem zg_istore {n : Nat} {x : Int32} {ls1 : List Value} (hi : (zM y).1[k]? = some (.istore n)) (hn : n < ls.length) (hl : zset1 ls n (.int x) = ls1) (g : Gx E d y (k + 1) ls1 st h Q) : Gx E d y k ls (.int x :: st) h Q := Gx.step hi (by rfl) rfl (by simp only [zstep, hn, if_true, hl]) g
theorem zg_astore {n : Nat} {x : Nat} {ls1 : List Value} (hi : (zM y).1[k]? = some (.astore n)) (hn : n < ls.length) (hl : zset1 ls n (.ref x) = ls1) (g : Gx E d y (k + 1) ls1 st h Q) : Gx E d y k ls (.ref x :: st) h Q := Gx.step hi (by rfl) rfl (by simp only [zstep, hn, if_true, hl]) g
theorem zg_lstore {n : Nat} {x : Int64} {ls1 : List Value} (hi : (zM y).1[k]? = some (.lstore n)) (hn : n + 1 < ls.length) (hl : zset2 ls n (.long x) = ls1) (g : Gx E d y (k + 1) ls1 st h Q) : Gx E d y k ls (.long x :: st) h Q := Gx.step hi (by rfl) rfl (by simp only [zstep, hn, if_true, hl]) g
theorem zg_iinc {n : Nat} {c : Int} {x v : Int32} {ls1 : List Value} (hi : (zM y).1[k]? = some (.iinc n c)) (hx : ls[n]? = some (.int x)) (hv : x + Int32.ofInt c = v) (hl : zset1 ls n (.int v) = ls1) (g : Gx E d y (k + 1) ls1 st h Q) : Gx E d y k ls st h Q := Gx.step hi (by rfl) rfl (by subst hv; simp only [zstep, hx, hl]) g
theorem zg_pop {v : Value} (hi : (zM y).1[k]? = some (.pop)) (hc : v.category = 1) (g : Gx E d y (k + 1) ls st h Q) : Gx E d y k ls (v :: st) h Q := Gx.step hi (by rfl) rfl (by simp only [zstep, hc, if_true]) g
theorem zg_dup {v : Value} (hi : (zM y).1[k]? = some (.dup)) (hc : v.category = 1) (g : Gx E d y (k + 1) ls (v :: v :: st) h Q) : Gx E d y k ls (v :: st) h Q := Gx.step hi (by rfl) rfl (by simp only [zstep, hc, if_true]) g
theorem zg_dup2_2 {x : Int64} (hi : (zM y).1[k]? = some (.dup2)) (g : Gx E d y (k + 1) ls (.long x :: .long x :: st) h Q) : Gx E d y k ls (.long x :: st) h Q := Gx.step hi (by rfl) rfl (rfl) g
theorem zg_dup2_11 {x : Int32} {w : Value} (hi : (zM y).1[k]? = some (.dup2)) (hc : w.category = 1) (g : Gx E d y (k + 1) ls (.int x :: w :: .int x :: w :: st) h Q) : Gx E d y k ls (.int x :: w :: st) h Q := Gx.step hi (by rfl) rfl (by simp only [zstep, hc, if_true]) g
theorem zg_iadd {a b : Int32} (hi : (zM y).1[k]? = some (.iadd)) (g : Gx E d y (k + 1) ls (.int (a + b) :: st) h Q) : Gx E d y k ls (.int b :: .int a :: st) h Q := Gx.step hi (by rfl) rfl (rfl) g
theorem zg_isub {a b : Int32} (hi : (zM y).1[k]? = some (.isub)) (g : Gx E d y (k + 1) ls (.int (a - b) :: st) h Q) : Gx E d y k ls (.int b :: .int a :: st) h Q := Gx.step hi (by rfl) rfl (rfl) g
theorem zg_imul {a b : Int32} (hi : (zM y).1[k]? = some (.imul)) (g : Gx E d y (k + 1) ls (.int (a * b) :: st) h Q) : Gx E d y k ls (.int b :: .int a :: st) h Q := Gx.step hi (by rfl) rfl (rfl) g
theorem zg_iand {a b : Int32} (hi : (zM y).1[k]? = some (.iand)) (g : Gx E d y (k + 1) ls (.int (a &&& b) :: st) h Q) : Gx E d y k ls (.int b :: .int a :: st) h Q := Gx.step hi (by rfl) rfl (rfl) g
theorem zg_ior {a b : Int32} (hi : (zM y).1[k]? = some (.ior)) (g : Gx E d y (k + 1) ls (.int (a ||| b) :: st) h Q) : Gx E d y k ls (.int b :: .int a :: st) h Q := Gx.step hi (by rfl) rfl (rfl) g
theorem zg_ishl {a b : Int32} (hi : (zM y).1[k]? = some (.ishl)) (g : Gx E d y (k + 1) ls (.int (a <<< (b &&& 31)) :: st) h Q) : Gx E d y k ls (.int b :: .int a :: st) h Q := Gx.step hi (by rfl) rfl (rfl) g
theorem zg_ishr {a b : Int32} (hi : (zM y).1[k]? = some (.ishr)) (g : Gx E d y (k + 1) ls (.int (a >>> (b &&& 31)) :: st) h Q) : Gx E d y k ls (.int b :: .int a :: st) h Q := Gx.step hi (by rfl) rfl (rfl) g
theorem zg_iushr {a b : Int32} (hi : (zM y).1[k]? = some (.iushr)) (g : Gx E d y (k + 1) ls (.int ((a.toUInt32 >>> (b.toUInt32 &&& Int32.toUInt32 31)).toInt32) :: st) h Q) : Gx E d y k ls (.int b :: .int a :: st) h Q := Gx.step hi (by rfl) rfl (rfl) g
theorem zg_idiv {a b : Int32} (hi : (zM y).1[k]? = some (.idiv)) (hb : ¬ b = 0) (g : Gx E d y (k + 1) ls (.int (a / b) :: st) h Q) : Gx E d y k ls (.int b :: .int a :: st) h Q := Gx.step hi (by rfl) rfl (by simp only [zstep, hb, if_false]) g
theorem zg_irem {a b : Int32} (hi : (zM y).1[k]? = some (.irem)) (hb : ¬ b = 0) (g : Gx E d y (k + 1) ls (.int (a - a / b * b) :: st) h Q) : Gx E d y k ls (.int b :: .int a :: st) h Q := Gx.step hi (by rfl) rfl (by simp only [zstep, hb, if_false]) g
theorem zg_ladd {a b : Int64} (hi : (zM y).1[k]? = some (.ladd)) (g : Gx E d y (k + 1) ls (.long (a + b) :: st) h Q) : Gx E d y k ls (.long b :: .long a :: st) h Q := Gx.step hi (by rfl) rfl (rfl) g
theorem zg_lsub {a b : Int64} (hi : (zM y).1[k]? = some (.lsub)) (g : Gx E d y (k + 1) ls (.long (a - b) :: st) h Q) : Gx E d y k ls (.long b :: .long a :: st) h Q := Gx.step hi (by rfl) rfl (rfl) g
theorem zg_lmul {a b : Int64} (hi : (zM y).1[k]? = some (.lmul)) (g : Gx E d y (k + 1) ls (.long (a * b) :: st) h Q) : Gx E d y k ls (.long b :: .long a :: st) h Q := Gx.step hi (by rfl) rfl (rfl) g
theorem zg_land {a b : Int64} (hi : (zM y).1[k]? = some (.land)) (g : Gx E d y (k + 1) ls (.long (a &&& b) :: st) h Q) : Gx E d y k ls (.long b :: .long a :: st) h Q := Gx.step hi (by rfl) rfl (rfl) g
theorem zg_lor {a b : Int64} (hi : (zM y).1[k]? = some (.lor)) (g : Gx E d y (k + 1) ls (.long (a ||| b) :: st) h Q) : Gx E d y k ls (.long b :: .long a :: st) h Q := Gx.step hi (by rfl) rfl (rfl) g
theorem zg_ldiv {a b : Int64} (hi : (zM y).1[k]? = some (.ldiv)) (hb : ¬ b = 0) (g : Gx E d y (k + 1) ls (.long (a / b) :: st) h Q) : Gx E d y k ls (.long b :: .long a :: st) h Q := Gx.step hi (by rfl) rfl (by simp only [zstep, hb, if_false]) g
theorem zg_lrem {a b : Int64} (hi : (zM y).1[k]? = some (.lrem)) (hb : ¬ b = 0) (g : Gx E d y (k + 1) ls (.long (a - a / b * b) :: st) h Q) : Gx E d y k ls (.long b :: .long a :: st) h Q := Gx.step hi (by rfl) rfl (by simp only [zstep, hb, if_false]) g
theorem zg_lneg {a : Int64} (hi : (zM y).1[k]? = some (.lneg)) (g : Gx E d y (k + 1) ls (.long (-a) :: st) h Q) : Gx E d y k ls (.long a :: st) h Q := Gx.step hi (by rfl) rfl (rfl) g
theorem zg_lshl {a : Int64} {b : Int32} (hi : (zM y).1[k]? = some (.lshl)) (g : Gx E d y (k + 1) ls (.long (a <<< (b.toInt64 &&& 63)) :: st) h Q) : Gx E d y k ls (.int b :: .long a :: st) h Q := Gx.step hi (by rfl) rfl (rfl) g
theorem zg_lshr {a : Int64} {b : Int32} (hi : (zM y).1[k]? = some (.lshr)) (g : Gx E d y (k + 1) ls (.long (a >>> (b.toInt64 &&& 63)) :: st) h Q) : Gx E d y k ls (.int b :: .long a :: st) h Q := Gx.step hi (by rfl) rfl (rfl) g
theorem zg_lcmp {a b : Int64} (hi : (zM y).1[k]? = some (.lcmp)) (g : Gx E d y (k + 1) ls (.int (lg_cmp a b) :: st) h Q) : Gx E d y k ls (.long b :: .long a :: st) h Q := Gx.step hi (by rfl) rfl (rfl) g
theorem zg_i2l {a : Int32} (hi : (zM y).1[k]? = some (.i2l)) (g : Gx E d y (k + 1) ls (.long a.toInt64 :: st) h Q) : Gx E d y k ls (.int a :: st) h Q := Gx.step hi (by rfl) rfl (rfl) g
theorem zg_l2i {a : Int64} (hi : (zM y).1[k]? = some (.l2i)) (g : Gx E d y (k + 1) ls (.int a.toInt32 :: st) h Q) : Gx E d y k ls (.long a :: st) h Q := Gx.step hi (by rfl) rfl (rfl) g
theorem zg_i2b {a : Int32} (hi : (zM y).1[k]? = some (.i2b)) (g : Gx E d y (k + 1) ls (.int a.toInt8.toInt32 :: st) h Q) : Gx E d y k ls (.int a :: st) h Q := Gx.step hi (by rfl) rfl (rfl) g
theorem zg_i2s {a : Int32} (hi : (zM y).1[k]? = some (.i2s)) (g : Gx E d y (k + 1) ls (.int a.toInt16.toInt32 :: st) h Q) : Gx E d y k ls (.int a :: st) h Q := Gx.step hi (by rfl) rfl (rfl) g
theorem zg_icmp_eq {t : Nat} {a b : Int32} (hi : (zM y).1[k]? = some (.if_icmp .eq (t : Int))) (gt : a = b → Gx E d y t ls st h Q) (gf : ¬ (a = b) → Gx E d y (k + 1) ls st h Q) : Gx E d y k ls (.int b :: .int a :: st) h Q := by
  by_cases hc : a = b
  · exact Gx.step hi (by rfl) rfl (by simp only [zstep]; rw [if_pos (c := zcmp .eq a b = true) (by simpa [zcmp] using hc)]; rfl) (gt hc)
  · exact Gx.step hi (by rfl) rfl (by simp only [zstep]; rw [if_neg (c := zcmp .eq a b = true) (by simpa [zcmp] using hc)]) (gf hc)
theorem zg_if_eq {t : Nat} {a : Int32} (hi : (zM y).1[k]? = some (.ifCond .eq (t : Int))) (gt : a = 0 → Gx E d y t ls st h Q) (gf : ¬ (a = 0) → Gx E d y (k + 1) ls st h Q) : Gx E d y k ls (.int a :: st) h Q := by
  by_cases hc : a = 0
  · exact Gx.step hi (by rfl) rfl (by simp only [zstep]; rw [if_pos (c := zcmp .eq a 0 = true) (by simpa [zcmp] using hc)]; rfl) (gt hc)
  · exact Gx.step hi (by rfl) rfl (by simp only [zstep]; rw [if_neg (c := zcmp .eq a 0 = true) (by simpa [zcmp] using hc)]) (gf hc)
theorem zg_icmp_ne {t : Nat} {a b : Int32} (hi : (zM y).1[k]? = some (.if_icmp .ne (t : Int))) (gt : ¬ a = b → Gx E d y t ls st h Q) (gf : ¬ (¬ a = b) → Gx E d y (k + 1) ls st h Q) : Gx E d y k ls (.int b :: .int a :: st) h Q := by
  by_cases hc : ¬ a = b
  · exact Gx.step hi (by rfl) rfl (by simp only [zstep]; rw [if_pos (c := zcmp .ne a b = true) (by simpa [zcmp] using hc)]; rfl) (gt hc)
  · exact Gx.step hi (by rfl) rfl (by simp only [zstep]; rw [if_neg (c := zcmp .ne a b = true) (by simpa [zcmp] using hc)]) (gf hc)
theorem zg_if_ne {t : Nat} {a : Int32} (hi : (zM y).1[k]? = some (.ifCond .ne (t : Int))) (gt : ¬ a = 0 → Gx E d y t ls st h Q) (gf : ¬ (¬ a = 0) → Gx E d y (k + 1) ls st h Q) : Gx E d y k ls (.int a :: st) h Q := by
  by_cases hc : ¬ a = 0
  · exact Gx.step hi (by rfl) rfl (by simp only [zstep]; rw [if_pos (c := zcmp .ne a 0 = true) (by simpa [zcmp] using hc)]; rfl) (gt hc)
  · exact Gx.step hi (by rfl) rfl (by simp only [zstep]; rw [if_neg (c := zcmp .ne a 0 = true) (by simpa [zcmp] using hc)]) (gf hc)
theorem zg_icmp_lt {t : Nat} {a b : Int32} (hi : (zM y).1[k]? = some (.if_icmp .lt (t : Int))) (gt : a < b → Gx E d y t ls st h Q) (gf : ¬ (a < b) → Gx E d y (k + 1) ls st h Q) : Gx E d y k ls (.int b :: .int a :: st) h Q := by
  by_cases hc : a < b
  · exact Gx.step hi (by rfl) rfl (by simp only [zstep]; rw [if_pos (c := zcmp .lt a b = true) (by simpa [zcmp] using hc)]; rfl) (gt hc)
  · exact Gx.step hi (by rfl) rfl (by simp only [zstep]; rw [if_neg (c := zcmp .lt a b = true) (by simpa [zcmp] using hc)]) (gf hc)
theorem zg_if_lt {t : Nat} {a : Int32} (hi : (zM y).1[k]? = some (.ifCond .lt (t : Int))) (gt : a < 0 → Gx E d y t ls st h Q) (gf : ¬ (a < 0) → Gx E d y (k + 1) ls st h Q) : Gx E d y k ls (.int a :: st) h Q := by
  by_cases hc : a < 0
  · exact Gx.step hi (by rfl) rfl (by simp only [zstep]; rw [if_pos (c := zcmp .lt a 0 = true) (by simpa [zcmp] using hc)]; rfl) (gt hc)
  · exact Gx.step hi (by rfl) rfl (by simp only [zstep]; rw [if_neg (c := zcmp .lt a 0 = true) (by simpa [zcmp] using hc)]) (gf hc)
theorem zg_icmp_ge {t : Nat} {a b : Int32} (hi : (zM y).1[k]? = some (.if_icmp .ge (t : Int))) (gt : b ≤ a → Gx E d y t ls st h Q) (gf : ¬ (b ≤ a) → Gx E d y (k + 1) ls st h Q) : Gx E d y k ls (.int b :: .int a :: st) h Q := by
  by_cases hc : b ≤ a
  · exact Gx.step hi (by rfl) rfl (by simp only [zstep]; rw [if_pos (c := zcmp .ge a b = true) (by simpa [zcmp] using hc)]; rfl) (gt hc)
  · exact Gx.step hi (by rfl) rfl (by simp only [zstep]; rw [if_neg (c := zcmp .ge a b = true) (by simpa [zcmp] using hc)]) (gf hc)
theorem zg_if_ge {t : Nat} {a : Int32} (hi : (zM y).1[k]? = some (.ifCond .ge (t : Int))) (gt : 0 ≤ a → Gx E d y t ls st h Q) (gf : ¬ (0 ≤ a) → Gx E d y (k + 1) ls st h Q) : Gx E d y k ls (.int a :: st) h Q := by
  by_cases hc : 0 ≤ a
  · exact Gx.step hi (by rfl) rfl (by simp only [zstep]; rw [if_pos (c := zcmp .ge a 0 = true) (by simpa [zcmp] using hc)]; rfl) (gt hc)
  · exact Gx.step hi (by rfl) rfl (by simp only [zstep]; rw [if_neg (c := zcmp .ge a 0 = true) (by simpa [zcmp] using hc)]) (gf hc)
theorem zg_icmp_gt {t : Nat} {a b : Int32} (hi : (zM y).1[k]? = some (.if_icmp .gt (t : Int))) (gt : b < a → Gx E d y t ls st h Q) (gf : ¬ (b < a) → Gx E d y (k + 1) ls st h Q) : Gx E d y k ls (.int b :: .int a :: st) h Q := by
  by_cases hc : b < a
  · exact Gx.step hi (by rfl) rfl (by simp only [zstep]; rw [if_pos (c := zcmp .gt a b = true) (by simpa [zcmp] using hc)]; rfl) (gt hc)
  · exact Gx.step hi (by rfl) rfl (by simp only [zstep]; rw [if_neg (c := zcmp .gt a b = true) (by simpa [zcmp] using hc)]) (gf hc)
theorem zg_if_gt {t : Nat} {a : Int32} (hi : (zM y).1[k]? = some (.ifCond .gt (t : Int))) (gt : 0 < a → Gx E d y t ls st h Q) (gf : ¬ (0 < a) → Gx E d y (k + 1) ls st h Q) : Gx E d y k ls (.int a :: st) h Q := by
  by_cases hc : 0 < a
  · exact Gx.step hi (by rfl) rfl (by simp only [zstep]; rw [if_pos (c := zcmp .gt a 0 = true) (by simpa [zcmp] using hc)]; rfl) (gt hc)
  · exact Gx.step hi (by rfl) rfl (by simp only [zstep]; rw [if_neg (c := zcmp .gt a 0 = true) (by simpa [zcmp] using hc)]) (gf hc)
theorem zg_icmp_le {t : Nat} {a b : Int32} (hi : (zM y).1[k]? = some (.if_icmp .le (t : Int))) (gt : a ≤ b → Gx E d y t ls st h Q) (gf : ¬ (a ≤ b) → Gx E d y (k + 1) ls st h Q) : Gx E d y k ls (.int b :: .int a :: st) h Q := by
  by_cases hc : a ≤ b
  · exact Gx.step hi (by rfl) rfl (by simp only [zstep]; rw [if_pos (c := zcmp .le a b = true) (by simpa [zcmp] using hc)]; rfl) (gt hc)
  · exact Gx.step hi (by rfl) rfl (by simp only [zstep]; rw [if_neg (c := zcmp .le a b = true) (by simpa [zcmp] using hc)]) (gf hc)
theorem zg_if_le {t : Nat} {a : Int32} (hi : (zM y).1[k]? = some (.ifCond .le (t : Int))) (gt : a ≤ 0 → Gx E d y t ls st h Q) (gf : ¬ (a ≤ 0) → Gx E d y (k + 1) ls st h Q) : Gx E d y k ls (.int a :: st) h Q := by
  by_cases hc : a ≤ 0
  · exact Gx.step hi (by rfl) rfl (by simp only [zstep]; rw [if_pos (c := zcmp .le a 0 = true) (by simpa [zcmp] using hc)]; rfl) (gt hc)
  · exact Gx.step hi (by rfl) rfl (by simp only [zstep]; rw [if_neg (c := zcmp .le a 0 = true) (by simpa [zcmp] using hc)]) (gf hc)
theorem zg_nonnull {t a : Nat} (hi : (zM y).1[k]? = some (.ifnonnull (t : Int))) (g : Gx E d y t ls st h Q) : Gx E d y k ls (.ref a :: st) h Q := Gx.step hi (by rfl) rfl (by rfl) g
theorem zg_nonnullN {t : Nat} (hi : (zM y).1[k]? = some (.ifnonnull (t : Int))) (g : Gx E d y (k + 1) ls st h Q) : Gx E d y k ls (.null :: st) h Q := Gx.step hi (by rfl) rfl (by rfl) g
theorem zg_goto {t : Nat} (hi : (zM y).1[k]? = some (.goto (t : Int))) (g : Gx E d y t ls st h Q) : Gx E d y k ls st h Q := Gx.step hi (by rfl) rfl (by rfl) g
theorem zg_switch {df lo hi2 : Int} {offs : Array Int} {x : Int32} {t : Nat} (hi : (zM y).1[k]? = some (.tableswitch df lo hi2 offs)) (ht : zsw x.toInt lo hi2 df offs = some t) (g : Gx E d y t ls st h Q) : Gx E d y k ls (.int x :: st) h Q := Gx.step hi (by rfl) rfl (by simp only [zstep, ht, Option.map_some]) g
theorem zg_getI {n a : Nat} {v : Value} (hi : (zM y).1[k]? = some (.getfield n)) (ht : ztag h a = n / 1000) (hn : n / 100 % 10 = 0) (hv : .int (zI h a (n % 100)) = v) (g : Gx E d y (k + 1) ls (v :: st) h Q) : Gx E d y k ls (.ref a :: st) h Q := Gx.step hi (by rfl) rfl (by simp only [zstep, ht, if_true, hn, hv]) g
theorem zg_getL {n a : Nat} {v : Value} (hi : (zM y).1[k]? = some (.getfield n)) (ht : ztag h a = n / 1000) (hn : n / 100 % 10 = 1) (hv : .long (zL h a (n % 100)) = v) (g : Gx E d y (k + 1) ls (v :: st) h Q) : Gx E d y k ls (.ref a :: st) h Q := Gx.step hi (by rfl) rfl (by simp only [zstep, ht, if_true, hn, hv]) g
theorem zg_getR {n a : Nat} {v : Value} (hi : (zM y).1[k]? = some (.getfield n)) (ht : ztag h a = n / 1000) (hn : n / 100 % 10 = 2) (hv : zrv (zR h a (n % 100)) = v) (g : Gx E d y (k + 1) ls (v :: st) h Q) : Gx E d y k ls (.ref a :: st) h Q := Gx.step hi (by rfl) rfl (by simp only [zstep, ht, if_true, hn, hv]) g
theorem zg_getZ {n a : Nat} {v : Value} (hi : (zM y).1[k]? = some (.getfield n)) (ht : ztag h a = n / 1000) (hn : n / 100 % 10 = 3) (hv : .int (zI h a (n % 100)) = v) (g : Gx E d y (k + 1) ls (v :: st) h Q) : Gx E d y k ls (.ref a :: st) h Q := Gx.step hi (by rfl) rfl (by simp only [zstep, ht, if_true, hn, hv]) g
theorem zg_putI {n a : Nat} {x : Int32} {h1 : ZH} (hi : (zM y).1[k]? = some (.putfield n)) (ht : ztag h a = n / 1000) (hn : n / 100 % 10 = 0) (hv : zuI h a (n % 100) x = h1) (g : Gx E d y (k + 1) ls st h1 Q) : Gx E d y k ls (.int x :: .ref a :: st) h Q := Gx.step hi (by rfl) rfl (by simp only [zstep, ht, if_true, hn, hv]) g
theorem zg_putL {n a : Nat} {x : Int64} {h1 : ZH} (hi : (zM y).1[k]? = some (.putfield n)) (ht : ztag h a = n / 1000) (hn : n / 100 % 10 = 1) (hv : zuL h a (n % 100) x = h1) (g : Gx E d y (k + 1) ls st h1 Q) : Gx E d y k ls (.long x :: .ref a :: st) h Q := Gx.step hi (by rfl) rfl (by simp only [zstep, ht, if_true, hn, hv]) g
theorem zg_putR {n a : Nat} {x : Nat} {h1 : ZH} (hi : (zM y).1[k]? = some (.putfield n)) (ht : ztag h a = n / 1000) (hn : n / 100 % 10 = 2) (hv : zuR h a (n % 100) (x + 1) = h1) (g : Gx E d y (k + 1) ls st h1 Q) : Gx E d y k ls (.ref x :: .ref a :: st) h Q := Gx.step hi (by rfl) rfl (by simp only [zstep, ht, if_true, hn, hv]) g
theorem zg_putZ {n a : Nat} {x : Int32} {h1 : ZH} (hi : (zM y).1[k]? = some (.putfield n)) (ht : ztag h a = n / 1000) (hn : n / 100 % 10 = 3) (hx : x = 0 ∨ x = 1) (hv : zuI h a (n % 100) x = h1) (g : Gx E d y (k + 1) ls st h1 Q) : Gx E d y k ls (.int x :: .ref a :: st) h Q := Gx.step hi (by rfl) rfl (by simp only [zstep, ht, if_true, hn, hv, hx]) g
theorem zg_getstatic {n : Nat} (hi : (zM y).1[k]? = some (.getstatic n)) (g : Gx E d y (k + 1) ls (.ref (E n) :: st) h Q) : Gx E d y k ls st h Q := Gx.step hi (by rfl) rfl (rfl) g
theorem zg_ldc {n : Nat} (hi : (zM y).1[k]? = some (.ldc n)) (g : Gx E d y (k + 1) ls (.ref (E n) :: st) h Q) : Gx E d y k ls st h Q := Gx.step hi (by rfl) rfl (rfl) g
theorem zg_iaload {i : Int32} {a : Nat} {v : Value} (hi : (zM y).1[k]? = some .iaload) (ht : (ztag h a = 13 ∨ ztag h a = 19)) (hb : zin i (zlen h a) = true) (hv : .int (zI h a i.toNatClampNeg) = v) (g : Gx E d y (k + 1) ls (v :: st) h Q) : Gx E d y k ls (.int i :: .ref a :: st) h Q := Gx.step hi (by rfl) rfl (by simp only [zstep, ht, hb, and_self, if_true, hv]) g
theorem zg_laload {i : Int32} {a : Nat} {v : Value} (hi : (zM y).1[k]? = some .laload) (ht : ztag h a = 14) (hb : zin i (zlen h a) = true) (hv : .long (zL h a i.toNatClampNeg) = v) (g : Gx E d y (k + 1) ls (v :: st) h Q) : Gx E d y k ls (.int i :: .ref a :: st) h Q := Gx.step hi (by rfl) rfl (by simp only [zstep, ht, hb, and_self, if_true, hv]) g
theorem zg_baload {i : Int32} {a : Nat} {v : Value} (hi : (zM y).1[k]? = some .baload) (ht : (ztag h a = 12 ∨ ztag h a = 15)) (hb : zin i (zlen h a) = true) (hv : .int (zI h a i.toNatClampNeg) = v) (g : Gx E d y (k + 1) ls (v :: st) h Q) : Gx E d y k ls (.int i :: .ref a :: st) h Q := Gx.step hi (by rfl) rfl (by simp only [zstep, ht, hb, and_self, if_true, hv]) g
theorem zg_aaload {i : Int32} {a : Nat} {v : Value} (hi : (zM y).1[k]? = some .aaload) (ht : (ztag h a = 16 ∨ ztag h a = 17)) (hb : zin i (zlen h a) = true) (hv : zrv (zR h a i.toNatClampNeg) = v) (g : Gx E d y (k + 1) ls (v :: st) h Q) : Gx E d y k ls (.int i :: .ref a :: st) h Q := Gx.step hi (by rfl) rfl (by simp only [zstep, ht, hb, and_self, if_true, hv]) g
theorem zg_iastore {i : Int32} {a : Nat} {x : Int32} {h1 : ZH} (hi : (zM y).1[k]? = some .iastore) (ht : ztag h a = 13) (hb : zin i (zlen h a) = true) (hv : zuI h a i.toNatClampNeg x = h1) (g : Gx E d y (k + 1) ls st h1 Q) : Gx E d y k ls (.int x :: .int i :: .ref a :: st) h Q := Gx.step hi (by rfl) rfl (by
  simp only [zstep]
  rw [if_pos ⟨ht, hb⟩, hv]) g
theorem zg_lastore {i : Int32} {a : Nat} {x : Int64} {h1 : ZH} (hi : (zM y).1[k]? = some .lastore) (ht : ztag h a = 14) (hb : zin i (zlen h a) = true) (hv : zuL h a i.toNatClampNeg x = h1) (g : Gx E d y (k + 1) ls st h1 Q) : Gx E d y k ls (.long x :: .int i :: .ref a :: st) h Q := Gx.step hi (by rfl) rfl (by
  simp only [zstep]
  rw [if_pos ⟨ht, hb⟩, hv]) g
theorem zg_bastore {i : Int32} {a : Nat} {x : Int32} {h1 : ZH} (hi : (zM y).1[k]? = some .bastore) (ht : (ztag h a = 12 ∨ ztag h a = 15)) (hb : zin i (zlen h a) = true) (hv : zuI h a i.toNatClampNeg (zbyte (ztag h a) x) = h1) (g : Gx E d y (k + 1) ls st h1 Q) : Gx E d y k ls (.int x :: .int i :: .ref a :: st) h Q := Gx.step hi (by rfl) rfl (by
  simp only [zstep]
  rw [if_pos ⟨ht, hb⟩, hv]) g
theorem zg_aastore {i : Int32} {a : Nat} {x : Nat} {h1 : ZH} (hi : (zM y).1[k]? = some .aastore) (ht : ((ztag h a = 16 ∧ ztag h x = 2) ∨ (ztag h a = 17 ∧ ztag h x = 6))) (hb : zin i (zlen h a) = true) (hv : zuR h a i.toNatClampNeg (x + 1) = h1) (g : Gx E d y (k + 1) ls st h1 Q) : Gx E d y k ls (.ref x :: .int i :: .ref a :: st) h Q := Gx.step hi (by rfl) rfl (by
  simp only [zstep]
  rw [if_pos ⟨ht, hb⟩, hv]) g
theorem zg_alen {a : Nat} {n : Int32} (hi : (zM y).1[k]? = some .arraylength) (ht : 12 ≤ ztag h a ∧ ztag h a ≤ 19 ∧ ztag h a ≠ 18) (hn : Int32.ofNat (zlen h a) = n) (g : Gx E d y (k + 1) ls (.int n :: st) h Q) : Gx E d y k ls (.ref a :: st) h Q := Gx.step hi (by rfl) rfl (by simp only [zstep]; rw [if_pos ht, hn]) g
theorem zg_new {t : Nat} (hi : (zM y).1[k]? = some (.new t)) (ht : t < 12) (g : Gx E d y (k + 1) ls (.ref (zsz h) :: st) (znew h t (zN t)) Q) : Gx E d y k ls st h Q := Gx.step hi (by rfl) rfl (by simp only [zstep, ht, if_true]) g
theorem zg_newarray_byte {n : Int32} {N : Nat} (hi : (zM y).1[k]? = some (.newarray .byte)) (hn : 0 ≤ n ∧ n.toNatClampNeg ≤ 1000000) (hN : n.toNatClampNeg = N) (g : Gx E d y (k + 1) ls (.ref (zsz h) :: st) (znew h 12 N) Q) : Gx E d y k ls (.int n :: st) h Q := Gx.step hi (by rfl) rfl (by subst hN; simp only [zstep]; rw [if_pos hn]) g
theorem zg_newarray_int {n : Int32} {N : Nat} (hi : (zM y).1[k]? = some (.newarray .int)) (hn : 0 ≤ n ∧ n.toNatClampNeg ≤ 1000000) (hN : n.toNatClampNeg = N) (g : Gx E d y (k + 1) ls (.ref (zsz h) :: st) (znew h 13 N) Q) : Gx E d y k ls (.int n :: st) h Q := Gx.step hi (by rfl) rfl (by subst hN; simp only [zstep]; rw [if_pos hn]) g
theorem zg_newarray_long {n : Int32} {N : Nat} (hi : (zM y).1[k]? = some (.newarray .long)) (hn : 0 ≤ n ∧ n.toNatClampNeg ≤ 1000000) (hN : n.toNatClampNeg = N) (g : Gx E d y (k + 1) ls (.ref (zsz h) :: st) (znew h 14 N) Q) : Gx E d y k ls (.int n :: st) h Q := Gx.step hi (by rfl) rfl (by subst hN; simp only [zstep]; rw [if_pos hn]) g
theorem zg_newarray_boolean {n : Int32} {N : Nat} (hi : (zM y).1[k]? = some (.newarray .boolean)) (hn : 0 ≤ n ∧ n.toNatClampNeg ≤ 1000000) (hN : n.toNatClampNeg = N) (g : Gx E d y (k + 1) ls (.ref (zsz h) :: st) (znew h 15 N) Q) : Gx E d y k ls (.int n :: st) h Q := Gx.step hi (by rfl) rfl (by subst hN; simp only [zstep]; rw [if_pos hn]) g
theorem zg_anewarray {t : Nat} {n : Int32} {N : Nat} (hi : (zM y).1[k]? = some (.anewarray t)) (hn : 0 ≤ n ∧ n.toNatClampNeg ≤ 1000000 ∧ (t = 16 ∨ t = 17)) (hN : n.toNatClampNeg = N) (g : Gx E d y (k + 1) ls (.ref (zsz h) :: st) (znew h t N) Q) : Gx E d y k ls (.int n :: st) h Q := Gx.step hi (by rfl) rfl (by subst hN; simp only [zstep]; rw [if_pos hn]) g
theorem zg_max {a b : Int32} (hi : (zM y).1[k]? = some (.invokedynamic 0)) (hd : 5 ≤ d ∧ zcat st ≤ 8) (g : Gx E d y (k + 1) ls (.int (if a < b then b else a) :: st) h Q) : Gx E d y k ls (.int b :: .int a :: st) h Q := Gx.step hi (by rfl) rfl (by simp only [zstep]; rw [if_pos hd]) g
theorem zg_min {a b : Int32} (hi : (zM y).1[k]? = some (.invokedynamic 1)) (hd : 5 ≤ d ∧ zcat st ≤ 8) (g : Gx E d y (k + 1) ls (.int (if b < a then b else a) :: st) h Q) : Gx E d y k ls (.int b :: .int a :: st) h Q := Gx.step hi (by rfl) rfl (by simp only [zstep]; rw [if_pos hd]) g
theorem zg_copy {n dp sp : Int32} {a b : Nat} {h1 : ZH} (hi : (zM y).1[k]? = some (.invokedynamic 2)) (hc : 5 ≤ d ∧ zcat st ≤ 8 ∧ ztag h a = 13 ∧ (ztag h b = 13 ∨ ztag h b = 19) ∧ 0 ≤ n ∧ 0 ≤ sp ∧ 0 ≤ dp ∧ sp.toNatClampNeg + n.toNatClampNeg ≤ zlen h b ∧ dp.toNatClampNeg + n.toNatClampNeg ≤ zlen h a) (hv : zuA h a (zcpy (zI h b) (zI h a) sp.toNatClampNeg dp.toNatClampNeg n.toNatClampNeg) = h1) (g : Gx E d y (k + 1) ls st h1 Q) : Gx E d y k ls (.int n :: .int dp :: .ref a :: .int sp :: .ref b :: st) h Q := Gx.step hi (by rfl) rfl (by simp only [zstep]; rw [if_pos hc, hv]) g
theorem zg_object {a : Nat} (hi : (zM y).1[k]? = some (.invokedynamic 3)) (hd : 5 ≤ d ∧ zcat st ≤ 8) (g : Gx E d y (k + 1) ls st h Q) : Gx E d y k ls (.ref a :: st) h Q := Gx.step hi (by rfl) rfl (by simp only [zstep]; rw [if_pos hd]) g
theorem zg_slen {a : Nat} (hi : (zM y).1[k]? = some (.invokedynamic 4)) (hd : 5 ≤ d ∧ zcat st ≤ 8 ∧ ztag h a = 18) (g : Gx E d y (k + 1) ls (.int (Int32.ofNat (zlen h a)) :: st) h Q) : Gx E d y k ls (.ref a :: st) h Q := Gx.step hi (by rfl) rfl (by simp only [zstep]; rw [if_pos hd]) g
theorem zg_schar {a : Nat} {i : Int32} (hi : (zM y).1[k]? = some (.invokedynamic 5)) (hd : 5 ≤ d ∧ zcat st ≤ 8 ∧ ztag h a = 18 ∧ zin i (zlen h a) = true) (g : Gx E d y (k + 1) ls (.int (zI h a i.toNatClampNeg) :: st) h Q) : Gx E d y k ls (.int i :: .ref a :: st) h Q := Gx.step hi (by rfl) rfl (by simp only [zstep]; rw [if_pos hd]) g
theorem zg_ireturn {x : Int32} (hi : (zM y).1[k]? = some .ireturn) (hb : zTg y < 100) (q : Q (some (.int x)) h) : Gx E d y k ls [.int x] h Q := Gx.ret hi (by simp only [zret]; rw [if_pos (Or.inl (by simpa using hb))]) q
theorem zg_zreturn {x : Int32} (hi : (zM y).1[k]? = some .ireturn) (hb : x = 0 ∨ x = 1) (q : Q (some (.int x)) h) : Gx E d y k ls [.int x] h Q := Gx.ret hi (by simp only [zret]; rw [if_pos (Or.inr hb)]) q
theorem zg_lreturn {x : Int64} (hi : (zM y).1[k]? = some .lreturn) (q : Q (some (.long x)) h) : Gx E d y k ls [.long x] h Q := Gx.ret hi (by rfl) q
theorem zg_areturn {x : Nat} (hi : (zM y).1[k]? = some .areturn) (q : Q (some (.ref x)) h) : Gx E d y k ls [.ref x] h Q := Gx.ret hi (by rfl) q
theorem zg_return (hi : (zM y).1[k]? = some .return_) (q : Q none h) : Gx E d y k ls [] h Q := Gx.ret hi (by rfl) q
end GX
