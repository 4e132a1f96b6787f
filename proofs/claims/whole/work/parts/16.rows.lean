/-! more rows: names for what is reckoned, locals that are forgotten, comparisons of longs, receivers -/
abbrev zmax (a b : Int32) : Int32 := if a < b then b else a
abbrev zmin (a b : Int32) : Int32 := if b < a then b else a
def zrel : List Value → List Value → Prop
  | [], [] => True
  | a :: as, b :: bs => (a = b ∨ a = .retAddr 0) ∧ zrel as bs
  | _, _ => False
theorem zrel_len : ∀ {as bs : List Value}, zrel as bs → as.length = bs.length
  | [], [], _ => rfl
  | a :: as, b :: bs, h => by simp [zrel_len h.2]
theorem zrel_get : ∀ {as bs : List Value}, zrel as bs → ∀ (i : Nat) (v : Value), as[i]? = some v → v ≠ .retAddr 0 → bs[i]? = some v
  | [], [], _, i, v, h, _ => by simp at h
  | a :: as, b :: bs, h, 0, v, hv, hn => by
    simp at hv
    subst hv
    rcases h.1 with e | e
    · simp [e]
    · exact absurd e hn
  | a :: as, b :: bs, h, i + 1, v, hv, hn => by
    simp at hv
    simpa using zrel_get h.2 i v hv hn
theorem zrel_set : ∀ {as bs : List Value}, zrel as bs → ∀ (i : Nat) (v : Value), zrel (as.set i v) (bs.set i v)
  | [], [], _, i, v => by simp [zrel]
  | a :: as, b :: bs, h, 0, v => ⟨Or.inl rfl, h.2⟩
  | a :: as, b :: bs, h, i + 1, v => ⟨h.1, zrel_set h.2 i v⟩
theorem zrel_drop : ∀ {as bs : List Value}, zrel as bs → ∀ (i : Nat), zrel (as.set i (.retAddr 0)) bs
  | [], [], _, i => by simp [zrel]
  | a :: as, b :: bs, h, 0 => ⟨Or.inr rfl, h.2⟩
  | a :: as, b :: bs, h, i + 1 => ⟨h.1, zrel_drop h.2 i⟩
theorem zrel_dummy : ∀ {as bs : List Value}, zrel as bs → ∀ (i : Nat), (∀ x, as[i]? ≠ some (.long x)) → (∃ x, bs[i]? = some (.long x)) → zrel as (bs.set i (.retAddr 0))
  | [], [], _, i, _, _ => by simp [zrel]
  | a :: as, b :: bs, h, 0, h1, ⟨x, hx⟩ => by
    simp at hx
    subst hx
    refine ⟨?_, h.2⟩
    rcases h.1 with e | e
    · exact absurd (by simp [e]) (h1 x)
    · exact Or.inl e
  | a :: as, b :: bs, h, i + 1, h1, h2 => ⟨h.1, zrel_dummy h.2 i (fun x => by simpa using h1 x) (by simpa using h2)⟩
theorem zrel_cut {as bs : List Value} (h : zrel as bs) (n : Nat) : zrel (zcut as n) (zcut bs n) := by
  unfold zcut
  split
  · exact h
  · next j =>
    split
    · next x hx =>
      rw [zrel_get h j _ hx (fun q => by cases q)]
      exact zrel_set h j _
    · next hx =>
      split
      · next x hb => exact zrel_dummy h j (fun x e => hx x e) ⟨x, hb⟩
      · exact h
def zloc (i : Instr) : Bool := match i with
  | .iload _ => true
  | .lload _ => true
  | .aload _ => true
  | .istore _ => true
  | .lstore _ => true
  | .astore _ => true
  | .iinc _ _ => true
  | _ => false
theorem zstep_ls {E : Nat → Nat} {d : Nat} {i : Instr} {k : Nat} {st : List Value} {h : ZH} (hi : zloc i = false) (ls : List Value) : zstep E d i k ls st h = (zstep E d i k [] st h).map (fun q => (q.1, ls, q.2.2.1, q.2.2.2)) := by
  cases i
  all_goals first
    | (cases hi; done)
    | (simp only [zstep]; rfl)
    | (simp only [zstep]; (repeat' split) <;> first | rfl | (simp_all; done) | (simp [Option.map_map, Function.comp_def]; done))
    | (unfold zstep; (repeat' split) <;> first | rfl | (simp_all; done))
theorem zstep_forget {E : Nat → Nat} {d : Nat} {i : Instr} {k : Nat} {la lb st : List Value} {h : ZH} {k' : Nat} {la' st' : List Value} {h' : ZH} (hr : zrel la lb) (hst : zstep E d i k la st h = some (k', la', st', h')) : ∃ lb', zrel la' lb' ∧ zstep E d i k lb st h = some (k', lb', st', h') := by
  by_cases hloc : zloc i = false
  · rw [zstep_ls hloc la, Option.map_eq_some_iff] at hst
    obtain ⟨q, e1, e2⟩ := hst
    cases e2
    exact ⟨lb, hr, by rw [zstep_ls hloc lb, e1]; rfl⟩
  cases i
  case iload n =>
    simp only [zstep] at hst ⊢
    split at hst
    · next x hx => cases hst; exact ⟨lb, hr, by rw [zrel_get hr n _ hx (fun q => by cases q)]⟩
    · cases hst
  case lload n =>
    simp only [zstep] at hst ⊢
    split at hst
    · next x hx => cases hst; exact ⟨lb, hr, by rw [zrel_get hr n _ hx (fun q => by cases q)]⟩
    · cases hst
  case aload n =>
    simp only [zstep] at hst ⊢
    split at hst
    · next x hx => cases hst; exact ⟨lb, hr, by rw [zrel_get hr n _ hx (fun q => by cases q)]⟩
    · cases hst
  case iinc n c =>
    simp only [zstep] at hst ⊢
    split at hst
    · next x hx => cases hst; exact ⟨_, zrel_set (zrel_cut hr n) n _, by rw [zrel_get hr n _ hx (fun q => by cases q)]; rfl⟩
    · cases hst
  case istore n =>
    simp only [zstep] at hst ⊢
    split at hst
    · split at hst
      · next hl => cases hst; exact ⟨_, zrel_set (zrel_cut hr n) n _, by rw [if_pos (by rw [← zrel_len hr]; exact hl)]; rfl⟩
      · cases hst
    · cases hst
  case astore n =>
    simp only [zstep] at hst ⊢
    split at hst
    · split at hst
      · next hl => cases hst; exact ⟨_, zrel_set (zrel_cut hr n) n _, by rw [if_pos (by rw [← zrel_len hr]; exact hl)]; rfl⟩
      · cases hst
    · cases hst
  case lstore n =>
    simp only [zstep] at hst ⊢
    split at hst
    · split at hst
      · next hl => cases hst; exact ⟨_, zrel_set (zrel_set (zrel_cut hr n) n _) (n + 1) _, by rw [if_pos (by rw [← zrel_len hr]; exact hl)]; rfl⟩
      · cases hst
    · cases hst
  all_goals exact absurd rfl hloc
theorem zx_forget {E : Nat → Nat} {M : Nat → ZM} {T : Nat → Nat} : ∀ (n d y k : Nat) (la lb st : List Value) (h : ZH) (r : Option Value × ZH), zrel la lb → zx E M T n d y k la st h = some r → zx E M T n d y k lb st h = some r := by
  intro n
  induction n with
  | zero => intro d y k la lb st h r _ hx; simp [zx] at hx
  | succ n ih =>
    intro d y k la lb st h r hrel hx
    rw [zx] at hx ⊢
    cases hi : (M y).1[k]? with
    | none => rw [hi] at hx; cases hx
    | some i =>
      rw [hi] at hx
      dsimp only at hx ⊢
      cases hv : zret (decide (100 ≤ T y)) i st with
      | some v => rw [hv] at hx; exact hx
      | none =>
        rw [hv] at hx
        dsimp only at hx ⊢
        cases hc : zcall i with
        | none =>
          rw [hc] at hx
          dsimp only at hx ⊢
          cases hs : zstep E d i k la st h with
          | none => rw [hs] at hx; cases hx
          | some q =>
            obtain ⟨k1, ls1, st1, h1⟩ := q
            rw [hs] at hx
            obtain ⟨lb', r1, r2⟩ := zstep_forget hrel hs
            rw [r2]
            exact ih _ _ _ _ _ _ _ _ r1 hx
        | some z =>
          rw [hc] at hx
          dsimp only at hx ⊢
          cases d with
          | zero => cases hx
          | succ d' =>
            dsimp only at hx ⊢
            by_cases hcond : (M z).2.2 ≤ st.length ∧ zcat (st.drop (M z).2.2) ≤ 8 ∧ zrecv i h (T z % 100) (st.take (M z).2.2).reverse = true ∧ (zargs (st.take (M z).2.2).reverse).length ≤ (M z).2.1
            · rw [if_pos hcond] at hx ⊢
              cases hin : zx E M T n d' z 0 (zframe (M z).2.1 (st.take (M z).2.2).reverse) [] h with
              | none => rw [hin] at hx; cases hx
              | some q =>
                obtain ⟨v1, h1⟩ := q
                rw [hin] at hx
                exact ih _ _ _ _ _ _ _ _ hrel hx
            · rw [if_neg hcond] at hx
              cases hx
section GX2
variable {E : Nat → Nat} {d y k : Nat} {ls st : List Value} {h : ZH} {Q : Option Value → ZH → Prop}
/-- locals that nobody reads are forgotten -/
theorem Gx.forget {la : List Value} (hr : zrel la ls) (g : Gx E d y k la st h Q) : Gx E d y k ls st h Q := by
  obtain ⟨n, v, h', a, b⟩ := g
  exact ⟨n, v, h', zx_forget _ _ _ _ _ _ _ _ _ hr a, b⟩
theorem zg_nameI {x : Int32} (g : ∀ x' : Int32, x' = x → Gx E d y k ls (.int x' :: st) h Q) : Gx E d y k ls (.int x :: st) h Q := g x rfl
theorem zg_nameL {x : Int64} (g : ∀ x' : Int64, x' = x → Gx E d y k ls (.long x' :: st) h Q) : Gx E d y k ls (.long x :: st) h Q := g x rfl
theorem zg_nameA {x : Nat} (g : ∀ x' : Nat, x' = x → Gx E d y k ls (.ref x' :: st) h Q) : Gx E d y k ls (.ref x :: st) h Q := g x rfl
theorem zg_nameH (g : ∀ h' : ZH, h' = h → Gx E d y k ls st h' Q) : Gx E d y k ls st h Q := g h rfl
theorem zg_lcmp_eq {t : Nat} {a b : Int64} (h1 : (zM y).1[k]? = some .lcmp) (h2 : (zM y).1[k + 1]? = some (.ifCond .eq (t : Int))) (gt : a = b → Gx E d y t ls st h Q) (gf : ¬ (a = b) → Gx E d y (k + 2) ls st h Q) : Gx E d y k ls (.long b :: .long a :: st) h Q := zg_lcmp h1 (zg_if_eq h2 (fun hc => gt ((lg_cmp_eq a b).mp hc)) (fun hc => gf (fun e => hc ((lg_cmp_eq a b).mpr e))))
theorem zg_lcmp_ne {t : Nat} {a b : Int64} (h1 : (zM y).1[k]? = some .lcmp) (h2 : (zM y).1[k + 1]? = some (.ifCond .ne (t : Int))) (gt : ¬ a = b → Gx E d y t ls st h Q) (gf : ¬ (¬ a = b) → Gx E d y (k + 2) ls st h Q) : Gx E d y k ls (.long b :: .long a :: st) h Q := zg_lcmp h1 (zg_if_ne h2 (fun hc => gt (fun e => hc ((lg_cmp_eq a b).mpr e))) (fun hc => gf (fun e => hc (fun z => e ((lg_cmp_eq a b).mp z)))))
theorem zg_lcmp_lt {t : Nat} {a b : Int64} (h1 : (zM y).1[k]? = some .lcmp) (h2 : (zM y).1[k + 1]? = some (.ifCond .lt (t : Int))) (gt : a < b → Gx E d y t ls st h Q) (gf : ¬ (a < b) → Gx E d y (k + 2) ls st h Q) : Gx E d y k ls (.long b :: .long a :: st) h Q := zg_lcmp h1 (zg_if_lt h2 (fun hc => gt ((lg_cmp_lt a b).mp hc)) (fun hc => gf (fun e => hc ((lg_cmp_lt a b).mpr e))))
theorem zg_lcmp_ge {t : Nat} {a b : Int64} (h1 : (zM y).1[k]? = some .lcmp) (h2 : (zM y).1[k + 1]? = some (.ifCond .ge (t : Int))) (gt : b ≤ a → Gx E d y t ls st h Q) (gf : ¬ (b ≤ a) → Gx E d y (k + 2) ls st h Q) : Gx E d y k ls (.long b :: .long a :: st) h Q := zg_lcmp h1 (zg_if_ge h2 (fun hc => gt ((lg_cmp_ge a b).mp hc)) (fun hc => gf (fun e => hc ((lg_cmp_ge a b).mpr e))))
theorem zg_lcmp_gt {t : Nat} {a b : Int64} (h1 : (zM y).1[k]? = some .lcmp) (h2 : (zM y).1[k + 1]? = some (.ifCond .gt (t : Int))) (gt : b < a → Gx E d y t ls st h Q) (gf : ¬ (b < a) → Gx E d y (k + 2) ls st h Q) : Gx E d y k ls (.long b :: .long a :: st) h Q := zg_lcmp h1 (zg_if_gt h2 (fun hc => gt ((lg_cmp_gt a b).mp hc)) (fun hc => gf (fun e => hc ((lg_cmp_gt a b).mpr e))))
theorem zg_lcmp_le {t : Nat} {a b : Int64} (h1 : (zM y).1[k]? = some .lcmp) (h2 : (zM y).1[k + 1]? = some (.ifCond .le (t : Int))) (gt : a ≤ b → Gx E d y t ls st h Q) (gf : ¬ (a ≤ b) → Gx E d y (k + 2) ls st h Q) : Gx E d y k ls (.long b :: .long a :: st) h Q := zg_lcmp h1 (zg_if_le h2 (fun hc => gt ((lg_cmp_le a b).mp hc)) (fun hc => gf (fun e => hc ((lg_cmp_le a b).mpr e))))
end GX2
theorem zrv_v {z a t t0 : Nat} {h : ZH} {as : List Value} (ht : ztag h a = t0) (hk : as.all zok = true) (he : t = t0) : zrecv (.invokevirtual z) h t (.ref a :: as) = true := by
  subst he
  simp only [zrecv, List.all_cons, hk, zok, ht, Bool.and_self, decide_true]
theorem zrv_i {z a t t0 : Nat} {h : ZH} {as : List Value} (ht : ztag h a = t0) (hk : as.all zok = true) (he : t = t0) : zrecv (.invokespecial z) h t (.ref a :: as) = true := by
  subst he
  simp only [zrecv, List.all_cons, hk, zok, ht, Bool.and_self, decide_true]
/-- of a method: how many arguments, locals, its receiver's tag -/
def zQ (z n L t : Nat) : Prop := (zM z).2.2 = n ∧ (zM z).2.1 = L ∧ zTg z % 100 = t
theorem Gx.call2 {E : Nat → Nat} {d y k : Nat} {ls st : List Value} {h : ZH} {Q : Option Value → ZH → Prop} {i : Instr} {z n L t : Nat} {as rest : List Value} (hq : zQ z n L t) (hi : (zM y).1[k]? = some i) (hc : zcall i = some z) (hst : st.take n = as.reverse) (hrest : st.drop n = rest) (hlen : n ≤ st.length) (h8 : zcat rest ≤ 8) (hrv : zrecv i h t as = true) (hL : (zargs as).length ≤ L)
    (g : Ct E d z as h (fun v h1 => Gx E (d + 1) y (k + 1) ls (v.toList ++ rest) h1 Q)) : Gx E (d + 1) y k ls st h Q := by
  obtain ⟨q1, q2, q3⟩ := hq
  refine Gx.call hi ?_ hc q1 hst hrest hlen h8 (by rw [q3]; exact hrv) (by rw [q2]; exact hL) g
  cases i <;> first | (cases hc; done) | rfl
theorem zr0 : zrel [] [] := trivial
theorem zrk {a : Value} {as bs : List Value} (h : zrel as bs) : zrel (a :: as) (a :: bs) := ⟨Or.inl rfl, h⟩
theorem zrd {b : Value} {as bs : List Value} (h : zrel as bs) : zrel (.retAddr 0 :: as) (b :: bs) := ⟨Or.inr rfl, h⟩
theorem zrv_p {r : Nat} (h : ¬ r = 0) : zrv r = .ref (r - 1) := by
  cases r with
  | zero => exact absurd rfl h
  | succ n => rfl
