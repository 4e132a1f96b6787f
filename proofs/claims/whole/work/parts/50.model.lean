/-! THE MODEL: its page -/
theorem MSh.a0 {h : ZH} {m : Nat} (x : MSh h m) : zAr h m 0 (m + 1) 13 320 := x.2.1
theorem MSh.a9 {h : ZH} {m : Nat} (x : MSh h m) : zAr h m 9 (m + 2) 13 23 := x.2.2.1
theorem MSh.a10 {h : ZH} {m : Nat} (x : MSh h m) : zAr h m 10 (m + 3) 13 113 := x.2.2.2.1
theorem MSh.a11 {h : ZH} {m : Nat} (x : MSh h m) : zAr h m 11 (m + 4) 13 17 := x.2.2.2.2.1
theorem MSh.a12 {h : ZH} {m : Nat} (x : MSh h m) : zAr h m 12 (m + 5) 13 28 := x.2.2.2.2.2.1
theorem MSh.a13 {h : ZH} {m : Nat} (x : MSh h m) : zAr h m 13 (m + 6) 13 16 := x.2.2.2.2.2.2.1
theorem MSh.a14 {h : ZH} {m : Nat} (x : MSh h m) : zAr h m 14 (m + 7) 13 16 := x.2.2.2.2.2.2.2.1
theorem MSh.a15 {h : ZH} {m : Nat} (x : MSh h m) : zAr h m 15 (m + 8) 13 28 := x.2.2.2.2.2.2.2.2.1
theorem MSh.a16 {h : ZH} {m : Nat} (x : MSh h m) : zAr h m 16 (m + 9) 13 28 := x.2.2.2.2.2.2.2.2.2.1
theorem MSh.a20 {h : ZH} {m : Nat} (x : MSh h m) : zAr h m 20 (m + 10) 13 20 := x.2.2.2.2.2.2.2.2.2.2.1
theorem MSh.a27 {h : ZH} {m : Nat} (x : MSh h m) : zAr h m 27 (m + 11) 14 154791 := x.2.2.2.2.2.2.2.2.2.2.2.1
theorem MSh.a28 {h : ZH} {m : Nat} (x : MSh h m) : zAr h m 28 (m + 12) 13 154791 := x.2.2.2.2.2.2.2.2.2.2.2.2.1
theorem MSh.a32 {h : ZH} {m : Nat} (x : MSh h m) : zAr h m 32 (m + 13) 14 7371 := x.2.2.2.2.2.2.2.2.2.2.2.2.2.1
theorem MSh.a33 {h : ZH} {m : Nat} (x : MSh h m) : zAr h m 33 (m + 14) 14 7371 := x.2.2.2.2.2.2.2.2.2.2.2.2.2.2.1
theorem MSh.a34 {h : ZH} {m : Nat} (x : MSh h m) : zAr h m 34 (m + 15) 14 4 := x.2.2.2.2.2.2.2.2.2.2.2.2.2.2.2.1
theorem MSh.a35 {h : ZH} {m : Nat} (x : MSh h m) : zAr h m 35 (m + 16) 13 28 := x.2.2.2.2.2.2.2.2.2.2.2.2.2.2.2.2.1
theorem MSh.a37 {h : ZH} {m : Nat} (x : MSh h m) : zAr h m 37 (m + 17) 13 20 := x.2.2.2.2.2.2.2.2.2.2.2.2.2.2.2.2.2.1
theorem MSh.a38 {h : ZH} {m : Nat} (x : MSh h m) : zAr h m 38 (m + 18) 13 20 := x.2.2.2.2.2.2.2.2.2.2.2.2.2.2.2.2.2.2.1
theorem MSh.a39 {h : ZH} {m : Nat} (x : MSh h m) : zAr h m 39 (m + 19) 13 20 := x.2.2.2.2.2.2.2.2.2.2.2.2.2.2.2.2.2.2.2.1
theorem MSh.a40 {h : ZH} {m : Nat} (x : MSh h m) : zAr h m 40 (m + 20) 13 20 := x.2.2.2.2.2.2.2.2.2.2.2.2.2.2.2.2.2.2.2.2.1
theorem MSh.a47 {h : ZH} {m : Nat} (x : MSh h m) : zAr h m 47 (m + 21) 13 51597 := x.2.2.2.2.2.2.2.2.2.2.2.2.2.2.2.2.2.2.2.2.2.1
theorem MSh.a48 {h : ZH} {m : Nat} (x : MSh h m) : zAr h m 48 (m + 22) 13 4 := x.2.2.2.2.2.2.2.2.2.2.2.2.2.2.2.2.2.2.2.2.2.2.1
theorem MSh.a49 {h : ZH} {m : Nat} (x : MSh h m) : zAr h m 49 (m + 23) 13 4 := x.2.2.2.2.2.2.2.2.2.2.2.2.2.2.2.2.2.2.2.2.2.2.2.1
theorem MSh.a50 {h : ZH} {m : Nat} (x : MSh h m) : zAr h m 50 (m + 24) 13 192 := x.2.2.2.2.2.2.2.2.2.2.2.2.2.2.2.2.2.2.2.2.2.2.2.2
def MPg (h : ZH) (m : Nat) (t u : Nat → Nat) : Prop := MSh h m ∧ (∀ k, k < 16 → zI h (m + 8) k = jI (t k : Int)) ∧ (∀ k, k < 3 → zI h (m + 8) (16 + k) = jI (t (20 + k) : Int)) ∧ (∀ k, k < 9 → zI h (m + 8) (19 + k) = jI (t (30 + k) : Int)) ∧ ∀ k, k < 20 → zI h (m + 10) k = jI (tp_uJ (u k))
theorem MPg.fr {S : Nat → Nat → Prop} {h h1 : ZH} {m : Nat} {t u : Nat → Nat} (x : MPg h m t u) (y : Fr S h h1) (h8 : ∀ i, ¬ S (m + 8) i) (h10 : ∀ i, ¬ S (m + 10) i) : MPg h1 m t u := by
  refine ⟨x.1.fr y, fun k hk => ?_, fun k hk => ?_, fun k hk => ?_, fun k hk => ?_⟩
  · rw [y.I (h8 _)]; exact x.2.1 k hk
  · rw [y.I (h8 _)]; exact x.2.2.1 k hk
  · rw [y.I (h8 _)]; exact x.2.2.2.1 k hk
  · rw [y.I (h10 _)]; exact x.2.2.2.2 k hk
section MPQ
variable {E : Nat → Nat} {d : Nat} {h : ZH} {m : Nat} {t u : Nat → Nat} {Q : Option Value → ZH → Prop}
theorem fz135 {a b c : Int} (h1 : -9223372036854775808 ≤ a) (h2 : a < 9223372036854775808) (h3 : -9223372036854775808 ≤ b) (h4 : b < 9223372036854775808) (h5 : -9223372036854775808 ≤ c) (h6 : c < 9223372036854775808) : fz_135 E h (jL a) (jL b) (jL c) = if b ≤ a ∧ a ≤ c then 1 else 0 := by
  unfold fz_135
  simp (disch := omega) only [jL_lt]
  by_cases q : b ≤ a ∧ a ≤ c
  · rw [if_neg (by omega), if_neg (by omega), if_pos q]
  · rw [if_neg q]
    split
    · rfl
    · rw [if_pos (by omega)]
/-- an int within bounds -/
theorem fz135i {a b c : Int} (h1 : -2147483648 ≤ a) (h2 : a < 2147483648) (h3 : -2147483648 ≤ b) (h4 : b < 2147483648) (h5 : -2147483648 ≤ c) (h6 : c < 2147483648) : fz_135 E h (jI a).toInt64 (jL b) (jI c).toInt64 = if b ≤ a ∧ a ≤ c then 1 else 0 := by
  rw [jI_toL h1 h2, jI_toL h5 h6]
  exact fz135 (by omega) (by omega) (by omega) (by omega) (by omega) (by omega)
theorem fz135l {a b c : Int} (h1 : -2147483648 ≤ a) (h2 : a < 2147483648) (h3 : -2147483648 ≤ b) (h4 : b < 2147483648) (h5 : -2147483648 ≤ c) (h6 : c < 2147483648) : fz_135 E h (jI a).toInt64 (jL b) (jL c) = if b ≤ a ∧ a ≤ c then 1 else 0 := by
  rw [jI_toL h1 h2]
  exact fz135 (by omega) (by omega) (by omega) (by omega) (by omega) (by omega)
theorem sz152 (P : MPg h m t u) : sz_152 E h m := ⟨P.1.1, m + 8, P.1.a15.1, P.1.a15.ti, P.1.a15.inc (by decide), P.1.a15.inc (by decide), trivial⟩
theorem fz152 (P : MPg h m t u) : fz_152 E h m = jI (tp_T t : Int) := by
  unfold fz_152
  rw [P.1.a15.sub]
  dsimp only
  rw [P.2.1 0 (by omega), P.2.1 1 (by omega), jI_mul]
  rfl
theorem sz153 {x : Int32} (P : MPg h m t u) : sz_153 E h m x := ⟨P.1.1, sz152 P, trivial, trivial⟩
theorem fz153 {z : Int} (ok : tp_Ok t) (P : MPg h m t u) (h1 : -2147483648 ≤ z) (h2 : z < 2147483648) : fz_153 E h m (jI z) = if 0 ≤ z ∧ z < tp_T t then 1 else 0 := by
  have hT := ok.T
  unfold fz_153
  rw [fz152 P, show (1 : Int32) = jI 1 from rfl, jI_sub, show (0 : Int64) = jL 0 from rfl, fz135i h1 h2 (by omega) (by omega) (by omega) (by omega)]
  by_cases q : 0 ≤ z ∧ z < tp_T t
  · rw [if_pos q, if_pos (by omega)]; rfl
  · rw [if_neg q, if_neg (by omega)]
theorem sz160 {x : Int32} (P : MPg h m t u) : sz_160 E h m x := ⟨P.1.1, m + 8, P.1.a15.1, P.1.a15.ti, P.1.a15.inc (by decide), trivial, trivial⟩
theorem fz160 {z : Int} (ok : tp_Ok t) (P : MPg h m t u) (h1 : -2147483648 ≤ z) (h2 : z < 2147483648) : fz_160 E h m (jI z) = if 0 ≤ z ∧ z < t 0 then 1 else 0 := by
  have hT := ok.1
  unfold fz_160
  rw [P.1.a15.sub]
  dsimp only
  rw [P.2.1 0 (by omega), show (1 : Int32) = jI 1 from rfl, jI_sub, show (0 : Int64) = jL 0 from rfl, fz135i h1 h2 (by omega) (by omega) (by omega) (by omega)]
  by_cases q : 0 ≤ z ∧ z < t 0
  · rw [if_pos q, if_pos (by omega)]; rfl
  · rw [if_neg q, if_neg (by omega)]
theorem sz156 {x y : Int32} (ok : tp_Ok t) (P : MPg h m t u) : sz_156 E h m x y := by
  have h1 := ok.2.1
  refine ⟨P.1.1, m + 8, P.1.a15.1, P.1.a15.ti, P.1.a15.inc (by decide), fun q => ?_, trivial⟩
  rw [P.2.1 1 (by omega), show (0 : Int32) = jI ((0 : Nat) : Int) from rfl, jI_eqn (by omega) (by omega)] at q
  omega
theorem fz156 {v f : Nat} (ok : tp_Ok t) (P : MPg h m t u) (hv : v ≤ 16) (hf : f ≤ t 1) : fz_156 E h m (jI (v : Int)) (jI (f : Int)) = jI (tp_ls t v f : Int) := by
  have h1 := ok.2.1
  have hvf : v * f ≤ 16 * 5 := Nat.mul_le_mul hv (by omega)
  unfold fz_156
  rw [P.1.a15.sub]
  dsimp only
  rw [P.2.1 1 (by omega), jI_mul, ← Int.natCast_mul, jI_div (by omega) (by omega) (by omega), jI_sub]
  unfold tp_ls
  congr 1
  have : v * f / t 1 ≤ v := by
    refine Nat.le_trans (Nat.div_le_div_right (Nat.mul_le_mul_left v hf)) ?_
    rw [Nat.mul_div_cancel _ (by omega)]
    exact Nat.le_refl _
  omega
theorem sz157 (P : MPg h m t u) : sz_157 E h m := ⟨P.1.1, m + 8, P.1.a15.1, P.1.a15.ti, P.1.a15.inc (by decide), P.1.a15.inc (by decide), fun _ _ => trivial⟩
theorem fz157 (ok : tp_Ok t) (P : MPg h m t u) : fz_157 E h m = jI (tp_top t : Int) := by
  have h25 : t 2 * t 5 ≤ 16 * 100 := Nat.mul_le_mul ok.2.2.1.2 ok.2.2.2.2.1
  unfold fz_157
  rw [P.1.a15.sub]
  dsimp only
  rw [P.2.1 2 (by omega), P.2.1 5 (by omega), jI_mul, ← Int.natCast_mul, show (100 : Int32) = jI ((100 : Nat) : Int) from rfl, jI_div (by omega) (by omega) (by omega), show (12 : Int32) = jI ((12 : Nat) : Int) from rfl]
  have hq : t 2 * t 5 / 100 ≤ 16 := by omega
  simp (disch := omega) only [jI_len]
  unfold tp_top
  split
  · congr 1; omega
  · congr 1; omega
theorem l155 {y : Nat} (ok : tp_Ok t) (ou : tp_Ou u) (P : MPg h m t u) (hy : y < t 0) (q0 : Q (some (.int (jI (tp_frN t u y : Int)))) h) : ∀ n i, i + n = t 1 → wl_155_4 E d Q (n + 1) m (jI (y : Int)) (jI (tp_cnt (fun i => decide (u (y * t 1 + i) ≠ 3) && tp_fr t (u (y * t 1 + i))) i : Int)) (jI (i : Int)) h
  | 0, i, e => by
    have h1 := ok.2.1
    rw [wl_155_4]
    refine ⟨P.1.1, m + 8, P.1.a15.1, P.1.a15.ti, P.1.a15.inc (by decide), fun _ => ?_, fun q => ?_⟩
    · have e2 : i = t 1 := by omega
      subst e2
      exact q0
    · exfalso
      apply q
      rw [P.2.1 1 (by omega), jI_len (by omega) (by omega)]
      omega
  | n + 1, i, e => by
    have ih := l155 (y := y) ok ou P hy q0 n (i + 1) (by omega)
    have h1 := ok.2.1
    have h4 := ok.1
    have hT := ok.T
    have h13 : t 13 ≤ 7 := ok.2.2.2.2.2.2.2.2.2.2.2.2.1
    have hk : y * t 1 + i < tp_T t := by
      have := jrow (t 1) hy
      unfold tp_T
      omega
    have hu := ou (y * t 1 + i)
    have hub := tp_uJ_b ou (y * t 1 + i)
    have ei : (jI (y : Int) * jI (t 1 : Int) + jI (i : Int) : Int32) = jI ((y * t 1 + i : Nat) : Int) := by
      rw [jI_mul, jI_add]; rfl
    rw [wl_155_4]
    refine ⟨P.1.1, m + 8, P.1.a15.1, P.1.a15.ti, P.1.a15.inc (by decide), fun q => ?_, fun _ => ⟨m + 10, P.1.a20.1, P.1.a15.inc (by decide), P.1.a20.ti, ?_, nm_r (e' := jI (tp_uJ (u (y * t 1 + i)))) ?_ ⟨⟨fun _ => trivial, fun _ => ⟨P.1.a15.inc (by decide), trivial⟩⟩, nm_r (e' := jI ((tp_cnt (fun i => decide (u (y * t 1 + i) ≠ 3) && tp_fr t (u (y * t 1 + i))) (i + 1) : Nat) : Int)) ?_ (nm_r (e' := jI ((i + 1 : Nat) : Int)) (by rw [show (1 : Int32) = jI 1 from rfl, jI_add]; rfl) ih)⟩⟩⟩
    · exfalso
      rw [P.2.1 1 (by omega), jI_len (by omega) (by omega)] at q
      omega
    · rw [P.2.1 1 (by omega), ei]
      exact P.1.a20.inn (by omega) (by omega)
    · rw [P.2.1 1 (by omega), ei, jI_cln (by omega)]
      exact P.2.2.2.2 _ (by omega)
    · rw [P.2.1 13 (by omega), jm4]
      show _ = jI ((tp_cnt (fun i => decide (u (y * t 1 + i) ≠ 3) && tp_fr t (u (y * t 1 + i))) i + (if (decide (u (y * t 1 + i) ≠ 3) && tp_fr t (u (y * t 1 + i))) = true then 1 else 0) : Nat) : Int)
      generalize tp_cnt (fun i => decide (u (y * t 1 + i) ≠ 3) && tp_fr t (u (y * t 1 + i))) i = C
      generalize u (y * t 1 + i) = w at hu hub ⊢
      have hw : w = 0 ∨ w = 1 ∨ w = 2 ∨ w = 3 := by omega
      have jf := jfree (t 13) (by omega)
      rcases hw with e | e | e | e <;> subst e
      · have := jf 0 (by omega)
        rw [if_neg (by decide)]
        have e0 : tp_uJ 0 = ((0 : Nat) : Int) := rfl
        rw [e0]
        by_cases c : t 13 / 2 ^ 0 % 2 = 1
        · rw [if_neg (fun q => q (this.mpr c)), if_pos (by simp [tp_fr] at c ⊢; exact c), show (1 : Int32) = jI 1 from rfl, jI_add]; rfl
        · rw [if_pos (fun q => c (this.mp q)), if_neg (by simp [tp_fr] at c ⊢; omega), show (0 : Int32) = jI 0 from rfl, jI_add]; rfl
      · have := jf 1 (by omega)
        rw [if_neg (by decide)]
        have e0 : tp_uJ 1 = ((1 : Nat) : Int) := rfl
        rw [e0]
        by_cases c : t 13 / 2 ^ 1 % 2 = 1
        · rw [if_neg (fun q => q (this.mpr c)), if_pos (by simp [tp_fr] at c ⊢; exact c), show (1 : Int32) = jI 1 from rfl, jI_add]; rfl
        · rw [if_pos (fun q => c (this.mp q)), if_neg (by simp [tp_fr] at c ⊢; omega), show (0 : Int32) = jI 0 from rfl, jI_add]; rfl
      · have := jf 2 (by omega)
        rw [if_neg (by decide)]
        have e0 : tp_uJ 2 = ((2 : Nat) : Int) := rfl
        rw [e0]
        by_cases c : t 13 / 2 ^ 2 % 2 = 1
        · rw [if_neg (fun q => q (this.mpr c)), if_pos (by simp [tp_fr] at c ⊢; exact c), show (1 : Int32) = jI 1 from rfl, jI_add]; rfl
        · rw [if_pos (fun q => c (this.mp q)), if_neg (by simp [tp_fr] at c ⊢; omega), show (0 : Int32) = jI 0 from rfl, jI_add]; rfl
      · rw [if_pos (by decide), if_neg (by simp), show (0 : Int32) = jI 0 from rfl, jI_add]; rfl
theorem ct_155 {y : Nat} (hd : 1 ≤ d) (ok : tp_Ok t) (ou : tp_Ou u) (P : MPg h m t u) (hy : y < t 0) (q : Q (some (.int (jI (tp_frN t u y : Int)))) h) : Ct E d 155 [.ref m, .int (jI (y : Int))] h Q := by
  obtain ⟨d, rfl⟩ : ∃ n, d = n + 1 := ⟨d - 1, by omega⟩
  exact ok_155 ⟨t 1 + 1, l155 (y := y) ok ou P hy q (t 1) 0 (by omega)⟩
theorem ct_158 {y : Nat} (hd : 2 ≤ d) (ok : tp_Ok t) (ou : tp_Ou u) (P : MPg h m t u) (hy : y < t 0) (q : Q (some (.int (jI (tp_qt t u y : Int)))) h) : Ct E d 158 [.ref m, .int (jI (y : Int))] h Q := by
  obtain ⟨d, rfl⟩ : ∃ n, d = n + 1 := ⟨d - 1, by omega⟩
  refine ok_158 ⟨P.1.1, m + 8, P.1.a15.1, P.1.a15.ti, P.1.a15.inc (by decide), ct_155 (by omega) ok ou P hy ⟨_, rfl, P.1.1, by omega, sz156 ok P, ?_⟩⟩
  rw [P.2.1 2 (by omega), fz156 ok P ok.2.2.1.2 (tp_frN_le _ _ _)]
  exact q
theorem ct_159 {y : Nat} (hd : 2 ≤ d) (ok : tp_Ok t) (ou : tp_Ou u) (P : MPg h m t u) (hy : y < t 0) (q : Q (some (.int (jI (tp_tp t u y : Int)))) h) : Ct E d 159 [.ref m, .int (jI (y : Int))] h Q := by
  obtain ⟨d, rfl⟩ : ∃ n, d = n + 1 := ⟨d - 1, by omega⟩
  have := tp_top_le t
  refine ok_159 ⟨P.1.1, by omega, sz157 P, ct_155 (by omega) ok ou P hy ⟨_, rfl, P.1.1, by omega, sz156 ok P, ?_⟩⟩
  rw [fz157 ok P, fz156 ok P (by omega) (tp_frN_le _ _ _)]
  exact q
theorem ct_165 {y k : Nat} (hd : 3 ≤ d) (ok : tp_Ok t) (ou : tp_Ou u) (P : MPg h m t u) (hy : y < t 0) (hk : k ≤ 8) (q : Q (some (.int (jI ((tp_tp t u y - k : Nat) : Int)))) h) : Ct E d 165 [.ref m, .int (jI (y : Int)), .int (jI (k : Int))] h Q := by
  obtain ⟨d, rfl⟩ : ∃ n, d = n + 1 := ⟨d - 1, by omega⟩
  have htp := tp_tp_le t u y
  refine ok_165 ⟨P.1.1, ct_159 (by omega) ok ou P hy ⟨_, rfl, nm_r (jI_sub _ _) ?_⟩⟩
  refine ek_v (P := fun z => Q (some (.int z)) h) ?_ q
  rw [show (0 : Int32) = jI 0 from rfl]
  simp (disch := omega) only [jI_le]
  split
  · congr 1; omega
  · congr 1; omega
theorem sz166 {s : Nat} (P : MPg h m t u) (hs : s < 3) : sz_166 E h m (jI (s : Int)) := by
  refine ⟨P.1.1, m + 8, P.1.a15.1, P.1.a15.ti, ?_, trivial⟩
  rw [show (16 : Int32) = jI 16 from rfl, jI_add]
  exact P.1.a15.inb (by omega) (by omega) (by omega)
theorem fz166 {s : Nat} (P : MPg h m t u) (hs : s < 3) : fz_166 E h m (jI (s : Int)) = jI (t (20 + s) : Int) := by
  unfold fz_166
  rw [P.1.a15.sub]
  dsimp only
  rw [show (16 : Int32) = jI 16 from rfl, jI_add, show (16 + (s : Int)) = ((16 + s : Nat) : Int) by omega, jI_cln (by omega)]
  exact P.2.2.1 s hs
theorem sz163 {dd : Nat} {x : Int32} (P : MPg h m t u) (hd : dd < 20) : sz_163 E h m (jI (dd : Int)) x := by
  refine ⟨P.1.1, m + 10, P.1.a20.1, P.1.a20.ti, P.1.a20.inn hd (by omega), ⟨fun _ => trivial, fun _ => ⟨P.1.a15.ne, ?_, ?_, P.1.a15.ne, ?_, trivial, trivial⟩⟩, trivial⟩
  · rw [P.1.a15.sub]; exact P.1.a15.ti
  · rw [P.1.a15.sub]; exact P.1.a15.inc (by decide)
  · rw [P.1.a15.sub]; exact P.1.a15.inc (by decide)
theorem fz163 {dd x : Nat} (ok : tp_Ok t) (ou : tp_Ou u) (P : MPg h m t u) (hd : dd < 20) (hx : x ≤ 1000) : fz_163 E h m (jI (dd : Int)) (jI (x : Int)) = if tp_lo t u dd ≤ x ∧ x ≤ tp_hi t u dd then 1 else 0 := by
  have hb := tp_uJ_b ou dd
  have hn := tp_uJ_n (u := u) dd
  have h34 := ok.2.2.2.1
  unfold fz_163
  rw [P.1.a15.sub, P.1.a20.sub]
  dsimp only
  rw [jI_cln (by omega), P.2.2.2.2 dd hd, P.2.1 3 (by omega), P.2.1 4 (by omega), jm4, jI_toL (a := (t 3 : Int)) (by omega) (by omega), jI_toL (a := (t 4 : Int)) (by omega) (by omega), fz135l (by omega) (by omega) (by omega) (by omega) (by omega) (by omega)]
  simp (disch := omega) only [jI_eq, hn]
  unfold tp_lo tp_hi
  by_cases c : u dd = 3
  · rw [if_neg (fun q => q c), if_pos c, if_pos c]
    by_cases c2 : t 3 ≤ x ∧ x ≤ t 4
    · rw [if_pos (by omega), if_pos c2]
    · rw [if_neg (by omega), if_neg c2]
  · rw [if_pos c, if_neg c, if_neg c, show (0 : Int32) = jI ((0 : Nat) : Int) from rfl]
    simp (disch := omega) only [jI_eqn]
    by_cases c2 : x = 0
    · rw [if_neg (fun q => q c2), if_pos (by omega)]
    · rw [if_pos c2, if_neg (by omega)]
theorem fz164 {a b : Nat} (ha : a < 2147483648) (hb : b < 2147483648) : fz_164 E h (jI (a : Int)) (jI (b : Int)) = jI ((min a b : Nat) : Int) := by
  unfold fz_164
  simp (disch := omega) only [jI_len]
  split
  · congr 1; omega
  · congr 1; omega
theorem sz168 {s : Nat} {x : Int32} (P : MPg h m t u) (hs : s < 3) : sz_168 E h m (jI (s : Int)) x := ⟨P.1.1, sz166 P hs, trivial⟩
theorem fz168 {s x : Nat} {z : Int} (P : MPg h m t u) (hs : s < 3) (hz : zI h m 23 = jI z) : fz_168 E h m (jI (s : Int)) (jI (x : Int)) = jI (100 * (t (20 + s) : Int) * x - z) := by
  unfold fz_168
  rw [fz166 P hs, hz, show (100 : Int32) = jI 100 from rfl, jI_mul, jI_mul, jI_sub]
theorem sz172 (P : MPg h m t u) : sz_172 E h m := ⟨P.1.1, m + 8, P.1.a15.1, P.1.a15.ti, P.1.a15.inc (by decide), trivial⟩
theorem fz172 {z : Nat} (P : MPg h m t u) (hz : zI h m 25 = jI (z : Int)) : fz_172 E h m = jI ((100 * t 6 * z : Nat) : Int) := by
  unfold fz_172
  rw [P.1.a15.sub]
  dsimp only
  rw [P.2.1 6 (by omega), hz, show (100 : Int32) = jI 100 from rfl, jI_mul, jI_mul]
  rfl
theorem sz173 (P : MPg h m t u) : sz_173 E h m := ⟨P.1.1, m + 8, P.1.a15.1, P.1.a15.ti, P.1.a15.inc (by decide), trivial⟩
theorem fz173 {z : Nat} (ok : tp_Ok t) (P : MPg h m t u) (hz : zI h m 25 = jI (z : Int)) : fz_173 E h m = jI ((if t 9 = 0 then 0 else z : Nat) : Int) := by
  have h9 : t 9 ≤ 2 := ok.2.2.2.2.2.2.2.2.1
  unfold fz_173
  rw [P.1.a15.sub]
  dsimp only
  rw [P.2.1 9 (by omega), hz, show (0 : Int32) = jI ((0 : Nat) : Int) from rfl]
  simp (disch := omega) only [jI_eqn]
  by_cases c : t 9 = 0
  · rw [if_neg (fun q => q c), if_pos c]
  · rw [if_pos c, if_neg c]
def tp_at (d c m k s : Nat) : Nat := (((d * 21 + c) * 13 + m) * 9 + k) * 3 + s
theorem fz175 {dd c mm k s : Nat} : fz_175 E h (jI (dd : Int)) (jI (c : Int)) (jI (mm : Int)) (jI (k : Int)) (jI (s : Int)) = jI (tp_at dd c mm k s : Int) := by
  unfold fz_175
  rw [show (21 : Int32) = jI 21 from rfl, show (13 : Int32) = jI 13 from rfl, show (9 : Int32) = jI 9 from rfl, show (3 : Int32) = jI 3 from rfl, jI_mul, jI_add, jI_mul, jI_add, jI_mul, jI_add, jI_mul, jI_add]
  unfold tp_at
  congr 1
theorem fz176 {n : Nat} (hn : n < 21) : fz_176 E h (jI (n : Int)) = jL (4 ^ n) := by
  unfold fz_176
  rw [show (2 : Int32) = jI 2 from rfl, jI_mul]
  exact jshl n hn
theorem sz177 {x : Int32} (ok : tp_Ok t) (P : MPg h m t u) : sz_177 E h m x := by
  have h1 := ok.2.1
  refine ⟨P.1.1, m + 8, P.1.a15.1, P.1.a15.ti, P.1.a15.inc (by decide), fun q => ?_, trivial⟩
  rw [P.2.1 1 (by omega), show (0 : Int32) = jI ((0 : Nat) : Int) from rfl, jI_eqn (by omega) (by omega)] at q
  omega
theorem fz177 {dd : Nat} (ok : tp_Ok t) (P : MPg h m t u) (hd : dd < 1000) : fz_177 E h m (jI (dd : Int)) = if (dd + 1) % t 1 = 0 then 1 else 0 := by
  have h1 := ok.2.1
  unfold fz_177
  rw [P.1.a15.sub]
  dsimp only
  rw [P.2.1 1 (by omega), show (1 : Int32) = jI 1 from rfl, jI_add, show ((dd : Int) + 1) = ((dd + 1 : Nat) : Int) by omega, jI_rem (by omega) (by omega) (by omega), show (0 : Int32) = jI ((0 : Nat) : Int) from rfl]
  have hlt : (dd + 1) % t 1 < 5 := Nat.lt_of_lt_of_le (Nat.mod_lt _ (by omega)) (by omega)
  simp (disch := omega) only [jI_eqn]
  by_cases c : (dd + 1) % t 1 = 0
  · rw [if_neg (fun q => q c), if_pos c]
  · rw [if_pos c, if_neg c]
end MPQ
