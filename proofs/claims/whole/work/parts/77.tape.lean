/-! TAPES, rows: feed, end, day, back; lay -/
theorem jb8 (x : Int32) : x.toInt8.toInt32.toInt8.toInt32 = x.toInt8.toInt32 := by
  apply Int32.toInt_inj.mp
  rw [Int8.toInt_toInt32, Int32.toInt_toInt8, Int8.toInt_toInt32, Int32.toInt_toInt8, Int.bmod_def, Int.bmod_def]
  (repeat' split) <;> omega
theorem jb255 (x : Int32) : (x &&& 255).toInt8.toInt32 = x.toInt8.toInt32 ∧ ∃ b : Nat, b < 256 ∧ x &&& 255 = jI (b : Int) := by
  have e : x &&& 255 = nI (x.toBitVec.toNat % 2 ^ 8) := pk_and x 8 (by decide)
  have hv : x.toBitVec.toNat < 4294967296 := x.toBitVec.isLt
  refine ⟨?_, x.toBitVec.toNat % 2 ^ 8, by omega, by rw [e, jI_n]⟩
  apply Int32.toInt_inj.mp
  rw [e, jI_n, Int8.toInt_toInt32, Int32.toInt_toInt8, Int8.toInt_toInt32, Int32.toInt_toInt8, jI_toInt (by omega) (by omega), jI_cond x, Int.bmod_def, Int.bmod_def]
  generalize x.toBitVec.toNat = n at hv ⊢
  (repeat' split) <;> omega
section TPE
variable {E : Nat → Nat} {h : ZH} {x m tn : Nat} {tb : Nat → Int32} {Q : Option Value → ZH → Prop}
def TpB (tb : Nat → Int32) : Prop := ∀ i, ∃ b : Nat, b < 256 ∧ tb i = jI (b : Int)
def TpC (h : ZH) (x tn : Nat) (tb : Nat → Int32) : Prop := zI h (x + 8) 1 = jI (tn : Int) ∧ ∀ i, i < tn → zI h (x + 9) i = (tb i).toInt8.toInt32
def TpM (h : ZH) (m tn : Nat) (tb : Nat → Int32) : Prop := zI h m 1 = jI (tn : Int) ∧ ∀ i, i < tn → zI h (m + 1) i = tb i
def fd_b (v : Int64) (j : Nat) : Int32 := (v >>> ((jI (56 - 8 * (j : Int))).toInt64 &&& 63)).toInt32 &&& 255
def fd_t (tb : Nat → Int32) (tn : Nat) (v : Int64) : Nat → Int32 := fun i => if i < tn then tb i else fd_b v (i - tn)
theorem fd_B {v : Int64} (h : TpB tb) : TpB (fd_t tb tn v) := fun i => by
  unfold fd_t
  split
  · exact h i
  · exact (jb255 _).2
theorem l78 {d : Nat} {v : Int64} {h0 : ZH} (T0 : TSh h0 (x + 8)) (htn : tn + 8 ≤ 320) (kQ : ∀ h', Fr (fun a i => a = x + 9 ∨ (a = x + 8 ∧ i = 1)) h0 h' → TpC h' x (tn + 8) (fd_t tb tn v) → Q (some (.int 1)) h') : ∀ r j h1, j + r = 8 → Fr (fun a i => a = x + 9 ∨ (a = x + 8 ∧ i = 1)) h0 h1 → TpC h1 x (tn + j) (fd_t tb tn v) → wl_78_10 E d Q (r + 1) (x + 8) v (jI (56 - 8 * (j : Int))) h1
  | 0, j, h1, e, F1, C1 => by
    have ej : j = 8 := by omega
    subst ej
    rw [wl_78_10]
    exact ⟨fun _ => kQ h1 F1 C1, fun c => absurd (by decide) c⟩
  | r + 1, j, h1, e, F1, C1 => by
    have T1 := T0.fr F1
    rw [wl_78_10]
    refine ⟨fun c => ?_, fun _ => ⟨T1.1, x + 8 + 1, T1.2.1, T1.2.tb, by rw [C1.1]; exact T1.2.inn (by omega) (by omega), nm_r (e' := zuI h1 (x + 9) (tn + j) (fd_b v j).toInt8.toInt32) ?_ (nm_r (e' := zuI (zuI h1 (x + 9) (tn + j) (fd_b v j).toInt8.toInt32) (x + 8) 1 (jI ((tn + (j + 1) : Nat) : Int))) ?_ (nm_r (e' := jI (56 - 8 * ((j + 1 : Nat) : Int))) ?_ (l78 T0 htn kQ r (j + 1) _ (by omega) ((F1.uI (Or.inl rfl)).uI (Or.inr ⟨rfl, rfl⟩)) ⟨?_, fun i hi => ?_⟩)))⟩⟩
    · exfalso
      rw [show (0 : Int32) = jI 0 from rfl, jI_lt (by omega) (by omega) (by omega) (by omega)] at c
      omega
    · rw [C1.1, jI_cln (by omega), show ztag h1 (x + 8 + 1) = 12 from T1.2.tg]
      unfold zbyte
      rw [if_neg (by omega), jb8]
      unfold fd_b
      rw [(jb255 _).1]
    · rw [zI_offa (by omega), C1.1, show (1 : Int32) = jI 1 from rfl, jI_add]
      rfl
    · rw [show ((-8) : Int32) = jI (-8) from rfl, jI_add]
      congr 1
      omega
    · rw [zI_here]
    · rw [zI_offa (by omega)]
      by_cases ci : i = tn + j
      · subst ci
        rw [zI_here]
        unfold fd_t
        rw [if_neg (by omega), show tn + j - tn = j by omega]
      · rw [zI_offi ci]
        exact C1.2 i (by omega)
theorem ct_90 {d : Nat} {v : Int64} (hd : 2 ≤ d) (X : XSh h x) (C : TpC h x tn tb) (htn : tn ≤ 320) (q1 : 320 < tn + 8 → Q (some (.int (-3))) h) (q2 : tn + 8 ≤ 320 → ∀ h', Fr (fun a i => a = x + 9 ∨ (a = x + 8 ∧ i = 1)) h h' → TpC h' x (tn + 8) (fd_t tb tn v) → Q (some (.int (jI ((tn + 8 : Nat) : Int)))) h') : Ct E d 90 [.ref x, .long v] h Q := by
  obtain ⟨d, rfl⟩ : ∃ n, d = n + 1 := ⟨d - 1, by omega⟩
  have X' := X
  obtain ⟨⟨x0, xr0, xr1, -⟩, -, -, T, -⟩ := X
  have ns : zR h x 1 - 1 = x + 8 := by rw [xr1]; rfl
  refine ok_90 ⟨x0, x + 8, xr1, T.1, ?_⟩
  obtain ⟨d, rfl⟩ : ∃ n, d = n + 1 := ⟨d - 1, by omega⟩
  refine ok_78 ⟨T.1, ?_⟩
  rw [C.1, show (8 : Int32) = jI 8 from rfl, jI_add, show (320 : Int32) = jI 320 from rfl, jI_le (by omega) (by omega) (by omega) (by omega)]
  refine ⟨fun c => ⟨9, ?_⟩, fun c => ⟨0, rfl, ⟨fun _ => trivial, fun q => absurd rfl q⟩, ?_⟩⟩
  · have C0 : TpC h x (tn + 0) (fd_t tb tn v) := ⟨C.1, fun i hi => by unfold fd_t; rw [if_pos (by omega)]; exact C.2 i (by omega)⟩
    refine l78 (h0 := h) T (by omega) (fun h' F' C' => ⟨1, rfl, ⟨fun _ => trivial, fun _ => ⟨by rw [F'.tg]; exact x0, by rw [F'.rr, xr1]; omega, by rw [F'.rr, ns, F'.tg]; exact T.1, trivial⟩⟩, ?_⟩) 8 0 h (by omega) Fr.rf C0
    rw [if_neg (by decide), F'.rr, ns, C'.1]
    exact q2 (by omega) h' F' C'
  · rw [if_pos rfl]
    exact q1 (by omega)
theorem ct_91 {d : Nat} {n : Int} (hd : 1 ≤ d) (X : XSh h x) (C : TpC h x tn tb) (htn : tn ≤ 320) (hn : -2147483648 ≤ n ∧ n < 2147483648) (q1 : ¬ (0 ≤ n ∧ n ≤ tn) → Q (some (.int (-1))) h) (q2 : 0 ≤ n → n ≤ tn → ∀ h', Fr (fun a i => a = x + 8 ∧ i = 1) h h' → TpC h' x n.toNat tb → Q (some (.int (jI (tn : Int)))) h') : Ct E d 91 [.ref x, .int (jI n)] h Q := by
  obtain ⟨d, rfl⟩ : ∃ n, d = n + 1 := ⟨d - 1, by omega⟩
  obtain ⟨⟨x0, xr0, xr1, -⟩, -, -, T, -⟩ := X
  refine ok_91 ?_
  unfold w_91
  rw [show (0 : Int32) = jI 0 from rfl, jI_lt (by omega) (by omega) (by omega) (by omega)]
  refine ⟨fun c => q1 (by omega), fun c => ⟨x0, x + 8, xr1, T.1, ?_⟩⟩
  rw [C.1, jI_le (by omega) (by omega) (by omega) (by omega)]
  refine ⟨fun c2 => nm_e (nm_e (q2 (by omega) c2 _ (Fr.uI Fr.rf ⟨rfl, rfl⟩) ⟨?_, fun i hi => ?_⟩)), fun c2 => q1 (by omega)⟩
  · rw [zI_here]
    congr 1
    omega
  · rw [zI_offa (by omega)]
    exact C.2 i (by omega)
theorem l136 {d : Nat} {v : Int64} {h0 : ZH} (S0 : MSh h0 m) (htn : tn + 8 ≤ 320) (kQ : ∀ h', Fr (fun a i => a = m + 1 ∨ (a = m ∧ i = 1)) h0 h' → TpM h' m (tn + 8) (fd_t tb tn v) → Q (some (.int (jI ((tn + 8 : Nat) : Int)))) h') : ∀ r j h1, j + r = 8 → Fr (fun a i => a = m + 1 ∨ (a = m ∧ i = 1)) h0 h1 → TpM h1 m (tn + j) (fd_t tb tn v) → wl_136_10 E d Q (r + 1) m v (jI (56 - 8 * (j : Int))) h1
  | 0, j, h1, e, F1, C1 => by
    have ej : j = 8 := by omega
    subst ej
    rw [wl_136_10]
    refine ⟨fun _ => ⟨(S0.fr F1).1, ?_⟩, fun c => absurd (by decide) c⟩
    rw [C1.1]
    exact kQ h1 F1 C1
  | r + 1, j, h1, e, F1, C1 => by
    have S1 := S0.fr F1
    rw [wl_136_10]
    refine ⟨fun c => ?_, fun _ => ⟨S1.1, m + 1, S1.a0.1, S1.a0.tg, by rw [C1.1]; exact S1.a0.inn (by omega) (by omega), nm_r (e' := zuI h1 (m + 1) (tn + j) (fd_b v j)) (by rw [C1.1, jI_cln (by omega)]; rfl) (nm_r (e' := zuI (zuI h1 (m + 1) (tn + j) (fd_b v j)) m 1 (jI ((tn + (j + 1) : Nat) : Int))) ?_ (nm_r (e' := jI (56 - 8 * ((j + 1 : Nat) : Int))) ?_ (l136 S0 htn kQ r (j + 1) _ (by omega) ((F1.uI (Or.inl rfl)).uI (Or.inr ⟨rfl, rfl⟩)) ⟨?_, fun i hi => ?_⟩)))⟩⟩
    · exfalso
      rw [show (0 : Int32) = jI 0 from rfl, jI_lt (by omega) (by omega) (by omega) (by omega)] at c
      omega
    · rw [zI_offa (by omega), C1.1, show (1 : Int32) = jI 1 from rfl, jI_add]
      rfl
    · rw [show ((-8) : Int32) = jI (-8) from rfl, jI_add]
      congr 1
      omega
    · rw [zI_here]
    · rw [zI_offa (by omega)]
      by_cases ci : i = tn + j
      · subst ci
        rw [zI_here]
        unfold fd_t
        rw [if_neg (by omega), show tn + j - tn = j by omega]
      · rw [zI_offi ci]
        exact C1.2 i (by omega)
theorem ct_136 {d : Nat} {v : Int64} (hd : 1 ≤ d) (S : MSh h m) (C : TpM h m tn tb) (htn : tn ≤ 320) (q1 : 320 < tn + 8 → Q (some (.int (-3))) h) (q2 : tn + 8 ≤ 320 → ∀ h', Fr (fun a i => a = m + 1 ∨ (a = m ∧ i = 1)) h h' → TpM h' m (tn + 8) (fd_t tb tn v) → Q (some (.int (jI ((tn + 8 : Nat) : Int)))) h') : Ct E d 136 [.ref m, .long v] h Q := by
  obtain ⟨d, rfl⟩ : ∃ n, d = n + 1 := ⟨d - 1, by omega⟩
  refine ok_136 ⟨S.1, ?_⟩
  rw [C.1, show (8 : Int32) = jI 8 from rfl, jI_add, show (320 : Int32) = jI 320 from rfl, jI_le (by omega) (by omega) (by omega) (by omega)]
  refine ⟨fun c => ⟨9, ?_⟩, fun c => q1 (by omega)⟩
  have C0 : TpM h m (tn + 0) (fd_t tb tn v) := ⟨C.1, fun i hi => by unfold fd_t; rw [if_pos (by omega)]; exact C.2 i (by omega)⟩
  exact l136 (h0 := h) S (by omega) (fun h' F' C' => q2 (by omega) h' F' C') 8 0 h (by omega) Fr.rf C0
theorem ct_137 {d : Nat} {n : Int} (hd : 2 ≤ d) (S : MSh h m) (C : TpM h m tn tb) (htn : tn ≤ 320) (hn : -2147483648 ≤ n ∧ n < 2147483648) (q1 : ¬ (0 ≤ n ∧ n ≤ tn) → Q (some (.int (-1))) h) (q2 : 0 ≤ n → n ≤ tn → ∀ h', Fr (fun a i => a = m ∧ i = 1) h h' → TpM h' m n.toNat tb → Q (some (.int (jI (tn : Int)))) h') : Ct E d 137 [.ref m, .int (jI n)] h Q := by
  obtain ⟨d, rfl⟩ : ∃ n, d = n + 1 := ⟨d - 1, by omega⟩
  refine ok_137 ⟨S.1, by omega, trivial, ?_⟩
  rw [C.1, show (0 : Int64) = jL 0 from rfl, fz135i hn.1 hn.2 (by omega) (by omega) (by omega) (by omega)]
  by_cases c : 0 ≤ n ∧ n ≤ tn
  · rw [if_pos c]
    refine ⟨fun _ => nm_e (nm_e (q2 c.1 c.2 _ (Fr.uI Fr.rf ⟨rfl, rfl⟩) ⟨?_, fun i hi => ?_⟩)), fun q => absurd (by decide) q⟩
    · rw [zI_here]
      congr 1
      omega
    · rw [zI_offa (by omega)]
      exact C.2 i (by omega)
  · rw [if_neg c]
    exact ⟨fun q => absurd rfl q, fun _ => q1 c⟩
end TPE
