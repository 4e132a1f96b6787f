/-! THE READER, the Model's: faults, tokens, numbers, names -/
def okT (k : Nat) : Prop := k < 16 ∨ (20 ≤ k ∧ k < 23) ∨ (30 ≤ k ∧ k < 39)
def rxN (k : Nat) : Nat := if k < 16 then k else if k < 23 then k - 4 else k - 11
theorem rxN_b {k : Nat} (h : okT k) : rxN k < 28 := by
  unfold okT at h
  unfold rxN
  split
  · omega
  · split <;> omega
theorem rxN_i {j k : Nat} (hj : okT j) (hk : okT k) (e : rxN j = rxN k) : j = k := by
  unfold okT at hj hk
  unfold rxN at e
  have a : ∀ i : Nat, (if i < 16 then i else if i < 23 then i - 4 else i - 11) = i ∧ i < 16 ∨ (if i < 16 then i else if i < 23 then i - 4 else i - 11) = i - 4 ∧ 16 ≤ i ∧ i < 23 ∨ (if i < 16 then i else if i < 23 then i - 4 else i - 11) = i - 11 ∧ 23 ≤ i := fun i => by
    by_cases c : i < 16
    · rw [if_pos c]; omega
    · rw [if_neg c]
      by_cases c' : i < 23
      · rw [if_pos c']; omega
      · rw [if_neg c']; omega
  have a1 := a j
  have a2 := a k
  rw [← e] at a2
  generalize (if j < 16 then j else if j < 23 then j - 4 else j - 11) = z at a1 a2
  omega
theorem tol_c {v : Int32} {n : Nat} {f g : Nat → Bool} (T : Tol v n f) (e : ∀ k, k < n → g k = f k) : Tol v n g := fun k hk => by rw [e k hk]; exact T k hk
theorem mkd_o {to : Nat → Bool} {j k : Nat} (h : k ≠ j) : mkd to j k = to k := by unfold mkd; rw [if_neg h]
theorem mkd_s {to : Nat → Bool} {b j k : Nat} : mkd to (b + j) (b + k) = mkd (fun k => to (b + k)) j k := by
  unfold mkd
  by_cases e : k = j
  · rw [if_pos (by omega), if_pos e]
  · rw [if_neg (by omega), if_neg e]
section MDL
variable {E : Nat → Nat} {h h0 : ZH} {x m tn d r p n : Nat} {tb : Nat → Int32} {to : Nat → Bool} {t : Nat → Nat} {S : RdT} {A : Nat × Nat × Nat × RdT} {Q : Option Value → ZH → Prop}
def RdW (h : ZH) (m : Nat) (to : Nat → Bool) (t : Nat → Nat) : Prop := Tol (zI h m 17) 17 to ∧ Tol (zI h m 18) 3 (fun k => to (17 + k)) ∧ Tol (zI h m 19) 3 (fun k => to (20 + k)) ∧ ∀ k, okT k → zI h (m + 9) (rxN k) = jI (t k : Int)
theorem RdW.mt {h1 : ZH} (W : RdW h m to t) (y : Fr (mt_S m) h h1) : RdW h1 m to t := ⟨by rw [y.I (by unfold mt_S; omega)]; exact W.1, by rw [y.I (by unfold mt_S; omega)]; exact W.2.1, by rw [y.I (by unfold mt_S; omega)]; exact W.2.2.1, fun k hk => by rw [y.I (by unfold mt_S; omega)]; exact W.2.2.2 k hk⟩
theorem RdW.up {j v : Nat} (W : RdW h m to t) (hj : okT j) : RdW (zuI h (m + 9) (rxN j) (jI (v : Int))) m to (upt t j v) := by
  refine ⟨by rw [zI_offa (by omega)]; exact W.1, by rw [zI_offa (by omega)]; exact W.2.1, by rw [zI_offa (by omega)]; exact W.2.2.1, fun k hk => ?_⟩
  by_cases e : k = j
  · rw [e, zI_here, upt_e]
  · rw [zI_offi (fun q => e (rxN_i hk hj q)), upt_n e]
    exact W.2.2.2 k hk
theorem RdW.m17 {j : Nat} (W : RdW h m to t) (hj : j < 17) : RdW (zuI h m 17 (zI h m 17 ||| ((1 : Int32) <<< ((jI (j : Int)) &&& 31)))) m (mkd to j) t := by
  refine ⟨by rw [zI_here]; exact tol_m (by omega) (by omega) W.1, ?_, ?_, fun k hk => by rw [zI_offa (by omega)]; exact W.2.2.2 k hk⟩
  · rw [zI_offi (by omega)]
    exact tol_c W.2.1 (fun k hk => mkd_o (by omega))
  · rw [zI_offi (by omega)]
    exact tol_c W.2.2.1 (fun k hk => mkd_o (by omega))
theorem RdW.m18 {j : Nat} (W : RdW h m to t) (hj : j < 3) : RdW (zuI h m 18 (zI h m 18 ||| ((1 : Int32) <<< ((jI (j : Int)) &&& 31)))) m (mkd to (17 + j)) t := by
  refine ⟨?_, ?_, ?_, fun k hk => by rw [zI_offa (by omega)]; exact W.2.2.2 k hk⟩
  · rw [zI_offi (by omega)]
    exact tol_c W.1 (fun k hk => mkd_o (by omega))
  · rw [zI_here]
    exact tol_c (tol_m (by omega) (show j < 32 by omega) W.2.1) (fun k hk => mkd_s)
  · rw [zI_offi (by omega)]
    exact tol_c W.2.2.1 (fun k hk => mkd_o (by omega))
theorem RdW.m19 {j : Nat} (W : RdW h m to t) (hj : j < 3) : RdW (zuI h m 19 (zI h m 19 ||| ((1 : Int32) <<< ((jI (j : Int)) &&& 31)))) m (mkd to (20 + j)) t := by
  refine ⟨?_, ?_, ?_, fun k hk => by rw [zI_offa (by omega)]; exact W.2.2.2 k hk⟩
  · rw [zI_offi (by omega)]
    exact tol_c W.1 (fun k hk => mkd_o (by omega))
  · rw [zI_offi (by omega)]
    exact tol_c W.2.1 (fun k hk => mkd_o (by omega))
  · rw [zI_here]
    exact tol_c (tol_m (by omega) (show j < 32 by omega) W.2.2.1) (fun k hk => mkd_s)
/-- told of who needs no mark of its own -/
theorem RdW.m23 {j : Nat} (W : RdW h m to t) (hj : 23 ≤ j) : RdW h m (mkd to j) t := ⟨tol_c W.1 (fun k hk => mkd_o (by omega)), tol_c W.2.1 (fun k hk => mkd_o (by omega)), tol_c W.2.2.1 (fun k hk => mkd_o (by omega)), W.2.2.2⟩
/-- a fault was found -/
def MdF (h0 h : ZH) (m : Nat) (A : Nat × Nat × Nat × RdT) : Prop := Fr (mp_S m) h0 h ∧ FlM h m A.1 A.2.1 ∧ ¬ A.1 = 0 ∧ A.1 ≤ 4
/-- no fault so far -/
def MdN (tb : Nat → Int32) (tn : Nat) (h0 h : ZH) (m r : Nat) (S : RdT) (p n : Nat) (A : Nat × Nat × Nat × RdT) : Prop := Fr (mp_S m) h0 h ∧ TkN h m (tk tb tn p) ∧ ¬ (tk tb tn p).1 = 0 ∧ RdK S ∧ p ≤ tn ∧ tn < p + r ∧ rdr tb tn r S p n = A
theorem MdF.u9 {i : Nat} {v : Int32} (G : MdF h0 h m A) : MdF h0 (zuI h (m + 9) i v) m A := ⟨Fr.uI G.1 (by unfold mp_S; omega), ⟨by rw [zI_offa (by omega)]; exact G.2.1.1, by rw [zI_offa (by omega)]; exact G.2.1.2⟩, G.2.2⟩
theorem MdF.um {i : Nat} {v : Int32} (G : MdF h0 h m A) (h1 : 17 ≤ i) (h2 : i ≤ 19) : MdF h0 (zuI h m i v) m A := ⟨Fr.uI G.1 (by unfold mp_S; omega), ⟨by rw [zI_offi (by omega)]; exact G.2.1.1, by rw [zI_offi (by omega)]; exact G.2.1.2⟩, G.2.2⟩
theorem TkN.u9 {i : Nat} {v : Int32} {k : TkT} (T : TkN h m k) : TkN (zuI h (m + 9) i v) m k := ⟨by rw [zI_offa (by omega)]; exact T.1, by rw [zI_offa (by omega)]; exact T.2.1, by rw [zI_offa (by omega)]; exact T.2.2.1, by rw [zI_offa (by omega)]; exact T.2.2.2.1, fun q => by rw [zI_offa (by omega)]; exact T.2.2.2.2 q⟩
theorem TkN.um {i : Nat} {v : Int32} {k : TkT} (T : TkN h m k) (h1 : 17 ≤ i) : TkN (zuI h m i v) m k := ⟨by rw [zI_offi (by omega)]; exact T.1, by rw [zI_offi (by omega)]; exact T.2.1, by rw [zI_offi (by omega)]; exact T.2.2.1, by rw [zI_offi (by omega)]; exact T.2.2.2.1, fun q => by rw [zI_offi (by omega)]; exact T.2.2.2.2 q⟩
theorem MdN.u9 {i : Nat} {v : Int32} (N : MdN tb tn h0 h m r S p n A) : MdN tb tn h0 (zuI h (m + 9) i v) m r S p n A := ⟨Fr.uI N.1 (by unfold mp_S; omega), N.2.1.u9, N.2.2⟩
theorem MdN.um {i : Nat} {v : Int32} (N : MdN tb tn h0 h m r S p n A) (h1 : 17 ≤ i) (h2 : i ≤ 19) : MdN tb tn h0 (zuI h m i v) m r S p n A := ⟨Fr.uI N.1 (by unfold mp_S; omega), N.2.1.um h1, N.2.2⟩
theorem MdF.z (G : MdF h0 h m A) : ¬ zI h m 3 = 0 := by
  rw [G.2.1.1, show (0 : Int32) = jI ((0 : Nat) : Int) from rfl, jI_eqn (by have := G.2.2.2; omega) (by omega)]
  exact G.2.2.1
theorem F141 (hd : 1 ≤ d) (M0 : MTp h0 m tn tb) (G : MdF h0 h m A) (q : Q none h) : Ct E d 141 [.ref m] h Q := ct_141' hd (M0.fr G.1).1 G.2.1 G.2.2.1 G.2.2.2 q
theorem F142 {a b : Int32} (hd : 1 ≤ d) (M0 : MTp h0 m tn tb) (G : MdF h0 h m A) (q : Q (some (.int a)) h) : Ct E d 142 [.ref m, .int a, .int b] h Q := by
  obtain ⟨d, rfl⟩ : ∃ n, d = n + 1 := ⟨d - 1, by omega⟩
  have s := (M0.fr G.1).1.1
  have e : wb_142_25 E d Q m a h := ⟨s, by rw [if_pos G.z]; exact q⟩
  exact ok_142 ⟨s, fun _ => ⟨s, fun _ => e, fun w => absurd G.z w⟩, fun w => absurd G.z w⟩
theorem F143 {a b : Int32} (hd : 1 ≤ d) (M0 : MTp h0 m tn tb) (G : MdF h0 h m A) (q : Q none h) : Ct E d 143 [.ref m, .int a, .int b] h Q := by
  obtain ⟨d, rfl⟩ : ∃ n, d = n + 1 := ⟨d - 1, by omega⟩
  exact ok_143 ⟨(M0.fr G.1).1.1, fun _ => q, fun w => absurd G.z w⟩
/-- a fault of a step -/
theorem N139 {c : Nat} (hd : 1 ≤ d) (M0 : MTp h0 m tn tb) (N : MdN tb tn h0 h m r S p n A) (n4 : ¬ ((tk tb tn p).1 = 4 ∧ S.1 = 17)) (e : (stp S (tk tb tn p)).1 = c) (c0 : ¬ c = 0) (q : ∀ h', MdF h0 h' m A → Q none h') : Ct E d 139 [.ref m, .int (jI (c : Int))] h Q := by
  obtain ⟨F, T, k0, K, hp, hr, eA⟩ := N
  have c4 := stp_c S (tk tb tn p)
  rw [rdr_F hr hp n4 (by rw [e]; exact c0)] at eA
  refine ct_139 (pl := (tk tb tn p).2.2.1) hd (M0.fr F).1 T.1 T.2.2.1 (fun h' F' G => q h' ⟨F.tr (F'.wd (fun a i z => by unfold mp_S; omega)), ?_, ?_, ?_⟩)
  · rw [← eA]
    show FlM h' m (stp S (tk tb tn p)).1 (tk tb tn p).2.2.1
    rw [e]
    exact G
  · rw [← eA]
    show ¬ (stp S (tk tb tn p)).1 = 0
    rw [e]
    exact c0
  · rw [← eA]
    exact c4
theorem N142 {lo hi : Nat} (hd : 2 ≤ d) (M0 : MTp h0 m tn tb) (hl : lo ≤ 1000) (hh : hi ≤ 1000) (N : MdN tb tn h0 h m r S p n A) (l17 : ¬ S.1 = 17) (e2 : ¬ (tk tb tn p).1 = 2 → (stp S (tk tb tn p)).1 = 2) (e3 : (tk tb tn p).1 = 2 → ((tk tb tn p).2.1.toNat < lo ∨ hi < (tk tb tn p).2.1.toNat) → (stp S (tk tb tn p)).1 = 3) (qF : ∀ h', MdF h0 h' m A → Q (some (.int (jI (lo : Int)))) h') (qS : ∀ v, (tk tb tn p).1 = 2 → (tk tb tn p).2.1 = ((v : Nat) : Int) → lo ≤ v → v ≤ hi → Q (some (.int (jI (v : Int)))) h) : Ct E d 142 [.ref m, .int (jI (lo : Int)), .int (jI (hi : Int))] h Q := by
  obtain ⟨d, rfl⟩ : ∃ n, d = n + 1 := ⟨d - 1, by omega⟩
  have N' := N
  obtain ⟨F, T, k0, K, hp, hr, eA⟩ := N
  have s := (M0.fr F).1.1
  have O := tk_o tb hp
  have T7 := T.2.2.2.1
  have z7 : (zI h m 7 = 2 ↔ (tk tb tn p).1 = 2) := by
    rw [T7, show (2 : Int32) = jI ((2 : Nat) : Int) from rfl, jI_eqn (by have := O.1; split <;> omega) (by omega)]
    split <;> omega
  refine ok_142 ⟨s, fun w => absurd T.1 w, fun _ => ?_⟩
  rw [z7]
  refine ⟨fun c2 => ⟨s, fun w => absurd T.1 w, fun _ => ?_⟩, fun c2 => ?_⟩
  · have O2 := O.2.2.1 c2
    obtain ⟨v, hv⟩ : ∃ n : Nat, (tk tb tn p).2.1 = (n : Int) := ⟨(tk tb tn p).2.1.toNat, by omega⟩
    have T8 := T.2.2.2.2 (Or.inr c2)
    rw [hv] at T8 O2
    rw [hv, Int.toNat_natCast] at e3
    have g : fz_135 E h (jI (v : Int)).toInt64 (jI (lo : Int)).toInt64 (jI (hi : Int)).toInt64 = 0 ↔ ¬ (lo ≤ v ∧ v ≤ hi) := by
      rw [jI_toL (a := (lo : Int)) (by omega) (by omega), jI_toL (a := (hi : Int)) (by omega) (by omega), f135 (by omega) (by omega) (by omega) (by omega) (by omega) (by omega)]
      omega
    rw [T8, g]
    refine ⟨by omega, trivial, fun c => ?_, fun c => ?_⟩
    · rw [Classical.not_not] at c
      exact ⟨s, by rw [if_neg (fun w => w T.1), T8]; exact qS v c2 hv c.1 c.2⟩
    · rw [Classical.not_not] at c
      refine N139 (c := 3) (by omega) M0 N' (fun z => l17 z.2) (e3 c2 (by omega)) (by omega) (fun h' G => ⟨rfl, (M0.fr G.1).1.1, ?_⟩)
      rw [if_pos G.z]
      exact qF h' G
  · refine N139 (c := 2) (by omega) M0 N' (fun z => l17 z.2) (e2 c2) (by omega) (fun h' G => ⟨rfl, (M0.fr G.1).1.1, fun _ => ⟨(M0.fr G.1).1.1, ?_⟩, fun w => absurd G.z w⟩)
    rw [if_pos G.z]
    exact qF h' G
theorem N143 {lo hi : Nat} (hd : 2 ≤ d) (M0 : MTp h0 m tn tb) (hl : lo ≤ 1000) (hh : hi ≤ 1000) (N : MdN tb tn h0 h m r S p n A) (l17 : ¬ S.1 = 17) (e2 : ¬ ((tk tb tn p).1 = 1 ∧ lo ≤ (tk tb tn p).2.1.toNat ∧ (tk tb tn p).2.1.toNat < hi + 1) → (stp S (tk tb tn p)).1 = 2) (qF : ∀ h', MdF h0 h' m A → Q none h') (qS : ∀ v, (tk tb tn p).1 = 1 → (tk tb tn p).2.1 = ((v : Nat) : Int) → lo ≤ v → v ≤ hi → zI h m 8 = jI (v : Int) → Q none h) : Ct E d 143 [.ref m, .int (jI (lo : Int)), .int (jI (hi : Int))] h Q := by
  obtain ⟨d, rfl⟩ : ∃ n, d = n + 1 := ⟨d - 1, by omega⟩
  have N' := N
  obtain ⟨F, T, k0, K, hp, hr, eA⟩ := N
  have s := (M0.fr F).1.1
  have O := tk_o tb hp
  have T7 := T.2.2.2.1
  have z7 : (zI h m 7 = 1 ↔ (tk tb tn p).1 = 1) := by
    rw [T7, show (1 : Int32) = jI ((1 : Nat) : Int) from rfl, jI_eqn (by have := O.1; split <;> omega) (by omega)]
    split <;> omega
  refine ok_143 ⟨s, fun w => absurd T.1 w, fun _ => ?_⟩
  rw [z7]
  refine ⟨fun c1 => ?_, fun c1 => ?_⟩
  · exact N139 (c := 2) (by omega) M0 N' (fun z => l17 z.2) (e2 (fun z => c1 z.1)) (by omega) (fun h' G => ⟨rfl, qF h' G⟩)
  · rw [Classical.not_not] at c1
    have O2 := O.2.1 c1
    obtain ⟨v, hv⟩ : ∃ n : Nat, (tk tb tn p).2.1 = (n : Int) := ⟨(tk tb tn p).2.1.toNat, by omega⟩
    have T8 := T.2.2.2.2 (Or.inl c1)
    rw [hv] at T8 O2
    rw [hv, Int.toNat_natCast] at e2
    have g : fz_135 E h (jI (v : Int)).toInt64 (jI (lo : Int)).toInt64 (jI (hi : Int)).toInt64 = 0 ↔ ¬ (lo ≤ v ∧ v ≤ hi) := by
      rw [jI_toL (a := (lo : Int)) (by omega) (by omega), jI_toL (a := (hi : Int)) (by omega) (by omega), f135 (by omega) (by omega) (by omega) (by omega) (by omega) (by omega)]
      omega
    rw [T8, g]
    refine ⟨by omega, trivial, fun c => ?_, fun c => ?_⟩
    · rw [Classical.not_not] at c
      exact qS v c1 hv c.1 c.2 T8
    · rw [Classical.not_not] at c
      exact N139 (c := 2) (by omega) M0 N' (fun z => l17 z.2) (e2 (by omega)) (by omega) (fun h' G => ⟨rfl, qF h' G⟩)
/-- the next token, after a step -/
theorem N141 {S' : RdT} {n' : Nat} (hd : 3 ≤ d) (B : TpB tb) (hn : tn ≤ 320) (M0 : MTp h0 m tn tb) (N : MdN tb tn h0 h m r S p n A) (c4 : ¬ (tk tb tn p).1 = 4) (e : stp S (tk tb tn p) = (0, S')) (en : n' = n + if (tk tb tn p).1 = 3 then 1 else 0) (W : RdW h m to t) (qF : ∀ h', MdF h0 h' m A → Q none h') (qS : ∀ h' p', p < p' → MdN tb tn h0 h' m (r - 1) S' p' n' A → RdW h' m to t → Q none h') : Ct E d 141 [.ref m] h Q := by
  obtain ⟨F, T, k0, K, hp, hr, eA⟩ := N
  have O := tk_o tb hp
  have s := rdr_S (tb := tb) (n := n) hr hp c4 (by rw [e])
  have K' : RdK S' := by
    have := stp_ok K (show (stp S (tk tb tn p)).1 = 0 by rw [e])
    rw [e] at this
    exact this
  rw [e, ← en, eA] at s
  refine ct_141 hd B (M0.fr F) hn O.2.2.2.2.2.1 T.1 T.2.1 ⟨fun z h' F' G => ?_, fun z h' F' T' => ?_⟩
  · have f := rdr_F (tb := tb) (S := S') (n := n') s.1 O.2.2.2.2.2.1 (fun q => by omega) (by rw [stp_0 _ z]; decide)
    rw [← s.2, stp_0 _ z] at f
    exact qF h' ⟨F.tr (mt_mp F'), by rw [f]; exact G, by rw [f]; exact Nat.one_ne_zero, by rw [f]; show 1 ≤ 4; omega⟩
  · exact qS h' _ (O.2.2.2.1 c4) ⟨F.tr (mt_mp F'), T', z, K', O.2.2.2.2.2.1, s.1, s.2.symm⟩ (W.mt F')
end MDL
