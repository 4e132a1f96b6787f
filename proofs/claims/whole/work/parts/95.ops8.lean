/-! THE CALLS: jumps, offers -/
section OPH
variable {E : Nat → Nat} {h : ZH} {x m zs zt g tn N d : Nat} {t u rs rx : Nat → Nat} {ft to : Int32} {tb : Nat → Int32} {la sz : Nat → Int} {ce : Nat → Nat → Int32} {Q : Option Value → ZH → Prop}
def jm_f (t u : Nat → Nat) (z n k s c : Nat) : Nat := tp_B t u (tp_pr t) (tp_T t - (z + 1)) z c n k s
def jm_p (t u : Nat → Nat) (z n k s c : Nat) : Bool := decide (jm_f t u z n k s c ≠ t 3) && decide (jm_f t u z n k s c ≠ t 4)
def jm_a (f : Nat → Nat) : Nat → Nat → Int
  | 0, _ => -4
  | r + 1, c => if f c = f 0 then jm_a f r (c + 1) else (c : Int)
def jm_d (p : Nat → Bool) : Nat → Nat → Nat
  | 0, _ => 0
  | r + 1, c => (if p c = true then 1 else 0) + jm_d p r (c + 1)
theorem jm_dc (p : Nat → Bool) : ∀ r c, tp_cnt p c + jm_d p r c = tp_cnt p (c + r)
  | 0, c => by simp [jm_d]
  | r + 1, c => by
    have := jm_dc p r (c + 1)
    rw [show c + (r + 1) = c + 1 + r by omega, ← this]
    show _ = tp_cnt p c + (if p c = true then 1 else 0) + _
    rw [jm_d]
    omega
def an_jumps (t u : Nat → Nat) (z n k s w : Int) : Int := if tp_pl t z 0 n k s ∧ (0 ≤ w ∧ w ≤ 1) then (if u z.toNat = 3 then (if w = 0 then (tp_cnt (jm_p t u z.toNat n.toNat k.toNat s.toNat) 21 : Int) else jm_a (jm_f t u z.toNat n.toNat k.toNat s.toNat) 20 1) else -2) else -1
theorem jm_f_le (ok : tp_Ok t) (u : Nat → Nat) (z n k s c : Nat) : jm_f t u z n k s c ≤ 4 := (tp_B_le ok u _ _ _ _ _ _ _).2.2
theorem an_best_n {z c n k s : Nat} (b1 : z < tp_T t) (b2 : c ≤ 20) (b3 : n ≤ 12) (b4 : k ≤ 8) (b5 : s < 3) : an_best t u (z : Int) (c : Int) (n : Int) (k : Int) (s : Int) = (jm_f t u z n k s c : Int) := by
  unfold an_best
  rw [if_pos (by unfold tp_pl; omega)]
  rfl
theorem l129 {z n k s : Nat} {h0 : ZH} (hd : 50 ≤ d) (ok : tp_Ok t) (ou : tp_Ou u) (b1 : z < tp_T t) (b3 : n ≤ 12) (b4 : k ≤ 8) (b5 : s < 3) (hg : g + 50 < 1000000) (q : ∀ h', JC E h' x zs zt (g + 42) t u ft tn tb N rs rx la sz ce to → CFr x h0 h' → Q (some (.int (jI (tp_cnt (jm_p t u z n k s) 21 : Int)))) h') : ∀ r c h1, c + r = 21 → JC E h1 x zs zt (g + 2 * c) t u ft tn tb N rs rx la sz ce to → CFr x h0 h1 → wl_129_4 E d Q (r + 1) x (jI (z : Int)) (jI (n : Int)) (jI (k : Int)) (jI (s : Int)) (jI (tp_cnt (jm_p t u z n k s) c : Int)) (jI (c : Int)) h1
  | 0, c, h1, e, J1, C1 => by
    have ec : c = 21 := by omega
    subst ec
    rw [wl_129_4]
    exact ⟨fun _ => q h1 J1 C1, fun c => absurd (by decide) c⟩
  | r + 1, c, h1, e, J1, C1 => by
    have hT := ok.T
    rw [wl_129_4]
    refine ⟨fun c' => ?_, fun _ => ⟨J1.X.t0, op_100 hd ok ou J1 (by omega) (by omega) (by omega) (by omega) (by omega) (by omega) (fun h2 J2 C2 => ⟨_, rfl, J2.X.t0, x + 1, J2.X.r0, J2.P.1.1.1, x + 1 + 1, J2.P.1.1.2.1.1, J2.P.1.1.2.1.ti, J2.P.1.1.2.1.inc (by decide), ⟨fun _ => trivial, fun _ => ⟨J2.P.1.1.2.1.inc (by decide), trivial⟩⟩, nm_r (e' := jI ((c + 1 : Nat) : Int)) (by rw [show (1 : Int32) = jI 1 from rfl, jI_add]; rfl) ?_⟩)⟩⟩
    · exfalso
      rw [show (20 : Int32) = jI ((20 : Nat) : Int) from rfl, jI_ltn (by omega) (by omega)] at c'
      omega
    · have ih := l129 hd ok ou b1 b3 b4 b5 hg q r (c + 1) h2 (by omega) (J2.mono (by omega)) (C1.tr C2)
      have hf := jm_f_le ok u z n k s c
      have h34 := ok.2.2.2.1
      rw [an_best_n b1 (by omega) b3 b4 b5, J2.P.1.2.1 3 (by omega), J2.P.1.2.1 4 (by omega)]
      have e : (if jI (jm_f t u z n k s c : Int) = jI (t 3 : Int) then jI (tp_cnt (jm_p t u z n k s) c : Int) else if jI (jm_f t u z n k s c : Int) = jI (t 4 : Int) then jI (tp_cnt (jm_p t u z n k s) c : Int) else jI (tp_cnt (jm_p t u z n k s) c : Int) + 1 : Int32) = jI (tp_cnt (jm_p t u z n k s) (c + 1) : Int) := by
        show _ = jI ((tp_cnt (jm_p t u z n k s) c + (if jm_p t u z n k s c = true then 1 else 0) : Nat) : Int)
        unfold jm_p
        by_cases c3 : jm_f t u z n k s c = t 3
        · rw [if_pos (by rw [c3]), if_neg (by simp [c3])]; rfl
        · rw [if_neg (by rw [jI_eqn (by omega) (by omega)]; exact c3)]
          by_cases c4 : jm_f t u z n k s c = t 4
          · rw [if_pos (by rw [c4]), if_neg (by simp [c4])]; rfl
          · rw [if_neg (by rw [jI_eqn (by omega) (by omega)]; exact c4), if_pos (by simp [c3, c4]), show (1 : Int32) = jI 1 from rfl, jI_add]; rfl
      rw [e]
      exact ih
theorem l130 {z n k s : Nat} {h0 : ZH} (hd : 50 ≤ d) (ok : tp_Ok t) (ou : tp_Ou u) (b1 : z < tp_T t) (b3 : n ≤ 12) (b4 : k ≤ 8) (b5 : s < 3) (hg : g + 50 < 1000000) : ∀ r c h1, c + r = 21 → 1 ≤ c → (∀ h', JC E h' x zs zt (g + 42) t u ft tn tb N rs rx la sz ce to → CFr x h0 h' → Q (some (.int (jI (jm_a (jm_f t u z n k s) r c)))) h') → JC E h1 x zs zt (g + 2 * c) t u ft tn tb N rs rx la sz ce to → CFr x h0 h1 → wl_130_10 E d Q (r + 1) x (jI (z : Int)) (jI (n : Int)) (jI (k : Int)) (jI (s : Int)) (jI (jm_f t u z n k s 0 : Int)) (jI (c : Int)) h1
  | 0, c, h1, e, c1, q, J1, C1 => by
    have ec : c = 21 := by omega
    subst ec
    rw [wl_130_10]
    exact ⟨fun _ => q h1 J1 C1, fun c => absurd (by decide) c⟩
  | r + 1, c, h1, e, c1, q, J1, C1 => by
    have hT := ok.T
    rw [wl_130_10]
    refine ⟨fun c' => ?_, fun _ => ⟨J1.X.t0, op_100 hd ok ou J1 (by omega) (by omega) (by omega) (by omega) (by omega) (by omega) (fun h2 J2 C2 => ⟨_, rfl, ?_⟩)⟩⟩
    · exfalso
      rw [show (20 : Int32) = jI ((20 : Nat) : Int) from rfl, jI_ltn (by omega) (by omega)] at c'
      omega
    · have hf := jm_f_le ok u z n k s c
      have hf0 := jm_f_le ok u z n k s 0
      rw [an_best_n b1 (by omega) b3 b4 b5, jI_eqn (by omega) (by omega)]
      rw [jm_a] at q
      refine ⟨fun ce => ?_, fun ce => ?_⟩
      · rw [if_pos ce] at q
        exact nm_r (e' := jI ((c + 1 : Nat) : Int)) (by rw [show (1 : Int32) = jI 1 from rfl, jI_add]; rfl) (l130 hd ok ou b1 b3 b4 b5 hg r (c + 1) h2 (by omega) (by omega) q (J2.mono (by omega)) (C1.tr C2))
      · rw [if_neg ce] at q
        exact q h2 (J2.mono (by omega)) (C1.tr C2)
theorem op_106 {z n k s w : Int} (hd : 60 ≤ d) (ok : tp_Ok t) (ou : tp_Ou u) (J : JC E h x zs zt g t u ft tn tb N rs rx la sz ce to) (hg : g + 50 < 1000000) (hz : jb z) (hn : jb n) (hk : jb k) (hs : jb s) (hw : jb w) (q : ∀ h', JC E h' x zs zt (g + 42) t u ft tn tb N rs rx la sz ce to → CFr x h h' → Q (some (.int (jI (an_jumps t u z n k s w)))) h') : Ct E d 106 [.ref x, .int (jI z), .int (jI n), .int (jI k), .int (jI s), .int (jI w)] h Q := by
  obtain ⟨d, rfl⟩ : ∃ n, d = n + 1 := ⟨d - 1, by omega⟩
  obtain ⟨d, rfl⟩ : ∃ n, d = n + 1 := ⟨d - 1, by omega⟩
  have hT := ok.T
  have P := J.P
  have f : fz_127 E h x (jI z) 0 (jI n) (jI k) (jI s) = 0 ↔ _ := f127 (E := E) (c := 0) ok J.X J.P hz (by omega) hn hk hs
  have no : ¬ (tp_pl t z 0 n k s ∧ (0 ≤ w ∧ w ≤ 1)) → Q (some (.int (-1))) h := fun c => by
    have := q h (J.mono (by omega)) CFr.rf
    unfold an_jumps at this
    rw [if_neg c] at this
    exact this
  refine ok_106 ⟨J.X.t0, by omega, s127 (a1 := 0) J.X J.P, fun c => no ?_, fun c => ⟨by omega, trivial, fun c2 => ?_, fun c2 => no ?_⟩⟩
  · rw [f] at c
    exact fun r => c r.1
  · rw [f, Classical.not_not] at c
    rw [f123 hw, Classical.not_not] at c2
    unfold an_jumps at q
    rw [if_pos ⟨c, c2⟩] at q
    obtain ⟨z, c0, n, k, s, rfl, -, rfl, rfl, rfl, b1, b2, b3, b4, b5⟩ := pl_nat c
    simp only [Int.toNat_natCast] at q
    have A := P.1.1.2.2.1
    have ub := tp_uJ_b ou z
    refine ⟨x + 1, J.X.r0, P.1.1.1, x + 1 + 2, A.1, A.ti, A.inn (by omega) (by omega), ?_⟩
    rw [jI_cln (by omega), P.1.2.2 z (by omega), show (-4 : Int32) = jI (-4) from rfl, jI_eq (by omega) (by omega) (by omega) (by omega), tp_uJ_n]
    refine ⟨fun cu => ⟨fun cw => ?_, fun cw => ?_⟩, fun cu => ?_⟩
    · rw [show (0 : Int32) = jI 0 from rfl, jI_eq hw.1 hw.2 (by omega) (by omega)] at cw
      rw [if_pos cu, if_neg cw] at q
      refine ok_130 ⟨J.X.t0, op_100 (c := 0) (by omega) ok ou J (by omega) hz (by omega) hn hk hs (fun h2 J2 C2 => ⟨_, rfl, 21, ?_⟩)⟩
      have := an_best_n (u := u) (c := 0) b1 (by omega) b3 b4 b5
      rw [show ((0 : Nat) : Int) = 0 from rfl] at this
      rw [this]
      exact l130 (h0 := h) (by omega) ok ou b1 b3 b4 b5 hg 20 1 h2 (by omega) (by omega) (fun h' J' C' => ⟨_, rfl, q h' J' C'⟩) (J2.mono (by omega)) C2
    · rw [show (0 : Int32) = jI 0 from rfl, jI_eq hw.1 hw.2 (by omega) (by omega), Classical.not_not] at cw
      rw [if_pos cu, if_pos cw] at q
      exact ok_129 ⟨22, l129 (h0 := h) (by omega) ok ou b1 b3 b4 b5 hg (fun h' J' C' => ⟨_, rfl, q h' J' C'⟩) 21 0 h (by omega) (J.mono (by omega)) CFr.rf⟩
    · rw [if_neg cu] at q
      exact q h (J.mono (by omega)) CFr.rf
  · rw [f123 hw] at c2
    exact fun r => c2 (fun r' => r' r.2)
theorem l197 {z n k s : Nat} {w : Int} (hd : 1 ≤ d) (ok : tp_Ok t) (hw : jb w) (P : MPg h m t u) (L : MLd h m t u 0) (b1 : z < tp_T t) (b3 : n ≤ 12) (b4 : k ≤ 8) (b5 : s < 3) (q : Q (some (.int (jI (if w = 0 then (jm_d (jm_p t u z n k s) 21 0 : Int) else jm_a (jm_f t u z n k s) 21 0)))) h) : ∀ c r, r + c = 21 → wl_197_42 E d Q (c + 1) m (jI (z : Int)) (jI (n : Int)) (jI (k : Int)) (jI (s : Int)) (jI w) (jI (jm_d (jm_p t u z n k s) r c : Int)) (jI (jm_a (jm_f t u z n k s) r c)) (jI (jm_f t u z n k s 0 : Int)) (jI ((c : Int) - 1)) h
  | 0, r, e => by
    have er : r = 21 := by omega
    subst er
    rw [wl_197_42]
    refine ⟨fun _ => ?_, fun c => absurd (by decide) c⟩
    show Q (some (.int _)) h
    have e0 : jI w = 0 ↔ w = 0 := by rw [show (0 : Int32) = jI 0 from rfl, jI_eq hw.1 hw.2 (by omega) (by omega)]
    by_cases c0 : w = 0
    · rw [if_neg (fun q => q (e0.mpr c0))]
      rw [if_pos c0] at q
      exact q
    · rw [if_pos (fun q => c0 (e0.mp q))]
      rw [if_neg c0] at q
      exact q
  | c + 1, r, e => by
    have hT := ok.T
    have ih := l197 (by omega) ok hw P L b1 b3 b4 b5 q c (r + 1) (by omega)
    have lt := tp_at_lt (dd := z) (c := c) (by omega) (by omega) b3 b4 b5
    have hL := (L z c n k s (by omega) b1 (by omega) b3 b4 b5).2
    have hf := jm_f_le ok u z n k s c
    have hf0 := jm_f_le ok u z n k s 0
    have h34 := ok.2.2.2.1
    have ec : ((c + 1 : Nat) : Int) - 1 = (c : Int) := by omega
    rw [wl_197_42, ec]
    refine ⟨fun c' => ?_, fun _ => ⟨P.1.1, m + 12, P.1.a28.1, by omega, trivial, P.1.a28.ti, ?_, nm_r (e' := jI (jm_f t u z n k s c : Int)) ?_ ⟨m + 8, P.1.a15.1, P.1.a15.ti, P.1.a15.inc (by decide), ⟨fun _ => trivial, fun _ => ⟨P.1.a15.inc (by decide), trivial⟩⟩, nm_r (e' := jI (jm_d (jm_p t u z n k s) (r + 1) c : Int)) ?_ (nm_r (e' := jI (jm_a (jm_f t u z n k s) (r + 1) c)) ?_ (nm_r (e' := jI ((c : Int) - 1)) ?_ ih))⟩⟩⟩
    · exfalso
      rw [show (0 : Int32) = jI 0 from rfl, jI_lt (by omega) (by omega) (by omega) (by omega)] at c'
      omega
    · rw [fz175]; exact P.1.a28.inn lt (by omega)
    · rw [fz175, jI_cln (by omega), hL]; rfl
    · rw [P.2.1 3 (by omega), P.2.1 4 (by omega), jm_d]
      generalize jm_d (jm_p t u z n k s) r (c + 1) = D
      unfold jm_p
      by_cases c3 : jm_f t u z n k s c = t 3
      · rw [if_pos (by rw [c3]), if_neg (by simp [c3]), show (0 : Int32) = jI 0 from rfl, jI_add]; congr 1; omega
      · rw [if_neg (by rw [jI_eqn (by omega) (by omega)]; exact c3)]
        by_cases c4 : jm_f t u z n k s c = t 4
        · rw [if_pos (by rw [c4]), if_neg (by simp [c4]), show (0 : Int32) = jI 0 from rfl, jI_add]; congr 1; omega
        · rw [if_neg (by rw [jI_eqn (by omega) (by omega)]; exact c4), if_pos (by simp [c3, c4]), show (1 : Int32) = jI 1 from rfl, jI_add]; congr 1; omega
    · rw [jm_a]
      by_cases c3 : jm_f t u z n k s c = jm_f t u z n k s 0
      · rw [if_pos (by rw [c3]), if_pos c3]
      · rw [if_neg (by rw [jI_eqn (by omega) (by omega)]; exact c3), if_neg c3]
    · rw [show (-1 : Int32) = jI (-1) from rfl, jI_add]; rfl
theorem op_197 {z n k s w : Int} (hd : 20 ≤ d) (ok : tp_Ok t) (ou : tp_Ou u) (J : JM h m t u ft tn tb N rs rx la sz ce to) (hz : jb z) (hn : jb n) (hk : jb k) (hs : jb s) (hw : jb w) (q : ∀ h', JM h' m t u ft tn tb N rs rx la sz ce to → MFr m h h' → Q (some (.int (jI (an_jumps t u z n k s w)))) h') : Ct E d 197 [.ref m, .int (jI z), .int (jI n), .int (jI k), .int (jI s), .int (jI w)] h Q := by
  obtain ⟨d, rfl⟩ : ∃ n, d = n + 1 := ⟨d - 1, by omega⟩
  have hT := ok.T
  have P := J.P
  have f : fz_169 E h m (jI z) 0 (jI n) (jI k) (jI s) = 0 ↔ _ := f169 (E := E) (c := 0) ok P hz (by omega) hn hk hs
  have g2 : fz_135 E h (jI w).toInt64 0 1 = 0 ↔ ¬ (0 ≤ w ∧ w ≤ 1) := f135 (a := 0) (b := 1) hw.1 hw.2 (by omega) (by omega) (by omega) (by omega)
  have no : ¬ (tp_pl t z 0 n k s ∧ (0 ≤ w ∧ w ≤ 1)) → Q (some (.int (-1))) h := fun c => by
    have := q h J MFr.rf
    unfold an_jumps at this
    rw [if_neg c] at this
    exact this
  refine ok_197 ⟨P.1.1, by omega, s169 P, fun c => no ?_, fun c => ⟨by omega, trivial, fun c2 => ?_, fun c2 => no ?_⟩⟩
  · rw [f] at c
    exact fun r => c r.1
  · rw [f, Classical.not_not] at c
    rw [g2, Classical.not_not] at c2
    unfold an_jumps at q
    rw [if_pos ⟨c, c2⟩] at q
    obtain ⟨z, c0, n, k, s, rfl, -, rfl, rfl, rfl, b1, b2, b3, b4, b5⟩ := pl_nat c
    simp only [Int.toNat_natCast] at q
    have A := P.1.a20
    have ub := tp_uJ_b ou z
    refine ⟨m + 10, A.1, A.ti, A.inn (by omega) (by omega), ?_⟩
    rw [jI_cln (by omega), P.2.2.2.2 z (by omega), show (-4 : Int32) = jI (-4) from rfl, jI_eq (by omega) (by omega) (by omega) (by omega), tp_uJ_n]
    refine ⟨fun cu => ?_, fun cu => ?_⟩
    · rw [if_pos cu] at q
      refine ct_182 (by omega) ok ou J.P J.L (fun h2 F2 L2 n2 => ?_)
      have J2 := J.ld F2 (fun a i e => by unfold tp_Sl tp_Sw at e; omega) L2
      have lt := tp_at_lt (dd := z) (c := 0) (by omega) (by omega) b3 b4 b5
      have hL := (L2 z 0 n k s (by omega) b1 (by omega) b3 b4 b5).2
      have q := q h2 J2 (F2.mf (fun a i e => by unfold tp_Sl tp_Sw at e; omega))
      refine ⟨rfl, nm_e ⟨J2.P.1.1, m + 12, J2.P.1.a28.1, by omega, trivial, J2.P.1.a28.ti, ?_, nm_r (e' := jI (jm_f t u z n k s 0 : Int)) ?_ ⟨22, l197 (by omega) ok hw J2.P L2 b1 b3 b4 b5 ?_ 21 0 (by omega)⟩⟩⟩
      · rw [show (0 : Int32) = jI ((0 : Nat) : Int) from rfl, fz175]; exact J2.P.1.a28.inn lt (by omega)
      · rw [show (0 : Int32) = jI ((0 : Nat) : Int) from rfl, fz175, jI_cln (by omega), hL]; rfl
      · have e1 : jm_d (jm_p t u z n k s) 21 0 = tp_cnt (jm_p t u z n k s) 21 := by
          have := jm_dc (jm_p t u z n k s) 21 0
          have e0 : tp_cnt (jm_p t u z n k s) 0 = 0 := rfl
          rw [show 0 + 21 = 21 from rfl] at this
          omega
        have e2 : jm_a (jm_f t u z n k s) 21 0 = jm_a (jm_f t u z n k s) 20 1 := by
          rw [jm_a, if_pos rfl]
        rw [e1, e2]
        exact q
    · rw [if_neg cu] at q
      exact q h J MFr.rf
  · rw [g2] at c2
    exact fun r => c2 (fun r' => r' r.2)
end OPH
