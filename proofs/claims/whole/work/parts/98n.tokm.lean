/-! TOKENS: the Model's -/
section TKM
variable {E : Nat → Nat} {h : ZH} {x m tn d : Nat} {tb : Nat → Int32} {Q : Option Value → ZH → Prop}
/-- the Model's tape and its tables -/
def MTp (h : ZH) (m tn : Nat) (tb : Nat → Int32) : Prop := MSh h m ∧ zI h m 1 = jI (tn : Int) ∧ (∀ i, i < tn → zI h (m + 1) i = tb i) ∧ MCs h m
/-- what the Model's reading may change -/
def mp_S (m : Nat) : Nat → Nat → Prop := fun a i => (a = m ∧ ((3 ≤ i ∧ i ≤ 8) ∨ (17 ≤ i ∧ i ≤ 19))) ∨ a = m + 9
def mt_S (m : Nat) : Nat → Nat → Prop := fun a i => a = m ∧ 3 ≤ i ∧ i ≤ 8
theorem mt_mp {h1 : ZH} (y : Fr (mt_S m) h h1) : Fr (mp_S m) h h1 := y.wd (fun a i q => by unfold mt_S at q; unfold mp_S; omega)
theorem MTp.fr {h1 : ZH} (M : MTp h m tn tb) (y : Fr (mp_S m) h h1) : MTp h1 m tn tb := ⟨M.1.fr y, by rw [y.I (by unfold mp_S; omega)]; exact M.2.1, fun i hi => by rw [y.I (by unfold mp_S; omega)]; exact M.2.2.1 i hi, fun j h2 h7 i hi => by rw [y.I (by unfold mp_S; omega)]; exact M.2.2.2 j h2 h7 i hi⟩
def mby (tb : Nat → Int32) (tn p : Nat) : Int := if tn ≤ p then -4 else (bt tb p : Int)
theorem s138 {p : Nat} (B : TpB tb) (M : MTp h m tn tb) (hn : tn ≤ 320) (hp : p ≤ tn) : sz_138 E h m (jI (p : Int)) ∧ fz_138 E h m (jI (p : Int)) = jI (mby tb tn p) := by
  have A := M.1.a0
  have l : (zI h m 1 ≤ jI (p : Int) ↔ tn ≤ p) := by rw [M.2.1]; exact jI_len (by omega) (by omega)
  refine ⟨⟨M.1.1, ⟨fun _ => trivial, fun c => ?_⟩, trivial⟩, ?_⟩
  · rw [l] at c
    rw [A.sub]
    exact ⟨A.ne, A.ti, A.inn (by omega) (by omega), trivial⟩
  · unfold fz_138 mby
    by_cases c : tn ≤ p
    · rw [if_pos (l.mpr c), if_pos c]; rfl
    · rw [if_neg (fun q => c (l.mp q)), if_neg c, A.sub, jI_cln (by omega), M.2.2.1 p (by omega)]
      exact (bt_of B p).1
theorem mby_b (B : TpB tb) (tn p : Nat) : -4 ≤ mby tb tn p ∧ mby tb tn p < 256 := by
  have := (bt_of B p).2
  unfold mby
  split <;> omega
theorem mby_A {p : Nat} : (97 ≤ mby tb tn p ∧ mby tb tn p ≤ 122) ↔ (p < tn ∧ isA tb p = true) := by
  unfold mby isA
  rw [decide_eq_true_iff]
  split <;> omega
theorem mby_D {p : Nat} : (48 ≤ mby tb tn p ∧ mby tb tn p ≤ 57) ↔ (p < tn ∧ isD tb p = true) := by
  unfold mby isD
  rw [decide_eq_true_iff]
  split <;> omega
theorem mtw_ff {q n : Nat} {w : List Nat} : ∀ (j i : Nat), mtw tb q n w i = false → mtw tb q n w (i + j) = false
  | 0, i, e => e
  | j + 1, i, e => by
    rw [← Nat.add_assoc, mtw, mtw_ff j i e, Bool.false_and]
theorem l140i {q e j : Nat} {L : Nat → Int32 → Int32 → Int32 → ZH → Prop} (hd : 1 ≤ d) (B : TpB tb) (M : MTp h m tn tb) (hn : tn ≤ 320) (hq : q ≤ e) (he : e ≤ tn) (hj : j < 22) (hl : (wd j).length = e - q) (k : wb_140_54 E d Q L m (jI (q : Int)) (jI (e : Int)) (jI (j : Int)) (if eqw tb q (e - q) (wd j) = true then 1 else 0) h) : ∀ (r i : Nat), i + r = e - q → wl_140_26 E d Q L (r + 1) m (jI (q : Int)) (jI (e : Int)) (jI (j : Int)) (if mtw tb q (e - q) (wd j) i = true then 1 else 0) (jI (i : Int)) h
  | r, i, hi => by
    have Wm := wd_M j hj
    have A9 := M.1.a9
    have A10 := M.1.a10
    have ee : jI (e : Int) - jI (q : Int) = jI ((e - q : Nat) : Int) := by rw [jI_sub, show (e : Int) - (q : Int) = ((e - q : Nat) : Int) by omega]
    rw [wl_140_26.eq_def]
    dsimp only
    refine ⟨fun c => ?_, fun c => ?_⟩
    · have mf : mtw tb q (e - q) (wd j) i = false := by
        cases hc : mtw tb q (e - q) (wd j) i
        · rfl
        · rw [hc, if_pos rfl] at c; exact absurd c (by decide)
      have : ¬ eqw tb q (e - q) (wd j) = true := fun z => by
        unfold eqw at z
        rw [Bool.and_eq_true, hl, show e - q = i + r by omega] at z
        have := mtw_ff (tb := tb) (q := q) (n := e - q) (w := wd j) r i mf
        rw [show e - q = i + r by omega] at this
        rw [this] at z
        exact absurd z.1 (by decide)
      rw [if_neg this] at k
      rw [if_neg (by rw [mf]; decide)]
      exact k
    · have mt : mtw tb q (e - q) (wd j) i = true := by
        cases hc : mtw tb q (e - q) (wd j) i
        · rw [hc, if_neg (by decide)] at c; exact absurd rfl c
        · rfl
      rw [ee, jI_len (by omega) (by omega)]
      refine ⟨fun ci => ?_, fun ci => ?_⟩
      · have i0 : i = e - q := by omega
        have : eqw tb q (e - q) (wd j) = true := by
          unfold eqw
          rw [Bool.and_eq_true, decide_eq_true_iff, hl, ← i0]
          exact ⟨by rw [← i0] at mt; exact mt, rfl⟩
        rw [if_pos this] at k
        rw [if_pos mt]
        exact k
      · obtain ⟨r, rfl⟩ : ∃ n, r = n + 1 := ⟨r - 1, by omega⟩
        have W := Wm.2.2 i (by omega)
        obtain ⟨s8, f8⟩ := s138 (E := E) (p := q + i) B M hn (by omega)
        have eqi : jI (q : Int) + jI (i : Int) = jI ((q + i : Nat) : Int) := by rw [jI_add]; rfl
        have c2 : zI h (m + 2) j = (mcs 2).getD j 0 := M.2.2.2 2 (by omega) (by omega) j (show j < 23 by omega)
        have c3 : zI h (m + 3) ((mcs 2).getD j 0 + jI (i : Int)).toNatClampNeg = jI ((wd j).getD i 0 : Int) := by
          rw [M.2.2.2 3 (by omega) (by omega) _ (show _ < 113 from W.1), W.2.2.1]
        refine ⟨M.1.1, hd, by rw [eqi]; exact s8, m + 3, A10.1, m + 2, A9.1, A9.ti, A9.inn (by omega) (by omega), A10.ti, ?_, nm_r (e' := if mtw tb q (e - q) (wd j) (i + 1) = true then (1 : Int32) else 0) ?_ (nm_r (e' := jI ((i + 1 : Nat) : Int)) ?_ (l140i hd B M hn hq he hj hl k r (i + 1) (by omega)))⟩
        · rw [jI_cln (by omega), c2]
          exact A10.inc W.2.1
        · rw [eqi, f8, jI_cln (by omega), c2, c3]
          have nb : mby tb tn (q + i) = (bt tb (q + i) : Int) := by unfold mby; rw [if_neg (by omega)]
          have bb := (bt_of B (q + i)).2
          rw [nb]
          have ie : jI (bt tb (q + i) : Int) = jI ((wd j).getD i 0 : Int) ↔ bt tb (q + i) = (wd j).getD i 0 := jI_eqn (by omega) (by have := W.2.2.2; omega)
          rw [mtw, mt, Bool.true_and]
          by_cases cc : bt tb (q + i) = (wd j).getD i 0
          · rw [if_neg (fun z => z (ie.mpr cc)), if_pos (by rw [Bool.and_eq_true, decide_eq_true_iff, decide_eq_true_iff]; exact ⟨by omega, cc⟩)]
          · rw [if_pos (fun z => cc (ie.mp z)), if_neg (by rw [Bool.and_eq_true, decide_eq_true_iff, decide_eq_true_iff]; exact fun z => cc z.2)]
        · rw [show (1 : Int32) = jI 1 from rfl, jI_add]; rfl
theorem l140 {q e : Nat} (hd : 1 ≤ d) (B : TpB tb) (M : MTp h m tn tb) (hn : tn ≤ 320) (hq : q ≤ e) (he : e ≤ tn) : ∀ (r j : Nat), j + r = 22 → Q (some (.int (jI (nmF tb q (e - q) r j)))) h → wl_140_2 E d Q (r + 1) m (jI (q : Int)) (jI (e : Int)) (jI (j : Int)) h
  | 0, j, hj, k => by
    rw [wl_140_2]
    refine ⟨fun _ => k, fun c => absurd ?_ c⟩
    rw [show (22 : Int32) = jI ((22 : Nat) : Int) from rfl, jI_len (by omega) (by omega)]
    omega
  | r + 1, j, hj, k => by
    have Wm := wd_M j (by omega)
    have A9 := M.1.a9
    have c2 : ∀ i, i < 23 → zI h (m + 2) i = (mcs 2).getD i 0 := fun i hi => M.2.2.2 2 (by omega) (by omega) i hi
    have ee : jI (e : Int) - jI (q : Int) = jI ((e - q : Nat) : Int) := by rw [jI_sub, show (e : Int) - (q : Int) = ((e - q : Nat) : Int) by omega]
    have ej : jI (j : Int) + 1 = jI ((j + 1 : Nat) : Int) := by rw [show (1 : Int32) = jI 1 from rfl, jI_add]; rfl
    have b54 : wb_140_54 E d Q (wl_140_2 E d Q (r + 1)) m (jI (q : Int)) (jI (e : Int)) (jI (j : Int)) (if eqw tb q (e - q) (wd j) = true then 1 else 0) h := by
      rw [nmF] at k
      refine ⟨fun c => ?_, fun c => ?_⟩
      · have ne : ¬ eqw tb q (e - q) (wd j) = true := fun z => by rw [if_pos z] at c; exact absurd c (by decide)
        rw [if_neg ne] at k
        rw [ej]
        exact nm_e (l140 hd B M hn hq he r (j + 1) (by omega) k)
      · have ne : eqw tb q (e - q) (wd j) = true := by
          cases z : eqw tb q (e - q) (wd j)
          · rw [z, if_neg (by decide)] at c; exact absurd rfl c
          · rfl
        rw [if_pos ne] at k
        exact k
    rw [wl_140_2]
    refine ⟨fun c => ?_, fun _ => ⟨M.1.1, m + 2, A9.1, A9.ti, by rw [ej]; exact A9.inn (by omega) (by omega), A9.inn (by omega) (by omega), nm_r (e' := if (wd j).length = e - q then (1 : Int32) else 0) ?_ ?_⟩⟩
    · exfalso
      rw [show (22 : Int32) = jI ((22 : Nat) : Int) from rfl, jI_len (by omega) (by omega)] at c
      omega
    · rw [ej, jI_cln (by omega), jI_cln (by omega), c2 _ (by omega), c2 _ (by omega), ee, Wm.1]
      have ie : jI ((e - q : Nat) : Int) = jI ((wd j).length : Int) ↔ (wd j).length = e - q := by rw [jI_eqn (by omega) (by have := Wm.2.1; omega)]; omega
      by_cases c : (wd j).length = e - q
      · rw [if_neg (fun z => z (ie.mpr c)), if_pos c]
      · rw [if_pos (fun z => c (ie.mp z)), if_neg c]
    · by_cases c : (wd j).length = e - q
      · rw [if_pos c]
        exact ⟨e - q + 1, l140i hd B M hn hq he (by omega) c b54 (e - q) 0 (by omega)⟩
      · rw [if_neg c]
        refine ⟨1, ?_⟩
        rw [wl_140_26]
        refine ⟨fun _ => ?_, fun z => absurd rfl z⟩
        have : ¬ eqw tb q (e - q) (wd j) = true := fun z => by
          unfold eqw at z
          rw [Bool.and_eq_true, decide_eq_true_iff] at z
          exact c z.2
        rw [if_neg this] at b54
        exact b54
theorem ct_140 {q e : Nat} (hd : 2 ≤ d) (B : TpB tb) (M : MTp h m tn tb) (hn : tn ≤ 320) (hq : q ≤ e) (he : e ≤ tn) (k : Q (some (.int (jI (nmw tb q (e - q))))) h) : Ct E d 140 [.ref m, .int (jI (q : Int)), .int (jI (e : Int))] h Q := by
  obtain ⟨d, rfl⟩ : ∃ n, d = n + 1 := ⟨d - 1, by omega⟩
  exact ok_140 ⟨23, l140 (by omega) B M hn hq he 22 0 (by omega) k⟩
def FlM (h : ZH) (m c pl : Nat) : Prop := zI h m 3 = jI (c : Int) ∧ zI h m 4 = jI (pl : Int)
theorem ct_139 {c pl : Nat} (hd : 1 ≤ d) (S : MSh h m) (f0 : zI h m 3 = 0) (i6 : zI h m 6 = jI (pl : Int)) (q : ∀ h', Fr (fun a i => a = m ∧ 3 ≤ i ∧ i ≤ 4) h h' → FlM h' m c pl → Q none h') : Ct E d 139 [.ref m, .int (jI (c : Int))] h Q := by
  obtain ⟨d, rfl⟩ : ∃ n, d = n + 1 := ⟨d - 1, by omega⟩
  refine ok_139 ⟨S.1, fun w => absurd f0 w, fun _ => nm_e (nm_e (q _ (Fr.uI (Fr.uI Fr.rf (by omega)) (by omega)) ⟨?_, ?_⟩))⟩
  · rw [zI_offi (by omega), zI_here]
  · rw [zI_here, zI_offi (by omega), i6]
theorem ct_139' {c : Int32} (hd : 1 ≤ d) (S : MSh h m) (f0 : ¬ zI h m 3 = 0) (q : Q none h) : Ct E d 139 [.ref m, .int c] h Q := by
  obtain ⟨d, rfl⟩ : ∃ n, d = n + 1 := ⟨d - 1, by omega⟩
  exact ok_139 ⟨S.1, fun _ => q, fun w => absurd f0 w⟩
end TKM
