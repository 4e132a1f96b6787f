/-! THE READER, the Model's: bodies of lines -/
theorem jand : ∀ a : Nat, a < 8 → ∀ w : Nat, w < 3 → ((jI (a : Int)) &&& ((1 : Int32) <<< ((jI (w : Int)) &&& 31)) = 0 ↔ ¬ a / 2 ^ w % 2 = 1) := by decide +kernel
section MDB
variable {E : Nat → Nat} {h h0 : ZH} {x m tn d r p n : Nat} {tb : Nat → Int32} {ln sl tm : Nat} {to : Nat → Bool} {t : Nat → Nat} {S : RdT} {k : TkT} {A : Nat × Nat × Nat × RdT} {Q : Option Value → ZH → Prop} {R : ZH → Prop}
theorem stp_e (k0 : ¬ k.1 = 0) (l17 : ¬ ln = 17) : stp (ln, slN ln, tm, to, t) k = stE (slN ln) tm to t k := by
  unfold stp
  dsimp only
  rw [if_neg k0, if_neg l17, if_pos rfl]
theorem stp_v (k0 : ¬ k.1 = 0) (l17 : ¬ ln = 17) (hs : ¬ sl = slN ln) (h8 : ¬ ln = 8) (h12 : ¬ ln = 12) (hw : ¬ (sl = 0 ∧ (ln = 14 ∨ ln = 15))) : stp (ln, sl, tm, to, t) k = stV ln sl tm to t k := by
  unfold stp
  dsimp only
  rw [if_neg k0, if_neg l17, if_neg hs, if_neg h8, if_neg h12, if_neg hw]
theorem stp_w (k0 : ¬ k.1 = 0) (hl : ln = 14 ∨ ln = 15) : stp (ln, 0, tm, to, t) k = stW ln tm to t k := by
  unfold stp
  dsimp only
  rw [if_neg k0, if_neg (by omega), if_neg (by rcases hl with rfl | rfl <;> decide), if_neg (by omega), if_neg (by omega), if_pos ⟨rfl, hl⟩]
theorem stp_m (k0 : ¬ k.1 = 0) : stp (8, 0, tm, to, t) k = stM 0 tm to t k := by
  unfold stp
  dsimp only
  rw [if_neg k0, if_neg (by omega), if_neg (by decide), if_pos rfl]
theorem stp_f (k0 : ¬ k.1 = 0) : stp (12, 0, tm, to, t) k = stF 0 tm to t k := by
  unfold stp
  dsimp only
  rw [if_neg k0, if_neg (by omega), if_neg (by decide), if_neg (by omega), if_pos rfl]
/-- a line is read -/
def LnK (tb : Nat → Int32) (tn : Nat) (h0 : ZH) (m r n : Nat) (A : Nat × Nat × Nat × RdT) (Q : Option Value → ZH → Prop) : Prop := (∀ h', MdF h0 h' m A → Q none h') ∧ ∀ h' r' p' S', r' < r → S'.1 = 17 → MdN tb tn h0 h' m r' S' p' (n + 1) A → RdW h' m S'.2.2.2.1 S'.2.2.2.2 → Q none h'
/-- a line's body is read -/
def BdK (tb : Nat → Int32) (tn : Nat) (h0 : ZH) (m r ln n : Nat) (A : Nat × Nat × Nat × RdT) (Q : Option Value → ZH → Prop) : Prop := (∀ h', MdF h0 h' m A → Q none h') ∧ ∀ h' r' p' tm' to' t', r' ≤ r → MdN tb tn h0 h' m r' (ln, slN ln, tm', to', t') p' n A → RdW h' m to' t' → Q none h'
theorem b124F (hd : 1 ≤ d) (M0 : MTp h0 m tn tb) (G : MdF h0 h m A) (q : ∀ h', MdF h0 h' m A → Q none h') : wb_148_124 E d Q m h := ⟨(M0.fr G.1).1.1, F141 hd M0 G ⟨rfl, q h G⟩⟩
theorem b114F (hd : 1 ≤ d) (M0 : MTp h0 m tn tb) (G : MdF h0 h m A) (q : ∀ h', MdF h0 h' m A → Q none h') : wb_148_114 E d Q m h := ⟨(M0.fr G.1).1.1, fun _ => b124F hd M0 G q, fun w => absurd G.z w⟩
theorem b114N {r0 : Nat} (hd : 3 ≤ d) (B : TpB tb) (hn : tn ≤ 320) (M0 : MTp h0 m tn tb) (hl : ln < 17) (N : MdN tb tn h0 h m r (ln, slN ln, tm, to, t) p n A) (W : RdW h m to t) (hr0 : r ≤ r0) (q : LnK tb tn h0 m r0 n A Q) : wb_148_114 E d Q m h := by
  have N' := N
  obtain ⟨F, T, k0, K, hp, hr, eA⟩ := N
  have s := (M0.fr F).1.1
  have O := tk_o tb hp
  have es := stp_e (ln := ln) (tm := tm) (to := to) (t := t) (k := tk tb tn p) k0 (by omega)
  unfold stE at es
  have z7 : (zI h m 7 = 3 ↔ (tk tb tn p).1 = 3) := by
    rw [T.2.2.2.1, show (3 : Int32) = jI ((3 : Nat) : Int) from rfl, jI_eqn (by have := O.1; split <;> omega) (by omega)]
    split <;> omega
  refine ⟨s, fun w => absurd T.1 w, fun _ => ?_⟩
  rw [z7]
  refine ⟨fun c => ?_, fun c => ?_⟩
  · rw [if_neg (fun w => w c)] at es
    exact ⟨s, N141 hd B hn M0 N' (by omega) es (by rw [if_pos c]) W (fun h' G => ⟨rfl, q.1 h' G⟩) (fun h' p' lt N2 W2 => ⟨rfl, q.2 h' (r - 1) p' _ (by omega) rfl N2 W2⟩)⟩
  · rw [if_pos c] at es
    exact N139 (c := 2) (by omega) M0 N' (fun z => absurd (show ln = 17 from z.2) (by omega)) (by rw [es]) (by omega) (fun h' G => ⟨rfl, b124F (by omega) M0 G q.1⟩)
/-- a number that is a term -/
theorem FNum {a b idx : Int32} {ix : Nat} (hd : 1 ≤ d) (M0 : MTp h0 m tn tb) (G : MdF h0 h m A) (z : zin idx 28 = true) (RF : ∀ h', MdF h0 h' m A → R h') : Ct E d 142 [.ref m, .int a, .int b] h (fun v h16 => ∃ x17 : Int32, v = some (.int x17) ∧ ztag h16 (m + 9) = 13 ∧ zin idx (zlen h16 (m + 9)) = true ∧ ∀ h19 : ZH, h19 = (zuI h16 (m + 9) ix x17) → ztag h19 m = 11 ∧ Ct E d 141 [.ref m] h19 (fun v h21 => v = none ∧ R h21)) := by
  have A16 := (M0.fr G.1).1.a16
  exact F142 hd M0 G ⟨_, rfl, A16.tg, A16.inc z, nm_e ⟨(M0.fr G.1).1.1, F141 hd M0 G.u9 ⟨rfl, RF _ G.u9⟩⟩⟩
theorem NNum {lo hi : Nat} {idx : Int32} {ix : Nat} (hd : 3 ≤ d) (B : TpB tb) (hn : tn ≤ 320) (M0 : MTp h0 m tn tb) (hl : ln < 17) (h8 : ¬ ln = 8) (h12 : ¬ ln = 12) (h15 : ¬ ln = 15) (hs : ¬ sl = slN ln) (hw : ¬ (sl = 0 ∧ ln = 14)) (N : MdN tb tn h0 h m r (ln, sl, tm, to, t) p n A) (W : RdW h m to t) (elo : lo = if ln = 3 ∧ sl = 1 then t 3 else loN ln) (ehi : hi = hiN ln) (blo : lo ≤ 1000) (hT : okT tm) (e1 : idx = jI (rxN tm : Int)) (e2 : ix = rxN tm) (RF : ∀ h', MdF h0 h' m A → R h') (RS : ∀ h' p' v, MdN tb tn h0 h' m (r - 1) (ln, sl + 1, tm + 1, to, upt t tm v) p' n A → RdW h' m to (upt t tm v) → R h') : Ct E d 142 [.ref m, .int (jI (lo : Int)), .int (jI (hi : Int))] h (fun v h16 => ∃ x17 : Int32, v = some (.int x17) ∧ ztag h16 (m + 9) = 13 ∧ zin idx (zlen h16 (m + 9)) = true ∧ ∀ h19 : ZH, h19 = (zuI h16 (m + 9) ix x17) → ztag h19 m = 11 ∧ Ct E d 141 [.ref m] h19 (fun v h21 => v = none ∧ R h21)) := by
  have hb := rxN_b hT
  have bhi : hi ≤ 1000 := by
    have : ∀ l, l < 17 → hiN l ≤ 1000 := by decide
    rw [ehi]
    exact this ln hl
  have es := stp_v (ln := ln) (sl := sl) (tm := tm) (to := to) (t := t) (k := tk tb tn p) N.2.2.1 (by omega) hs h8 h12 (fun z => z.2.elim (fun q => hw ⟨z.1, q⟩) h15)
  unfold stV at es
  rw [← elo, ← ehi] at es
  have zi : zin idx 28 = true := by rw [e1]; exact zin_j (by omega) (by omega) (by omega)
  refine N142 (by omega) M0 blo bhi N (fun z => absurd (show ln = 17 from z) (by omega)) (fun c => by rw [es, if_pos c]) (fun c c' => by rw [es, if_neg (fun w => w c), if_pos c']) (fun h' G => ?_) (fun v c hv l1 l2 => ?_)
  · have A16 := (M0.fr G.1).1.a16
    exact ⟨_, rfl, A16.tg, A16.inc zi, nm_e ⟨(M0.fr G.1).1.1, F141 (by omega) M0 G.u9 ⟨rfl, RF _ G.u9⟩⟩⟩
  · have A16 := (M0.fr N.1).1.a16
    rw [if_neg (fun w => w c), hv, Int.toNat_natCast, if_neg (show ¬ (v < lo ∨ hi < v) by omega), if_neg (fun w => h15 w.1)] at es
    refine ⟨_, rfl, A16.tg, A16.inc zi, nm_e ⟨(M0.fr N.1).1.1, ?_⟩⟩
    rw [e2]
    exact N141 hd B hn M0 N.u9 (by omega) es (by rw [if_neg (by omega)]; rfl) (W.up hT) (fun h' G => ⟨rfl, RF h' G⟩) (fun h' p' lt N2 W2 => ⟨rfl, RS h' p' v N2 W2⟩)
theorem ct_144F (hd : 2 ≤ d) (M0 : MTp h0 m tn tb) (G : MdF h0 h m A) (q : ∀ h', MdF h0 h' m A → Q none h') : Ct E d 144 [.ref m] h Q := by
  obtain ⟨d, rfl⟩ : ∃ n, d = n + 1 := ⟨d - 1, by omega⟩
  have A16 := (M0.fr G.1).1.a16
  refine ok_144 ⟨(M0.fr G.1).1.1, m + 9, A16.1, FNum (by omega) M0 G (by decide) (fun h1 G1 => ?_)⟩
  have A17 := (M0.fr G1.1).1.a16
  exact ⟨(M0.fr G1.1).1.1, m + 9, A17.1, A17.ti, A17.inc (by decide), FNum (by omega) M0 G1 (by decide) q⟩
theorem ct_144N (hd : 4 ≤ d) (B : TpB tb) (hn : tn ≤ 320) (M0 : MTp h0 m tn tb) (N : MdN tb tn h0 h m r (3, 0, 3, to, t) p n A) (W : RdW h m to t) (q : BdK tb tn h0 m r 3 n A Q) : Ct E d 144 [.ref m] h Q := by
  obtain ⟨d, rfl⟩ : ∃ n, d = n + 1 := ⟨d - 1, by omega⟩
  have A16 := (M0.fr N.1).1.a16
  refine ok_144 ⟨(M0.fr N.1).1.1, m + 9, A16.1, NNum (lo := 0) (hi := 4) (by omega) B hn M0 (by omega) (by omega) (by omega) (by omega) (by decide) (by omega) N W rfl rfl (by omega) (by unfold okT; omega) rfl rfl (fun h1 G1 => ?_) (fun h1 p1 v N1 W1 => ?_)⟩
  · have A17 := (M0.fr G1.1).1.a16
    exact ⟨(M0.fr G1.1).1.1, m + 9, A17.1, A17.ti, A17.inc (by decide), FNum (by omega) M0 G1 (by decide) q.1⟩
  · have A17 := (M0.fr N1.1).1.a16
    refine ⟨(M0.fr N1.1).1.1, m + 9, A17.1, A17.ti, A17.inc (by decide), ?_⟩
    have e3 : zI h1 (m + 9) 3 = jI ((upt t 3 v 3 : Nat) : Int) := W1.2.2.2 3 (by unfold okT; omega)
    have b3 : upt t 3 v 3 ≤ 100 := rdo_b N1.2.2.2.1 (show 3 < 39 by omega)
    rw [e3]
    refine NNum (lo := upt t 3 v 3) (hi := 4) (by omega) B hn M0 (by omega) (by omega) (by omega) (by omega) (by decide) (by omega) N1 W1 rfl rfl (by omega) (by unfold okT; omega) rfl rfl q.1 (fun h2 p2 v2 N2 W2 => q.2 h2 (r - 1 - 1) p2 _ _ _ (by omega) N2 W2)
theorem b145F {a : Int32} (hd : 1 ≤ d) (M0 : MTp h0 m tn tb) (G : MdF h0 h m A) (q : ∀ h', MdF h0 h' m A → Q none h') : wb_145_26 E d Q m a h := by
  have A16 := (M0.fr G.1).1.a16
  exact ⟨(M0.fr G.1).1.1, m + 9, A16.1, A16.ti, A16.inc (by decide), A16.tg, A16.inc (by decide), nm_e (F141 hd M0 G.u9 ⟨rfl, q _ G.u9⟩)⟩
theorem ct_145F (hd : 2 ≤ d) (M0 : MTp h0 m tn tb) (G : MdF h0 h m A) (q : ∀ h', MdF h0 h' m A → Q none h') : Ct E d 145 [.ref m] h Q := by
  obtain ⟨d, rfl⟩ : ∃ n, d = n + 1 := ⟨d - 1, by omega⟩
  have A16 := (M0.fr G.1).1.a16
  exact ok_145 ⟨(M0.fr G.1).1.1, F143 (by omega) M0 G ⟨rfl, (M0.fr G.1).1.1, nm_e ⟨m + 9, A16.1, A16.ti, A16.inc (by decide), fun _ => b145F (by omega) M0 G q, fun _ => ct_139' (by omega) (M0.fr G.1).1 G.z ⟨rfl, b145F (by omega) M0 G q⟩⟩⟩⟩
theorem ct_145N (hd : 4 ≤ d) (B : TpB tb) (hn : tn ≤ 320) (M0 : MTp h0 m tn tb) (N : MdN tb tn h0 h m r (12, 0, tm, to, t) p n A) (W : RdW h m to t) (q : BdK tb tn h0 m r 12 n A Q) : Ct E d 145 [.ref m] h Q := by
  obtain ⟨d, rfl⟩ : ∃ n, d = n + 1 := ⟨d - 1, by omega⟩
  have es := stp_f (tm := tm) (to := to) (t := t) (k := tk tb tn p) N.2.2.1
  unfold stF at es
  have K : RdO 12 0 tm to t := N.2.2.2.1
  refine ok_145 ⟨(M0.fr N.1).1.1, N143 (lo := 19) (hi := 21) (by omega) M0 (by omega) (by omega) N (by show ¬ 12 = 17; omega) (fun c => by rw [es, if_pos c]) (fun h' G => ?_) (fun v c hv l1 l2 e8 => ?_)⟩
  · have A16 := (M0.fr G.1).1.a16
    exact ⟨rfl, (M0.fr G.1).1.1, nm_e ⟨m + 9, A16.1, A16.ti, A16.inc (by decide), fun _ => b145F (by omega) M0 G q.1, fun _ => ct_139' (by omega) (M0.fr G.1).1 G.z ⟨rfl, b145F (by omega) M0 G q.1⟩⟩⟩
  · have A16 := (M0.fr N.1).1.a16
    have t13 : zI h (m + 9) 13 = jI (t 13 : Int) := W.2.2.2 13 (by unfold okT; omega)
    have b13 : t 13 ≤ 7 := (K.2.2.2.2.2.1 13 (by omega)).2
    rw [if_neg (by rw [hv, Int.toNat_natCast]; omega), hv, Int.toNat_natCast] at es
    refine ⟨rfl, (M0.fr N.1).1.1, nm_r (e' := (1 : Int32) <<< ((jI ((v - 19 : Nat) : Int)) &&& 31)) ?_ ⟨m + 9, A16.1, A16.ti, A16.inc (by decide), ?_⟩⟩
    · rw [if_neg (fun w => w N.2.1.1), e8, show (19 : Int32) = jI 19 from rfl, jI_sub, show (v : Int) - 19 = ((v - 19 : Nat) : Int) by omega]
    rw [t13, jand (t 13) (by omega) (v - 19) (by omega), K.2.2.2.2.2.2.2.2 (v - 19) (by omega), show 23 + (v - 19) = 4 + v by omega]
    refine ⟨fun c4 => ?_, fun c4 => ?_⟩
    · rw [if_neg c4] at es
      have nb : ¬ t 13 / 2 ^ (v - 19) % 2 = 1 := fun z => c4 (by rw [show 4 + v = 23 + (v - 19) by omega]; exact (K.2.2.2.2.2.2.2.2 (v - 19) (by omega)).mp z)
      refine ⟨(M0.fr N.1).1.1, m + 9, A16.1, A16.ti, A16.inc (by decide), A16.tg, A16.inc (by decide), nm_r (e' := zuI h (m + 9) (rxN 13) (jI ((t 13 + 2 ^ (v - 19) : Nat) : Int))) ?_ ?_⟩
      · rw [t13, jor (t 13) (by omega) (v - 19) (by omega) nb]; rfl
      · exact N141 (by omega) B hn M0 N.u9 (by omega) es (by rw [if_neg (by omega)]; rfl) ((W.up (by unfold okT; omega)).m23 (by omega)) (fun h' G => ⟨rfl, q.1 h' G⟩) (fun h' p' lt N2 W2 => ⟨rfl, q.2 h' (r - 1) p' _ _ _ (by omega) N2 W2⟩)
    · rw [Classical.not_not] at c4
      rw [if_pos c4] at es
      exact N139 (c := 4) (by omega) M0 N (by show ¬ (_ ∧ 12 = 17); omega) (by rw [es]) (by omega) (fun h' G => ⟨rfl, b145F (by omega) M0 G q.1⟩)
theorem b146F {s : Nat} (hd : 2 ≤ d) (hs : s ≤ 2) (M0 : MTp h0 m tn tb) (G : MdF h0 h m A) (q : ∀ h', MdF h0 h' m A → Q none h') : wb_146_19 E d Q m (jI (s : Int)) h := by
  have G1 := G.um (i := 18) (v := zI h m 18 ||| ((1 : Int32) <<< (jI (s : Int) &&& 31))) (by omega) (by omega)
  have A16 := (M0.fr G1.1).1.a16
  refine ⟨(M0.fr G.1).1.1, nm_e (F141 (by omega) M0 G1 ⟨rfl, (M0.fr G.1).1.1, m + 9, A16.1, FNum (by omega) M0 G1 ?_ q⟩)⟩
  rw [show (16 : Int32) = jI 16 from rfl, jI_add]
  exact zin_j (by omega) (by omega) (by omega)
theorem ct_146F (hd : 3 ≤ d) (M0 : MTp h0 m tn tb) (G : MdF h0 h m A) (q : ∀ h', MdF h0 h' m A → Q none h') : Ct E d 146 [.ref m] h Q := by
  obtain ⟨d, rfl⟩ : ∃ n, d = n + 1 := ⟨d - 1, by omega⟩
  exact ok_146 ⟨(M0.fr G.1).1.1, F142 (by omega) M0 G ⟨_, rfl, (M0.fr G.1).1.1, fun _ => b146F (s := 0) (by omega) (by omega) M0 G q, fun w => absurd G.z w⟩⟩
theorem ct_146N (hd : 4 ≤ d) (B : TpB tb) (hn : tn ≤ 320) (M0 : MTp h0 m tn tb) (N : MdN tb tn h0 h m r (14, 0, 20, to, t) p n A) (W : RdW h m to t) (q : BdK tb tn h0 m r 14 n A Q) : Ct E d 146 [.ref m] h Q := by
  obtain ⟨d, rfl⟩ : ∃ n, d = n + 1 := ⟨d - 1, by omega⟩
  have es := stp_w (ln := 14) (tm := 20) (to := to) (t := t) (k := tk tb tn p) N.2.2.1 (by omega)
  unfold stW at es
  rw [if_pos rfl, if_pos rfl] at es
  refine ok_146 ⟨(M0.fr N.1).1.1, N142 (lo := 0) (hi := 2) (by omega) M0 (by omega) (by omega) N (by show ¬ 14 = 17; omega) (fun c => by rw [es, if_pos c]) (fun c c' => by rw [es, if_neg (fun w => w c), if_pos (by omega)]) (fun h' G => ?_) (fun v c hv l1 l2 => ?_)⟩
  · exact ⟨_, rfl, (M0.fr G.1).1.1, fun _ => b146F (s := 0) (by omega) (by omega) M0 G q.1, fun w => absurd G.z w⟩
  · rw [if_neg (fun w => w c), hv, Int.toNat_natCast, if_neg (by omega)] at es
    have tl : ((zI h m 18 >>> (jI (v : Int) &&& 31)) &&& 1 = 1 ↔ to (17 + v) = true) := W.2.1 v (by omega)
    refine ⟨_, rfl, (M0.fr N.1).1.1, fun w => absurd N.2.1.1 w, fun _ => ?_⟩
    rw [tl]
    refine ⟨fun c4 => ?_, fun c4 => ?_⟩
    · rw [if_neg c4] at es
      refine ⟨(M0.fr N.1).1.1, nm_e (N141 (by omega) B hn M0 (N.um (by omega) (by omega)) (by omega) es (by rw [if_neg (by omega)]) (W.m18 (by omega)) (fun h' G => ⟨rfl, ?_⟩) (fun h' p' lt N2 W2 => ⟨rfl, ?_⟩))⟩
      · have A16 := (M0.fr G.1).1.a16
        refine ⟨(M0.fr G.1).1.1, m + 9, A16.1, FNum (by omega) M0 G ?_ q.1⟩
        rw [show (16 : Int32) = jI 16 from rfl, jI_add]
        exact zin_j (by omega) (by omega) (by omega)
      · have A16 := (M0.fr N2.1).1.a16
        have rx : rxN (20 + 1 * v) = 16 + v := by
          unfold rxN
          rw [if_neg (by omega), if_pos (by omega)]
          omega
        have ei : (16 : Int32) + jI (v : Int) = jI (rxN (20 + 1 * v) : Int) := by
          rw [rx, show (16 : Int32) = jI 16 from rfl, jI_add]; rfl
        refine ⟨(M0.fr N2.1).1.1, m + 9, A16.1, NNum (lo := 1) (hi := 60) (by omega) B hn M0 (by omega) (by omega) (by omega) (by omega) (by decide) (by omega) N2 W2 rfl rfl (by omega) (by unfold okT; omega) ei ?_ q.1 (fun h3 p3 v3 N3 W3 => q.2 h3 (r - 1 - 1) p3 _ _ _ (by omega) N3 W3)⟩
        rw [ei, jI_cln (by rw [rx]; omega)]
    · rw [Classical.not_not] at c4
      rw [if_pos c4] at es
      exact N139 (c := 4) (by omega) M0 N (by show ¬ (_ ∧ 14 = 17); omega) (by rw [es]) (by omega) (fun h' G => ⟨rfl, b146F (by omega) (by omega) M0 G q.1⟩)
end MDB
