/-! THE READER, the Model's: the page -/
theorem mcs_5 : ∀ k, k < 39 → (k < 16 ∨ (20 ≤ k ∧ k < 23) ∨ (30 ≤ k ∧ k < 39)) → (mcs 5).getD (rxN k) 0 = jI (tp_t0 k : Int) := by decide
section MDP
variable {E : Nat → Nat} {h h0 : ZH} {x m tn d r p n : Nat} {tb : Nat → Int32} {S : RdT} {A : Nat × Nat × Nat × RdT} {Q : Option Value → ZH → Prop}
theorem l149a {h1 : ZH} (S0 : MSh h1 m) (C : MCs h1 m) (q : ∀ h', Fr (fun a _ => a = m + 9) h1 h' → (∀ k, k < 28 → zI h' (m + 9) k = (mcs 5).getD k 0) → wb_149_32 E d Q m 0 h') : ∀ (r i : Nat) h, i + r = 28 → Fr (fun a _ => a = m + 9) h1 h → (∀ k, k < i → zI h (m + 9) k = (mcs 5).getD k 0) → wl_149_19 E d Q (r + 1) m 0 (jI (i : Int)) h
  | 0, i, h, e, F, D => by
    rw [wl_149_19]
    refine ⟨fun _ => q h F (fun k hk => D k (by omega)), fun w => absurd ?_ w⟩
    rw [show (28 : Int32) = jI ((28 : Nat) : Int) from rfl, jI_len (by omega) (by omega)]
    omega
  | r + 1, i, h, e, F, D => by
    have A16 := (S0.fr F).a16
    have A12 := (S0.fr F).a12
    rw [wl_149_19]
    refine ⟨fun w => ?_, fun _ => ⟨(S0.fr F).1, m + 9, A16.1, m + 5, A12.1, A12.ti, A12.inn (by omega) (by omega), A16.tg, A16.inn (by omega) (by omega), nm_r (e' := zuI h (m + 9) i ((mcs 5).getD i 0)) ?_ ?_⟩⟩
    · exfalso
      rw [show (28 : Int32) = jI ((28 : Nat) : Int) from rfl, jI_len (by omega) (by omega)] at w
      omega
    · rw [jI_cln (by omega), F.I (by omega), C 5 (by omega) (by omega) i (show i < 28 by omega)]
    · rw [i1_]
      refine nm_e (l149a S0 C q r (i + 1) _ (by omega) (Fr.uI F rfl) (fun k hk => ?_))
      by_cases c : k = i
      · rw [c, zI_here]
      · rw [zI_offi c]; exact D k (by omega)
theorem l149c {h1 : ZH} {a1 : Int32} (S0 : MSh h1 m) (q : ∀ h', Fr (fun a _ => a = m + 10) h1 h' → (∀ k, k < 20 → zI h' (m + 10) k = -4) → wb_149_86 E d Q m a1 h') : ∀ (r i : Nat) h, i + r = 20 → Fr (fun a _ => a = m + 10) h1 h → (∀ k, k < i → zI h (m + 10) k = -4) → wl_149_76 E d Q (r + 1) m a1 (jI (i : Int)) h
  | 0, i, h, e, F, D => by
    rw [wl_149_76]
    refine ⟨fun _ => q h F (fun k hk => D k (by omega)), fun w => absurd ?_ w⟩
    rw [show (20 : Int32) = jI ((20 : Nat) : Int) from rfl, jI_len (by omega) (by omega)]
    omega
  | r + 1, i, h, e, F, D => by
    have A20 := (S0.fr F).a20
    rw [wl_149_76]
    refine ⟨fun w => ?_, fun _ => ⟨(S0.fr F).1, m + 10, A20.1, A20.tg, A20.inn (by omega) (by omega), nm_r (e' := zuI h (m + 10) i (-4)) (by rw [jI_cln (by omega)]) ?_⟩⟩
    · exfalso
      rw [show (20 : Int32) = jI ((20 : Nat) : Int) from rfl, jI_len (by omega) (by omega)] at w
      omega
    · rw [i1_]
      refine nm_e (l149c S0 q r (i + 1) _ (by omega) (Fr.uI F rfl) (fun k hk => ?_))
      by_cases c : k = i
      · rw [c, zI_here]
      · rw [zI_offi c]; exact D k (by omega)
theorem l149b {h1 : ZH} {a1 : Int32} (S0 : MSh h1 m) (q : ∀ h', Fr (fun a _ => a = m + 8) h1 h' → (∀ k, k < 28 → zI h' (m + 8) k = zI h1 (m + 9) k) → wb_149_74 E d Q m a1 h') : ∀ (r i : Nat) h, i + r = 28 → Fr (fun a _ => a = m + 8) h1 h → (∀ k, k < i → zI h (m + 8) k = zI h1 (m + 9) k) → wl_149_61 E d Q (r + 1) m a1 (jI (i : Int)) h
  | 0, i, h, e, F, D => by
    rw [wl_149_61]
    refine ⟨fun _ => q h F (fun k hk => D k (by omega)), fun w => absurd ?_ w⟩
    rw [show (28 : Int32) = jI ((28 : Nat) : Int) from rfl, jI_len (by omega) (by omega)]
    omega
  | r + 1, i, h, e, F, D => by
    have A16 := (S0.fr F).a16
    have A15 := (S0.fr F).a15
    rw [wl_149_61]
    refine ⟨fun w => ?_, fun _ => ⟨(S0.fr F).1, m + 8, A15.1, m + 9, A16.1, A16.ti, A16.inn (by omega) (by omega), A15.tg, A15.inn (by omega) (by omega), nm_r (e' := zuI h (m + 8) i (zI h1 (m + 9) i)) ?_ ?_⟩⟩
    · exfalso
      rw [show (28 : Int32) = jI ((28 : Nat) : Int) from rfl, jI_len (by omega) (by omega)] at w
      omega
    · rw [jI_cln (by omega), F.I (by omega)]
    · rw [i1_]
      refine nm_e (l149b S0 q r (i + 1) _ (by omega) (Fr.uI F rfl) (fun k hk => ?_))
      by_cases c : k = i
      · rw [c, zI_here]
      · rw [zI_offi c]; exact D k (by omega)
/-- what the Model's page may change: without, with a page -/
def pf_S (m : Nat) : Nat → Nat → Prop := fun a i => (a = m ∧ ((1 ≤ i ∧ i ≤ 8) ∨ (17 ≤ i ∧ i ≤ 19))) ∨ a = m + 9
def pg_S (m : Nat) : Nat → Nat → Prop := fun a i => (a = m ∧ ((1 ≤ i ∧ i ≤ 8) ∨ (17 ≤ i ∧ i ≤ 19) ∨ i = 29 ∨ i = 36)) ∨ (m + 8 ≤ a ∧ a ≤ m + 10)
def EnMF (hs : ZH) (m : Nat) (A : Nat × Nat × Nat × RdT) (Q : Option Value → ZH → Prop) : Prop := ¬ A.1 = 0 → ∀ h', Fr (pf_S m) hs h' → zI h' m 1 = 0 → zI h' m 2 = jI (A.1 : Int) → Q (some (.int (-10 - jI (A.2.1 : Int)))) h'
def EnMS (hs : ZH) (m : Nat) (A : Nat × Nat × Nat × RdT) (Q : Option Value → ZH → Prop) : Prop := A.1 = 0 → RdK A.2.2.2 → A.2.2.2.1 = 17 → ∀ h', Fr (pg_S m) hs h' → zI h' m 1 = 0 → zI h' m 2 = 0 → zI h' m 29 = 0 → zI h' m 36 = 0 → (∀ k, okT k → zI h' (m + 8) (rxN k) = jI (A.2.2.2.2.2.2.2 k : Int)) → (∀ k, k < 20 → zI h' (m + 10) k = -4) → Q (some (.int (jI (A.2.2.1 : Int)))) h'
theorem mp_pf {h1 : ZH} (y : Fr (mp_S m) h h1) : Fr (pf_S m) h h1 := y.wd (fun a i q => by unfold mp_S at q; unfold pf_S; omega)
theorem b44F {hs : ZH} {a1 : Int32} (M0 : MTp h0 m tn tb) (Fs : Fr (pf_S m) hs h0) (G : MdF h0 h m A) (q : EnMF hs m A Q) : wb_149_44 E d Q m a1 h := by
  have F2 : Fr (pf_S m) hs (zuI (zuI h m 1 0) m 2 (zI h m 3)) := Fr.uI (Fr.uI (Fs.tr (mp_pf G.1)) (by unfold pf_S; omega)) (by unfold pf_S; omega)
  refine ⟨(M0.fr G.1).1.1, nm_e (nm_r (e' := zuI (zuI h m 1 0) m 2 (zI h m 3)) (by rw [zI_offi (by omega)]) ⟨fun w => ?_, fun _ => ?_⟩)⟩
  · exfalso
    rw [zI_offi (by omega), zI_offi (by omega), G.2.1.1, show (0 : Int32) = jI ((0 : Nat) : Int) from rfl, jI_len (by have := G.2.2.2; omega) (by omega)] at w
    have := G.2.2.1
    omega
  · rw [zI_offi (by omega), zI_offi (by omega), G.2.1.2]
    exact q G.2.2.1 _ F2 (by rw [zI_offi (by omega), zI_here]) (by rw [zI_here]; exact G.2.1.1)
theorem b44S {hs : ZH} (M0 : MTp h0 m tn tb) (Fs : Fr (pf_S m) hs h0) (N : MdN tb tn h0 h m r S p n A) (eA : A = (0, 0, n, S)) (s17 : S.1 = 17) (W : RdW h m S.2.2.2.1 S.2.2.2.2) (q : EnMS hs m A Q) : wb_149_44 E d Q m (jI (n : Int)) h := by
  have F2 : Fr (pf_S m) hs (zuI (zuI h m 1 0) m 2 (zI h m 3)) := Fr.uI (Fr.uI (Fs.tr (mp_pf N.1)) (by unfold pf_S; omega)) (by unfold pf_S; omega)
  have M := M0.fr N.1
  have F2' : Fr (fun a i => a = m ∧ (i = 1 ∨ i = 2)) h (zuI (zuI h m 1 0) m 2 (zI h m 3)) := Fr.uI (Fr.uI Fr.rf (by omega)) (by omega)
  have S2 : MSh (zuI (zuI h m 1 0) m 2 (zI h m 3)) m := M.1.fr F2'
  have i1 : zI (zuI (zuI h m 1 0) m 2 (zI h m 3)) m 1 = 0 := by rw [zI_offi (by omega), zI_here]
  have i2 : zI (zuI (zuI h m 1 0) m 2 (zI h m 3)) m 2 = 0 := by rw [zI_here]; exact N.2.1.1
  refine ⟨M.1.1, nm_e (nm_r (e' := zuI (zuI h m 1 0) m 2 (zI h m 3)) (by rw [zI_offi (by omega)]) ⟨fun w => ?_, fun w => absurd ?_ w⟩)⟩
  · refine ⟨29, l149b S2 (fun h3 F3 D3 => ⟨21, l149c (S2.fr F3) (fun h4 F4 D4 => ?_) 20 0 h3 (by omega) Fr.rf (fun k hk => absurd hk (by omega))⟩) 28 0 _ (by omega) Fr.rf (fun k hk => absurd hk (by omega))⟩
    have F5 : Fr (pg_S m) hs (zuI (zuI h4 m 36 0) m 29 0) := Fr.uI (Fr.uI (((F2.wd (fun a i z => by unfold pf_S at z; unfold pg_S; omega)).tr (F3.wd (fun a i z => by unfold pg_S; omega))).tr (F4.wd (fun a i z => by unfold pg_S; omega))) (by unfold pg_S; omega)) (by unfold pg_S; omega)
    have g : ∀ i, i ≠ 29 → i ≠ 36 → zI (zuI (zuI h4 m 36 0) m 29 0) m i = zI (zuI (zuI h m 1 0) m 2 (zI h m 3)) m i := fun i h1 h2 => by rw [zI_offi h1, zI_offi h2, F4.I (by omega), F3.I (by omega)]
    have K : RdK A.2.2.2 := by rw [eA]; exact N.2.2.2.1
    have rr : jI (n : Int) = jI (A.2.2.1 : Int) := by rw [eA]
    refine ⟨((S2.fr F3).fr F4).1, nm_e (nm_e ?_)⟩
    rw [rr]
    refine q (by rw [eA]) K (by rw [eA]; exact s17) _ F5 (by rw [g 1 (by omega) (by omega)]; exact i1) (by rw [g 2 (by omega) (by omega)]; exact i2) (zI_here _ _ _ _) (by rw [zI_offi (by omega), zI_here]) (fun k hk => ?_) (fun k hk => ?_)
    · rw [zI_offa (by omega), zI_offa (by omega), F4.I (by omega), D3 _ (rxN_b hk), F2'.I (by omega), eA]
      exact W.2.2.2 k hk
    · rw [zI_offa (by omega), zI_offa (by omega)]
      exact D4 k hk
  · rw [zI_offi (by omega), zI_offi (by omega), N.2.1.1]
    decide
theorem l149F {hs : ZH} {a1 : Int32} {f : Nat} (M0 : MTp h0 m tn tb) (Fs : Fr (pf_S m) hs h0) (G : MdF h0 h m A) (q : EnMF hs m A Q) : wl_149_34 E d Q (f + 1) m a1 h := by
  rw [wl_149_34]
  exact ⟨(M0.fr G.1).1.1, fun _ => b44F M0 Fs G q, fun w => absurd G.z w⟩
theorem l149 {hs : ZH} (hd : 6 ≤ d) (B : TpB tb) (hn : tn ≤ 320) (M0 : MTp h0 m tn tb) (Fs : Fr (pf_S m) hs h0) (qF : EnMF hs m A Q) (qS : EnMS hs m A Q) : ∀ (f r p n : Nat) (S : RdT) (h : ZH), r < f → S.1 = 17 → MdN tb tn h0 h m r S p n A → RdW h m S.2.2.2.1 S.2.2.2.2 → wl_149_34 E d Q f m (jI (n : Int)) h
  | 0, r, p, n, S, h, hr, s17, N, W => by omega
  | f + 1, r, p, n, S, h, hr, s17, N, W => by
    have O := tk_o tb N.2.2.2.2.1
    have rp : 0 < r := by have := N.2.2.2.2.1; have := N.2.2.2.2.2.1; omega
    have z7 : (zI h m 7 = 0 ↔ (tk tb tn p).1 = 4) := by
      have k0 := N.2.2.1
      rw [N.2.1.2.2.2.1, show (0 : Int32) = jI ((0 : Nat) : Int) from rfl, jI_eqn (by have := O.1; split <;> omega) (by omega)]
      split <;> omega
    rw [wl_149_34]
    refine ⟨(M0.fr N.1).1.1, fun w => absurd N.2.1.1 w, fun _ => ?_⟩
    rw [z7]
    refine ⟨fun c => ?_, fun c => ?_⟩
    · refine b44S M0 Fs N ?_ s17 W qS
      rw [← N.2.2.2.2.2.2]
      exact rdr_E N.2.2.2.2.2.1 N.2.2.2.2.1 c s17
    · refine ct_148 hd B hn M0 N s17 c W ⟨fun h' G => ⟨rfl, nm_e ?_⟩, fun h' r' p' S' lt s' N' W' => ⟨rfl, ?_⟩⟩
      · obtain ⟨f, rfl⟩ : ∃ n, f = n + 1 := ⟨f - 1, by omega⟩
        exact l149F M0 Fs G qF
      · rw [i1_]
        exact nm_e (l149 hd B hn M0 Fs qF qS f r' p' (n + 1) S' h' (by omega) s' N' W')
theorem ct_149 (hd : 7 ≤ d) (B : TpB tb) (hn : tn ≤ 320) (M : MTp h m tn tb) (eA : rdr tb tn (tn + 1) rd0 0 0 = A) (qF : EnMF h m A Q) (qS : EnMS h m A Q) : Ct E d 149 [.ref m] h Q := by
  obtain ⟨d, rfl⟩ : ∃ n, d = n + 1 := ⟨d - 1, by omega⟩
  refine ok_149 ⟨M.1.1, nm_e (nm_e (nm_e (nm_e (nm_e ?_))))⟩
  have F1 : Fr (mp_S m) h (zuI (zuI (zuI (zuI (zuI h m 3 0) m 5 0) m 17 0) m 18 0) m 19 0) := Fr.uI (Fr.uI (Fr.uI (Fr.uI (Fr.uI Fr.rf (by unfold mp_S; omega)) (by unfold mp_S; omega)) (by unfold mp_S; omega)) (by unfold mp_S; omega)) (by unfold mp_S; omega)
  have i3 : zI (zuI (zuI (zuI (zuI (zuI h m 3 0) m 5 0) m 17 0) m 18 0) m 19 0) m 3 = 0 := by rw [zI_offi (by omega), zI_offi (by omega), zI_offi (by omega), zI_offi (by omega), zI_here]
  have i5 : zI (zuI (zuI (zuI (zuI (zuI h m 3 0) m 5 0) m 17 0) m 18 0) m 19 0) m 5 = jI ((0 : Nat) : Int) := by rw [zI_offi (by omega), zI_offi (by omega), zI_offi (by omega), zI_here]; rfl
  have i17 : zI (zuI (zuI (zuI (zuI (zuI h m 3 0) m 5 0) m 17 0) m 18 0) m 19 0) m 17 = 0 := by rw [zI_offi (by omega), zI_offi (by omega), zI_here]
  have i18 : zI (zuI (zuI (zuI (zuI (zuI h m 3 0) m 5 0) m 17 0) m 18 0) m 19 0) m 18 = 0 := by rw [zI_offi (by omega), zI_here]
  have i19 : zI (zuI (zuI (zuI (zuI (zuI h m 3 0) m 5 0) m 17 0) m 18 0) m 19 0) m 19 = 0 := zI_here _ _ _ _
  generalize zuI (zuI (zuI (zuI (zuI h m 3 0) m 5 0) m 17 0) m 18 0) m 19 0 = h1 at F1 i3 i5 i17 i18 i19 ⊢
  have M1 := M.fr F1
  refine ⟨29, l149a M1.1 M1.2.2.2 (fun h2 F2 D2 => ?_) 28 0 h1 (by omega) Fr.rf (fun k hk => absurd hk (by omega))⟩
  have F3 : Fr (mp_S m) h h2 := F1.tr (F2.wd (fun a i z => by unfold mp_S; omega))
  have M2 := M.fr F3
  have W2 : RdW h2 m (fun _ => false) tp_t0 := by
    refine ⟨?_, ?_, ?_, fun k hk => ?_⟩
    · rw [F2.I (by omega), i17]; exact tol_0 17 (by omega)
    · rw [F2.I (by omega), i18]; exact tol_0 3 (by omega)
    · rw [F2.I (by omega), i19]; exact tol_0 3 (by omega)
    · rw [D2 _ (rxN_b hk)]
      exact mcs_5 k (by unfold okT at hk; omega) hk
  have j3 : zI h2 m 3 = 0 := by rw [F2.I (by omega)]; exact i3
  have j5 : zI h2 m 5 = jI ((0 : Nat) : Int) := by rw [F2.I (by omega)]; exact i5
  refine ⟨M2.1.1, ct_141 (p := 0) (by omega) B M2 hn (by omega) j3 j5 ⟨fun z h3 F4 G => ⟨rfl, ?_⟩, fun z h3 F4 T => ⟨rfl, ?_⟩⟩⟩
  · have f := rdr_F (tb := tb) (S := rd0) (n := 0) (r := tn + 1) (p := 0) (tn := tn) (by omega) (by omega) (fun q => by omega) (by rw [stp_0 _ z]; decide)
    rw [eA, stp_0 _ z] at f
    exact ⟨1, l149F M2 (mp_pf F3) ⟨mt_mp F4, by rw [f]; exact G, by rw [f]; exact Nat.one_ne_zero, by rw [f]; show 1 ≤ 4; omega⟩ qF⟩
  · exact ⟨tn + 2, l149 (by omega) B hn M2 (mp_pf F3) qF qS (tn + 2) (tn + 1) 0 0 rd0 h3 (by omega) rfl ⟨mt_mp F4, T, z, rdo_0, by omega, by omega, eA⟩ (W2.mt F4)⟩
end MDP
