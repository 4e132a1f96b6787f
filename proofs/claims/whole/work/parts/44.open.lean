/-! THE CLASS'S BEST: prepare, begin, open -/
section BOP
variable {E : Nat → Nat} {b p ac g : Nat} {t u : Nat → Nat} {pr : Nat → Nat → Nat}
theorem BNm.st {h h' : ZH} (N : BNm h b ac g) (M : BMn h h' b ac t) (h9 : zI h' b 9 = zI h b 9) (h10 : zI h' b 10 = zI h b 10) : BNm h' b ac g := by
  obtain ⟨n0, n9, n10, n7, n8, n2⟩ := N
  refine ⟨n0, by rw [h9]; exact n9, by rw [h10]; exact n10, by rw [M.2.1.1]; exact n7, by rw [M.2.1.2]; exact n8, fun i hi => ?_⟩
  rcases M.2.2 i with q | q | q
  · rw [q]; exact n2 i hi
  · rw [q]; exact n7
  · rw [q]; exact n8
/-- a Best that serves a page -/
def BAl (h : ZH) (b p ac g : Nat) (t u : Nat → Nat) (pr : Nat → Nat → Nat) : Prop := BSh h b ∧ BPr h b p t pr ∧ BOk h b t u pr ac ∧ BNm h b ac g
/-- what a Best may change when a page's places are settled -/
def tp_S9 (b : Nat) : Nat → Nat → Prop := fun a i => (b + 1 ≤ a ∧ a ≤ b + 2) ∨ (b + 7 ≤ a ∧ a ≤ b + 26) ∨ (a = b ∧ 8 ≤ i ∧ i ≤ 11)
theorem BS9_10 {dd : Nat} : ∀ a i, tp_S10 b dd a i → tp_S9 b a i := fun a i h => by
  unfold tp_S10 at h
  unfold tp_S9
  omega
theorem BAl.settled {h h' : ZH} {dd c m k : Nat} (x : BAl h b p ac g t u pr) (y : BP10 h h' b ac t u pr dd c m k) : BAl h' b p ac g t u pr := by
  obtain ⟨B, R, O, N⟩ := x
  obtain ⟨F, O', M, -⟩ := y
  exact ⟨B.fr F, R.fr F (fun a i ha hb => by unfold tp_S10; omega), O', N.st M (F.I (by unfold tp_S10; omega)) (F.I (by unfold tp_S10; omega))⟩
/-- prepare: the place is settled; where MADE and CREDIT are both there, that credit is the one at hand -/
theorem ct_9 {d : Nat} {h : ZH} {dd c m k : Nat} {Q : Option Value → ZH → Prop} (ok : tp_Ok t) (ou : tp_Ou u) (hpr : tp_Pr pr) (hpb : p + 6 < b) (hdd : dd < tp_T t) (hd : 40 ≤ d) (hg : g + 1 < 1000000) (P : PgR h p t u) (A : BAl h b p ac g t u pr) (hc : c ≤ 20) (hm : m ≤ 12) (hk : k ≤ 8) (kQ : ∀ h' ac' g', Fr (tp_S9 b) h h' → BAl h' b p ac' g' t u pr → tp_V ac' c m k → BSd h' b dd c m k → g ≤ g' → g' ≤ g + 1 → ((m = 0 ∨ k = 0 ∨ k = ac) → g' = g ∧ ac' = ac) → Q none h') : Ct E d 9 [.ref b, .int (jI (dd : Int)), .int (jI (c : Int)), .int (jI (m : Int)), .int (jI (k : Int))] h Q := by
  obtain ⟨d, rfl⟩ : ∃ n, d = n + 1 := ⟨d - 1, by omega⟩
  have hT := ok.T
  refine ok_9 ?_
  have fin : ∀ h1 ac' g', Fr (tp_S9 b) h h1 → BAl h1 b p ac' g' t u pr → tp_V ac' c m k → g ≤ g' → g' ≤ g + 1 → ((m = 0 ∨ k = 0 ∨ k = ac) → g' = g ∧ ac' = ac) → wb_9_21 E d Q b (jI (dd : Int)) (jI (c : Int)) (jI (m : Int)) (jI (k : Int)) h1 := by
    intro h1 ac' g' F1 A1 V1 g1 g2 g3
    have P1 : PgR h1 p t u := P.fr F1 (fun a i ha hb => by unfold tp_S9; omega)
    refine Ct.mono (ct_10 ok ou hpr hpb (tp_T t - dd) dd d h1 c m k (by omega) (by omega) P1 A1.1 A1.2.1 A1.2.2.1 V1) ?_
    rintro v h2 ⟨rfl, y⟩
    exact ⟨rfl, kQ h2 ac' g' (F1.tr (y.1.wd BS9_10)) (A1.settled y) V1 (y.2.2.2 hdd) g1 g2 g3⟩
  have A' := A
  obtain ⟨B, R, O, n0, n9, n10, n7, n8, n2⟩ := A
  unfold w_9
  rw [show (0 : Int32) = jI ((0 : Nat) : Int) from rfl]
  refine ⟨fun q => ?_, fun q1 => ⟨fun q => ?_, fun q2 => ⟨B.1, fun q => ?_, fun q3 => nm_r (e' := zuI h b 10 (jI ((g + 1 : Nat) : Int))) (by rw [n10, show (1 : Int32) = jI 1 from rfl, jI_add]; rfl) (nm_r (e' := zuI (zuI h b 10 (jI ((g + 1 : Nat) : Int))) b 8 (jI ((g + 1 : Nat) : Int))) (by rw [zI_here]) (nm_e ?_))⟩⟩⟩
  · rw [jI_len (by omega) (by omega)] at q
    exact fin h ac g Fr.rf A' ⟨hc, hm, hk, by omega⟩ (by omega) (by omega) (fun _ => ⟨rfl, rfl⟩)
  · rw [jI_len (by omega) (by omega)] at q
    exact fin h ac g Fr.rf A' ⟨hc, hm, hk, by omega⟩ (by omega) (by omega) (fun _ => ⟨rfl, rfl⟩)
  · rw [n9] at q
    rw [jI_eqn (by omega) (by omega)] at q
    exact fin h ac g Fr.rf A' ⟨hc, hm, hk, by omega⟩ (by omega) (by omega) (fun _ => ⟨rfl, rfl⟩)
  · rw [jI_len (by omega) (by omega)] at q1 q2
    have F1 : Fr (tp_S9 b) h (zuI (zuI (zuI h b 10 (jI ((g + 1 : Nat) : Int))) b 8 (jI ((g + 1 : Nat) : Int))) b 9 (jI (k : Int))) := Fr.uI (Fr.uI (Fr.uI Fr.rf (by unfold tp_S9; omega)) (by unfold tp_S9; omega)) (by unfold tp_S9; omega)
    have i7 : zI (zuI (zuI (zuI h b 10 (jI ((g + 1 : Nat) : Int))) b 8 (jI ((g + 1 : Nat) : Int))) b 9 (jI (k : Int))) b 7 = zI h b 7 := by rw [zI_offi (by omega), zI_offi (by omega), zI_offi (by omega)]
    have i8 : zI (zuI (zuI (zuI h b 10 (jI ((g + 1 : Nat) : Int))) b 8 (jI ((g + 1 : Nat) : Int))) b 9 (jI (k : Int))) b 8 = jI ((g + 1 : Nat) : Int) := by rw [zI_offi (by omega), zI_here]
    have i9 : zI (zuI (zuI (zuI h b 10 (jI ((g + 1 : Nat) : Int))) b 8 (jI ((g + 1 : Nat) : Int))) b 9 (jI (k : Int))) b 9 = jI (k : Int) := by rw [zI_here]
    have i10 : zI (zuI (zuI (zuI h b 10 (jI ((g + 1 : Nat) : Int))) b 8 (jI ((g + 1 : Nat) : Int))) b 9 (jI (k : Int))) b 10 = jI ((g + 1 : Nat) : Int) := by rw [zI_offi (by omega), zI_offi (by omega), zI_here]
    have i2 : ∀ i, zI (zuI (zuI (zuI h b 10 (jI ((g + 1 : Nat) : Int))) b 8 (jI ((g + 1 : Nat) : Int))) b 9 (jI (k : Int))) (b + 2) i = zI h (b + 2) i := fun i => by rw [zI_offa (by omega), zI_offa (by omega), zI_offa (by omega)]
    have l1 : ∀ i, zL (zuI (zuI (zuI h b 10 (jI ((g + 1 : Nat) : Int))) b 8 (jI ((g + 1 : Nat) : Int))) b 9 (jI (k : Int))) (b + 1) i = zL h (b + 1) i := fun i => rfl
    generalize zuI (zuI (zuI h b 10 (jI ((g + 1 : Nat) : Int))) b 8 (jI ((g + 1 : Nat) : Int))) b 9 (jI (k : Int)) = h1 at F1 i7 i8 i9 i10 i2 l1 ⊢
    -- nothing bears the new stamp yet
    have own : ∀ d' c' m' k', d' < tp_T t → tp_V k c' m' k' → BSd h1 b d' c' m' k' → (m' = 0 ∨ k' = 0) ∧ BSd h b d' c' m' k' := by
      intro d' c' m' k' hd' V' D'
      have hce' := (tp_ce_lt V'.1 V'.2.1 V'.2.2.1).1
      have hat := jrow 693 hd'
      unfold BSd at D' ⊢
      rw [i2, i7, i8] at D'
      by_cases o : m' = 0 ∨ k' = 0
      · rw [if_pos o] at D' ⊢
        exact ⟨o, D'⟩
      · exfalso
        rw [if_neg o] at D'
        obtain ⟨v, hv, ev⟩ := n2 (d' * 693 + tp_ce c' m' k') (by omega)
        rw [ev, jI_eqn (by omega) (by omega)] at D'
        omega
    have O1 : BOk h1 b t u pr k := by
      intro d' c' m' k' hd' V' D'
      obtain ⟨o, D⟩ := own d' c' m' k' hd' V' D'
      obtain ⟨e1, e2⟩ := O d' c' m' k' hd' ⟨V'.1, V'.2.1, V'.2.2.1, by omega⟩ D
      refine ⟨fun s hs => by rw [l1]; exact e1 s hs, fun h2 x hx1 hx2 => ?_⟩
      have q := e2 h2 x hx1 hx2
      have ow := tp_own ok u d' c' x o
      unfold BSd at q ⊢
      rw [i2, i7, if_pos ow]
      rw [if_pos ow] at q
      exact q
    have N1 : BNm h1 b k (g + 1) := by
      refine ⟨hk, i9, i10, ?_, ⟨g + 1, by omega, i8⟩, fun i hi => ?_⟩
      · obtain ⟨v, hv, ev⟩ := n7
        exact ⟨v, by omega, by rw [i7]; exact ev⟩
      · obtain ⟨v, hv, ev⟩ := n2 i hi
        exact ⟨v, by omega, by rw [i2]; exact ev⟩
    refine fin h1 k (g + 1) F1 ⟨B.fr F1, R.fr F1 (fun a i ha hb => by unfold tp_S9; omega), O1, N1⟩ ⟨hc, hm, hk, by omega⟩ (by omega) (by omega) (fun q => ?_)
    exfalso
    apply q3
    rw [n9]
    rcases q with q | q | q
    · omega
    · omega
    · rw [q]
end BOP
