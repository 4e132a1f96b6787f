/-! FIGURES: all offers -/
section FIP
variable {E : Nat → Nat} {h : ZH} {x zs zt rb rt rp gb gt g bt sp : Nat} {t u rs : Nat → Nat} {Q : Option Value → ZH → Prop}
theorem FvA.tr {h1 h2 : ZH} (a : FvA x h h1) (b : FvA x h1 h2) : FvA x h h2 := ⟨a.1.tr b.1, b.2⟩
theorem FvA.pg {h1 : ZH} (a : FvA x h h1) (P : PgR h (x + 1) t u) : PgR h1 (x + 1) t u := P.ag (a.1.wk (fun a ha => by unfold Rg at ha; omega))
theorem of_go_B (ok : tp_Ok t) (u : Nat → Nat) : ∀ k, OfB k (of_go t u k)
  | 0 => ⟨by show 0 ≤ 0; omega, by show (-2814749767106560000 : Int) ≤ 0; omega, by show (0 : Int) ≤ 2814749767106560000; omega⟩
  | k + 1 => by
    have ih := of_go_B ok u k
    rw [of_go]
    split
    · next c => exact of_st_B (of_t_ok ok (by omega) (by omega) (by omega)) ih
    · exact ⟨Nat.le_succ_of_le ih.1, ih.2.1, ih.2.2⟩
def OfL (h0 : ZH) (x zs zt g : Nat) (t u rs : Nat → Nat) (k : Nat) (h' : ZH) : Prop := ∃ rb rt rp gb gt, gb ≤ g ∧ gt ≤ g + k ∧ Rm h' x zs zt rb rt rp gb gt ∧ FgK h' x rb rt rp gb t u rs ∧ ¬ zI h' (x + 24) 8 = 0 ∧ zI h' (x + 24) 9 = 0 ∧ FgO h' x t u (of_go t u k) ∧ FvA x h0 h'
theorem ol_1 {d k p b : Nat} {h0 h1 : ZH} {R1 : ZH → Prop} (hd : 43 ≤ d) (ok : tp_Ok t) (ou : tp_Ou u) (P : PgR h0 (x + 1) t u) (hg : g + 12 < 1000000) (hk : k < 9) (c : of_ok t k) (hp : p = t 5 + 20 * (k / 3) - 20) (hb : b = t 6 + k % 3 - 1) (L : OfL h0 x zs zt g t u rs k h1) (kQ : ∀ h', OfL h0 x zs zt g t u rs (k + 1) h' → R1 h') : Ct E d 21 [.ref (x + 24), .int (jI (p : Int)), .int (jI (b : Int))] h1 (fun v h' => v = none ∧ R1 h') := by
  obtain ⟨rb, rt, rp, gb, gt, g1, g2, R, K, c8, c9, O, V⟩ := L
  refine ct_21 (n := k) hd ok (by omega) (by omega) (by omega) ou V.2 (V.pg P) (by omega) R K c8 c9 (of_go_B ok u k) (by omega) O (fun h' R' K' c8' c9' O' V' => ⟨rfl, kQ h' ⟨rb, rt, rp, gb, gt + 1, g1, by omega, R', K', c8', c9', ?_, V.tr V'⟩⟩)
  rw [of_go, if_pos c, ← hp, ← hb]
  exact O'
theorem ol_0 {k : Nat} {h0 h1 : ZH} (c : ¬ of_ok t k) (L : OfL h0 x zs zt g t u rs k h1) : OfL h0 x zs zt g t u rs (k + 1) h1 := by
  obtain ⟨rb, rt, rp, gb, gt, g1, g2, R, K, c8, c9, O, V⟩ := L
  refine ⟨rb, rt, rp, gb, gt, g1, by omega, R, K, c8, c9, ?_, V⟩
  rw [of_go, if_neg c]
  exact O
theorem l20i {d i : Nat} {h0 : ZH} {L : Nat → Int32 → Int32 → Int32 → ZH → Prop} (hd : 43 ≤ d) (ok : tp_Ok t) (ou : tp_Ou u) (P : PgR h0 (x + 1) t u) (hg : g + 12 < 1000000) (hi : i < 3) (kQ : ∀ h', OfL h0 x zs zt g t u rs (3 * i + 3) h' → wb_20_56 E d Q L (x + 24) (jI (t 5 : Int)) (jI (t 6 : Int)) (jI ((t 5 : Int) - 20 + 20 * (i : Int))) h') : ∀ r j h1, j + r = 3 → OfL h0 x zs zt g t u rs (3 * i + j) h1 → wl_20_34 E d Q L (r + 1) (x + 24) (jI (t 5 : Int)) (jI (t 6 : Int)) (jI ((t 5 : Int) - 20 + 20 * (i : Int))) (jI ((t 6 : Int) - 1 + (j : Int))) h1
  | 0, j, h1, e, L1 => by
    have ej : j = 3 := by omega
    subst ej
    rw [wl_20_34]
    refine ⟨fun _ => kQ h1 L1, fun c => absurd ?_ c⟩
    have h6 : t 6 ≤ 60 := ok.2.2.2.2.2.1.2
    rw [show (1 : Int32) = jI 1 from rfl, jI_add, jI_lt (by omega) (by omega) (by omega) (by omega)]
    omega
  | r + 1, j, h1, e, L1 => by
    have h5 : t 5 ≤ 100 := ok.2.2.2.2.1
    have h6 : t 6 ≤ 60 := ok.2.2.2.2.2.1.2
    have nxt : ∀ h'', OfL h0 x zs zt g t u rs (3 * i + j + 1) h'' → wb_20_54 E d Q L (wl_20_34 E d Q L (r + 1)) (x + 24) (jI (t 5 : Int)) (jI (t 6 : Int)) (jI ((t 5 : Int) - 20 + 20 * (i : Int))) (jI ((t 6 : Int) - 1 + (j : Int))) h'' := fun h'' L2 => nm_r (e' := jI ((t 6 : Int) - 1 + ((j + 1 : Nat) : Int))) (by rw [show (1 : Int32) = jI 1 from rfl, jI_add]; congr 1; omega) (l20i hd ok ou P hg hi kQ r (j + 1) h'' (by omega) L2)
    have skip : ¬ of_ok t (3 * i + j) → wb_20_54 E d Q L (wl_20_34 E d Q L (r + 1)) (x + 24) (jI (t 5 : Int)) (jI (t 6 : Int)) (jI ((t 5 : Int) - 20 + 20 * (i : Int))) (jI ((t 6 : Int) - 1 + (j : Int))) h1 := fun c => nxt h1 (ol_0 c L1)
    have ei : (3 * i + j) / 3 = i := by omega
    have ej : (3 * i + j) % 3 = j := by omega
    rw [wl_20_34]
    refine ⟨fun c => ?_, fun _ => ⟨fun c => skip ?_, fun c1 => ⟨fun c => skip ?_, fun c2 => ⟨fun c => skip ?_, fun c3 => ⟨fun c => skip ?_, fun c4 => ?_⟩⟩⟩⟩⟩
    · exfalso
      rw [show (1 : Int32) = jI 1 from rfl, jI_add, jI_lt (by omega) (by omega) (by omega) (by omega)] at c
      omega
    · rw [show (0 : Int32) = jI 0 from rfl, jI_lt (by omega) (by omega) (by omega) (by omega)] at c
      unfold of_ok; omega
    · rw [show (100 : Int32) = jI 100 from rfl, jI_lt (by omega) (by omega) (by omega) (by omega)] at c
      unfold of_ok; omega
    · rw [show (1 : Int32) = jI 1 from rfl, jI_lt (by omega) (by omega) (by omega) (by omega)] at c
      unfold of_ok; omega
    · rw [show (60 : Int32) = jI 60 from rfl, jI_lt (by omega) (by omega) (by omega) (by omega)] at c
      unfold of_ok; omega
    · rw [show (0 : Int32) = jI 0 from rfl, jI_lt (by omega) (by omega) (by omega) (by omega)] at c1
      rw [show (100 : Int32) = jI 100 from rfl, jI_lt (by omega) (by omega) (by omega) (by omega)] at c2
      rw [show (1 : Int32) = jI 1 from rfl, jI_lt (by omega) (by omega) (by omega) (by omega)] at c3
      rw [show (60 : Int32) = jI 60 from rfl, jI_lt (by omega) (by omega) (by omega) (by omega)] at c4
      have V := L1
      obtain ⟨_, _, _, _, _, _, _, _, _, _, _, _, V⟩ := V
      refine ⟨V.2.t24, ?_⟩
      have e1 : (t 5 : Int) - 20 + 20 * (i : Int) = ((t 5 + 20 * i - 20 : Nat) : Int) := by omega
      have e2 : (t 6 : Int) - 1 + (j : Int) = ((t 6 + j - 1 : Nat) : Int) := by omega
      have := ol_1 (E := E) (R1 := wb_20_54 E d Q L (wl_20_34 E d Q L (r + 1)) (x + 24) (jI (t 5 : Int)) (jI (t 6 : Int)) (jI ((t 5 : Int) - 20 + 20 * (i : Int))) (jI ((t 6 : Int) - 1 + (j : Int)))) (p := t 5 + 20 * i - 20) (b := t 6 + j - 1) hd ok ou P hg (show 3 * i + j < 9 by omega) (by unfold of_ok; omega) (by rw [ei]) (by rw [ej]) L1 nxt
      rw [← e1, ← e2] at this
      exact this
theorem l20o {d : Nat} {h0 : ZH} (hd : 43 ≤ d) (ok : tp_Ok t) (ou : tp_Ou u) (P : PgR h0 (x + 1) t u) (hg : g + 12 < 1000000) (kQ : ∀ h', OfL h0 x zs zt g t u rs 9 h' → wb_20_58 E d Q (x + 24) h') : ∀ r i h1, i + r = 3 → OfL h0 x zs zt g t u rs (3 * i) h1 → wl_20_25 E d Q (r + 1) (x + 24) (jI (t 5 : Int)) (jI (t 6 : Int)) (jI ((t 5 : Int) - 20 + 20 * (i : Int))) h1
  | 0, i, h1, e, L1 => by
    have ei : i = 3 := by omega
    subst ei
    rw [wl_20_25]
    refine ⟨fun _ => kQ h1 L1, fun c => absurd ?_ c⟩
    have h5 : t 5 ≤ 100 := ok.2.2.2.2.1
    rw [show (20 : Int32) = jI 20 from rfl, jI_add, jI_lt (by omega) (by omega) (by omega) (by omega)]
    omega
  | r + 1, i, h1, e, L1 => by
    have h5 : t 5 ≤ 100 := ok.2.2.2.2.1
    rw [wl_20_25]
    refine ⟨fun c => ?_, fun _ => nm_r (e' := jI ((t 6 : Int) - 1 + ((0 : Nat) : Int))) (by rw [show (1 : Int32) = jI 1 from rfl, jI_sub]; congr 1; omega) ⟨4, l20i hd ok ou P hg (show i < 3 by omega) (fun h' L' => ?_) 3 0 h1 (by omega) L1⟩⟩
    · exfalso
      rw [show (20 : Int32) = jI 20 from rfl, jI_add, jI_lt (by omega) (by omega) (by omega) (by omega)] at c
      omega
    · exact nm_r (e' := jI ((t 5 : Int) - 20 + 20 * ((i + 1 : Nat) : Int))) (by rw [show (20 : Int32) = jI 20 from rfl, jI_add]; congr 1; omega) (l20o hd ok ou P hg kQ r (i + 1) h' (by omega) L')
theorem ct_20 {d : Nat} (hd : 45 ≤ d) (ok : tp_Ok t) (ou : tp_Ou u) (X : XSh h x) (P : PgR h (x + 1) t u) (hg : g + 20 < 1000000) (F : Fg h x zs zt g t u rs) (kQ : ∀ h', Fg h' x zs zt (g + 12) t u rs → ¬ zI h' (x + 24) 9 = 0 → FvA x h h' → Q none h') : Ct E d 20 [.ref (x + 24)] h Q := by
  obtain ⟨d, rfl⟩ : ∃ n, d = n + 1 := ⟨d - 1, by omega⟩
  have F' := F
  refine ok_20 ⟨X.t24, fun c9 => ?_, fun c9 => kQ h (F'.mono (by omega)) c9 ⟨Ag.rf, X⟩⟩
  refine ct_18 (by omega) ok ou X P (by omega) F (fun h2 F2 c2 W2 => ?_)
  have V2 := W2.v X
  have P2 := V2.pg P
  have i9 : zI h2 (x + 24) 9 = 0 := by rw [W2.2.2.1 9 (by omega) (by omega)]; exact c9
  refine ⟨rfl, V2.2.t24, nm_e ?_⟩
  have F4 : Fr (fun a i => a = x + 24 ∧ i = 14) h2 (zuI h2 (x + 24) 14 0) := Fr.uI Fr.rf ⟨rfl, rfl⟩
  have z14 : zI (zuI h2 (x + 24) 14 0) (x + 24) 14 = 0 := zI_here _ _ _ _
  generalize zuI h2 (x + 24) 14 0 = h4 at F4 z14 ⊢
  have y4 : Ag (fun a => a ≠ x + 24) h2 h4 := F4.ag (fun a i ha => fun e => ha e.1)
  have V4 : FvA x h h4 := V2.tr ⟨y4.wk (fun a ha => by omega), V2.2.fr F4⟩
  have P4 := V4.pg P
  obtain ⟨rb, rt, rp, gb, gt, g1, g2, R, K⟩ := F2
  have L4 : OfL h x zs zt (g + 2) t u rs 0 h4 := by
    refine ⟨rb, rt, rp, gb, gt, g1, by omega, R.ag (y4.wk (fun a ha => by omega)) (fun i _ _ => F4.rr _ _) F4.sz (by unfold ztot; rw [F4.1]), K.ag (fun i hi => F4.I (by omega)) (by rw [F4.I (by omega)]; exact i9) (y4.wk (fun a ha => by omega)) (fun b' e => y4.wk (fun a ha => by have := (R.2.1 b' e).1; unfold Rg at ha; omega)), by rw [F4.I (by omega)]; exact c2, by rw [F4.I (by omega)]; exact i9, ⟨z14, fun q => absurd rfl q⟩, V4⟩
  refine ⟨x + 1, V4.2.q0, P4.1.1.1, x + 1 + 1, P4.1.1.2.1.1, P4.1.1.2.1.ti, P4.1.1.2.1.inc (by decide), nm_r (e' := jI (t 5 : Int)) (P4.1.2.1 5 (by omega)) ⟨P4.1.1.2.1.inc (by decide), nm_r (e' := jI (t 6 : Int)) (P4.1.2.1 6 (by omega)) (nm_r (e' := jI ((t 5 : Int) - 20 + 20 * ((0 : Nat) : Int))) (by rw [show (20 : Int32) = jI 20 from rfl, jI_sub]; congr 1; omega) ⟨4, l20o (h0 := h) (g := g + 2) (zs := zs) (zt := zt) (rs := rs) (by omega) ok ou P (by omega) (fun h9 L9 => ?_) 3 0 h4 (by omega) L4⟩)⟩⟩
  obtain ⟨rb', rt', rp', gb', gt', g1', g2', R', K', c8', c9', O', V'⟩ := L9
  refine ⟨V'.2.t24, nm_e ?_⟩
  have F5 : Fr (fun a i => a = x + 24 ∧ i = 9) h9 (zuI h9 (x + 24) 9 1) := Fr.uI Fr.rf ⟨rfl, rfl⟩
  have z9 : zI (zuI h9 (x + 24) 9 1) (x + 24) 9 = 1 := zI_here _ _ _ _
  generalize zuI h9 (x + 24) 9 1 = h10 at F5 z9 ⊢
  have y5 : Ag (fun a => a ≠ x + 24) h9 h10 := F5.ag (fun a i ha => fun e => ha e.1)
  have lz : zL h10 (x + 24) 17 = zL h9 (x + 24) 17 := F5.L (by omega)
  refine kQ h10 ⟨rb', rt', rp', gb', gt', by omega, by omega, R'.ag (y5.wk (fun a ha => by omega)) (fun i _ _ => F5.rr _ _) F5.sz (by unfold ztot; rw [F5.1]), ?_⟩ (by rw [z9]; decide) (V'.tr ⟨y5.wk (fun a ha => by omega), V'.2.fr F5⟩)
  obtain ⟨f7, f8, -, f10, fl⟩ := K'
  refine ⟨?_, ?_, fun _ => ⟨by rw [F5.I (by omega)]; exact O'.1, fun c => ?_⟩, ?_, ?_⟩
  · rw [F5.I (by omega)]
    intro q
    obtain ⟨b, ac, e1, e2⟩ := f7 q
    exact ⟨b, ac, e1, e2.ag (y5.wk (fun a ha => by have := (R'.2.1 b e1).1; unfold Rg at ha; omega))⟩
  · rw [F5.I (by omega)]
    intro q
    obtain ⟨e1, e2, e3, e4⟩ := f8 q
    refine ⟨e1, e2, by rw [y5.L (by omega)]; exact e3, fun j hj => by rw [y5.L (by omega)]; exact e4 j hj⟩
  · obtain ⟨e3, e4, e5⟩ := O'.2 c
    exact ⟨by rw [F5.I (by omega)]; exact e3, by rw [F5.I (by omega)]; exact e4, by rw [lz]; exact e5⟩
  · rw [F5.I (by omega)]
    intro q
    obtain ⟨e1, e2⟩ := f10 q
    exact ⟨by rw [F5.I (by omega)]; exact e1, fun c => by rw [F5.I (by omega)]; exact e2 c⟩
  · intro w hw q
    rw [y5.I (by omega)] at q
    obtain ⟨e1, e2⟩ := fl w hw q
    exact ⟨by rw [y5.L (by omega)]; exact e1, by rw [y5.L (by omega)]; exact e2⟩
end FIP
