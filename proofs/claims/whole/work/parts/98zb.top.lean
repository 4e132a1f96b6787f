/-! the class's constructor -/
section MKX
variable {E : Nat → Nat} {Q : Option Value → ZH → Prop} {x d : Nat} {h h1 : ZH}
def O2 (x : Nat) (h : ZH) : Prop := TSh h (x + 8) ∧ zI h (x + 8) 1 = 0
def O3 (x : Nat) (h : ZH) : Prop := (ztag h (x + 10) = 4 ∧ zR h (x + 10) 0 = x + 8 + 1 ∧ zR h (x + 10) 1 = x + 11 + 1) ∧ PSh h (x + 11) ∧ zI h (x + 10) 3 = 0
def O4 (x : Nat) (h : ZH) : Prop := RSh h (x + 18) ∧ zI h (x + 18) 2 = 0
def O7 (x : Nat) (h : ZH) : Prop := (ztag h (x + 24) = 1 ∧ zR h (x + 24) 0 = x + 1 + 1 ∧ zR h (x + 24) 1 = x + 18 + 1 ∧ zR h (x + 24) 2 = x + 25 + 1 ∧ zR h (x + 24) 3 = x + 32 + 1 ∧ zAr h (x + 24) 11 (x + 33) 15 8 ∧ zAr h (x + 24) 12 (x + 34) 14 5 ∧ zAr h (x + 24) 13 (x + 35) 14 16) ∧ PSh h (x + 25) ∧ ztag h (x + 32) = 2 ∧ (∀ i, zI h (x + 24) i = 0) ∧ (∀ i, 4 ≤ i → i ≤ 6 → zR h (x + 24) i = 0) ∧ ∀ i, zI h (x + 33) i = 0
def O8 (x k : Nat) (h : ZH) : Prop := ∀ j, j < k → zR h (x + 36) j = x + 37 + 2 * j + 1 ∧ SSh h (x + 37 + 2 * j) ∧ zI h (x + 37 + 2 * j) 1 = -4 ∧ zI h (x + 37 + 2 * j) 2 = 0 ∧ ∀ i, zI h (x + 38 + 2 * j) i = 0
theorem O2.ag (o : O2 x h) (y : Ag (fun a => x + 1 ≤ a ∧ a < x + 36) h h1) : O2 x h1 := ⟨o.1.ag (y.wk (fun a ha => by unfold Rg at ha; omega)), by rw [y.I ⟨by omega, by omega⟩]; exact o.2⟩
theorem O3.ag (o : O3 x h) (y : Ag (fun a => x + 1 ≤ a ∧ a < x + 36) h h1) : O3 x h1 := ⟨⟨by rw [y.T ⟨by omega, by omega⟩]; exact o.1.1, by rw [y.R ⟨by omega, by omega⟩]; exact o.1.2.1, by rw [y.R ⟨by omega, by omega⟩]; exact o.1.2.2⟩, o.2.1.ag (y.wk (fun a ha => by unfold Rg at ha; omega)), by rw [y.I ⟨by omega, by omega⟩]; exact o.2.2⟩
theorem O4.ag (o : O4 x h) (y : Ag (fun a => x + 1 ≤ a ∧ a < x + 36) h h1) : O4 x h1 := ⟨o.1.ag (y.wk (fun a ha => by unfold Rg at ha; omega)), by rw [y.I ⟨by omega, by omega⟩]; exact o.2⟩
theorem O7.ag (o : O7 x h) (y : Ag (fun a => x + 1 ≤ a ∧ a < x + 36) h h1) : O7 x h1 := by
  obtain ⟨⟨a0, a1, a2, a3, a4, a5, a6, a7⟩, b, c, d, e, f⟩ := o
  have g : (fun a => x + 1 ≤ a ∧ a < x + 36) (x + 24) := ⟨by omega, by omega⟩
  exact ⟨⟨by rw [y.T g]; exact a0, by rw [y.R g]; exact a1, by rw [y.R g]; exact a2, by rw [y.R g]; exact a3, by rw [y.R g]; exact a4, a5.ag y g ⟨by omega, by omega⟩, a6.ag y g ⟨by omega, by omega⟩, a7.ag y g ⟨by omega, by omega⟩⟩, b.ag (y.wk (fun a ha => by unfold Rg at ha; omega)), by rw [y.T ⟨by omega, by omega⟩]; exact c, fun i => by rw [y.I g]; exact d i, fun i q1 q2 => by rw [y.R g]; exact e i q1 q2, fun i => by rw [y.I ⟨by omega, by omega⟩]; exact f i⟩
/-- an object was made, and kept in a slot of x -/
def StQ (x s k n : Nat) (hc h6 : ZH) : Prop := zsz h6 = zsz hc + k ∧ ztot h6 = ztot hc + n ∧ Ag (fun a => a ≠ x ∧ (a < zsz hc ∨ zsz hc + k ≤ a)) hc h6 ∧ (ztag h6 x = 10 ∧ (∀ i, zI h6 x i = zI hc x i) ∧ (∀ i, i ≠ s → zR h6 x i = zR hc x i) ∧ zR h6 x s = zsz hc + 1)
theorem stpz {s k n tg : Nat} {hc h4 : ZH} (hx : x < zsz hc) (tx : ztag hc x = 10) (hk : 1 ≤ k) (z : zsz h4 = zsz hc + k) (w : ztot h4 = ztot (znew hc tg (zN tg)) + n) (y : Ag (fun a => a < zsz hc ∨ zsz hc + k ≤ a) (znew hc tg (zN tg)) h4) : ztag h4 x = 10 ∧ StQ x s k (zN tg + n) hc (zuR h4 x s (zsz hc + 1)) := by
  have g := Gr.new hc tg (zN tg)
  have yy : Ag (fun a => a < zsz hc ∨ zsz hc + k ≤ a) hc h4 := (g.2.2.wk (fun a ha => by omega)).tr y
  have t4 : ztag h4 x = 10 := by rw [yy.T (Or.inl hx)]; exact tx
  refine ⟨t4, z, ?_, (yy.wk (fun a ha => ha.2)).uR (fun q => q.1 rfl), t4, fun i => by rw [zI_uR, yy.I (Or.inl hx)], fun i hi => by rw [zR_uR, if_neg (by omega), yy.R (Or.inl hx)], by rw [zR_uR, if_pos ⟨rfl, rfl⟩]⟩
  show ztot h4 = _
  rw [w, g.2.1]
  omega
theorem l89 {h0 : ZH} (hd : 8 ≤ d) (A : zAr h0 x 7 (x + 36) 17 4) (tx : ztag h0 x = 10) (kQ : ∀ h', zsz h' = x + 45 → ztot h' = ztot h0 + 204 → Ag (fun a => a < x + 36) h0 h' → ztag h' (x + 36) = 17 → zlen h' (x + 36) = 4 → O8 x 4 h' → Q none h') : ∀ (r k : Nat) h1, k + r = 4 → zsz h1 = x + 37 + 2 * k → ztot h1 = ztot h0 + 51 * k → Ag (fun a => a < x + 36) h0 h1 → ztag h1 (x + 36) = 17 → zlen h1 (x + 36) = 4 → O8 x k h1 → wl_89_49 E d Q (r + 1) x (jI (k : Int)) h1
  | 0, k, h1, e, z, w, y, t36, n36, o => by
    have ek : k = 4 := by omega
    subst ek
    rw [wl_89_49]
    exact ⟨fun _ => kQ h1 (by omega) (by omega) y t36 n36 o, fun c => absurd (by decide) c⟩
  | r + 1, k, h1, e, z, w, y, t36, n36, o => by
    rw [wl_89_49]
    have wn := znew_at h1 6 (zN 6)
    have gn := Gr.new h1 6 (zN 6)
    refine ⟨fun c => ?_, fun _ => ⟨by rw [y.T (by omega)]; exact tx, x + 36, by rw [y.R (by omega)]; exact A.1, nm_e (nm_e ⟨wn.1, ?_⟩)⟩⟩
    · exfalso
      rw [show (4 : Int32) = jI ((4 : Nat) : Int) from rfl, jI_len (by omega) (by omega)] at c
      omega
    obtain ⟨gn1, gn2, gn3⟩ := gn
    rw [z]
    rw [z] at wn gn1 gn3
    refine ct_67 (p := x + 37 + 2 * k) (by omega) gn1 wn.1 wn.2.2.1 (fun h2 z2 t2 y2 S2 i1 i2 i3 => ?_)
    have ya : Ag (fun a => a < x + 37 + 2 * k) h1 h2 := (gn3.wk (fun a ha => Or.inl ha)).tr (y2.wk (fun a ha => Or.inl ha))
    have n2 : zlen h2 (x + 36) = 4 := by rw [ya.N (by omega)]; exact n36
    refine ⟨rfl, Or.inr ⟨by rw [ya.T (by omega)]; exact t36, S2.1⟩, ?_, nm_r (e' := zuR h2 (x + 36) k (x + 37 + 2 * k + 1)) (by rw [jI_cln (by omega)]) (nm_r (e' := jI ((k + 1 : Nat) : Int)) (by rw [show (1 : Int32) = jI 1 from rfl, jI_add]; rfl) (l89 hd A tx kQ r (k + 1) _ (by omega) (show zsz h2 = _ by omega) ?_ ?_ (by rw [ztag_uR, ya.T (by omega)]; exact t36) (by rw [zlen_uR]; exact n2) (fun j hj => ?_)))⟩
    · rw [n2]
      have : k = 0 ∨ k = 1 ∨ k = 2 ∨ k = 3 := by omega
      rcases this with e | e | e | e <;> subst e <;> decide
    · show ztot h2 = _
      have : zN 6 = 3 := rfl
      rw [t2, gn2]
      omega
    · exact (y.tr (ya.wk (fun a ha => by omega))).uR (by omega)
    · by_cases cj : j = k
      · subst cj
        refine ⟨by rw [zR_uR, if_pos ⟨rfl, rfl⟩], S2.ag (Ag.rf.uR (fun q => by unfold Rg at q; omega)), by rw [zI_uR]; exact i1, by rw [zI_uR]; exact i2, fun i => by rw [zI_uR, show x + 38 + 2 * j = x + 37 + 2 * j + 1 by omega]; exact i3 i⟩
      · obtain ⟨q1, q2, q3, q4, q5⟩ := o j (by omega)
        refine ⟨by rw [zR_uR, if_neg (by omega), ya.R (by omega)]; exact q1, (q2.ag (ya.wk (fun a ha => by unfold Rg at ha; omega))).ag (Ag.rf.uR (fun q => by unfold Rg at q; omega)), by rw [zI_uR, ya.I (by omega)]; exact q3, by rw [zI_uR, ya.I (by omega)]; exact q4, fun i => by rw [zI_uR, ya.I (by omega)]; exact q5 i⟩
def SgX (x c n : Nat) (h0 h : ZH) : Prop := zsz h = x + c ∧ ztot h ≤ ztot h0 + n ∧ Ag (fun a => a < x) h0 h ∧ ztag h x = 10 ∧ ∀ i, zI h x i = 0
theorem SgX.st {c n s k m : Nat} {h0 hc h6 : ZH} (S : SgX x c n h0 hc) (hc1 : 1 ≤ c) (T : StQ x s k m hc h6) : SgX x (c + k) (n + m) h0 h6 ∧ Ag (fun a => x < a ∧ a < x + c) hc h6 ∧ (∀ i, i ≠ s → zR h6 x i = zR hc x i) ∧ zR h6 x s = x + c + 1 := by
  obtain ⟨a1, a2, a3, a4, a5⟩ := S
  obtain ⟨b1, b2, b3, b4, b5, b6, b7⟩ := T
  rw [a1] at b1 b3 b7
  exact ⟨⟨by omega, by omega, a3.tr (b3.wk (fun a ha => ⟨by omega, by omega⟩)), b4, fun i => by rw [b5, a5]⟩, b3.wk (fun a ha => ⟨by omega, by omega⟩), b6, b7⟩
theorem SgX.lt {c n : Nat} {h0 hc : ZH} (S : SgX x c n h0 hc) (hc1 : 1 ≤ c) : x < zsz hc := by rw [S.1]; omega
theorem SgX.sc {c n : Nat} {h0 hc : ZH} (S : SgX x c n h0 hc) (Sc : Stc E h0) (hE : E 0 ≤ x) : Stc E hc := Sc.ag (S.2.2.1.wk (fun a ha => by omega))
/-! what there is behind each step -/
def W1 (x : Nat) (h : ZH) : Prop := zR h x 0 = x + 1 + 1 ∧ PgR h (x + 1) tp_t0 (fun _ => 3)
def W2 (x : Nat) (h : ZH) : Prop := W1 x h ∧ zR h x 1 = x + 8 + 1 ∧ O2 x h
def W3 (x : Nat) (h : ZH) : Prop := W2 x h ∧ zR h x 2 = x + 10 + 1 ∧ O3 x h
def W4 (x : Nat) (h : ZH) : Prop := W3 x h ∧ zR h x 3 = x + 18 + 1 ∧ O4 x h
def W5 (x : Nat) (h : ZH) : Prop := W4 x h ∧ zR h x 4 = x + 21 + 1 ∧ WSh h (x + 21)
def W6 (x : Nat) (h : ZH) : Prop := W5 x h ∧ zR h x 5 = x + 23 + 1 ∧ ztag h (x + 23) = 2
def W7 (x : Nat) (h : ZH) : Prop := W6 x h ∧ zR h x 6 = x + 24 + 1 ∧ O7 x h
theorem W1.k (w : W1 x h) (y : Ag (fun a => x < a ∧ a < x + 8) h h1) (r : ∀ i, i < 1 → zR h1 x i = zR h x i) : W1 x h1 := ⟨by rw [r 0 (by omega)]; exact w.1, w.2.ag (y.wk (fun a ha => by unfold Rg at ha; omega))⟩
theorem W2.k (w : W2 x h) (y : Ag (fun a => x < a ∧ a < x + 10) h h1) (r : ∀ i, i < 2 → zR h1 x i = zR h x i) : W2 x h1 := ⟨w.1.k (y.wk (fun a ha => by omega)) (fun i hi => r i (by omega)), by rw [r 1 (by omega)]; exact w.2.1, w.2.2.1.ag (y.wk (fun a ha => by unfold Rg at ha; omega)), by rw [y.I ⟨by omega, by omega⟩]; exact w.2.2.2⟩
theorem W3.k (w : W3 x h) (y : Ag (fun a => x < a ∧ a < x + 18) h h1) (r : ∀ i, i < 3 → zR h1 x i = zR h x i) : W3 x h1 := by
  obtain ⟨w1, w2, ⟨a1, a2, a3⟩, b, c⟩ := w
  exact ⟨w1.k (y.wk (fun a ha => by omega)) (fun i hi => r i (by omega)), by rw [r 2 (by omega)]; exact w2, ⟨by rw [y.T ⟨by omega, by omega⟩]; exact a1, by rw [y.R ⟨by omega, by omega⟩]; exact a2, by rw [y.R ⟨by omega, by omega⟩]; exact a3⟩, b.ag (y.wk (fun a ha => by unfold Rg at ha; omega)), by rw [y.I ⟨by omega, by omega⟩]; exact c⟩
theorem W4.k (w : W4 x h) (y : Ag (fun a => x < a ∧ a < x + 21) h h1) (r : ∀ i, i < 4 → zR h1 x i = zR h x i) : W4 x h1 := ⟨w.1.k (y.wk (fun a ha => by omega)) (fun i hi => r i (by omega)), by rw [r 3 (by omega)]; exact w.2.1, w.2.2.1.ag (y.wk (fun a ha => by unfold Rg at ha; omega)), by rw [y.I ⟨by omega, by omega⟩]; exact w.2.2.2⟩
theorem W5.k (w : W5 x h) (y : Ag (fun a => x < a ∧ a < x + 23) h h1) (r : ∀ i, i < 5 → zR h1 x i = zR h x i) : W5 x h1 := ⟨w.1.k (y.wk (fun a ha => by omega)) (fun i hi => r i (by omega)), by rw [r 4 (by omega)]; exact w.2.1, w.2.2.ag (y.wk (fun a ha => by unfold Rg at ha; omega))⟩
theorem W6.k (w : W6 x h) (y : Ag (fun a => x < a ∧ a < x + 24) h h1) (r : ∀ i, i < 6 → zR h1 x i = zR h x i) : W6 x h1 := ⟨w.1.k (y.wk (fun a ha => by omega)) (fun i hi => r i (by omega)), by rw [r 5 (by omega)]; exact w.2.1, by rw [y.T ⟨by omega, by omega⟩]; exact w.2.2⟩
theorem W7.k (w : W7 x h) (y : Ag (fun a => x < a ∧ a < x + 36) h h1) (r : ∀ i, i < 7 → zR h1 x i = zR h x i) : W7 x h1 := by
  obtain ⟨w1, w2, ⟨a0, a1, a2, a3, a4, a5, a6, a7⟩, b, c, d, e, f⟩ := w
  have g : (fun a => x < a ∧ a < x + 36) (x + 24) := ⟨by omega, by omega⟩
  exact ⟨w1.k (y.wk (fun a ha => by omega)) (fun i hi => r i (by omega)), by rw [r 6 (by omega)]; exact w2, ⟨by rw [y.T g]; exact a0, by rw [y.R g]; exact a1, by rw [y.R g]; exact a2, by rw [y.R g]; exact a3, by rw [y.R g]; exact a4, a5.ag y g ⟨by omega, by omega⟩, a6.ag y g ⟨by omega, by omega⟩, a7.ag y g ⟨by omega, by omega⟩⟩, b.ag (y.wk (fun a ha => by unfold Rg at ha; omega)), by rw [y.T ⟨by omega, by omega⟩]; exact c, fun i => by rw [y.I g]; exact d i, fun i q1 q2 => by rw [y.R g]; exact e i q1 q2, fun i => by rw [y.I ⟨by omega, by omega⟩]; exact f i⟩
variable {h0 hc : ZH} {R : ZH → Prop} {n : Nat}
theorem g1 (hd : 11 ≤ d) (S : SgX x 1 n h0 hc) (Sc : Stc E h0) (hE : E 0 ≤ x) (q : ∀ h', SgX x 8 (n + 114) h0 h' → W1 x h' → R h') : ∀ h1 : ZH, h1 = (znew hc 3 (zN 3)) → ∀ r2 : Nat, r2 = (zsz hc) → ztag h1 r2 = 3 ∧ Ct E d 29 [.ref r2] h1 (fun v h4 => v = none ∧ ztag h4 x = 10 ∧ ∀ h6 : ZH, h6 = (zuR h4 x 0 (r2 + 1)) → R h6) := by
  have w := znew_at hc 3 (zN 3)
  have g := Gr.new hc 3 (zN 3)
  have lt := S.lt (by omega)
  have z := S.1
  refine nm_e (nm_e ⟨w.1, ct_29 (p := zsz hc) hd ((S.sc Sc hE).ag (g.2.2.wk (fun a ha => by omega))) (by omega) g.1 w.1 (fun a za ta ya Pa => ?_)⟩)
  obtain ⟨t', st⟩ := stpz (x := x) (s := 0) (k := 7) (tg := 3) lt S.2.2.2.1 (by omega) za ta ya
  obtain ⟨S', _, _, r⟩ := S.st (by omega) st
  refine ⟨rfl, t', nm_e (q _ S' ⟨r, ?_⟩)⟩
  have := Pa.ag (h1 := zuR a x 0 (zsz hc + 1)) (Ag.rf.uR (fun q => by unfold Rg at q; omega))
  rw [z] at this ⊢
  exact this
theorem g2 (hd : 11 ≤ d) (S : SgX x 8 n h0 hc) (w0 : W1 x hc) (q : ∀ h', SgX x 10 (n + 326) h0 h' → W2 x h' → R h') : ∀ h1 : ZH, h1 = (znew hc 8 (zN 8)) → ∀ r2 : Nat, r2 = (zsz hc) → ztag h1 r2 = 8 ∧ Ct E d 77 [.ref r2] h1 (fun v h4 => v = none ∧ ztag h4 x = 10 ∧ ∀ h6 : ZH, h6 = (zuR h4 x 1 (r2 + 1)) → R h6) := by
  have w := znew_at hc 8 (zN 8)
  have g := Gr.new hc 8 (zN 8)
  have lt := S.lt (by omega)
  have z := S.1
  refine nm_e (nm_e ⟨w.1, ct_77 (p := zsz hc) (by omega) g.1 w.1 (fun a za ta ya Ta ia => ?_)⟩)
  obtain ⟨t', st⟩ := stpz (x := x) (s := 1) (k := 2) (tg := 8) lt S.2.2.2.1 (by omega) za ta ya
  obtain ⟨S', y, rr, r⟩ := S.st (by omega) st
  have o : TSh (zuR a x 1 (zsz hc + 1)) (zsz hc) ∧ zI (zuR a x 1 (zsz hc + 1)) (zsz hc) 1 = 0 := ⟨Ta.ag (Ag.rf.uR (fun q => by unfold Rg at q; omega)), by rw [zI_uR, ia]; exact w.2.2.1 1⟩
  refine ⟨rfl, t', nm_e (q _ S' ⟨w0.k y (fun i hi => rr i (by omega)), r, ?_⟩)⟩
  rw [z] at o ⊢
  exact o
theorem g3 (hd : 13 ≤ d) (S : SgX x 10 n h0 hc) (Sc : Stc E h0) (hE : E 0 ≤ x) (w0 : W2 x hc) (q : ∀ h', SgX x 18 (n + 122) h0 h' → W3 x h' → R h') : ∀ h13 : ZH, h13 = (znew hc 4 (zN 4)) → ∀ r14 : Nat, r14 = (zsz hc) → ztag h13 x = 10 ∧ ∃ r16 : Nat, zR h13 x 1 = r16 + 1 ∧ ztag h13 r14 = 4 ∧ Ct E d 52 [.ref r14, .ref r16] h13 (fun v h18 => v = none ∧ ztag h18 x = 10 ∧ ∀ h20 : ZH, h20 = (zuR h18 x 2 (r14 + 1)) → R h20) := by
  have w := znew_at hc 4 (zN 4)
  have g := Gr.new hc 4 (zN 4)
  have lt := S.lt (by omega)
  have z := S.1
  refine nm_e (nm_e ⟨by rw [g.2.2.T (Or.inl lt)]; exact S.2.2.2.1, x + 8, by rw [g.2.2.R (Or.inl lt)]; exact w0.2.1, w.1, ct_52 (p := zsz hc) hd ((S.sc Sc hE).ag (g.2.2.wk (fun a ha => by omega))) (by omega) g.1 w.1 (fun a za ta ya Ra Pa ia => ?_)⟩)
  obtain ⟨t', st⟩ := stpz (x := x) (s := 2) (k := 8) (tg := 4) lt S.2.2.2.1 (by omega) za ta ya
  obtain ⟨S', y, rr, r⟩ := S.st (by omega) st
  have o : (ztag (zuR a x 2 (zsz hc + 1)) (zsz hc) = 4 ∧ zR (zuR a x 2 (zsz hc + 1)) (zsz hc) 0 = x + 8 + 1 ∧ zR (zuR a x 2 (zsz hc + 1)) (zsz hc) 1 = zsz hc + 1 + 1) ∧ PSh (zuR a x 2 (zsz hc + 1)) (zsz hc + 1) ∧ zI (zuR a x 2 (zsz hc + 1)) (zsz hc) 3 = 0 := ⟨⟨Ra.1, by rw [zR_uR, if_neg (by omega)]; exact Ra.2.1, by rw [zR_uR, if_neg (by omega)]; exact Ra.2.2⟩, Pa.1.1.ag (Ag.rf.uR (fun q => by unfold Rg at q; omega)), by rw [zI_uR, ia]; exact w.2.2.1 3⟩
  refine ⟨rfl, t', nm_e (q _ S' ⟨w0.k y (fun i hi => rr i (by omega)), r, ?_⟩)⟩
  rw [z] at o ⊢
  exact o
theorem g4 (hd : 11 ≤ d) (S : SgX x 18 n h0 hc) (w0 : W3 x hc) (q : ∀ h', SgX x 21 (n + 43) h0 h' → W4 x h' → R h') : ∀ h1 : ZH, h1 = (znew hc 5 (zN 5)) → ∀ r2 : Nat, r2 = (zsz hc) → ztag h1 r2 = 5 ∧ Ct E d 65 [.ref r2] h1 (fun v h4 => v = none ∧ ztag h4 x = 10 ∧ ∀ h6 : ZH, h6 = (zuR h4 x 3 (r2 + 1)) → R h6) := by
  have w := znew_at hc 5 (zN 5)
  have g := Gr.new hc 5 (zN 5)
  have lt := S.lt (by omega)
  have z := S.1
  refine nm_e (nm_e ⟨w.1, ct_65 (p := zsz hc) (by omega) g.1 w.1 (fun a za ta ya Ta ia => ?_)⟩)
  obtain ⟨t', st⟩ := stpz (x := x) (s := 3) (k := 3) (tg := 5) lt S.2.2.2.1 (by omega) za ta ya
  obtain ⟨S', y, rr, r⟩ := S.st (by omega) st
  have o : RSh (zuR a x 3 (zsz hc + 1)) (zsz hc) ∧ zI (zuR a x 3 (zsz hc + 1)) (zsz hc) 2 = 0 := ⟨Ta.ag (Ag.rf.uR (fun q => by unfold Rg at q; omega)), by rw [zI_uR, ia]; exact w.2.2.1 2⟩
  refine ⟨rfl, t', nm_e (q _ S' ⟨w0.k y (fun i hi => rr i (by omega)), r, ?_⟩)⟩
  rw [z] at o ⊢
  exact o
theorem g5 (hd : 11 ≤ d) (S : SgX x 21 n h0 hc) (w0 : W4 x hc) (q : ∀ h', SgX x 23 (n + 20) h0 h' → W5 x h' → R h') : ∀ h1 : ZH, h1 = (znew hc 9 (zN 9)) → ∀ r2 : Nat, r2 = (zsz hc) → ztag h1 r2 = 9 ∧ Ct E d 85 [.ref r2] h1 (fun v h4 => v = none ∧ ztag h4 x = 10 ∧ ∀ h6 : ZH, h6 = (zuR h4 x 4 (r2 + 1)) → R h6) := by
  have w := znew_at hc 9 (zN 9)
  have g := Gr.new hc 9 (zN 9)
  have lt := S.lt (by omega)
  have z := S.1
  refine nm_e (nm_e ⟨w.1, ct_85 (p := zsz hc) (by omega) g.1 w.1 (fun a za ta ya Ta => ?_)⟩)
  obtain ⟨t', st⟩ := stpz (x := x) (s := 4) (k := 2) (tg := 9) lt S.2.2.2.1 (by omega) za ta ya
  obtain ⟨S', y, rr, r⟩ := S.st (by omega) st
  have o : WSh (zuR a x 4 (zsz hc + 1)) (zsz hc) := Ta.ag (Ag.rf.uR (fun q => by unfold Rg at q; omega))
  refine ⟨rfl, t', nm_e (q _ S' ⟨w0.k y (fun i hi => rr i (by omega)), r, ?_⟩)⟩
  rw [z] at o ⊢
  exact o
theorem g6 (hd : 11 ≤ d) (S : SgX x 23 n h0 hc) (w0 : W5 x hc) (q : ∀ h', SgX x 24 (n + 9) h0 h' → W6 x h' → R h') : ∀ h1 : ZH, h1 = (znew hc 2 (zN 2)) → ∀ r2 : Nat, r2 = (zsz hc) → ztag h1 r2 = 2 ∧ Ct E d 23 [.ref r2] h1 (fun v h4 => v = none ∧ ztag h4 x = 10 ∧ ∀ h6 : ZH, h6 = (zuR h4 x 5 (r2 + 1)) → R h6) := by
  have w := znew_at hc 2 (zN 2)
  have g := Gr.new hc 2 (zN 2)
  have lt := S.lt (by omega)
  have z := S.1
  refine nm_e (nm_e ⟨w.1, ct_23 (by omega) ?_⟩)
  obtain ⟨t', st⟩ := stpz (x := x) (s := 5) (k := 1) (n := 0) (tg := 2) (h4 := znew hc 2 (zN 2)) lt S.2.2.2.1 (by omega) g.1 (by omega) Ag.rf
  obtain ⟨S', y, rr, r⟩ := S.st (by omega) st
  have o : ztag (zuR (znew hc 2 (zN 2)) x 5 (zsz hc + 1)) (zsz hc) = 2 := w.1
  refine ⟨rfl, t', nm_e (q _ S' ⟨w0.k y (fun i hi => rr i (by omega)), r, ?_⟩)⟩
  rw [z] at o ⊢
  exact o
theorem g7 (hd : 13 ≤ d) (S : SgX x 24 n h0 hc) (Sc : Stc E h0) (hE : E 0 ≤ x) (w0 : W6 x hc) (q : ∀ h', SgX x 36 (n + 172) h0 h' → W7 x h' → R h') : ∀ h39 : ZH, h39 = (znew hc 1 (zN 1)) → ∀ r40 : Nat, r40 = (zsz hc) → ztag h39 x = 10 ∧ ∃ r42 : Nat, zR h39 x 0 = r42 + 1 ∧ ∃ r43 : Nat, zR h39 x 3 = r43 + 1 ∧ ztag h39 r40 = 1 ∧ Ct E d 13 [.ref r40, .ref r42, .ref r43] h39 (fun v h45 => v = none ∧ ztag h45 x = 10 ∧ ∀ h47 : ZH, h47 = (zuR h45 x 6 (r40 + 1)) → R h47) := by
  have w := znew_at hc 1 (zN 1)
  have g := Gr.new hc 1 (zN 1)
  have lt := S.lt (by omega)
  have z := S.1
  have r0 : zR hc x 0 = x + 1 + 1 := w0.1.1.1.1.1.1
  have r3 : zR hc x 3 = x + 18 + 1 := w0.1.1.2.1
  refine nm_e (nm_e ⟨by rw [g.2.2.T (Or.inl lt)]; exact S.2.2.2.1, x + 1, by rw [g.2.2.R (Or.inl lt)]; exact r0, x + 18, by rw [g.2.2.R (Or.inl lt)]; exact r3, w.1, ct_13 (p := zsz hc) hd ((S.sc Sc hE).ag (g.2.2.wk (fun a ha => by omega))) (by omega) g.1 w.1 (fun a za ta ya Fa Pa ma ia ra fa => ?_)⟩)
  obtain ⟨t', st⟩ := stpz (x := x) (s := 6) (k := 12) (tg := 1) lt S.2.2.2.1 (by omega) za ta ya
  obtain ⟨S', y, rr, r⟩ := S.st (by omega) st
  have nR : ∀ i, zR (zuR a x 6 (zsz hc + 1)) (zsz hc) i = zR a (zsz hc) i := fun i => by rw [zR_uR, if_neg (by omega)]
  have o : (ztag (zuR a x 6 (zsz hc + 1)) (zsz hc) = 1 ∧ zR (zuR a x 6 (zsz hc + 1)) (zsz hc) 0 = x + 1 + 1 ∧ zR (zuR a x 6 (zsz hc + 1)) (zsz hc) 1 = x + 18 + 1 ∧ zR (zuR a x 6 (zsz hc + 1)) (zsz hc) 2 = zsz hc + 1 + 1 ∧ zR (zuR a x 6 (zsz hc + 1)) (zsz hc) 3 = zsz hc + 8 + 1 ∧ zAr (zuR a x 6 (zsz hc + 1)) (zsz hc) 11 (zsz hc + 9) 15 8 ∧ zAr (zuR a x 6 (zsz hc + 1)) (zsz hc) 12 (zsz hc + 10) 14 5 ∧ zAr (zuR a x 6 (zsz hc + 1)) (zsz hc) 13 (zsz hc + 11) 14 16) ∧ PSh (zuR a x 6 (zsz hc + 1)) (zsz hc + 1) ∧ ztag (zuR a x 6 (zsz hc + 1)) (zsz hc + 8) = 2 ∧ (∀ i, zI (zuR a x 6 (zsz hc + 1)) (zsz hc) i = 0) ∧ (∀ i, 4 ≤ i → i ≤ 6 → zR (zuR a x 6 (zsz hc + 1)) (zsz hc) i = 0) ∧ ∀ i, zI (zuR a x 6 (zsz hc + 1)) (zsz hc + 9) i = 0 := by
    obtain ⟨q0, q1, q2, q3, q4, q5, q6, q7⟩ := Fa
    exact ⟨⟨q0, by rw [nR]; exact q1, by rw [nR]; exact q2, by rw [nR]; exact q3, by rw [nR]; exact q4, ⟨by rw [nR]; exact q5.1, q5.2.1, q5.2.2⟩, ⟨by rw [nR]; exact q6.1, q6.2.1, q6.2.2⟩, ⟨by rw [nR]; exact q7.1, q7.2.1, q7.2.2⟩⟩, Pa.1.1.ag (Ag.rf.uR (fun q => by unfold Rg at q; omega)), ma, fun i => by rw [zI_uR, ia]; exact w.2.2.1 i, fun i p1 p2 => by rw [nR, ra i p1 p2]; exact w.2.2.2.2 i, fun i => by rw [zI_uR]; exact fa i⟩
  refine ⟨rfl, t', nm_e (q _ S' ⟨w0.k y (fun i hi => rr i (by omega)), r, ?_⟩)⟩
  rw [z] at o ⊢
  exact o
theorem ct_89 (hd : 20 ≤ d) (Sc : Stc E h) (hE : E 0 ≤ x) (hz : zsz h = x + 1) (ht : ztag h x = 10) (hI : ∀ i, zI h x i = 0) (kQ : ∀ h', zsz h' = x + 45 → ztot h' ≤ ztot h + 1014 → Ag (fun a => a < x) h h' → XSh h' x → W7 x h' → O8 x 4 h' → (∀ i, zI h' x i = 0) → Q none h') : Ct E d 89 [.ref x] h Q := by
  obtain ⟨d, rfl⟩ : ∃ n, d = n + 1 := ⟨d - 1, by omega⟩
  have S0 : SgX x 1 0 h h := ⟨hz, by omega, Ag.rf, ht, hI⟩
  refine ok_89 ⟨by omega, g1 (by omega) S0 Sc hE (fun h1 S1 w1 => g2 (by omega) S1 w1 (fun h2 S2 w2 => g3 (by omega) S2 Sc hE w2 (fun h3 S3 w3 => g4 (by omega) S3 w3 (fun h4 S4 w4 => g5 (by omega) S4 w4 (fun h5 S5 w5 => g6 (by omega) S5 w5 (fun h6 S6 w6 => g7 (by omega) S6 Sc hE w6 (fun h7 S7 w7 => ?_)))))))⟩
  obtain ⟨z7, t7, y7, T7, i7⟩ := S7
  refine na (by omega) T7 (fun b8 N8 T8 => ⟨5, ?_⟩)
  have A8 := N8.ar z7
  have z8 : zsz b8 = x + 37 := by rw [N8.1, z7]
  have t8 : ztot b8 = ztot h7 + 4 := N8.2.1
  have y8 := N8.ag z7
  have i8 : ∀ i, zI b8 x i = 0 := fun i => by rw [N8.zI]; exact i7 i
  have w8 : W7 x b8 := w7.k (y8.wk (fun a ha => ⟨by omega, by omega⟩)) (fun i hi => N8.zR (by omega))
  have y8' : Ag (fun a => a < x) h b8 := y7.tr (y8.wk (fun a ha => ⟨by omega, by omega⟩))
  clear N8 w7 y7 i7 S0
  refine l89 (h0 := b8) (by omega) A8 T8 (fun h' z' t' y' t36 n36 o' => ?_) 4 0 b8 (by omega) z8 (by omega) Ag.rf A8.2.1 A8.2.2 (fun j hj => by omega)
  have yx : Ag (fun a => a = x) b8 h' := y'.wk (fun a ha => by omega)
  have w9 : W7 x h' := w8.k (y'.wk (fun a ha => by omega)) (fun i hi => yx.R rfl i)
  have A9 : zAr h' x 7 (x + 36) 17 4 := ⟨by rw [yx.R rfl]; exact A8.1, t36, n36⟩
  refine kQ h' z' (by omega) (y8'.tr (y'.wk (fun a ha => by omega))) ?_ w9 o' (fun i => by rw [yx.I rfl]; exact i8 i)
  obtain ⟨⟨⟨⟨⟨⟨⟨a0, p1⟩, a1, p2⟩, a2, p3⟩, a3, p4⟩, a4, p5⟩, a5, p6⟩, a6, p7⟩ := w9
  exact ⟨⟨by rw [yx.T rfl]; exact T8, a0, a1, a2, a3, a4, a5, a6, A9⟩, fun k hk => ⟨(o' k hk).1, (o' k hk).2.1⟩, p1.1.1, p2.1, p3.1, p3.2.1, p4.1, p5, p6, p7.1, p7.2.1, p7.2.2.1⟩
end MKX
