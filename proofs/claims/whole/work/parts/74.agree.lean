/-! HEAPS THAT AGREE on a range of cells -/
def Ag (A : Nat → Prop) (h h' : ZH) : Prop := ∀ a, A a → ztag h' a = ztag h a ∧ zlen h' a = zlen h a ∧ zI h' a = zI h a ∧ zL h' a = zL h a ∧ zR h' a = zR h a
section AGR
variable {A B : Nat → Prop} {S Z : Nat → Nat → Prop} {h h1 h2 : ZH}
theorem Ag.rf : Ag A h h := fun _ _ => ⟨rfl, rfl, rfl, rfl, rfl⟩
theorem Ag.tr (x : Ag A h h1) (y : Ag A h1 h2) : Ag A h h2 := fun a ha => ⟨(y a ha).1.trans (x a ha).1, (y a ha).2.1.trans (x a ha).2.1, (y a ha).2.2.1.trans (x a ha).2.2.1, (y a ha).2.2.2.1.trans (x a ha).2.2.2.1, (y a ha).2.2.2.2.trans (x a ha).2.2.2.2⟩
theorem Ag.wk (x : Ag A h h1) (hB : ∀ a, B a → A a) : Ag B h h1 := fun a ha => x a (hB a ha)
theorem Fr.ag (x : Fr S h h1) (hA : ∀ a i, A a → ¬ S a i) : Ag A h h1 := fun a ha => ⟨x.tg a, x.ln a, funext fun i => x.I (hA a i ha), funext fun i => x.L (hA a i ha), funext fun i => x.rr a i⟩
theorem FrR.ag (x : FrR S Z h h1) (hA : ∀ a i, A a → ¬ S a i) (hZ : ∀ a i, A a → ¬ Z a i) : Ag A h h1 := fun a ha => ⟨x.tg a, x.ln a, funext fun i => x.I (hA a i ha), funext fun i => x.L (hA a i ha), funext fun i => x.rr (hZ a i ha)⟩
theorem Ag.T (x : Ag A h h1) {a : Nat} (ha : A a) : ztag h1 a = ztag h a := (x a ha).1
theorem Ag.N (x : Ag A h h1) {a : Nat} (ha : A a) : zlen h1 a = zlen h a := (x a ha).2.1
theorem Ag.I (x : Ag A h h1) {a : Nat} (ha : A a) (i : Nat) : zI h1 a i = zI h a i := by rw [(x a ha).2.2.1]
theorem Ag.L (x : Ag A h h1) {a : Nat} (ha : A a) (i : Nat) : zL h1 a i = zL h a i := by rw [(x a ha).2.2.2.1]
theorem Ag.R (x : Ag A h h1) {a : Nat} (ha : A a) (i : Nat) : zR h1 a i = zR h a i := by rw [(x a ha).2.2.2.2]
theorem zAr.ag {m s r tg n : Nat} (x : zAr h m s r tg n) (y : Ag A h h1) (hm : A m) (hr : A r) : zAr h1 m s r tg n := by
  unfold zAr at x ⊢
  rw [y.R hm, y.T hr, y.N hr]
  exact x
/-- a range of cells -/
def Rg (lo hi : Nat) : Nat → Prop := fun a => lo ≤ a ∧ a ≤ hi
theorem rg {lo hi a : Nat} (h1 : lo ≤ a) (h2 : a ≤ hi) : Rg lo hi a := ⟨h1, h2⟩
theorem PSh.ag {p : Nat} (x : PSh h p) (y : Ag (Rg p (p + 6)) h h1) : PSh h1 p := by
  obtain ⟨s0, s1, s2, s3, s4, s5, s6⟩ := x
  exact ⟨by rw [y.T (rg (by omega) (by omega))]; exact s0, s1.ag y (rg (by omega) (by omega)) (rg (by omega) (by omega)), s2.ag y (rg (by omega) (by omega)) (rg (by omega) (by omega)), s3.ag y (rg (by omega) (by omega)) (rg (by omega) (by omega)), s4.ag y (rg (by omega) (by omega)) (rg (by omega) (by omega)), s5.ag y (rg (by omega) (by omega)) (rg (by omega) (by omega)), s6.ag y (rg (by omega) (by omega)) (rg (by omega) (by omega))⟩
theorem PgC.ag {p : Nat} {t u : Nat → Nat} (x : PgC h p t u) (y : Ag (Rg p (p + 6)) h h1) : PgC h1 p t u :=
  ⟨x.1.ag y, fun k hk => by rw [y.I (rg (by omega) (by omega))]; exact x.2.1 k hk, fun k hk => by rw [y.I (rg (by omega) (by omega))]; exact x.2.2 k hk⟩
theorem PgR.ag {p : Nat} {t u : Nat → Nat} (x : PgR h p t u) (y : Ag (Rg p (p + 6)) h h1) : PgR h1 p t u :=
  ⟨x.1.ag y, fun k hk => by rw [y.I (rg (by omega) (by omega))]; exact x.2.1 k hk, fun k hk => by rw [y.I (rg (by omega) (by omega))]; exact x.2.2.1 k hk, fun k hk => by rw [y.I (rg (by omega) (by omega))]; exact x.2.2.2.1 k hk, fun k hk => by rw [y.I (rg (by omega) (by omega))]; exact x.2.2.2.2.1 k hk, by rw [y.I (rg (by omega) (by omega))]; exact x.2.2.2.2.2⟩
theorem RSh.ag {r : Nat} (x : RSh h r) (y : Ag (Rg r (r + 2)) h h1) : RSh h1 r := ⟨by rw [y.T (rg (by omega) (by omega))]; exact x.1, x.2.1.ag y (rg (by omega) (by omega)) (rg (by omega) (by omega)), x.2.2.ag y (rg (by omega) (by omega)) (rg (by omega) (by omega))⟩
theorem RwC.ag {r N : Nat} {rs rx : Nat → Nat} (x : RwC h r N rs rx) (y : Ag (Rg r (r + 2)) h h1) : RwC h1 r N rs rx := ⟨x.1.ag y, by rw [y.I (rg (by omega) (by omega))]; exact x.2.1, fun k hk => by rw [y.I (rg (by omega) (by omega)), y.I (rg (by omega) (by omega))]; exact x.2.2 k hk⟩
theorem TSh.ag {p : Nat} (x : TSh h p) (y : Ag (Rg p (p + 1)) h h1) : TSh h1 p := ⟨by rw [y.T (rg (by omega) (by omega))]; exact x.1, x.2.ag y (rg (by omega) (by omega)) (rg (by omega) (by omega))⟩
theorem SSh.ag {p : Nat} (x : SSh h p) (y : Ag (Rg p (p + 1)) h h1) : SSh h1 p := ⟨by rw [y.T (rg (by omega) (by omega))]; exact x.1, x.2.ag y (rg (by omega) (by omega)) (rg (by omega) (by omega))⟩
theorem WSh.ag {p : Nat} (x : WSh h p) (y : Ag (Rg p (p + 1)) h h1) : WSh h1 p := ⟨by rw [y.T (rg (by omega) (by omega))]; exact x.1, by rw [y.R (rg (by omega) (by omega))]; exact x.2.1, by rw [y.T (rg (by omega) (by omega))]; exact x.2.2⟩
theorem Ag.sb {lo hi lo' hi' : Nat} (x : Ag (Rg lo hi) h h1) (q1 : lo ≤ lo') (q2 : hi' ≤ hi) : Ag (Rg lo' hi') h h1 := x.wk (fun a ha => ⟨Nat.le_trans q1 ha.1, Nat.le_trans ha.2 q2⟩)
theorem BSh.ag {b : Nat} (x : BSh h b) (y : Ag (Rg b (b + 26)) h h1) : BSh h1 b := by
  obtain ⟨s0, s1, s2, s3, s4, s5, s6, sm⟩ := x
  refine ⟨by rw [y.T (rg (by omega) (by omega))]; exact s0, s1.ag y (rg (by omega) (by omega)) (rg (by omega) (by omega)), s2.ag y (rg (by omega) (by omega)) (rg (by omega) (by omega)), s3.ag y (rg (by omega) (by omega)) (rg (by omega) (by omega)), s4.ag y (rg (by omega) (by omega)) (rg (by omega) (by omega)), s5.ag y (rg (by omega) (by omega)) (rg (by omega) (by omega)), s6.ag y (rg (by omega) (by omega)) (rg (by omega) (by omega)), fun i hi => ?_⟩
  rw [y.R (rg (by omega) (by omega)), y.T (rg (by omega) (by omega))]
  exact sm i hi
theorem BSd.ag {b d c m k : Nat} (y : Ag (Rg b (b + 26)) h h1) : BSd h1 b d c m k ↔ BSd h b d c m k := by
  unfold BSd
  rw [y.I (rg (by omega) (by omega)), y.I (rg (by omega) (by omega)), y.I (rg (by omega) (by omega))]
theorem BMd.ag {b g : Nat} (x : BMd h b g) (y : Ag (Rg b (b + 26)) h h1) : BMd h1 b g := ⟨x.1.ag y, by rw [y.I (rg (by omega) (by omega))]; exact x.2.1, by rw [y.I (rg (by omega) (by omega))]; exact x.2.2.1, fun i hi => by rw [y.I (rg (by omega) (by omega))]; exact x.2.2.2 i hi⟩
theorem BAl.ag {b p ac g : Nat} {t u : Nat → Nat} {pr : Nat → Nat → Nat} (x : BAl h b p ac g t u pr) (y : Ag (Rg b (b + 26)) h h1) : BAl h1 b p ac g t u pr := by
  obtain ⟨Bs, R, O, n0, n9, n10, n7, n8, n2⟩ := x
  refine ⟨Bs.ag y, ⟨by rw [y.R (rg (by omega) (by omega))]; exact R.1, fun d s hd hs => by rw [y.I (rg (by omega) (by omega))]; exact R.2.1 d s hd hs, fun d s hd hs => by rw [y.I (rg (by omega) (by omega))]; exact R.2.2.1 d s hd hs, fun d hd => by rw [y.L (rg (by omega) (by omega))]; exact R.2.2.2 d hd⟩, fun d c m k hd hv hs => ?_, n0, by rw [y.I (rg (by omega) (by omega))]; exact n9, by rw [y.I (rg (by omega) (by omega))]; exact n10, by rw [y.I (rg (by omega) (by omega))]; exact n7, by rw [y.I (rg (by omega) (by omega))]; exact n8, fun i hi => by rw [y.I (rg (by omega) (by omega))]; exact n2 i hi⟩
  rw [BSd.ag y] at hs
  obtain ⟨e1, e2⟩ := O d c m k hd hv hs
  exact ⟨fun s hs => by rw [y.L (rg (by omega) (by omega))]; exact e1 s hs, fun hd2 x hx1 hx2 => by rw [BSd.ag y]; exact e2 hd2 x hx1 hx2⟩
theorem SpM.ag {sp : Nat} (x : SpM h sp) (y : Ag (Rg sp (sp + 5)) h h1) : SpM h1 sp := by
  obtain ⟨P, Q, C, D, ⟨s0, sA, sB, sC, sD, s6, s5, oAB, oCD⟩, zA, zB, j5⟩ := x
  have hP : Rg sp (sp + 5) P := rg (by omega) (by omega)
  have hQ : Rg sp (sp + 5) Q := rg (by omega) (by omega)
  have hC : Rg sp (sp + 5) C := rg (by omega) (by omega)
  have hD : Rg sp (sp + 5) D := rg (by omega) (by omega)
  have h0 : Rg sp (sp + 5) sp := rg (by omega) (by omega)
  exact ⟨P, Q, C, D, ⟨by rw [y.T h0]; exact s0, sA.ag y h0 hP, sB.ag y h0 hQ, sC.ag y h0 hC, sD.ag y h0 hD, by rw [y.R h0]; exact s6, by rw [y.T (rg (by omega) (by omega))]; exact s5, oAB, oCD⟩, fun i hi => by rw [y.L hP]; exact zA i hi, fun i hi => by rw [y.L hQ]; exact zB i hi, by rw [y.I h0]; exact j5⟩
theorem XSh.ag {x : Nat} (X : XSh h x) (y' : Ag (Rg x (x + 44)) h h1) : XSh h1 x := by
  obtain ⟨⟨x0, r0, r1, r2, r3, r4, r5, r6, a7⟩, sh, P1, T1, ⟨d0, d1, d2⟩, P2, R1, W1, m1, ⟨f0, f1, f2, f3, f4, f5, f6, f7⟩, P3, m2⟩ := X
  have g : ∀ i, i ≤ 44 → Rg x (x + 44) (x + i) := fun i hi => ⟨by omega, by omega⟩
  have g0 : Rg x (x + 44) x := ⟨by omega, by omega⟩
  refine ⟨⟨by rw [y'.T g0]; exact x0, by rw [y'.R g0]; exact r0, by rw [y'.R g0]; exact r1, by rw [y'.R g0]; exact r2, by rw [y'.R g0]; exact r3, by rw [y'.R g0]; exact r4, by rw [y'.R g0]; exact r5, by rw [y'.R g0]; exact r6, a7.ag y' g0 (g 36 (by omega))⟩, fun k hk => ?_, P1.ag (y'.sb (by omega) (by omega)), T1.ag (y'.sb (by omega) (by omega)), ⟨by rw [y'.T (g 10 (by omega))]; exact d0, by rw [y'.R (g 10 (by omega))]; exact d1, by rw [y'.R (g 10 (by omega))]; exact d2⟩, P2.ag (y'.sb (by omega) (by omega)), R1.ag (y'.sb (by omega) (by omega)), W1.ag (y'.sb (by omega) (by omega)), by rw [y'.T (g 23 (by omega))]; exact m1, ⟨by rw [y'.T (g 24 (by omega))]; exact f0, by rw [y'.R (g 24 (by omega))]; exact f1, by rw [y'.R (g 24 (by omega))]; exact f2, by rw [y'.R (g 24 (by omega))]; exact f3, by rw [y'.R (g 24 (by omega))]; exact f4, f5.ag y' (g 24 (by omega)) (g 33 (by omega)), f6.ag y' (g 24 (by omega)) (g 34 (by omega)), f7.ag y' (g 24 (by omega)) (g 35 (by omega))⟩, P3.ag (y'.sb (by omega) (by omega)), by rw [y'.T (g 32 (by omega))]; exact m2⟩
  refine ⟨by rw [y'.R (g 36 (by omega))]; exact (sh k hk).1, (sh k hk).2.ag (y'.sb (by omega) (by omega))⟩
theorem Stc.ag {E : Nat → Nat} (x : Stc E h) (y : Ag (fun a => a < E 0) h h1) : Stc E h1 := by
  refine ⟨fun k a b => ?_, ?_⟩
  · obtain ⟨e, f, g, i⟩ := x.1 k a b
    exact ⟨e, by rw [y.T e]; exact f, by rw [y.N e]; exact g, fun j hj => by rw [y.I e]; exact i j hj⟩
  · obtain ⟨e, f, g, i⟩ := x.2
    refine ⟨e, by rw [y.T e]; exact f, by rw [y.N e]; exact g, ?_⟩
    rw [(y _ e).2.2.1]
    exact i
end AGR
/-! new cells -/
/-- k cells are made, n slots; the rest is as it was -/
def Gr (k n : Nat) (h h' : ZH) : Prop := zsz h' = zsz h + k ∧ ztot h' = ztot h + n ∧ Ag (fun a => a < zsz h ∨ zsz h + k ≤ a) h h'
theorem Gr.tr {k n k' n' : Nat} {h h1 h2 : ZH} (x : Gr k n h h1) (y : Gr k' n' h1 h2) : Gr (k + k') (n + n') h h2 := by
  refine ⟨by rw [y.1, x.1]; omega, by rw [y.2.1, x.2.1]; omega, (x.2.2.wk (fun a ha => by omega)).tr (y.2.2.wk (fun a ha => by rw [x.1]; omega))⟩
theorem Gr.new (h : ZH) (tg n : Nat) : Gr 1 n h (znew h tg n) := by
  refine ⟨rfl, rfl, fun a ha => ?_⟩
  have hne : ¬ a = zsz h := by omega
  refine ⟨?_, ?_, ?_, ?_, ?_⟩
  · show (if a = zsz h then tg else ztag h a) = ztag h a
    rw [if_neg hne]
  · show (if a = zsz h then n else zlen h a) = zlen h a
    rw [if_neg hne]
  · funext j
    show (if a = zsz h then (0 : Int32) else zI h a j) = zI h a j
    rw [if_neg hne]
  · funext j
    show (if a = zsz h then (0 : Int64) else zL h a j) = zL h a j
    rw [if_neg hne]
  · funext j
    show (if a = zsz h then 0 else zR h a j) = zR h a j
    rw [if_neg hne]
theorem znew_at (h : ZH) (tg n : Nat) : ztag (znew h tg n) (zsz h) = tg ∧ zlen (znew h tg n) (zsz h) = n ∧ (∀ i, zI (znew h tg n) (zsz h) i = 0) ∧ (∀ i, zL (znew h tg n) (zsz h) i = 0) ∧ ∀ i, zR (znew h tg n) (zsz h) i = 0 := by
  refine ⟨?_, ?_, fun i => ?_, fun i => ?_, fun i => ?_⟩
  · show (if zsz h = zsz h then tg else _) = tg; rw [if_pos rfl]
  · show (if zsz h = zsz h then n else _) = n; rw [if_pos rfl]
  · show (if zsz h = zsz h then (0 : Int32) else _) = 0; rw [if_pos rfl]
  · show (if zsz h = zsz h then (0 : Int64) else _) = 0; rw [if_pos rfl]
  · show (if zsz h = zsz h then 0 else _) = 0; rw [if_pos rfl]
