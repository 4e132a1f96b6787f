/-! THE LAW, but for page -/
section RUN
variable {E : Nat → Nat} {d : Nat}
theorem mb_MSh {m : Nat} {h0 h : ZH} (B : MB m 24 h0 h) : MSh h m := by
  have a := B.2.2.2.2.2.1
  exact ⟨B.2.2.2.1, a 0 (by omega), a 1 (by omega), a 2 (by omega), a 3 (by omega), a 4 (by omega), a 5 (by omega), a 6 (by omega), a 7 (by omega), a 8 (by omega), a 9 (by omega), a 10 (by omega), a 11 (by omega), a 12 (by omega), a 13 (by omega), a 14 (by omega), a 15 (by omega), a 16 (by omega), a 17 (by omega), a 18 (by omega), a 19 (by omega), a 20 (by omega), a 21 (by omega), a 22 (by omega), a 23 (by omega)⟩
theorem mb_k1 : ∀ k, k < 16 → (mk_v 7).getD k 0 = jI (tp_t0 k : Int) := by decide
theorem mb_k2 : ∀ k, k < 3 → (mk_v 7).getD (16 + k) 0 = jI (tp_t0 (20 + k) : Int) := by decide
theorem mb_k3 : ∀ k, k < 9 → (mk_v 7).getD (19 + k) 0 = jI (tp_t0 (30 + k) : Int) := by decide
theorem mb_k4 : ∀ k, k < 20 → (mk_v 9).getD k 0 = jI (tp_uJ 3) := by decide
theorem mb_k5 : ∀ k, k < 4 → (mk_v 21).getD k 0 = jI (-4) := by decide
theorem mb_JM {m : Nat} {h0 h : ZH} (B : MB m 24 h0 h) : JM h m tp_t0 (fun _ => 3) 0 0 (fun _ => 0) 0 (fun _ => 0) (fun _ => 0) (fun _ => -4) (fun _ => 0) (fun _ _ => 0) 0 := by
  have S := mb_MSh B
  have i0 := B.2.2.2.2.1
  have v := B.2.2.2.2.2.2
  refine ⟨⟨S, fun k hk => ?_, fun k hk => ?_, fun k hk => ?_, fun k hk => ?_⟩, i0 2, ⟨i0 1, fun i hi => by omega⟩, ⟨i0 36, fun k hk => by omega⟩, fun k hk => ⟨?_, ?_, fun i hi => ?_⟩, i0 51, fun q => absurd (i0 29) q, fun j j1 j2 i hi => ?_⟩
  · exact (v 7 (by omega) k).trans (mb_k1 k hk)
  · exact (v 7 (by omega) (16 + k)).trans (mb_k2 k hk)
  · exact (v 7 (by omega) (19 + k)).trans (mb_k3 k hk)
  · exact (v 9 (by omega) k).trans (mb_k4 k hk)
  · exact (v 21 (by omega) k).trans (mb_k5 k hk)
  · exact (v 22 (by omega) k).trans rfl
  · exact (v 23 (by omega) (48 * k + i)).trans rfl
  · have : j = 2 ∨ j = 3 ∨ j = 4 ∨ j = 5 ∨ j = 6 ∨ j = 7 := by omega
    rcases this with e | e | e | e | e | e <;> subst e
    · exact v 1 (by omega) i
    · exact v 2 (by omega) i
    · exact v 3 (by omega) i
    · exact v 4 (by omega) i
    · exact v 5 (by omega) i
    · exact v 6 (by omega) i
theorem if0 (v : Nat) : (if (0 : Nat) = 0 then v else 0) = v := if_pos rfl
theorem ifs3 {a zt b c : Nat} (z2 : a + (b + b + c) ≤ zt) : a + (if (0 : Nat) = 0 then b else 0) + (if (0 : Nat) = 0 then b else 0) + (if (0 : Nat) = 0 then c else 0) ≤ zt := by
  rw [if0, if0]
  omega
theorem rmz0 {x zs zt : Nat} {h : ZH} (f5 : ∀ i, 4 ≤ i → i ≤ 6 → zR h (x + 24) i = 0) (z : x + 70 ≤ zsz h) (z1 : zsz h + 60 ≤ zs) (z2 : ztot h + 126000 ≤ zt) : Rm h x zs zt 0 0 0 0 0 := by
  have n : ∀ b : Nat, ¬ 0 = b + 1 := fun b => by omega
  refine ⟨⟨f5 4 (by omega) (by omega), f5 5 (by omega) (by omega), f5 6 (by omega) (by omega)⟩, fun b e => absurd e (n b), fun b e => absurd e (n b), fun b e => absurd e (n b), ⟨fun b c e => absurd e (n b), fun b c e => absurd e (n b), fun b c e => absurd e (n b)⟩, z, ?_, ?_⟩
  · exact ifs3 (by omega)
  · exact ifs3 (by omega)
theorem fk0 {x : Nat} {h : ZH} {t u rs : Nat → Nat} (f4 : ∀ i, zI h (x + 24) i = 0) (f6 : ∀ i, zI h (x + 33) i = 0) : FgK h x 0 0 0 0 t u rs := ⟨fun q => absurd (f4 7) q, fun q => absurd (f4 8) q, fun q => absurd (f4 9) q, fun q => absurd (f4 10) q, fun w hw q => absurd (f6 w) q⟩
theorem w7_JC {x zs zt : Nat} {h : ZH} (Sc : Stc E h) (hE : E 0 ≤ x) (X : XSh h x) (W : W7 x h) (o : O8 x 4 h) (i0 : ∀ i, zI h x i = 0) (z : x + 70 ≤ zsz h) (z1 : zsz h + 60 ≤ zs) (z2 : ztot h + 126000 ≤ zt) : JC E h x zs zt 0 tp_t0 (fun _ => 3) 0 0 (fun _ => 0) 0 (fun _ => 0) (fun _ => 0) (fun _ => -4) (fun _ => 0) (fun _ _ => 0) 0 := by
  obtain ⟨⟨⟨⟨⟨⟨⟨a0, p1⟩, a1, p2⟩, a2, p3⟩, a3, p4⟩, a4, p5⟩, a5, p6⟩, a6, p7⟩ := W
  obtain ⟨f1, f2, f3, f4, f5, f6⟩ := p7
  refine ⟨X, ⟨Sc, hE⟩, p1, p3.2.2, ⟨p2.2, fun i hi => by omega⟩, ⟨p4.1, p4.2, fun k hk => by omega⟩, fun k hk => ?_, i0 8, ⟨0, 0, 0, 0, 0, Nat.le_refl _, Nat.le_refl _, rmz0 f5 z z1 z2, fk0 f4 f6⟩⟩
  obtain ⟨q1, q2, q3, q4, q5⟩ := o k hk
  exact ⟨q3, q4, fun i hi => q5 i⟩
theorem mk_T24 : mk_T 24 ≤ 1000000 := by decide
theorem law_run {hs : ZH} {b L : Nat} {xs : Nat → Int32} (hd : 101 ≤ d) (Z : zSt E hs b L xs) (hL : L ≤ 4096) (hpg : ∀ zs zt, PgJ E (d - 1) (E 0) zs zt) : Ct E d 219 [.ref b] hs (fun v h' => v = some (.int 1) ∧ zsz h' - zsz hs ≤ 600000 ∧ ztot h' - ztot hs ≤ 7302250) := by
  obtain ⟨d, rfl⟩ : ∃ n, d = n + 1 := ⟨d - 1, by omega⟩
  obtain ⟨z0, t0, ⟨hb, b1, b2, b3⟩, Sc⟩ := Z
  have Sc0 : Stc E hs := Sc
  have w1 := znew_at hs 10 (zN 10)
  have g1 := Gr.new hs 10 (zN 10)
  have n10 : zN 10 = 9 := rfl
  have n11 : zN 11 = 52 := rfl
  refine ok_219 (nm_e (nm_e ⟨w1.1, ?_⟩))
  have Sc1 : Stc E (znew hs 10 (zN 10)) := Sc0.ag (g1.2.2.wk (fun a ha => by omega))
  have zz1 : zsz (znew hs 10 (zN 10)) = E 0 + 1 := by rw [g1.1, z0]
  have tt1 : ztot (znew hs 10 (zN 10)) = ztot hs + zN 10 := g1.2.1
  have yy1 : Ag (fun a => a < E 0) hs (znew hs 10 (zN 10)) := g1.2.2.wk (fun a ha => by omega)
  rw [z0] at w1 ⊢
  generalize znew hs 10 (zN 10) = h1 at w1 Sc1 zz1 tt1 yy1 ⊢
  refine ct_89 (by omega) Sc1 (Nat.le_refl _) zz1 w1.1 w1.2.2.1 (fun h4 z4 t4 y4 X4 W4 o4 i4 => ⟨rfl, ?_⟩)
  have w5 := znew_at h4 11 (zN 11)
  have g5 := Gr.new h4 11 (zN 11)
  refine nm_e (nm_e ⟨w5.1, ?_⟩)
  have zz5 : zsz (znew h4 11 (zN 11)) = E 0 + 45 + 1 := by rw [g5.1, z4]
  have tt5 : ztot (znew h4 11 (zN 11)) = ztot h4 + zN 11 := g5.2.1
  have yy5 : Ag (fun a => a < E 0 + 45) h4 (znew h4 11 (zN 11)) := g5.2.2.wk (fun a ha => by omega)
  rw [z4] at w5 ⊢
  generalize znew h4 11 (zN 11) = h5 at w5 zz5 tt5 yy5 ⊢
  refine ct_134 (by omega) zz5 w5.1 w5.2.2.1 (fun h8 B8 => ⟨rfl, 514, ?_⟩)
  have y8 : Ag (fun a => a < E 0 + 45) h4 h8 := yy5.tr (B8.2.2.1.wk (fun a ha => by omega))
  have z8 : zsz h8 = E 0 + 70 := by rw [B8.1]
  have t8 : ztot h8 ≤ ztot hs + 1002000 := by
    have := B8.2.1
    have := mk_T24
    omega
  have ya : Ag (fun a => a < E 0) hs h8 := yy1.tr (y4.tr (y8.wk (fun a ha => by omega)))
  have W8 : W7 (E 0) h8 := W4.k (y8.wk (fun a ha => by omega)) (fun i _ => y8.R (by omega) i)
  have o8 : O8 (E 0) 4 h8 := fun j hj => by
    obtain ⟨q1, q2, q3, q4, q5⟩ := o4 j hj
    exact ⟨by rw [y8.R (by omega)]; exact q1, q2.ag (y8.wk (fun a ha => by unfold Rg at ha; omega)), by rw [y8.I (by omega)]; exact q3, by rw [y8.I (by omega)]; exact q4, fun i => by rw [y8.I (by omega)]; exact q5 i⟩
  have X8 : XSh h8 (E 0) := X4.ag (y8.wk (fun a ha => by unfold Rg at ha; omega))
  have JC8 := w7_JC (zs := E 0 + 130) (zt := ztot hs + 1128000) (Sc0.ag ya) (Nat.le_refl _) X8 W8 o8 (fun i => by rw [y8.I (by omega)]; exact i4 i) (by omega) (by omega) (by omega)
  have JM8 := mb_JM B8
  have S8 : SxS h8 b L xs := ⟨by rw [ya.T hb]; exact b1, by rw [ya.N hb]; exact b2, fun j hj => by rw [ya.I hb]; exact b3 j hj⟩
  refine l219 (zs := E 0 + 130) (zt := ztot hs + 1128000) (by omega) hb hL (hpg _ _) (fun h' LL => ?_) 513 0 h8 (by omega) ⟨0, tp_t0, fun _ => 3, 0, 0, fun _ => 0, 0, fun _ => 0, fun _ => 0, fun _ => -4, fun _ => 0, fun _ _ => 0, 0, by omega, ⟨tp_t0_ok, fun _ => Nat.le_refl _, fun _ => ⟨0, by omega, rfl⟩, by omega, by omega, fun _ => ⟨by show 0 < 3; omega, by show 0 ≤ 9; omega⟩, fun _ => ⟨Or.inl rfl, by show (0 : Int) ≤ 0; omega, by show (0 : Int) ≤ 48; omega⟩⟩, JC8, JM8⟩ S8
  obtain ⟨g, t, u, ft, tn, tb, N, rs, rx, la, sz, ce, to, hg, js, J, M⟩ := LL
  obtain ⟨rb, rt, rp, gb, gt, q1, q2, R, K⟩ := J.F
  have r1 := R.2.2.2.2.2.2.1
  have r2 := R.2.2.2.2.2.2.2
  exact ⟨rfl, by omega, by omega⟩
end RUN
