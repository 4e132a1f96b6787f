/-! EVERY RUN, on -/
def zrtI (r : Option FieldType) (i : Instr) : Bool := match i with
  | .ireturn => decide (r = some .int ∨ r = some .boolean)
  | .lreturn => decide (r = some .long)
  | .areturn => (match r with
    | some (.object _) => true
    | _ => false)
  | .return_ => decide (r = none)
  | _ => true
set_option maxRecDepth 100000 in
theorem zrt_ok : (List.range 219).all (fun y => (zM y).1.all (zrtI (zY y).2.2.2.1)) = true := by decide +kernel
theorem zrt_spec {y : Nat} (hy : y < 219) {i : Instr} (hi : i ∈ (zM y).1) : zrtI (zY y).2.2.2.1 i = true := List.all_eq_true.mp (List.all_eq_true.mp zrt_ok y (List.mem_range.mpr hy)) i hi
def zrm (d mc ms : Nat) : Room := { frames := d, cells := mc, slots := ms, locals := 64 * d }
def zPc (E : Nat → Nat) (D : va_G) (cA : Nat → ClassId) (hs : ZH) (H0 : Heap) (h : ZH) (as : List Value) : Array Value → State → Prop := fun a U => a = as.toArray ∧ ZRp E D cA hs H0 h U.heap ∧ ZK E D cA hs H0 U
def zQc (E : Nat → Nat) (D : va_G) (cA : Nat → ClassId) (hs : ZH) (H0 : Heap) (h' : ZH) (v : Option Value) : Array Value → State → Outcome → State → Prop := fun _ _ o t => o = .returned v ∧ ZRp E D cA hs H0 h' t.heap
def zCw (y : Nat) : Cond := .code (zY y).1 (zBy y) (zY y).2.2.1 (zY y).2.2.2.1
/-- what is to be shown of a run: from where it stands, whatever the end asks -/
def ZSnd (l : Launch) (E : Nat → Nat) (D : va_G) (cA : Nat → ClassId) (hs : ZH) (H0 : Heap) (d y k : Nat) (ls st : List Value) (h : ZH) (v : Option Value) (h' : ZH) : Prop :=
  ∀ (p : Program) (e : Env) (R : Room) (s : State) (m : MethodId) (args : Array Value) (below : List Frame) (meth : Method) (c : Code) (Q : State → Prop) (pc nL cells slots : Nat), ZC p R s m meth c E D cA hs H0 y d → (zM y).2.1 = nL → (zP y)[k]? = some pc → cells + (zsz h' - zsz h) ≤ R.cells → slots + (ztot h' - ztot h) ≤ R.slots →
    (∀ (pc : Nat) (i : Instr) (st : List Value) (arr : Array Slot) (H : Heap) (locs : List Loc), i ∈ (zM y).1 → decode (zBy y) pc = .ok (i, 1) → zret (decide (100 ≤ zTg y)) i st = some v → ZRp E D cA hs H0 h' H → (∀ q ∈ locs, E 0 ≤ q.base) → W p l e R s m args below meth c H locs (cells + (zsz h' - zsz h)) (slots + (ztot h' - ztot h)) Q (F0 m pc arr st)) →
    ZG p l e R s m args below meth c Q E D cA hs H0 nL pc ls st h cells slots
theorem zmet {l : Launch} {E : Nat → Nat} {D : va_G} {cA : Nat → ClassId} {hs : ZH} {H0 : Heap} {d z : Nat} {as : List Value} {h h' : ZH} {v : Option Value} (hz : z < 219) (hok : as.all zok = true) (hlen : (zargs as).length ≤ (zM z).2.1)
    (ih : ZSnd l E D cA hs H0 d z 0 (zframe (zM z).2.1 as) [] h v h') : Met l (zY z).1 [zCw z] (zrm d (zsz h' - zsz h) (ztot h' - ztot h)) (zPc E D cA hs H0 h as) (zQc E D cA hs H0 h' v) (zsz h' - zsz h) (ztot h' - ztot h) (fun q => E 0 ≤ q) := by
  obtain ⟨w1, w2, w3, w4, w5, w6, w7, w8, w9, w10, w11, w12, w13, w14, w15, w16⟩ := zw_spec hz
  refine Met.ofW (cc := zBy z) (maxL := (zY z).2.2.1) (ret := (zY z).2.2.2.1) w13 rfl ?_
  intro p e s m args below meth c s₁ B hml hv
  obtain ⟨rfl, hR, hK⟩ := hv
  have hown := findClass_of_methodNamed B.named
  have hx := B.exec
  have hb := B.bytes
  have hlocks := B.notSynchronized
  have hret := B.returns
  have X : ZC p (zrm d (zsz h' - zsz h) (ztot h' - ztot h)) s m meth c E D cA hs H0 z d := ⟨hx, hb, by rw [hml, w8], by rw [← w5]; exact hown, fun hi => (name_of_methodNamed B.named B.method).1.trans (by simpa [zini] using hi), hK, Nat.le_refl _, Nat.le_refl _⟩
  rw [lg_entry_eq]
  rw [← w8]
  refine ih p e (zrm d (zsz h' - zsz h) (ztot h' - ztot h)) s m as.toArray below meth c _ 0 _ 0 0 X rfl w10 (by rw [Nat.zero_add]; exact Nat.le_refl _) (by rw [Nat.zero_add]; exact Nat.le_refl _) ?_ _ s.heap [] (zLR.entry as hok hlen) hR (fun q hq => by cases hq)
  intro pc i st arr H locs hmem hd hr hR' hl
  have hrt := zrt_spec hz hmem
  rw [Nat.zero_add, Nat.zero_add]
  rcases zret_spec hr with ⟨rfl, x, rfl, rfl, hbx⟩ | ⟨rfl, x, rfl, rfl⟩ | ⟨rfl, x, rfl, rfl⟩ | ⟨rfl, rfl, rfl⟩
  · simp only [zrtI, decide_eq_true_eq] at hrt
    rcases hrt with hrt | hrt
    · exact W.iret hx hb (by rw [hret, hrt]) (fun t ht _ => ⟨rfl, by rw [ht]; exact hR'⟩) hl hd
    · refine W.zret hx hb (by rw [hret, hrt]) ?_ (fun t ht _ => ⟨rfl, by rw [ht]; exact hR'⟩) hl hd
      have hbt : ¬ decide (100 ≤ zTg z) = false := by
        rw [w14, hrt]
        simp
      rcases hbx with q | q | q
      · exact absurd q hbt
      · subst q; rfl
      · subst q; rfl
  · simp only [zrtI, decide_eq_true_eq] at hrt
    exact W.lret hx hb (by rw [hret, hrt]) (fun t ht _ => ⟨rfl, by rw [ht]; exact hR'⟩) hl hd
  · simp only [zrtI] at hrt
    split at hrt
    · next n e0 => exact W.aret hx hb (by rw [hret, e0]) (Or.inl ⟨_, rfl⟩) (Or.inr ⟨_, rfl⟩) (fun t ht _ => ⟨rfl, by rw [ht]; exact hR'⟩) hl hd
    · cases hrt
  · simp only [zrtI, decide_eq_true_eq] at hrt
    exact W.vret hx hb (by rw [hret, hrt]) (fun t ht _ => ⟨rfl, by rw [ht]; exact hR'⟩) hl hd
section ZCALL
variable {p : Program} {l : Launch} {e : Env} {R : Room} {s : State} {m : MethodId} {args : Array Value} {below : List Frame} {meth : Method} {c : Code} {Q : State → Prop}
variable {E : Nat → Nat} {D : va_G} {cA : Nat → ClassId} {hs : ZH} {H0 : Heap}
/-- one call: the callee's run is the machine's -/
theorem zcallrun {d y z idx pc nL mc ms cells slots : Nat} {arr : Array Slot} {H : Heap} {locs : List Loc} {ls as rest : List Value} {h h' : ZH} {v : Option Value} {i raw : Instr} {q : Nat × Nat × Nat × Nat × Nat} (X : ZC p R s m meth c E D cA hs H0 y (d + 1)) (hnL : (zM y).2.1 = nL) (hL : zLR arr nL ls) (hR : ZRp E D cA hs H0 h H)
    (hM : Met l (zY z).1 [zCw z] (zrm d mc ms) (zPc E D cA hs H0 h as) (zQc E D cA hs H0 h' v) mc ms (fun q => E 0 ≤ q))
    (hq : zMf (zY y).2.2.2.2 idx = some q) (hqz : q.2.2.1 = z) (hd : decode (zBy y) pc = .ok (raw, 3)) (hraw : (raw = .invokestatic idx ∧ i = .invokestatic z ∧ (zMP.getD z (9, 0, 0, 0, 0, 0)).1 = 0) ∨ (raw = .invokevirtual idx ∧ i = .invokevirtual z ∧ (zMP.getD z (9, 0, 0, 0, 0, 0)).1 = 1) ∨ (raw = .invokespecial idx ∧ i = .invokespecial z ∧ (zMP.getD z (9, 0, 0, 0, 0, 0)).1 = 2))
    (hlen : as.length = (zM z).2.2) (hcat : zcat rest ≤ 8) (hrecv : zrecv i h (zTg z % 100) as = true) (hc1 : cells + mc ≤ R.cells) (hc2 : slots + ms ≤ R.slots) :
    va_Run p l e R s m args below meth c H locs cells slots mc ms (F0 m pc arr (as.reverse ++ rest)) rest (zQc E D cA hs H0 h' v as.toArray) (fun q => E 0 ≤ q) := by
  obtain ⟨hx, hb, hml, hown, hin, hK, hfr, hlo⟩ := X
  obtain ⟨e1, e2, hw, hz⟩ := zMf_spec hq
  rw [hqz] at hz
  obtain ⟨w1, w2, w3, w4, w5, w6, w7, w8, w9, w10, w11, w12, w13, w14, w15, w16⟩ := zw_spec hz
  have hbl : FrameBlind (zPc E D cA hs H0 h as) := fun a U g mk hP => ⟨hP.1, hP.2.1, ZK.same (s := U) (U := U.calling g mk a) rfl hP.2.2⟩
  have hPc : ∀ U : State, U.heap = H → s.WarmedH U.vm → zPc E D cA hs H0 h as as.toArray U := fun U hU hW => ⟨rfl, by rw [hU]; exact hR, hK.warm hW⟩
  have hws : ∀ w ∈ [zCw z], ∀ (a' : Array Value) (U : State), s.WarmedH U.vm → w.before a' U = true := by
    intro w hw1 a' U hW
    rw [List.mem_singleton.mp hw1]
    exact (hK.warm hW).word w1 rfl a'
  have S : CallFix p m c (zBy y) nL s args [] (zcn (zY y).2.2.2.2) := ⟨hx, hb, by rw [hml, hnL], hown, fun w hw => by cases hw⟩
  have hlenP : ∀ n, (zmp z).2.2.2.2.2 = n → ∀ sig, parseMethodDescriptor (zY z).1.desc = some sig → n = sig.parameters.length := by
    intro n hn sig hsg
    rw [hsg] at w7
    rw [← hn]
    exact (Option.some.inj w7).symm
  have hini : (Cond.initialized (zY z).1.cls).before args s = true := by rw [w5]; exact hK.word w4 rfl args
  have hcode := hK.word w1 rfl args
  have hrmF : (zrm d mc ms).frames + 1 ≤ R.frames := hfr
  have hrmL : 8 + ((zY z).2.2.1 + 11) + (zrm d mc ms).locals ≤ R.locals := by
    show 8 + ((zY z).2.2.1 + 11) + 64 * d ≤ R.locals
    omega
  have h8 : 2 * (F0 m pc arr (as.reverse ++ rest)).monitorRoom + (rest.map fun v => v.category).sum ≤ 8 := by
    show 2 * 0 + _ ≤ 8
    unfold zcat at hcat
    omega
  unfold zMw at hw
  rw [e1, e2, hqz] at hw
  have hmz : (zMP.getD z (9, 0, 0, 0, 0, 0)).1 = (zmp z).1 := rfl
  rw [hmz] at hraw
  unfold zrecv at hrecv
  rw [Bool.and_eq_true] at hrecv
  have htg : zTg z % 100 = (zY z).2.2.2.2 := by
    rw [w14]
    split <;> omega
  rcases hraw with ⟨rfl, rfl, hk⟩ | ⟨rfl, rfl, hk⟩ | ⟨rfl, rfl, hk⟩
  · rw [if_pos hk] at w2 w9
    split at hw
    · exact va_runS (bytes := zBy z) (maxL := (zY z).2.2.1) (ret := (zY z).2.2.2.1) (n := (zmp z).2.2.2.2.2) (index := idx) (g := F0 m pc arr (as.reverse ++ rest)) S hM ⟨⟨rfl, rfl, hrmF, hrmL, hws, List.mem_singleton.mpr rfl, hcode, hini, w6, hlenP _ rfl, hK.word hw rfl args⟩, hK.word w2 rfl args⟩ ⟨hbl, hPc⟩ rfl (by rw [hlen, w9]) hL.1 rfl h8 hd ⟨hc1, hc2⟩
    · exact va_runSN (bytes := zBy z) (maxL := (zY z).2.2.1) (ret := (zY z).2.2.2.1) (n := (zmp z).2.2.2.2.2) (index := idx) (host := "TakeOrPay") (g := F0 m pc arr (as.reverse ++ rest)) S hM ⟨⟨⟨rfl, rfl, hrmF, hrmL, hws, List.mem_singleton.mpr rfl⟩, hcode, hini, w6, hlenP _ rfl, hK.word hw rfl args⟩, hK.word w2 rfl args, trivial⟩ ⟨hbl, hPc⟩ rfl (by rw [hlen, w9]) hL.1 rfl h8 hd ⟨hc1, hc2⟩
  · rw [if_neg (by omega)] at w2 w9
    have hr2 := hrecv.2
    split at hr2
    · next heq => cases heq
    · next b as' heq =>
      simp only [decide_eq_true_eq] at hr2
      rw [htg] at hr2
      obtain ⟨cB, b1, b2, b3, -⟩ := hR.obj hK hr2 w15
      obtain ⟨hcl, -⟩ := zcl_ok _ w15
      have hcls := (hK.2.1 _ _ hcl).2.1
      have hstack : (F0 m pc arr ((Value.ref b :: as').reverse ++ rest)).stack = as'.reverse ++ .ref b :: rest := by
        show (Value.ref b :: as').reverse ++ rest = _
        simp
      have hn : as'.length = (zmp z).2.2.2.2.2 := by
        rw [w9] at hlen
        simpa using hlen
      have hpv : PreV s H (zcn (zY z).2.2.2.2) b (zPc E D cA hs H0 h (Value.ref b :: as')) as' := ⟨hbl, ⟨cB, b1, by rw [b3]; rfl, by rw [b2]; exact hcls⟩, hPc⟩
      split at hw
      · exact va_runV (bytes := zBy z) (maxL := (zY z).2.2.1) (ret := (zY z).2.2.2.1) (n := (zmp z).2.2.2.2.2) (index := idx) (C := zcn (zY z).2.2.2.2) (g := F0 m pc arr ((Value.ref b :: as').reverse ++ rest)) S hM ⟨⟨rfl, rfl, hrmF, hrmL, hws, List.mem_singleton.mpr rfl, hcode, hini, w6, hlenP _ rfl, hK.word hw rfl args⟩, hK.word w2 rfl args, hK.word (w3 hk) rfl args⟩ hpv rfl hn hL.1 hstack h8 hd ⟨hc1, hc2⟩
      · exact va_runVN (bytes := zBy z) (maxL := (zY z).2.2.1) (ret := (zY z).2.2.2.1) (n := (zmp z).2.2.2.2.2) (index := idx) (C := zcn (zY z).2.2.2.2) (host := "TakeOrPay") (g := F0 m pc arr ((Value.ref b :: as').reverse ++ rest)) S hM ⟨⟨⟨rfl, rfl, hrmF, hrmL, hws, List.mem_singleton.mpr rfl⟩, hcode, hini, w6, hlenP _ rfl, hK.word hw rfl args⟩, hK.word w2 rfl args, hK.word (w3 hk) rfl args⟩ hpv rfl hn hL.1 hstack h8 hd ⟨hc1, hc2⟩
    · cases hr2
  · rw [if_neg (by omega)] at w2 w9
    have hr2 := hrecv.2
    obtain ⟨w12a, w12b⟩ := w12 hk
    have hcode' := hcode
    rw [w12b] at hcode'
    split at hr2
    · next heq => cases heq
    · next b as' heq =>
      have hstack : (F0 m pc arr ((Value.ref b :: as').reverse ++ rest)).stack = as'.reverse ++ .ref b :: rest := by
        show (Value.ref b :: as').reverse ++ rest = _
        simp
      have hn : as'.length = (zmp z).2.2.2.2.2 := by
        rw [w9] at hlen
        simpa using hlen
      have hmem : Cond.code (zY z).1 (zBy z) (zY z).2.2.1 none ∈ [zCw z] := by
        unfold zCw
        rw [w12b]
        exact List.mem_singleton.mpr rfl
      split at hw
      · exact va_runI (bytes := zBy z) (maxL := (zY z).2.2.1) (n := (zmp z).2.2.2.2.2) (index := idx) (g := F0 m pc arr ((Value.ref b :: as').reverse ++ rest)) S hM ⟨⟨rfl, rfl, hrmF, hrmL, hws, hmem, hcode', hini, w6, hlenP _ rfl, hK.word hw rfl args⟩, w12a, hK.word w2 rfl args⟩ ⟨hbl, hPc⟩ rfl hn hL.1 hstack h8 hd ⟨hc1, hc2⟩
      · exact va_runIN (bytes := zBy z) (maxL := (zY z).2.2.1) (n := (zmp z).2.2.2.2.2) (index := idx) (host := "TakeOrPay") (g := F0 m pc arr ((Value.ref b :: as').reverse ++ rest)) S hM ⟨⟨⟨rfl, rfl, hrmF, hrmL, hws, hmem⟩, hcode', hini, w6, hlenP _ rfl, hK.word hw rfl args⟩, w12a, hK.word w2 rfl args⟩ ⟨hbl, hPc⟩ rfl hn hL.1 hstack h8 hd ⟨hc1, hc2⟩
    · cases hr2
end ZCALL
theorem zx_sound (l : Launch) (E : Nat → Nat) (D : va_G) (cA : Nat → ClassId) (hs : ZH) (H0 : Heap) : ∀ (n d y k : Nat) (ls st : List Value) (h : ZH) (v : Option Value) (h' : ZH), zx E zM zTg n d y k ls st h = some (v, h') → y < 220 → ZSnd l E D cA hs H0 d y k ls st h v h' := by
  intro n
  induction n with
  | zero => intro d y k ls st h v h' hx; simp [zx] at hx
  | succ n ih =>
    intro d y k ls st h v h' hx hy p e R s m args below meth c Q pc nL cells slots X hnL hpc hrc hrs hret
    simp only [zx] at hx
    split at hx
    · cases hx
    · next i hi =>
      obtain ⟨pc', raw, len, a1, a2, a3, a0, a4⟩ := zk_all y hy k i hi
      rw [hpc] at a1
      cases a1
      split at hx
      · next v1 hv1 =>
        cases hx
        intro arr H locs hL hR hl
        have hi4 : i = .ireturn ∨ i = .lreturn ∨ i = .areturn ∨ i = .return_ := by
          rcases zret_spec hv1 with ⟨q, -⟩ | ⟨q, -⟩ | ⟨q, -⟩ | ⟨q, -⟩
          · exact Or.inl q
          · exact Or.inr (Or.inl q)
          · exact Or.inr (Or.inr (Or.inl q))
          · exact Or.inr (Or.inr (Or.inr q))
        have hri := zres_ret a3 hi4
        subst hri
        have hl1 : len = 1 := by
          rcases hi4 with q | q | q | q <;> (subst q; exact (a0.resolve_left (by intro q; cases q)).symm)
        subst hl1
        have K := hret pc raw st arr H locs (List.mem_of_getElem? hi) a2 hv1 hR hl
        simp only [Nat.sub_self, Nat.add_zero] at K
        exact K
      · split at hx
        · next hcl =>
          split at hx
          · cases hx
          · next k1 ls1 st1 h1 hst =>
            have m1 := zstep_mono hst
            have m2 := zx_mono _ _ _ _ _ _ _ _ _ hx
            refine zs_all X hnL a2 a3 a0 a4 hcl hst (by omega) (by omega) ?_
            intro pc2 hpc2
            refine ih _ _ _ _ _ _ _ _ hx hy p e R s m args below meth c Q pc2 nL _ _ X hnL hpc2 (by omega) (by omega) ?_
            intro pcr ir str arr H locs q1 q2 q3 q4 q5
            have K := hret pcr ir str arr H locs q1 q2 q3 q4 q5
            rw [show cells + (zsz h1 - zsz h) + (zsz h' - zsz h1) = cells + (zsz h' - zsz h) by omega, show slots + (ztot h1 - ztot h) + (ztot h' - ztot h1) = slots + (ztot h' - ztot h) by omega]
            exact K
        · next z hcl =>
          split at hx
          · cases hx
          · next d' =>
            split at hx
            · next hcond =>
              obtain ⟨b1, b2, b3, b4⟩ := hcond
              split at hx
              · cases hx
              · next v1 h1 hin =>
                have m1 := zx_mono _ _ _ _ _ _ _ _ _ hin
                have m2 := zx_mono _ _ _ _ _ _ _ _ _ hx
                obtain ⟨idx, q, hq, hqz, hraw⟩ := zres_call a3 hcl
                have hz : z < 219 := by rw [← hqz]; exact (zMf_spec hq).2.2.2
                have hl3 : len = 3 := by
                  rcases hraw with ⟨q1, -⟩ | ⟨q1, -⟩ | ⟨q1, -⟩ <;> (subst q1; exact (a0.resolve_left (by intro q; cases q)).symm)
                subst hl3
                have hnx : (zP y)[k + 1]? = some (pc + 3) := by
                  refine a4.resolve_left ?_
                  rcases hraw with ⟨q1, -⟩ | ⟨q1, -⟩ | ⟨q1, -⟩ <;> (subst q1; intro q; cases q)
                have hok : (st.take (zM z).2.2).reverse.all zok = true := by
                  unfold zrecv at b3
                  rw [Bool.and_eq_true] at b3
                  exact b3.1
                have hM := zmet hz hok b4 (ih _ _ _ _ _ _ _ _ hin (by omega))
                intro arr H locs hL hR hl T hT Y
                have hst : st = (st.take (zM z).2.2).reverse.reverse ++ st.drop (zM z).2.2 := by
                  rw [List.reverse_reverse, List.take_append_drop]
                have hrun := zcallrun (e := e) (args := args) (below := below) (locs := locs) (cells := cells) (slots := slots) (rest := st.drop (zM z).2.2) X hnL hL hR hM hq hqz a2 hraw (by rw [List.length_reverse, List.length_take]; omega) b2 b3 (by omega) (by omega)
                rw [← hst] at hrun
                obtain ⟨v2, st₀, t, T', L, r1, r2, r3, r4, r5, r6, r7⟩ := hrun T hT Y
                obtain ⟨r8, r9⟩ := r6
                cases r8
                rw [← r4] at r9
                have K : ZG p l e R s m args below meth c Q E D cA hs H0 nL (pc + 3) ls (v1.toList ++ st.drop (zM z).2.2) h1 (cells + (zsz h1 - zsz h)) (slots + (ztot h1 - ztot h)) := by
                  refine ih _ _ _ _ _ _ _ _ hx hy p e R s m args below meth c Q (pc + 3) nL _ _ X hnL hnx (by omega) (by omega) ?_
                  intro pcr ir str arr H locs q1 q2 q3 q4 q5
                  have K := hret pcr ir str arr H locs q1 q2 q3 q4 q5
                  rw [show cells + (zsz h1 - zsz h) + (zsz h' - zsz h1) = cells + (zsz h' - zsz h) by omega, show slots + (ztot h1 - ztot h) + (ztot h' - ztot h1) = slots + (ztot h' - ztot h) by omega]
                  exact K
                obtain ⟨t2, c1, c2⟩ := K arr T'.heap (locs ++ L) hL r9 (fun q hq => by
                  rcases List.mem_append.mp hq with z | z
                  · exact hl q z
                  · exact r3 q z) T' rfl r2
                exact ⟨t2, r7 t2 c1, c2⟩
            · cases hx
