/-! THE TWO SIDES: what holds of the class's cells, of the Model's cells, of the numbers -/
def mcs (j : Nat) : List Int32 := match j with
  | 2 => [0, 5, 9, 17, 20, 24, 28, 33, 42, 46, 50, 57, 63, 67, 71, 76, 82, 87, 92, 96, 102, 108, 113]
  | 3 => [121, 101, 97, 114, 115, 100, 97, 121, 115, 113, 117, 97, 110, 116, 105, 116, 121, 100, 97, 121, 112, 97, 105, 100, 98, 97, 115, 101, 105, 110, 100, 101, 120, 115, 117, 114, 99, 104, 97, 114, 103, 101, 109, 97, 100, 101, 114, 101, 115, 116, 99, 97, 114, 114, 105, 101, 100, 110, 111, 116, 105, 99, 101, 102, 114, 101, 101, 99, 111, 115, 116, 112, 114, 105, 99, 101, 99, 104, 97, 110, 99, 101, 115, 116, 97, 114, 116, 102, 105, 114, 115, 116, 108, 97, 115, 116, 110, 111, 98, 111, 100, 121, 115, 101, 108, 108, 101, 114, 98, 117, 121, 101, 114]
  | 4 => [0, 1, 2, 3, 5, 6, 7, 8, 9, 10, 11, 12, 13, 14, 16, 19, 15]
  | 5 => [2, 4, 8, 0, 3, 80, 20, 0, 0, 0, 0, 0, 0, 0, 10, 1, 15, 20, 30, 2, 1, 1, 1, 2, 1, 1, 1, 2]
  | 6 => [1, 1, 1, 0, 0, 0, 1, 0, 0, 0, 0, 0, 0, 0, 0, 0]
  | 7 => [4, 5, 16, 4, 4, 100, 60, 100, 20, 0, 60, 0, 0, 0, 60, 2]
  | _ => []
def MCs (h : ZH) (m : Nat) : Prop := ∀ j, 2 ≤ j → j ≤ 7 → ∀ i, i < (mcs j).length → zI h (m + j) i = (mcs j).getD i 0
/-- what a call of the class may change, seen from outside -/
def CFr (x : Nat) (h h' : ZH) : Prop := Ag (fun a => a < x ∨ (x + 45 ≤ a ∧ a < x + 70)) h h'
/-- what a call of the Model may change -/
def MFr (m : Nat) (h h' : ZH) : Prop := Fr (fun a _ => m ≤ a ∧ a ≤ m + 24) h h'
def JS (t u : Nat → Nat) (tn : Nat) (tb : Nat → Int32) (N : Nat) (rs rx : Nat → Nat) (la sz : Nat → Int) : Prop := tp_Ok t ∧ tp_Ou u ∧ TpB tb ∧ tn ≤ 320 ∧ N ≤ tp_T t ∧ RwB rs rx ∧ ShB la sz
def JC (E : Nat → Nat) (h : ZH) (x zs zt g : Nat) (t u : Nat → Nat) (ft : Int32) (tn : Nat) (tb : Nat → Int32) (N : Nat) (rs rx : Nat → Nat) (la sz : Nat → Int) (ce : Nat → Nat → Int32) (to : Int32) : Prop := XSh h x ∧ (Stc E h ∧ E 0 ≤ x) ∧ PgR h (x + 1) t u ∧ zI h (x + 10) 3 = ft ∧ TpC h x tn tb ∧ RwC h (x + 18) N rs rx ∧ ShC h x la sz ce ∧ zI h x 8 = to ∧ Fg h x zs zt g t u rs
def JM (h : ZH) (m : Nat) (t u : Nat → Nat) (ft : Int32) (tn : Nat) (tb : Nat → Int32) (N : Nat) (rs rx : Nat → Nat) (la sz : Nat → Int) (ce : Nat → Nat → Int32) (to : Int32) : Prop := MPg h m t u ∧ zI h m 2 = ft ∧ TpM h m tn tb ∧ RwM h m N rs rx ∧ ShM h m la sz ce ∧ zI h m 51 = to ∧ (¬ zI h m 29 = 0 → MLd h m t u 0) ∧ MCs h m
section JNT
variable {E : Nat → Nat} {h : ZH} {x m zs zt g tn N : Nat} {t u rs rx : Nat → Nat} {ft to : Int32} {tb : Nat → Int32} {la sz : Nat → Int} {ce : Nat → Nat → Int32} {Q : Option Value → ZH → Prop}
theorem MSh.ag {h1 : ZH} (S : MSh h m) (y : Ag (Rg m (m + 24)) h h1) : MSh h1 m := by
  have a : ∀ s j tg n, j ≤ 24 → zAr h m s (m + j) tg n → zAr h1 m s (m + j) tg n := fun s j tg n hj q => q.ag y (rg (by omega) (by omega)) (rg (by omega) (by omega))
  exact ⟨by rw [y.T (rg (by omega) (by omega))]; exact S.1, a _ _ _ _ (by omega) S.a0, a _ _ _ _ (by omega) S.a9, a _ _ _ _ (by omega) S.a10, a _ _ _ _ (by omega) S.a11, a _ _ _ _ (by omega) S.a12, a _ _ _ _ (by omega) S.a13, a _ _ _ _ (by omega) S.a14, a _ _ _ _ (by omega) S.a15, a _ _ _ _ (by omega) S.a16, a _ _ _ _ (by omega) S.a20, a _ _ _ _ (by omega) S.a27, a _ _ _ _ (by omega) S.a28, a _ _ _ _ (by omega) S.a32, a _ _ _ _ (by omega) S.a33, a _ _ _ _ (by omega) S.a34, a _ _ _ _ (by omega) S.a35, a _ _ _ _ (by omega) S.a37, a _ _ _ _ (by omega) S.a38, a _ _ _ _ (by omega) S.a39, a _ _ _ _ (by omega) S.a40, a _ _ _ _ (by omega) S.a47, a _ _ _ _ (by omega) S.a48, a _ _ _ _ (by omega) S.a49, a _ _ _ _ (by omega) S.a50⟩
theorem JM.ag {h1 : ZH} (J : JM h m t u ft tn tb N rs rx la sz ce to) (y : Ag (Rg m (m + 24)) h h1) : JM h1 m t u ft tn tb N rs rx la sz ce to := by
  obtain ⟨⟨S, p1, p2, p3, p4⟩, f, ⟨T1, T2⟩, ⟨R1, R2⟩, C, o, L, K⟩ := J
  have g : ∀ j, j ≤ 24 → Rg m (m + 24) (m + j) := fun j hj => rg (by omega) (by omega)
  have g0 : Rg m (m + 24) m := rg (by omega) (by omega)
  refine ⟨⟨S.ag y, fun k hk => ?_, fun k hk => ?_, fun k hk => ?_, fun k hk => ?_⟩, by rw [y.I g0]; exact f, ⟨by rw [y.I g0]; exact T1, fun i hi => by rw [y.I (g 1 (by omega))]; exact T2 i hi⟩, ⟨by rw [y.I g0]; exact R1, fun k hk => ?_⟩, fun k hk => ?_, by rw [y.I g0]; exact o, fun q => ?_, fun j j1 j2 i hi => by rw [y.I (g j (by omega))]; exact K j j1 j2 i hi⟩
  · rw [y.I (g 8 (by omega))]; exact p1 k hk
  · rw [y.I (g 8 (by omega))]; exact p2 k hk
  · rw [y.I (g 8 (by omega))]; exact p3 k hk
  · rw [y.I (g 10 (by omega))]; exact p4 k hk
  · rw [y.I (g 17 (by omega)), y.I (g 18 (by omega))]; exact R2 k hk
  · obtain ⟨c1, c2, c3⟩ := C k hk
    exact ⟨by rw [y.I (g 22 (by omega))]; exact c1, by rw [y.I (g 23 (by omega))]; exact c2, fun i hi => by rw [y.I (g 24 (by omega))]; exact c3 i hi⟩
  · rw [y.I g0] at q
    intro d c mm k s a1 a2 a3 a4 a5 a6
    rw [y.L (g 11 (by omega)), y.I (g 12 (by omega))]
    exact L q d c mm k s a1 a2 a3 a4 a5 a6
theorem JM.cf {h1 : ZH} (J : JM h (x + 45) t u ft tn tb N rs rx la sz ce to) (y : CFr x h h1) : JM h1 (x + 45) t u ft tn tb N rs rx la sz ce to := J.ag (Ag.wk y (fun a ha => by unfold Rg at ha; omega))
/-- numbers of the class changed, none of them told here -/
theorem JC.fr {h1 : ZH} {S : Nat → Nat → Prop} (J : JC E h x zs zt g t u ft tn tb N rs rx la sz ce to) (y : Fr S h h1) (hS : ∀ a i, S a i → x + 45 ≤ a ∧ a < x + 70) : JC E h1 x zs zt g t u ft tn tb N rs rx la sz ce to := by
  obtain ⟨X, ⟨Sc, hE⟩, P, f, ⟨T1, T2⟩, R, C, o, F⟩ := J
  have yl : Ag (fun a => a < x + 45 ∨ x + 70 ≤ a) h h1 := y.ag (fun a i ha q => by have := hS a i q; omega)
  refine ⟨X.fr y, ⟨Sc.ag (yl.wk (fun a ha => by omega)), hE⟩, P.ag (yl.wk (fun a ha => by unfold Rg at ha; omega)), by rw [yl.I (by omega)]; exact f, ⟨by rw [yl.I (by omega)]; exact T1, fun i hi => by rw [yl.I (by omega)]; exact T2 i hi⟩, R.ag (yl.wk (fun a ha => by unfold Rg at ha; omega)), fun k hk => ?_, by rw [yl.I (by omega)]; exact o, F.ag (yl.wk (fun a ha => by omega)) y.sz (by unfold ztot; rw [y.1])⟩
  obtain ⟨c1, c2, c3⟩ := C k hk
  exact ⟨by rw [yl.I (by omega)]; exact c1, by rw [yl.I (by omega)]; exact c2, fun i hi => by rw [yl.I (by omega)]; exact c3 i hi⟩
theorem JC.mf {h1 : ZH} (J : JC E h x zs zt g t u ft tn tb N rs rx la sz ce to) (y : MFr (x + 45) h h1) : JC E h1 x zs zt g t u ft tn tb N rs rx la sz ce to := J.fr y (fun a i q => by omega)
theorem JC.mono {g' : Nat} (J : JC E h x zs zt g t u ft tn tb N rs rx la sz ce to) (hg : g ≤ g') : JC E h x zs zt g' t u ft tn tb N rs rx la sz ce to := by
  obtain ⟨X, Sc, P, f, T, R, C, o, F⟩ := J
  exact ⟨X, Sc, P, f, T, R, C, o, F.mono hg⟩
/-- only Figures changed -/
theorem JC.fv {h1 : ZH} {g' : Nat} (J : JC E h x zs zt g t u ft tn tb N rs rx la sz ce to) (V : FvA x h h1) (F : Fg h1 x zs zt g' t u rs) : JC E h1 x zs zt g' t u ft tn tb N rs rx la sz ce to := by
  obtain ⟨X, ⟨Sc, hE⟩, P, f, ⟨T1, T2⟩, R, C, o, _⟩ := J
  have yl := V.1
  refine ⟨V.2, ⟨Sc.ag (yl.wk (fun a ha => by omega)), hE⟩, P.ag (yl.wk (fun a ha => by unfold Rg at ha; omega)), by rw [yl.I (by omega)]; exact f, ⟨by rw [yl.I (by omega)]; exact T1, fun i hi => by rw [yl.I (by omega)]; exact T2 i hi⟩, R.ag (yl.wk (fun a ha => by unfold Rg at ha; omega)), fun k hk => ?_, by rw [yl.I (by omega)]; exact o, F⟩
  obtain ⟨c1, c2, c3⟩ := C k hk
  exact ⟨by rw [yl.I (by omega)]; exact c1, by rw [yl.I (by omega)]; exact c2, fun i hi => by rw [yl.I (by omega)]; exact c3 i hi⟩
theorem FvA.cf {h1 : ZH} (V : FvA x h h1) : CFr x h h1 := V.1.wk (fun a ha => by omega)
theorem CFr.rf : CFr x h h := Ag.rf
theorem CFr.tr {h1 h2 : ZH} (a : CFr x h h1) (b : CFr x h1 h2) : CFr x h h2 := Ag.tr a b
theorem Fr.cf {S : Nat → Nat → Prop} {h1 : ZH} (y : Fr S h h1) (hS : ∀ a i, S a i → x ≤ a ∧ a < x + 45) : CFr x h h1 := y.ag (fun a i ha q => by have := hS a i q; omega)
theorem MFr.rf : MFr m h h := Fr.rf
theorem Fr.mf {S : Nat → Nat → Prop} {h1 : ZH} (y : Fr S h h1) (hS : ∀ a i, S a i → m ≤ a ∧ a ≤ m + 24) : MFr m h h1 := y.wd hS
/-- the moves' cells changed only -/
theorem JC.mv {h1 : ZH} {S : Nat → Nat → Prop} (J : JC E h x zs zt g t u ft tn tb N rs rx la sz ce to) (y : Fr S h h1) (hS : ∀ a i, S a i → x + 21 ≤ a ∧ a ≤ x + 23) : JC E h1 x zs zt g t u ft tn tb N rs rx la sz ce to := by
  obtain ⟨X, ⟨Sc, hE⟩, P, f, ⟨T1, T2⟩, R, C, o, F⟩ := J
  have yl : Ag (fun a => a < x + 21 ∨ x + 24 ≤ a) h h1 := y.ag (fun a i ha q => by have := hS a i q; omega)
  refine ⟨X.fr y, ⟨Sc.ag (yl.wk (fun a ha => by omega)), hE⟩, P.ag (yl.wk (fun a ha => by unfold Rg at ha; omega)), by rw [yl.I (by omega)]; exact f, ⟨by rw [yl.I (by omega)]; exact T1, fun i hi => by rw [yl.I (by omega)]; exact T2 i hi⟩, R.ag (yl.wk (fun a ha => by unfold Rg at ha; omega)), fun k hk => ?_, by rw [yl.I (by omega)]; exact o, F.ag (yl.wk (fun a ha => by omega)) y.sz (by unfold ztot; rw [y.1])⟩
  obtain ⟨c1, c2, c3⟩ := C k hk
  exact ⟨by rw [yl.I (by omega)]; exact c1, by rw [yl.I (by omega)]; exact c2, fun i hi => by rw [yl.I (by omega)]; exact c3 i hi⟩
/-- the Model's numbers changed, but for what is told here -/
theorem JM.fr {h1 : ZH} {S : Nat → Nat → Prop} (J : JM h m t u ft tn tb N rs rx la sz ce to) (y : Fr S h h1) (hS : ∀ a i, S a i → (a = m ∧ 3 ≤ i ∧ i ≤ 46 ∧ i ≠ 29 ∧ i ≠ 36) ∨ (m + 13 ≤ a ∧ a ≤ m + 16) ∨ (m + 19 ≤ a ∧ a ≤ m + 21) ∨ a = m + 9) : JM h1 m t u ft tn tb N rs rx la sz ce to := by
  obtain ⟨P, f, ⟨T1, T2⟩, ⟨R1, R2⟩, C, o, L, K⟩ := J
  have q0 : ∀ i, i = 1 ∨ i = 2 ∨ i = 29 ∨ i = 36 ∨ i = 51 → zI h1 m i = zI h m i := fun i hi => y.I (fun q => by have := hS _ _ q; omega)
  have qa : ∀ j i, (1 ≤ j ∧ j ≤ 8) ∨ j = 10 ∨ j = 12 ∨ j = 17 ∨ j = 18 ∨ (22 ≤ j ∧ j ≤ 24) → zI h1 (m + j) i = zI h (m + j) i := fun j i hj => y.I (fun q => by have := hS _ _ q; omega)
  refine ⟨P.fr y (fun i q => by have := hS _ _ q; omega) (fun i q => by have := hS _ _ q; omega), by rw [q0 2 (by omega)]; exact f, ⟨by rw [q0 1 (by omega)]; exact T1, fun i hi => by rw [qa 1 i (by omega)]; exact T2 i hi⟩, ⟨by rw [q0 36 (by omega)]; exact R1, fun k hk => ?_⟩, fun k hk => ?_, by rw [q0 51 (by omega)]; exact o, fun q => ?_, fun j j1 j2 i hi => by rw [qa j i (by omega)]; exact K j j1 j2 i hi⟩
  · rw [qa 17 k (by omega), qa 18 k (by omega)]; exact R2 k hk
  · obtain ⟨c1, c2, c3⟩ := C k hk
    exact ⟨by rw [qa 22 k (by omega)]; exact c1, by rw [qa 23 k (by omega)]; exact c2, fun i hi => by rw [qa 24 _ (by omega)]; exact c3 i hi⟩
  · rw [q0 29 (by omega)] at q
    exact (L q).fr y (fun i q => by have := hS _ _ q; omega) (fun i q => by have := hS _ _ q; omega)
/-- the Model's tables were laid -/
theorem JM.ld {h1 : ZH} {S : Nat → Nat → Prop} (J : JM h m t u ft tn tb N rs rx la sz ce to) (y : Fr S h h1) (hS : ∀ a i, S a i → (a = m ∧ 3 ≤ i ∧ i ≤ 46 ∧ i ≠ 36) ∨ (m + 11 ≤ a ∧ a ≤ m + 16) ∨ (m + 19 ≤ a ∧ a ≤ m + 21) ∨ a = m + 9) (L1 : MLd h1 m t u 0) : JM h1 m t u ft tn tb N rs rx la sz ce to := by
  obtain ⟨P, f, ⟨T1, T2⟩, ⟨R1, R2⟩, C, o, L, K⟩ := J
  have q0 : ∀ i, i = 1 ∨ i = 2 ∨ i = 36 ∨ i = 51 → zI h1 m i = zI h m i := fun i hi => y.I (fun q => by have := hS _ _ q; omega)
  have qa : ∀ j i, (1 ≤ j ∧ j ≤ 8) ∨ j = 10 ∨ j = 17 ∨ j = 18 ∨ (22 ≤ j ∧ j ≤ 24) → zI h1 (m + j) i = zI h (m + j) i := fun j i hj => y.I (fun q => by have := hS _ _ q; omega)
  refine ⟨P.fr y (fun i q => by have := hS _ _ q; omega) (fun i q => by have := hS _ _ q; omega), by rw [q0 2 (by omega)]; exact f, ⟨by rw [q0 1 (by omega)]; exact T1, fun i hi => by rw [qa 1 i (by omega)]; exact T2 i hi⟩, ⟨by rw [q0 36 (by omega)]; exact R1, fun k hk => ?_⟩, fun k hk => ?_, by rw [q0 51 (by omega)]; exact o, fun _ => L1, fun j j1 j2 i hi => by rw [qa j i (by omega)]; exact K j j1 j2 i hi⟩
  · rw [qa 17 k (by omega), qa 18 k (by omega)]; exact R2 k hk
  · obtain ⟨c1, c2, c3⟩ := C k hk
    exact ⟨by rw [qa 22 k (by omega)]; exact c1, by rw [qa 23 k (by omega)]; exact c2, fun i hi => by rw [qa 24 _ (by omega)]; exact c3 i hi⟩
end JNT
