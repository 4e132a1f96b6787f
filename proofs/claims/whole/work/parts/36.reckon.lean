/-! THE CLASS'S PAGE: reckon and what calls it -/
section PGN
variable {E : Nat → Nat} {d : Nat} {p : Nat} {t u : Nat → Nat} {Q : Option Value → ZH → Prop}
/-- what reckon may change -/
def tp_S34 (p : Nat) : Nat → Nat → Prop := fun a i => (a = p ∧ i = 6) ∨ a = p + 3 ∨ a = p + 4 ∨ a = p + 5 ∨ a = p + 6
def PgI (h0 : ZH) (p : Nat) (t u : Nat → Nat) (k : Nat) (h : ZH) : Prop := PgC h p t u ∧ (∀ d, d < k → zI h (p + 5) d = jI ((d / t 1 : Nat) : Int)) ∧ (∀ d, d < k → zI h (p + 6) d = jI (if (d + 1) % t 1 = 0 then 1 else 0)) ∧ zI h p 6 = jI (k : Int) ∧ Fr (tp_S34 p) h0 h
theorem l34i {h0 : ZH} (ok : tp_Ok t) {L : Nat → Int32 → ZH → Prop} {y : Nat} (hy : y < t 0) (kL : ∀ h', PgI h0 p t u ((y + 1) * t 1) h' → L p (jI ((y + 1 : Nat) : Int)) h') : ∀ n i h, i + 1 + n = t 1 + 1 → PgI h0 p t u (y * t 1 + i) h → wl_34_13 E d Q L (n + 1) p (jI (y : Int)) (jI ((i + 1 : Nat) : Int)) h
  | 0, i, h, e, I => by
    have h1 := ok.2.1
    obtain ⟨PC, Iy, Ic, It, If⟩ := I
    have PC' := PC
    obtain ⟨⟨S0, S1, S2, S3, S4, S5, S6⟩, Pt, Pu⟩ := PC
    rw [wl_34_13]
    refine ⟨S0, p + 1, S1.1, S1.ti, S1.inc (by decide), fun _ => ?_, fun q => ?_⟩
    · refine nm_r (e' := jI ((y + 1 : Nat) : Int)) (by rw [show (1 : Int32) = jI 1 from rfl, jI_add]; rfl) (kL h ?_)
      have e2 : i = t 1 := by omega
      subst e2
      rw [Nat.succ_mul]
      exact ⟨PC', Iy, Ic, It, If⟩
    · exfalso
      rw [Pt 1 (by omega), jI_lt (by omega) (by omega) (by omega) (by omega)] at q
      omega
  | n + 1, i, h, e, I => by
    have h1 := ok.2.1
    have h4 := ok.1
    have hT := ok.T
    have hk : y * t 1 + i < tp_T t := by
      unfold tp_T
      have : (y + 1) * t 1 ≤ t 0 * t 1 := Nat.mul_le_mul_right _ hy
      rw [Nat.succ_mul] at this
      omega
    have hdv : (y * t 1 + i) / t 1 = y := by
      rw [Nat.mul_comm, Nat.mul_add_div (by omega), Nat.div_eq_of_lt (by omega), Nat.add_zero]
    have hmd : (y * t 1 + i + 1) % t 1 = 0 ↔ i + 1 = t 1 := by
      rw [Nat.add_assoc, Nat.add_comm, Nat.add_mul_mod_self_right]
      constructor
      · intro q
        by_cases c : i + 1 = t 1
        · exact c
        · rw [Nat.mod_eq_of_lt (by omega)] at q
          omega
      · intro q
        rw [q, Nat.mod_self]
    obtain ⟨PC, Iy, Ic, It, If⟩ := I
    have PC' := PC
    obtain ⟨⟨S0, S1, S2, S3, S4, S5, S6⟩, Pt, Pu⟩ := PC
    rw [wl_34_13]
    refine ⟨S0, p + 1, S1.1, S1.ti, S1.inc (by decide), fun q => ?_, fun _ => ?_⟩
    · exfalso
      rw [Pt 1 (by omega), jI_lt (by omega) (by omega) (by omega) (by omega)] at q
      omega
    · have n5 : p ≠ p + 5 := by omega
      have n15 : p + 1 ≠ p + 5 := by omega
      have n6 : p ≠ p + 6 := by omega
      have n56 : p + 5 ≠ p + 6 := by omega
      have np5 : p + 5 ≠ p := by omega
      have np6 : p + 6 ≠ p := by omega
      refine ⟨p + 5, S5.1, S5.tg, by rw [It]; exact S5.inn (by omega) (by omega), nm_r (e' := zuI h (p + 5) (y * t 1 + i) (jI (y : Int))) (by rw [It, jI_cln (by omega)]) ?_⟩
      refine ⟨p + 6, S6.1, S1.inc (by decide), S6.tz, by rw [zI_offa n5, It]; exact S6.inn (by omega) (by omega), nm_r (e' := zuI (zuI h (p + 5) (y * t 1 + i) (jI (y : Int))) (p + 6) (y * t 1 + i) (jI (if (y * t 1 + i + 1) % t 1 = 0 then 1 else 0))) ?_ ?_⟩
      · rw [zI_offa n5, It, jI_cln (by omega), zI_offa n15, Pt 1 (by omega)]
        simp (disch := omega) only [jI_eq]
        congr 1
        have ht6 : ztag (zuI h (p + 5) (y * t 1 + i) (jI (y : Int))) (p + 6) = 15 := S6.tg
        rw [ht6]
        unfold zbyte
        rw [if_pos rfl]
        by_cases c : i + 1 = t 1
        · rw [if_neg (by omega), if_pos (hmd.mpr c)]
          rfl
        · rw [if_pos (by omega), if_neg (fun q => c (hmd.mp q))]
          rfl
      · refine nm_r (e' := zuI (zuI (zuI h (p + 5) (y * t 1 + i) (jI (y : Int))) (p + 6) (y * t 1 + i) (jI (if (y * t 1 + i + 1) % t 1 = 0 then 1 else 0))) p 6 (jI ((y * t 1 + i + 1 : Nat) : Int))) (by
          rw [zI_offa n6, zI_offa n5, It, show (1 : Int32) = jI 1 from rfl, jI_add]
          rfl) ?_
        refine nm_r (e' := jI ((i + 1 + 1 : Nat) : Int)) (by rw [show (1 : Int32) = jI 1 from rfl, jI_add]; rfl) ?_
        have fr1 : Fr (tp_S34 p) h (zuI (zuI (zuI h (p + 5) (y * t 1 + i) (jI (y : Int))) (p + 6) (y * t 1 + i) (jI (if (y * t 1 + i + 1) % t 1 = 0 then 1 else 0))) p 6 (jI ((y * t 1 + i + 1 : Nat) : Int))) := Fr.uI (Fr.uI (Fr.uI Fr.rf (by unfold tp_S34; omega)) (by unfold tp_S34; omega)) (by unfold tp_S34; omega)
        refine l34i ok hy kL n (i + 1) _ (by omega) ⟨PC'.fr fr1 (fun a j ha => by unfold tp_S34; omega), fun dd hdd => ?_, fun dd hdd => ?_, ?_, If.tr fr1⟩
        · rw [zI_offa np5, zI_offa n56]
          by_cases c : dd = y * t 1 + i
          · subst c
            rw [zI_here, hdv]
          · rw [zI_offi c]
            exact Iy dd (by omega)
        · rw [zI_offa np6]
          by_cases c : dd = y * t 1 + i
          · subst c
            rw [zI_here]
          · rw [zI_offi c, zI_offa (Ne.symm n56)]
            exact Ic dd (by omega)
        · rw [zI_here]
          rfl
theorem l34o {h0 : ZH} (ok : tp_Ok t) (kL : ∀ h', PgI h0 p t u (tp_T t) h' → wb_34_49 E d Q p h') : ∀ n y h, y + n = t 0 → PgI h0 p t u (y * t 1) h → wl_34_5 E d Q (n + 1) p (jI (y : Int)) h
  | 0, y, h, e, I => by
    have h4 := ok.1
    have I' := I
    obtain ⟨⟨⟨S0, S1, S2, S3, S4, S5, S6⟩, Pt, Pu⟩, Iy, Ic, It, If⟩ := I
    rw [wl_34_5]
    refine ⟨S0, p + 1, S1.1, S1.ti, S1.inc (by decide), fun _ => ?_, fun q => ?_⟩
    · refine kL h ?_
      have e2 : y = t 0 := by omega
      subst e2
      exact I'
    · exfalso
      rw [Pt 0 (by omega), jI_le (by omega) (by omega) (by omega) (by omega)] at q
      omega
  | n + 1, y, h, e, I => by
    have h4 := ok.1
    have I' := I
    obtain ⟨⟨⟨S0, S1, S2, S3, S4, S5, S6⟩, Pt, Pu⟩, Iy, Ic, It, If⟩ := I
    rw [wl_34_5]
    refine ⟨S0, p + 1, S1.1, S1.ti, S1.inc (by decide), fun q => ?_, fun _ => ?_⟩
    · exfalso
      rw [Pt 0 (by omega), jI_le (by omega) (by omega) (by omega) (by omega)] at q
      omega
    · exact ⟨t 1 + 1, l34i (E := E) (d := d) (Q := Q) ok (by omega) (fun h' I2 => l34o ok kL n (y + 1) h' (by omega) I2) (t 1) 0 h (by omega) (by rw [Nat.add_zero]; exact I')⟩
theorem l34q {h0 : ZH} (hd : 6 ≤ d) (ok : tp_Ok t) (ou : tp_Ou u) (kQ : ∀ h', PgR h' p t u → Fr (tp_S34 p) h0 h' → Q none h') : ∀ n y h, y + n = t 0 → PgY h p t u → (∀ z, z < y → zI h (p + 3) z = jI (tp_qt t u z : Int)) → (∀ z, z < y → zI h (p + 4) z = jI (tp_tp t u z : Int)) → Fr (tp_S34 p) h0 h → wl_34_51 E d Q (n + 1) p (jI (y : Int)) h
  | 0, y, h, e, P, Iq, Ip, If => by
    have h4 := ok.1
    have P' := P
    obtain ⟨⟨⟨S0, S1, S2, S3, S4, S5, S6⟩, Pt, Pu⟩, Py, Pcl, Ptot⟩ := P
    rw [wl_34_51]
    refine ⟨S0, p + 1, S1.1, S1.ti, S1.inc (by decide), fun _ => ?_, fun q => ?_⟩
    · have e2 : y = t 0 := by omega
      subst e2
      exact kQ h ⟨P'.1, Iq, Ip, P'.2.1, P'.2.2.1, P'.2.2.2⟩ If
    · exfalso
      rw [Pt 0 (by omega), jI_le (by omega) (by omega) (by omega) (by omega)] at q
      omega
  | n + 1, y, h, e, P, Iq, Ip, If => by
    have h4 := ok.1
    have h2 := ok.2.2.1
    have P' := P
    obtain ⟨⟨⟨S0, S1, S2, S3, S4, S5, S6⟩, Pt, Pu⟩, Py, Pcl, Ptot⟩ := P
    have hf := tp_frN_le t u y
    have htop := tp_top_le t
    rw [wl_34_51]
    refine ⟨S0, p + 1, S1.1, S1.ti, S1.inc (by decide), fun q => ?_, fun _ => ?_⟩
    · exfalso
      rw [Pt 0 (by omega), jI_le (by omega) (by omega) (by omega) (by omega)] at q
      omega
    · have e1 : fz_40 E h p (zI h (p + 1) 2) (jI (tp_frN t u y : Int)) = jI (tp_qt t u y : Int) := by
        rw [Pt 2 (by omega)]
        exact fz40 ok P'.1 h2.2 hf
      have fr1 : Fr (tp_S34 p) h (zuI h (p + 3) y (jI (tp_qt t u y : Int))) := Fr.uI Fr.rf (by unfold tp_S34; omega)
      have P1 : PgY (zuI h (p + 3) y (jI (tp_qt t u y : Int))) p t u := P'.fr (S := fun a i => a = p + 3) (Fr.uI Fr.rf rfl) (fun a i ha => by omega)
      have e2 : fz_40 E (zuI h (p + 3) y (jI (tp_qt t u y : Int))) p (fz_39 E (zuI h (p + 3) y (jI (tp_qt t u y : Int))) p) (jI (tp_frN t u y : Int)) = jI (tp_tp t u y : Int) := by
        rw [fz39 ok P1.1]
        exact fz40 ok P1.1 (by omega) hf
      refine ct_41 (by omega) ok ou P' (by omega) ⟨_, rfl, S0, p + 3, S3.1, p + 1, S1.1, S1.ti, S1.inc (by decide), by omega, sz40 ok P'.1, S3.tg, S3.inn (by omega) (by omega), nm_r (e' := zuI h (p + 3) y (jI (tp_qt t u y : Int))) (by rw [e1, jI_cln (by omega)]) ?_⟩
      refine ⟨p + 4, S4.1, by omega, sz39 P1.1, by omega, sz40 ok P1.1, S4.tg, S4.inn (by omega) (by omega), nm_r (e' := zuI (zuI h (p + 3) y (jI (tp_qt t u y : Int))) (p + 4) y (jI (tp_tp t u y : Int))) (by rw [e2, jI_cln (by omega)]) ?_⟩
      refine nm_r (e' := jI ((y + 1 : Nat) : Int)) (by rw [show (1 : Int32) = jI 1 from rfl, jI_add]; rfl) ?_
      have fr2 : Fr (tp_S34 p) h (zuI (zuI h (p + 3) y (jI (tp_qt t u y : Int))) (p + 4) y (jI (tp_tp t u y : Int))) := Fr.uI fr1 (by unfold tp_S34; omega)
      refine l34q hd ok ou kQ n (y + 1) _ (by omega) (P1.fr (S := fun a i => a = p + 4) (Fr.uI Fr.rf rfl) (fun a i ha => by omega)) (fun z hz => ?_) (fun z hz => ?_) (If.tr fr2)
      · rw [zI_offa (by omega : p + 3 ≠ p + 4)]
        by_cases c : z = y
        · subst c
          rw [zI_here]
        · rw [zI_offi c]
          exact Iq z (by omega)
      · by_cases c : z = y
        · subst c
          rw [zI_here]
        · rw [zI_offi c, zI_offa (by omega : p + 4 ≠ p + 3)]
          exact Ip z (by omega)
theorem ct_34 {h : ZH} (hd : 7 ≤ d) (ok : tp_Ok t) (ou : tp_Ou u) (P : PgC h p t u) (q : ∀ h', PgR h' p t u → Fr (tp_S34 p) h h' → Q none h') : Ct E d 34 [.ref p] h Q := by
  obtain ⟨d, rfl⟩ : ∃ n, d = n + 1 := ⟨d - 1, by omega⟩
  refine ok_34 ?_
  refine ⟨P.1.1, nm_e ⟨t 0 + 1, ?_⟩⟩
  have fr1 : Fr (tp_S34 p) h (zuI h p 6 0) := Fr.uI Fr.rf (by unfold tp_S34; omega)
  refine l34o (h0 := h) ok (fun h' I => ⟨t 0 + 1, ?_⟩) (t 0) 0 _ (by omega) ⟨P.fr fr1 (fun a i ha => by unfold tp_S34; omega), fun dd hdd => by rw [Nat.zero_mul] at hdd; omega, fun dd hdd => by rw [Nat.zero_mul] at hdd; omega, by rw [zI_here, Nat.zero_mul]; rfl, fr1⟩
  refine l34q (h0 := h) (by omega) ok ou q (t 0) 0 h' (by omega) ⟨I.1, I.2.1, I.2.2.1, I.2.2.2.1⟩ (fun z hz => by omega) (fun z hz => by omega) I.2.2.2.2
end PGN
