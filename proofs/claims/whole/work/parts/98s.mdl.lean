/-! THE READER, the Model's: a line -/
set_option maxRecDepth 20000 in
def bdA (E : Nat → Nat) (d : Nat) (Q : Option Value → ZH → Prop) (a0 : Nat) (a1 : Int32) (h7 : ZH) : Prop := (ztag h7 a0 = 11 ∧ ∃ r9 : Nat, zR h7 a0 16 = r9 + 1 ∧ ∃ r10 : Nat, zR h7 a0 11 = r10 + 1 ∧ (ztag h7 r10 = 13 ∨ ztag h7 r10 = 19) ∧ zin a1 (zlen h7 r10) = true ∧ ∃ r12 : Nat, zR h7 a0 13 = r12 + 1 ∧ zin a1 (zlen h7 r10) = true ∧ (ztag h7 r12 = 13 ∨ ztag h7 r12 = 19) ∧ zin (zI h7 r10 a1.toNatClampNeg) (zlen h7 r12) = true ∧ ∃ r14 : Nat, zR h7 a0 14 = r14 + 1 ∧ zin a1 (zlen h7 r10) = true ∧ (ztag h7 r14 = 13 ∨ ztag h7 r14 = 19) ∧ zin (zI h7 r10 a1.toNatClampNeg) (zlen h7 r14) = true ∧ Ct E d 142 [.ref a0, .int (zI h7 r12 (zI h7 r10 a1.toNatClampNeg : Int32).toNatClampNeg), .int (zI h7 r14 (zI h7 r10 a1.toNatClampNeg : Int32).toNatClampNeg)] h7 (fun v h16 => ∃ x17 : Int32, v = some (.int x17) ∧ ztag h16 r9 = 13 ∧ zin (zI h7 r10 a1.toNatClampNeg) (zlen h16 r9) = true ∧ ∀ h19 : ZH, h19 = (zuI h16 r9 (zI h7 r10 a1.toNatClampNeg : Int32).toNatClampNeg x17) → ztag h19 a0 = 11 ∧ Ct E d 141 [.ref a0] h19 (fun v h21 => v = none ∧ wb_148_114 E d Q a0 h21)))
set_option maxRecDepth 20000 in
def sw148 (E : Nat → Nat) (d : Nat) (Q : Option Value → ZH → Prop) (a0 : Nat) (a1 : Int32) (h7 : ZH) : Prop := (((a1.toInt < 3 ∨ 15 < a1.toInt) → (ztag h7 a0 = 11 ∧ ∃ r9 : Nat, zR h7 a0 16 = r9 + 1 ∧ ∃ r10 : Nat, zR h7 a0 11 = r10 + 1 ∧ (ztag h7 r10 = 13 ∨ ztag h7 r10 = 19) ∧ zin a1 (zlen h7 r10) = true ∧ ∃ r12 : Nat, zR h7 a0 13 = r12 + 1 ∧ zin a1 (zlen h7 r10) = true ∧ (ztag h7 r12 = 13 ∨ ztag h7 r12 = 19) ∧ zin (zI h7 r10 a1.toNatClampNeg) (zlen h7 r12) = true ∧ ∃ r14 : Nat, zR h7 a0 14 = r14 + 1 ∧ zin a1 (zlen h7 r10) = true ∧ (ztag h7 r14 = 13 ∨ ztag h7 r14 = 19) ∧ zin (zI h7 r10 a1.toNatClampNeg) (zlen h7 r14) = true ∧ Ct E d 142 [.ref a0, .int (zI h7 r12 (zI h7 r10 a1.toNatClampNeg : Int32).toNatClampNeg), .int (zI h7 r14 (zI h7 r10 a1.toNatClampNeg : Int32).toNatClampNeg)] h7 (fun v h16 => ∃ x17 : Int32, v = some (.int x17) ∧ ztag h16 r9 = 13 ∧ zin (zI h7 r10 a1.toNatClampNeg) (zlen h16 r9) = true ∧ ∀ h19 : ZH, h19 = (zuI h16 r9 (zI h7 r10 a1.toNatClampNeg : Int32).toNatClampNeg x17) → ztag h19 a0 = 11 ∧ Ct E d 141 [.ref a0] h19 (fun v h21 => v = none ∧ wb_148_114 E d Q a0 h21)))) ∧ (a1.toInt = 3 → (ztag h7 a0 = 11 ∧ Ct E d 144 [.ref a0] h7 (fun v h27 => v = none ∧ wb_148_114 E d Q a0 h27))) ∧ (a1.toInt = 4 → (ztag h7 a0 = 11 ∧ ∃ r29 : Nat, zR h7 a0 16 = r29 + 1 ∧ ∃ r30 : Nat, zR h7 a0 11 = r30 + 1 ∧ (ztag h7 r30 = 13 ∨ ztag h7 r30 = 19) ∧ zin a1 (zlen h7 r30) = true ∧ ∃ r32 : Nat, zR h7 a0 13 = r32 + 1 ∧ zin a1 (zlen h7 r30) = true ∧ (ztag h7 r32 = 13 ∨ ztag h7 r32 = 19) ∧ zin (zI h7 r30 a1.toNatClampNeg) (zlen h7 r32) = true ∧ ∃ r34 : Nat, zR h7 a0 14 = r34 + 1 ∧ zin a1 (zlen h7 r30) = true ∧ (ztag h7 r34 = 13 ∨ ztag h7 r34 = 19) ∧ zin (zI h7 r30 a1.toNatClampNeg) (zlen h7 r34) = true ∧ Ct E d 142 [.ref a0, .int (zI h7 r32 (zI h7 r30 a1.toNatClampNeg : Int32).toNatClampNeg), .int (zI h7 r34 (zI h7 r30 a1.toNatClampNeg : Int32).toNatClampNeg)] h7 (fun v h36 => ∃ x37 : Int32, v = some (.int x37) ∧ ztag h36 r29 = 13 ∧ zin (zI h7 r30 a1.toNatClampNeg) (zlen h36 r29) = true ∧ ∀ h39 : ZH, h39 = (zuI h36 r29 (zI h7 r30 a1.toNatClampNeg : Int32).toNatClampNeg x37) → ztag h39 a0 = 11 ∧ Ct E d 141 [.ref a0] h39 (fun v h41 => v = none ∧ wb_148_114 E d Q a0 h41)))) ∧ (a1.toInt = 5 → (ztag h7 a0 = 11 ∧ ∃ r43 : Nat, zR h7 a0 16 = r43 + 1 ∧ ∃ r44 : Nat, zR h7 a0 11 = r44 + 1 ∧ (ztag h7 r44 = 13 ∨ ztag h7 r44 = 19) ∧ zin a1 (zlen h7 r44) = true ∧ ∃ r46 : Nat, zR h7 a0 13 = r46 + 1 ∧ zin a1 (zlen h7 r44) = true ∧ (ztag h7 r46 = 13 ∨ ztag h7 r46 = 19) ∧ zin (zI h7 r44 a1.toNatClampNeg) (zlen h7 r46) = true ∧ ∃ r48 : Nat, zR h7 a0 14 = r48 + 1 ∧ zin a1 (zlen h7 r44) = true ∧ (ztag h7 r48 = 13 ∨ ztag h7 r48 = 19) ∧ zin (zI h7 r44 a1.toNatClampNeg) (zlen h7 r48) = true ∧ Ct E d 142 [.ref a0, .int (zI h7 r46 (zI h7 r44 a1.toNatClampNeg : Int32).toNatClampNeg), .int (zI h7 r48 (zI h7 r44 a1.toNatClampNeg : Int32).toNatClampNeg)] h7 (fun v h50 => ∃ x51 : Int32, v = some (.int x51) ∧ ztag h50 r43 = 13 ∧ zin (zI h7 r44 a1.toNatClampNeg) (zlen h50 r43) = true ∧ ∀ h53 : ZH, h53 = (zuI h50 r43 (zI h7 r44 a1.toNatClampNeg : Int32).toNatClampNeg x51) → ztag h53 a0 = 11 ∧ Ct E d 141 [.ref a0] h53 (fun v h55 => v = none ∧ wb_148_114 E d Q a0 h55)))) ∧ (a1.toInt = 6 → (ztag h7 a0 = 11 ∧ ∃ r57 : Nat, zR h7 a0 16 = r57 + 1 ∧ ∃ r58 : Nat, zR h7 a0 11 = r58 + 1 ∧ (ztag h7 r58 = 13 ∨ ztag h7 r58 = 19) ∧ zin a1 (zlen h7 r58) = true ∧ ∃ r60 : Nat, zR h7 a0 13 = r60 + 1 ∧ zin a1 (zlen h7 r58) = true ∧ (ztag h7 r60 = 13 ∨ ztag h7 r60 = 19) ∧ zin (zI h7 r58 a1.toNatClampNeg) (zlen h7 r60) = true ∧ ∃ r62 : Nat, zR h7 a0 14 = r62 + 1 ∧ zin a1 (zlen h7 r58) = true ∧ (ztag h7 r62 = 13 ∨ ztag h7 r62 = 19) ∧ zin (zI h7 r58 a1.toNatClampNeg) (zlen h7 r62) = true ∧ Ct E d 142 [.ref a0, .int (zI h7 r60 (zI h7 r58 a1.toNatClampNeg : Int32).toNatClampNeg), .int (zI h7 r62 (zI h7 r58 a1.toNatClampNeg : Int32).toNatClampNeg)] h7 (fun v h64 => ∃ x65 : Int32, v = some (.int x65) ∧ ztag h64 r57 = 13 ∧ zin (zI h7 r58 a1.toNatClampNeg) (zlen h64 r57) = true ∧ ∀ h67 : ZH, h67 = (zuI h64 r57 (zI h7 r58 a1.toNatClampNeg : Int32).toNatClampNeg x65) → ztag h67 a0 = 11 ∧ Ct E d 141 [.ref a0] h67 (fun v h69 => v = none ∧ wb_148_114 E d Q a0 h69)))) ∧ (a1.toInt = 7 → (ztag h7 a0 = 11 ∧ ∃ r71 : Nat, zR h7 a0 16 = r71 + 1 ∧ ∃ r72 : Nat, zR h7 a0 11 = r72 + 1 ∧ (ztag h7 r72 = 13 ∨ ztag h7 r72 = 19) ∧ zin a1 (zlen h7 r72) = true ∧ ∃ r74 : Nat, zR h7 a0 13 = r74 + 1 ∧ zin a1 (zlen h7 r72) = true ∧ (ztag h7 r74 = 13 ∨ ztag h7 r74 = 19) ∧ zin (zI h7 r72 a1.toNatClampNeg) (zlen h7 r74) = true ∧ ∃ r76 : Nat, zR h7 a0 14 = r76 + 1 ∧ zin a1 (zlen h7 r72) = true ∧ (ztag h7 r76 = 13 ∨ ztag h7 r76 = 19) ∧ zin (zI h7 r72 a1.toNatClampNeg) (zlen h7 r76) = true ∧ Ct E d 142 [.ref a0, .int (zI h7 r74 (zI h7 r72 a1.toNatClampNeg : Int32).toNatClampNeg), .int (zI h7 r76 (zI h7 r72 a1.toNatClampNeg : Int32).toNatClampNeg)] h7 (fun v h78 => ∃ x79 : Int32, v = some (.int x79) ∧ ztag h78 r71 = 13 ∧ zin (zI h7 r72 a1.toNatClampNeg) (zlen h78 r71) = true ∧ ∀ h81 : ZH, h81 = (zuI h78 r71 (zI h7 r72 a1.toNatClampNeg : Int32).toNatClampNeg x79) → ztag h81 a0 = 11 ∧ Ct E d 141 [.ref a0] h81 (fun v h83 => v = none ∧ wb_148_114 E d Q a0 h83)))) ∧ (a1.toInt = 8 → (ztag h7 a0 = 11 ∧ Ct E d 143 [.ref a0, .int 17, .int 18] h7 (fun v h85 => v = none ∧ ztag h85 a0 = 11 ∧ ∃ r87 : Nat, zR h85 a0 16 = r87 + 1 ∧ ztag h85 r87 = 13 ∧ zin 9 (zlen h85 r87) = true ∧ ∀ h89 : ZH, h89 = (zuI h85 r87 9 (if ¬ (zI h85 a0 3 : Int32) = 0 then 0 else ((zI h85 a0 8) - 17) + 1)) → Ct E d 141 [.ref a0] h89 (fun v h90 => v = none ∧ wb_148_114 E d Q a0 h90)))) ∧ (a1.toInt = 9 → (ztag h7 a0 = 11 ∧ ∃ r92 : Nat, zR h7 a0 16 = r92 + 1 ∧ ∃ r93 : Nat, zR h7 a0 11 = r93 + 1 ∧ (ztag h7 r93 = 13 ∨ ztag h7 r93 = 19) ∧ zin a1 (zlen h7 r93) = true ∧ ∃ r95 : Nat, zR h7 a0 13 = r95 + 1 ∧ zin a1 (zlen h7 r93) = true ∧ (ztag h7 r95 = 13 ∨ ztag h7 r95 = 19) ∧ zin (zI h7 r93 a1.toNatClampNeg) (zlen h7 r95) = true ∧ ∃ r97 : Nat, zR h7 a0 14 = r97 + 1 ∧ zin a1 (zlen h7 r93) = true ∧ (ztag h7 r97 = 13 ∨ ztag h7 r97 = 19) ∧ zin (zI h7 r93 a1.toNatClampNeg) (zlen h7 r97) = true ∧ Ct E d 142 [.ref a0, .int (zI h7 r95 (zI h7 r93 a1.toNatClampNeg : Int32).toNatClampNeg), .int (zI h7 r97 (zI h7 r93 a1.toNatClampNeg : Int32).toNatClampNeg)] h7 (fun v h99 => ∃ x100 : Int32, v = some (.int x100) ∧ ztag h99 r92 = 13 ∧ zin (zI h7 r93 a1.toNatClampNeg) (zlen h99 r92) = true ∧ ∀ h102 : ZH, h102 = (zuI h99 r92 (zI h7 r93 a1.toNatClampNeg : Int32).toNatClampNeg x100) → ztag h102 a0 = 11 ∧ Ct E d 141 [.ref a0] h102 (fun v h104 => v = none ∧ wb_148_114 E d Q a0 h104)))) ∧ (a1.toInt = 10 → (ztag h7 a0 = 11 ∧ ∃ r106 : Nat, zR h7 a0 16 = r106 + 1 ∧ ∃ r107 : Nat, zR h7 a0 11 = r107 + 1 ∧ (ztag h7 r107 = 13 ∨ ztag h7 r107 = 19) ∧ zin a1 (zlen h7 r107) = true ∧ ztag h7 r106 = 13 ∧ zin (zI h7 r107 a1.toNatClampNeg) (zlen h7 r106) = true ∧ ∀ h110 : ZH, h110 = (zuI h7 r106 (zI h7 r107 a1.toNatClampNeg : Int32).toNatClampNeg 1) → wb_148_114 E d Q a0 h110)) ∧ (a1.toInt = 11 → (ztag h7 a0 = 11 ∧ ∃ r112 : Nat, zR h7 a0 16 = r112 + 1 ∧ ∃ r113 : Nat, zR h7 a0 11 = r113 + 1 ∧ (ztag h7 r113 = 13 ∨ ztag h7 r113 = 19) ∧ zin a1 (zlen h7 r113) = true ∧ ztag h7 r112 = 13 ∧ zin (zI h7 r113 a1.toNatClampNeg) (zlen h7 r112) = true ∧ ∀ h116 : ZH, h116 = (zuI h7 r112 (zI h7 r113 a1.toNatClampNeg : Int32).toNatClampNeg 1) → wb_148_114 E d Q a0 h116)) ∧ (a1.toInt = 12 → (ztag h7 a0 = 11 ∧ Ct E d 145 [.ref a0] h7 (fun v h118 => v = none ∧ wb_148_114 E d Q a0 h118))) ∧ (a1.toInt = 13 → (ztag h7 a0 = 11 ∧ ∃ r120 : Nat, zR h7 a0 16 = r120 + 1 ∧ ∃ r121 : Nat, zR h7 a0 11 = r121 + 1 ∧ (ztag h7 r121 = 13 ∨ ztag h7 r121 = 19) ∧ zin a1 (zlen h7 r121) = true ∧ ∃ r123 : Nat, zR h7 a0 13 = r123 + 1 ∧ zin a1 (zlen h7 r121) = true ∧ (ztag h7 r123 = 13 ∨ ztag h7 r123 = 19) ∧ zin (zI h7 r121 a1.toNatClampNeg) (zlen h7 r123) = true ∧ ∃ r125 : Nat, zR h7 a0 14 = r125 + 1 ∧ zin a1 (zlen h7 r121) = true ∧ (ztag h7 r125 = 13 ∨ ztag h7 r125 = 19) ∧ zin (zI h7 r121 a1.toNatClampNeg) (zlen h7 r125) = true ∧ Ct E d 142 [.ref a0, .int (zI h7 r123 (zI h7 r121 a1.toNatClampNeg : Int32).toNatClampNeg), .int (zI h7 r125 (zI h7 r121 a1.toNatClampNeg : Int32).toNatClampNeg)] h7 (fun v h127 => ∃ x128 : Int32, v = some (.int x128) ∧ ztag h127 r120 = 13 ∧ zin (zI h7 r121 a1.toNatClampNeg) (zlen h127 r120) = true ∧ ∀ h130 : ZH, h130 = (zuI h127 r120 (zI h7 r121 a1.toNatClampNeg : Int32).toNatClampNeg x128) → ztag h130 a0 = 11 ∧ Ct E d 141 [.ref a0] h130 (fun v h132 => v = none ∧ wb_148_114 E d Q a0 h132)))) ∧ (a1.toInt = 14 → (ztag h7 a0 = 11 ∧ Ct E d 146 [.ref a0] h7 (fun v h134 => v = none ∧ wb_148_114 E d Q a0 h134))) ∧ (a1.toInt = 15 → (ztag h7 a0 = 11 ∧ Ct E d 147 [.ref a0] h7 (fun v h136 => v = none ∧ wb_148_114 E d Q a0 h136))))
def smp (v : Nat) : Prop := v < 17 ∧ ¬ (v = 3 ∨ v = 8 ∨ v = 10 ∨ v = 11 ∨ v = 12 ∨ v = 14 ∨ v = 15)
theorem mcs_4 : ∀ v, v < 17 → (mcs 4).getD v 0 = jI (rxN (tmN v) : Int) := by decide
theorem okT_1 : ∀ v, v < 17 → tmN v < 16 ∨ (20 ≤ tmN v ∧ tmN v < 23) ∨ (30 ≤ tmN v ∧ tmN v < 39) := by decide
theorem mcs_6 : ∀ v, v < 17 → ¬ (v = 3 ∨ v = 8 ∨ v = 10 ∨ v = 11 ∨ v = 12 ∨ v = 14 ∨ v = 15) → tmN v < 16 ∧ (mcs 6).getD (tmN v) 0 = jI (loN v : Int) := by decide
theorem mcs_7 : ∀ v, v < 17 → ¬ (v = 3 ∨ v = 8 ∨ v = 10 ∨ v = 11 ∨ v = 12 ∨ v = 14 ∨ v = 15) → slN v = 1 ∧ (mcs 7).getD (tmN v) 0 = jI (hiN v : Int) := by decide
theorem loN_b : ∀ v, v < 17 → loN v ≤ 1 := by decide
section MDD
variable {E : Nat → Nat} {h h0 : ZH} {x m tn d r p n : Nat} {tb : Nat → Int32} {ln sl tm : Nat} {to : Nat → Bool} {t : Nat → Nat} {S : RdT} {k : TkT} {A : Nat × Nat × Nat × RdT} {Q : Option Value → ZH → Prop} {R : ZH → Prop}
/-- where a name's number lies -/
theorem key_ {v : Nat} (M : MTp h m tn tb) (hv : v < 17) : zI h (m + 4) (jI (v : Int)).toNatClampNeg = jI (rxN (tmN v) : Int) ∧ rxN (tmN v) < 28 := by
  rw [jI_cln (by omega), M.2.2.2 4 (by omega) (by omega) v (show v < 17 from hv), mcs_4 v hv]
  exact ⟨rfl, rxN_b (okT_1 v hv)⟩
theorem rx_16 {k : Nat} (h : k < 16) : rxN k = k := by unfold rxN; rw [if_pos h]
theorem bdA_F {v : Nat} (hd : 1 ≤ d) (hv : v < 17) (hs : ¬ (v = 3 ∨ v = 8 ∨ v = 10 ∨ v = 11 ∨ v = 12 ∨ v = 14 ∨ v = 15)) (M0 : MTp h0 m tn tb) (G : MdF h0 h m A) (q : ∀ h', MdF h0 h' m A → Q none h') : bdA E d Q m (jI (v : Int)) h := by
  have M := M0.fr G.1
  have A16 := M.1.a16
  have A11 := M.1.a11
  have A13 := M.1.a13
  have A14 := M.1.a14
  have k1 := key_ M hv
  have m6 := mcs_6 v hv hs
  have zv : zin (jI (v : Int)) (zlen h (m + 4)) = true := A11.inn (by omega) (by omega)
  unfold bdA
  refine ⟨M.1.1, m + 9, A16.1, m + 4, A11.1, A11.ti, zv, m + 6, A13.1, zv, A13.ti, ?_, m + 7, A14.1, zv, A14.ti, ?_, FNum hd M0 G ?_ (fun h' G' => b114F hd M0 G' q)⟩
  · rw [k1.1]; exact A13.inn (by rw [rx_16 m6.1]; exact m6.1) (by omega)
  · rw [k1.1]; exact A14.inn (by rw [rx_16 m6.1]; exact m6.1) (by omega)
  · rw [k1.1]; exact zin_j (by omega) (by omega) (by omega)
theorem bdA_N {v r0 : Nat} (hd : 3 ≤ d) (B : TpB tb) (hn : tn ≤ 320) (hv : v < 17) (hs : ¬ (v = 3 ∨ v = 8 ∨ v = 10 ∨ v = 11 ∨ v = 12 ∨ v = 14 ∨ v = 15)) (M0 : MTp h0 m tn tb) (N : MdN tb tn h0 h m r (v, 0, tmN v, to, t) p n A) (W : RdW h m to t) (hr0 : r ≤ r0) (q : LnK tb tn h0 m r0 n A Q) : bdA E d Q m (jI (v : Int)) h := by
  have M := M0.fr N.1
  have A16 := M.1.a16
  have A11 := M.1.a11
  have A13 := M.1.a13
  have A14 := M.1.a14
  have k1 := key_ M hv
  have m6 := mcs_6 v hv hs
  have m7 := mcs_7 v hv hs
  have zv : zin (jI (v : Int)) (zlen h (m + 4)) = true := A11.inn (by omega) (by omega)
  have ck : (jI (rxN (tmN v) : Int)).toNatClampNeg = tmN v := by rw [jI_cln (by omega), rx_16 m6.1]
  unfold bdA
  refine ⟨M.1.1, m + 9, A16.1, m + 4, A11.1, A11.ti, zv, m + 6, A13.1, zv, A13.ti, ?_, m + 7, A14.1, zv, A14.ti, ?_, ?_⟩
  · rw [k1.1]; exact A13.inn (by rw [rx_16 m6.1]; exact m6.1) (by omega)
  · rw [k1.1]; exact A14.inn (by rw [rx_16 m6.1]; exact m6.1) (by omega)
  · rw [k1.1, ck, M.2.2.2 6 (by omega) (by omega) (tmN v) (show tmN v < 16 from m6.1), M.2.2.2 7 (by omega) (by omega) (tmN v) (show tmN v < 16 from m6.1), m6.2, m7.2]
    have lb := loN_b v hv
    refine NNum (lo := loN v) (hi := hiN v) hd B hn M0 hv (by omega) (by omega) (by omega) (by rw [m7.1]; omega) (by omega) N W (by rw [if_neg (by omega)]) rfl (by omega) (okT_1 v hv) rfl (rx_16 m6.1).symm (fun h' G' => b114F (by omega) M0 G' q.1) (fun h' p' w N2 W2 => ?_)
    have e1 : (v, 0 + 1, tmN v + 1, to, upt t (tmN v) w) = ((v, slN v, tmN v + 1, to, upt t (tmN v) w) : RdT) := by rw [m7.1]
    rw [e1] at N2
    exact b114N hd B hn M0 hv N2 W2 (by omega) q
theorem swF {v : Nat} (hd : 4 ≤ d) (hv : v < 17) (M0 : MTp h0 m tn tb) (G : MdF h0 h m A) (q : ∀ h', MdF h0 h' m A → Q none h') : sw148 E d Q m (jI (v : Int)) h := by
  have M := M0.fr G.1
  have A16 := M.1.a16
  have A11 := M.1.a11
  have k1 := key_ M hv
  have zv : zin (jI (v : Int)) (zlen h (m + 4)) = true := A11.inn (by omega) (by omega)
  have bz : ztag h m = 11 ∧ ∃ r106 : Nat, zR h m 16 = r106 + 1 ∧ ∃ r107 : Nat, zR h m 11 = r107 + 1 ∧ (ztag h r107 = 13 ∨ ztag h r107 = 19) ∧ zin (jI (v : Int)) (zlen h r107) = true ∧ ztag h r106 = 13 ∧ zin (zI h r107 (jI (v : Int)).toNatClampNeg) (zlen h r106) = true ∧ ∀ h110 : ZH, h110 = (zuI h r106 (zI h r107 (jI (v : Int)).toNatClampNeg : Int32).toNatClampNeg 1) → wb_148_114 E d Q m h110 := ⟨M.1.1, m + 9, A16.1, m + 4, A11.1, A11.ti, zv, A16.tg, by rw [k1.1]; exact A16.inn k1.2 (by omega), nm_e (b114F (by omega) M0 G.u9 q)⟩
  unfold sw148
  rw [jI_toInt (by omega) (by omega)]
  have a : ¬ (v = 3 ∨ v = 8 ∨ v = 10 ∨ v = 11 ∨ v = 12 ∨ v = 14 ∨ v = 15) → bdA E d Q m (jI (v : Int)) h := fun c => bdA_F (by omega) hv c M0 G q
  refine ⟨fun c => a (by omega), fun c => ⟨M.1.1, ct_144F (by omega) M0 G (fun h' G' => ⟨rfl, b114F (by omega) M0 G' q⟩)⟩, fun c => a (by omega), fun c => a (by omega), fun c => a (by omega), fun c => a (by omega), fun c => ⟨M.1.1, F143 (by omega) M0 G ⟨rfl, M.1.1, m + 9, A16.1, A16.tg, A16.inc (by decide), nm_e (F141 (by omega) M0 G.u9 ⟨rfl, b114F (by omega) M0 G.u9 q⟩)⟩⟩, fun c => a (by omega), fun c => bz, fun c => bz, fun c => ⟨M.1.1, ct_145F (by omega) M0 G (fun h' G' => ⟨rfl, b114F (by omega) M0 G' q⟩)⟩, fun c => a (by omega), fun c => ⟨M.1.1, ct_146F (by omega) M0 G (fun h' G' => ⟨rfl, b114F (by omega) M0 G' q⟩)⟩, fun c => ⟨M.1.1, ct_147F (by omega) M0 G (fun h' G' => ⟨rfl, b114F (by omega) M0 G' q⟩)⟩⟩
theorem swN {v r0 : Nat} {t0 : Nat → Nat} (hd : 5 ≤ d) (B : TpB tb) (hn : tn ≤ 320) (hv : v < 17) (M0 : MTp h0 m tn tb) (e0 : t = if slN v = 0 then upt t0 (tmN v) 1 else t0) (N : MdN tb tn h0 h m r (v, 0, tmN v, to, t) p n A) (W : RdW h m to t0) (hr0 : r ≤ r0) (q : LnK tb tn h0 m r0 n A Q) : sw148 E d Q m (jI (v : Int)) h := by
  have M := M0.fr N.1
  have A16 := M.1.a16
  have A11 := M.1.a11
  have k1 := key_ M hv
  have zv : zin (jI (v : Int)) (zlen h (m + 4)) = true := A11.inn (by omega) (by omega)
  have bz : slN v = 0 → (ztag h m = 11 ∧ ∃ r106 : Nat, zR h m 16 = r106 + 1 ∧ ∃ r107 : Nat, zR h m 11 = r107 + 1 ∧ (ztag h r107 = 13 ∨ ztag h r107 = 19) ∧ zin (jI (v : Int)) (zlen h r107) = true ∧ ztag h r106 = 13 ∧ zin (zI h r107 (jI (v : Int)).toNatClampNeg) (zlen h r106) = true ∧ ∀ h110 : ZH, h110 = (zuI h r106 (zI h r107 (jI (v : Int)).toNatClampNeg : Int32).toNatClampNeg 1) → wb_148_114 E d Q m h110) := fun sz => by
    refine ⟨M.1.1, m + 9, A16.1, m + 4, A11.1, A11.ti, zv, A16.tg, by rw [k1.1]; exact A16.inn k1.2 (by omega), nm_r (e' := zuI h (m + 9) (rxN (tmN v)) (jI ((1 : Nat) : Int))) ?_ ?_⟩
    · rw [k1.1, jI_cln (by omega)]; rfl
    · have N2 := N.u9 (i := rxN (tmN v)) (v := jI ((1 : Nat) : Int))
      have W2 := W.up (v := 1) (okT_1 v hv)
      rw [if_pos sz] at e0
      rw [← e0] at W2
      have e1 : (v, 0, tmN v, to, t) = ((v, slN v, tmN v, to, t) : RdT) := by rw [sz]
      rw [e1] at N2
      exact b114N (by omega) B hn M0 hv N2 W2 hr0 q
  have W' : ¬ slN v = 0 → RdW h m to t := fun c => by rw [e0, if_neg c]; exact W
  have bk : ∀ ln, ln < 17 → BdK tb tn h0 m r ln n A (fun v h27 => v = none ∧ wb_148_114 E d Q m h27) := fun ln hl => ⟨fun h' G' => ⟨rfl, b114F (by omega) M0 G' q.1⟩, fun h' r' p' tm' to' t' lt N2 W2 => ⟨rfl, b114N (by omega) B hn M0 hl N2 W2 (by omega) q⟩⟩
  unfold sw148
  rw [jI_toInt (by omega) (by omega)]
  have a : ¬ (v = 3 ∨ v = 8 ∨ v = 10 ∨ v = 11 ∨ v = 12 ∨ v = 14 ∨ v = 15) → bdA E d Q m (jI (v : Int)) h := fun c => bdA_N (by omega) B hn hv c M0 N (W' (by rw [(mcs_7 v hv c).1]; decide)) hr0 q
  refine ⟨fun c => a (by omega), fun c => ⟨M.1.1, ?_⟩, fun c => a (by omega), fun c => a (by omega), fun c => a (by omega), fun c => a (by omega), fun c => ⟨M.1.1, ?_⟩, fun c => a (by omega), fun c => bz (by rw [show v = 10 by omega]; rfl), fun c => bz (by rw [show v = 11 by omega]; rfl), fun c => ⟨M.1.1, ?_⟩, fun c => a (by omega), fun c => ⟨M.1.1, ?_⟩, fun c => ⟨M.1.1, ?_⟩⟩
  · have e : v = 3 := by omega
    subst e
    exact ct_144N (by omega) B hn M0 N (W' (by decide)) (bk 3 (by omega))
  · have e : v = 8 := by omega
    subst e
    have es := stp_m (tm := tmN 8) (to := to) (t := t) (k := tk tb tn p) N.2.2.1
    unfold stM at es
    refine N143 (lo := 17) (hi := 18) (by omega) M0 (by omega) (by omega) N (by show ¬ 8 = 17; omega) (fun c => by rw [es, if_pos c]) (fun h' G => ?_) (fun w c hw l1 l2 e8 => ?_)
    · have A17 := (M0.fr G.1).1.a16
      exact ⟨rfl, (M0.fr G.1).1.1, m + 9, A17.1, A17.tg, A17.inc (by decide), nm_e (F141 (by omega) M0 G.u9 ⟨rfl, b114F (by omega) M0 G.u9 q.1⟩)⟩
    · rw [hw, Int.toNat_natCast, if_neg (by omega)] at es
      refine ⟨rfl, M.1.1, m + 9, A16.1, A16.tg, A16.inc (by decide), nm_r (e' := zuI h (m + 9) (rxN 9) (jI ((w - 16 : Nat) : Int))) ?_ (N141 (by omega) B hn M0 N.u9 (by omega) es (by rw [if_neg (by omega)]) ((W' (by decide)).up (by unfold okT; omega)) (fun h' G => ⟨rfl, b114F (by omega) M0 G q.1⟩) (fun h' p' lt N2 W2 => ⟨rfl, ?_⟩))⟩
      · rw [if_neg (fun z => z N.2.1.1), e8, show (17 : Int32) = jI 17 from rfl, jI_sub, show (1 : Int32) = jI 1 from rfl, jI_add, show (w : Int) - 17 + 1 = ((w - 16 : Nat) : Int) by omega]; rfl
      · exact b114N (by omega) B hn M0 (ln := 8) (by omega) N2 W2 (by omega) q
  · have e : v = 12 := by omega
    subst e
    exact ct_145N (by omega) B hn M0 N (W' (by decide)) (bk 12 (by omega))
  · have e : v = 14 := by omega
    subst e
    exact ct_146N (by omega) B hn M0 N (W' (by decide)) (bk 14 (by omega))
  · have e : v = 15 := by omega
    subst e
    exact ct_147N (by omega) B hn M0 N (W' (by decide)) (bk 15 (by omega))
theorem b42F {v : Nat} (hd : 4 ≤ d) (hv : v < 17) (M0 : MTp h0 m tn tb) (G : MdF h0 h m A) (q : ∀ h', MdF h0 h' m A → Q none h') : wb_148_42 E d Q m (jI (v : Int)) h := ⟨(M0.fr G.1).1.1, F141 (by omega) M0 G ⟨rfl, swF hd hv M0 G q⟩⟩
theorem b42N {v : Nat} (hd : 5 ≤ d) (B : TpB tb) (hn : tn ≤ 320) (hv : v < 17) (M0 : MTp h0 m tn tb) (N : MdN tb tn h0 h m r S p n A) (c4 : (tk tb tn p).1 = 1) (es : stp S (tk tb tn p) = (0, (v, 0, tmN v, to, if slN v = 0 then upt t (tmN v) 1 else t))) (W : RdW h m to t) (q : LnK tb tn h0 m r n A Q) : wb_148_42 E d Q m (jI (v : Int)) h := ⟨(M0.fr N.1).1.1, N141 (by omega) B hn M0 N (by omega) es (by rw [if_neg (by omega)]; rfl) W (fun h' G => ⟨rfl, swF (by omega) hv M0 G q.1⟩) (fun h' p' lt N2 W2 => ⟨rfl, swN hd B hn hv M0 rfl N2 W2 (by omega) q⟩)⟩
theorem ct_148 (hd : 6 ≤ d) (B : TpB tb) (hn : tn ≤ 320) (M0 : MTp h0 m tn tb) (N : MdN tb tn h0 h m r S p n A) (s17 : S.1 = 17) (c4 : ¬ (tk tb tn p).1 = 4) (W : RdW h m S.2.2.2.1 S.2.2.2.2) (q : LnK tb tn h0 m r n A Q) : Ct E d 148 [.ref m] h Q := by
  obtain ⟨d, rfl⟩ : ∃ n, d = n + 1 := ⟨d - 1, by omega⟩
  have N' := N
  obtain ⟨F, T, k0, K, hp, hr, eA⟩ := N
  have s := (M0.fr F).1.1
  have O := tk_o tb hp
  have z7 : (zI h m 7 = 1 ↔ (tk tb tn p).1 = 1) := by
    rw [T.2.2.2.1, show (1 : Int32) = jI ((1 : Nat) : Int) from rfl, jI_eqn (by have := O.1; split <;> omega) (by omega)]
    split <;> omega
  have es : stp S (tk tb tn p) = stN S.2.2.2.1 S.2.2.2.2 (tk tb tn p) := by
    unfold stp
    rw [if_neg k0, if_pos s17]
  unfold stN at es
  refine ok_148 ⟨s, nm_e ?_⟩
  rw [z7]
  refine ⟨fun c1 => ?_, fun c1 => ?_⟩
  · rw [if_pos c1] at es
    exact N139 (c := 2) (by omega) M0 N' (fun z => c4 z.1) (by rw [es]) (by omega) (fun h' G => ⟨rfl, q.1 h' G⟩)
  · rw [if_neg c1] at es
    rw [Classical.not_not] at c1
    have O1 := O.2.1 c1
    obtain ⟨v, hv⟩ : ∃ n : Nat, (tk tb tn p).2.1 = (n : Int) := ⟨(tk tb tn p).2.1.toNat, by omega⟩
    have T8 := T.2.2.2.2 (Or.inl c1)
    rw [hv] at T8 O1
    rw [hv, Int.toNat_natCast] at es
    rw [T8]
    have z16 : (jI (v : Int) ≤ 16 ↔ v ≤ 16) := jI_len (b := 16) (by omega) (by omega)
    have z12 : (jI (v : Int) < 12 ↔ v < 12) := jI_ltn (b := 12) (by omega) (by omega)
    have z13 : (jI (v : Int) = 13 ↔ v = 13) := jI_eqn (b := 13) (by omega) (by omega)
    have y16 : (jI (v : Int) = 16 ↔ v = 16) := jI_eqn (b := 16) (by omega) (by omega)
    rw [z16]
    refine ⟨fun c16 => ?_, fun c16 => ?_⟩
    · rw [if_neg (by omega)] at es
      have tl : ((zI h m 17 >>> (jI (v : Int) &&& 31)) &&& 1 = 1 ↔ S.2.2.2.1 v = true) := W.1 v (by omega)
      have b : ¬ (v = 12 ∨ v = 14 ∨ v = 15) → ((¬ (((zI h m 17) >>> (jI (v : Int) &&& 31)) &&& 1 : Int32) = 1 → (wb_148_34 E d Q m (jI (v : Int)) h)) ∧ (¬ (¬ (((zI h m 17) >>> (jI (v : Int) &&& 31)) &&& 1 : Int32) = 1) → (Ct E d 139 [.ref m, .int 4] h (fun v' h137 => v' = none ∧ wb_148_34 E d Q m (jI (v : Int)) h137)))) := fun c => by
        rw [if_neg c] at es
        rw [tl]
        refine ⟨fun c5 => ?_, fun c5 => ?_⟩
        · rw [if_neg c5] at es
          exact ⟨s, nm_e (b42N (by omega) B hn (by omega) M0 (N'.um (by omega) (by omega)) c1 es (W.m17 (by omega)) q)⟩
        · rw [Classical.not_not] at c5
          rw [if_pos c5] at es
          exact N139 (c := 4) (by omega) M0 N' (fun z => c4 z.1) (by rw [es]) (by omega) (fun h' G => ⟨rfl, (M0.fr G.1).1.1, nm_e (b42F (by omega) (by omega) M0 (G.um (by omega) (by omega)) q.1)⟩)
      rw [z12, z13, y16]
      refine ⟨fun c => b (by omega), fun c => ⟨fun c' => b (by omega), fun c' => ⟨fun c6 => ?_, fun c6 => b (by omega)⟩⟩⟩
      rw [if_pos (by omega)] at es
      have e : (v, 0, tmN v, S.2.2.2.1, S.2.2.2.2) = ((v, 0, tmN v, S.2.2.2.1, if slN v = 0 then upt S.2.2.2.2 (tmN v) 1 else S.2.2.2.2) : RdT) := by
        rw [if_neg (fun z => by have := slN_b1 v (by omega) z; omega)]
      rw [e] at es
      exact b42N (by omega) B hn (by omega) M0 N' c1 es W q
    · rw [if_pos (by omega)] at es
      exact N139 (c := 2) (by omega) M0 N' (fun z => c4 z.1) (by rw [es]) (by omega) (fun h' G => ⟨rfl, q.1 h' G⟩)
end MDD
