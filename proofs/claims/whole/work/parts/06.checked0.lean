/-! method by method: the program says yes -/
def zMPw (y : Nat) (r : Nat × Nat × Nat × Nat × Nat × Nat) : Bool := zcw (lw_tbl[r.2.1]?) (zY y).1 (zY y).2.2.1 (zY y).2.2.2.1 && decide (lw_tbl[r.2.2.1]? = some (if r.1 = 0 then .static (zY y).1 else .instanceMethod (zY y).1)) && (decide (¬ r.1 = 1) || decide (lw_tbl[r.2.2.2.1]? = some (.selects (zcn (zY y).2.2.2.2) (zY y).1 (zY y).1))) && decide (lw_tbl[r.2.2.2.2.1]? = some (.initialized (zcn (zY y).2.2.2.2))) && decide ((zY y).1.cls = zcn (zY y).2.2.2.2) && decide ((zY y).1.cls ≠ "java/lang/invoke/MethodHandle" ∧ (zY y).1.cls ≠ "java/lang/invoke/VarHandle") && decide ((parseMethodDescriptor (zY y).1.desc).map (fun d => d.parameters.length) = some r.2.2.2.2.2) && decide ((zM y).2.1 = (zY y).2.2.1) && decide ((zM y).2.2 = (if r.1 = 0 then r.2.2.2.2.2 else r.2.2.2.2.2 + 1)) && decide ((zP y)[0]? = some 0) && decide ((zY y).2.2.1 ≤ 25) && decide ((¬ r.1 = 2) ∨ ((zY y).1.name = "<init>" ∧ (zY y).2.2.2.1 = none)) && plainName (zY y).1.cls && decide (zTg y = (zY y).2.2.2.2 + (if (zY y).2.2.2.1 = some .boolean then 100 else 0)) && decide ((zY y).2.2.2.2 < 12) && (match (zY y).2.2.2.1 with
  | none => true
  | some .int => true
  | some .long => true
  | some .boolean => true
  | some (.object _) => true
  | _ => false)

set_option maxRecDepth 100000 in
theorem zk_0 : zchk 0 = true := by decide +kernel
set_option maxRecDepth 100000 in
theorem zw_0 : zMPw 0 (zmp 0) = true := by decide +kernel
set_option maxRecDepth 100000 in
theorem zk_1 : zchk 1 = true := by decide +kernel
set_option maxRecDepth 100000 in
theorem zw_1 : zMPw 1 (zmp 1) = true := by decide +kernel
set_option maxRecDepth 100000 in
theorem zk_2 : zchk 2 = true := by decide +kernel
set_option maxRecDepth 100000 in
theorem zw_2 : zMPw 2 (zmp 2) = true := by decide +kernel
set_option maxRecDepth 100000 in
theorem zk_3 : zchk 3 = true := by decide +kernel
set_option maxRecDepth 100000 in
theorem zw_3 : zMPw 3 (zmp 3) = true := by decide +kernel
set_option maxRecDepth 100000 in
theorem zk_4 : zchk 4 = true := by decide +kernel
set_option maxRecDepth 100000 in
theorem zw_4 : zMPw 4 (zmp 4) = true := by decide +kernel
set_option maxRecDepth 100000 in
theorem zk_5 : zchk 5 = true := by decide +kernel
set_option maxRecDepth 100000 in
theorem zw_5 : zMPw 5 (zmp 5) = true := by decide +kernel
set_option maxRecDepth 100000 in
theorem zk_6 : zchk 6 = true := by decide +kernel
set_option maxRecDepth 100000 in
theorem zw_6 : zMPw 6 (zmp 6) = true := by decide +kernel
set_option maxRecDepth 100000 in
theorem zk_7 : zchk 7 = true := by decide +kernel
set_option maxRecDepth 100000 in
theorem zw_7 : zMPw 7 (zmp 7) = true := by decide +kernel
set_option maxRecDepth 100000 in
theorem zk_8 : zchk 8 = true := by decide +kernel
set_option maxRecDepth 100000 in
theorem zw_8 : zMPw 8 (zmp 8) = true := by decide +kernel
set_option maxRecDepth 100000 in
theorem zk_9 : zchk 9 = true := by decide +kernel
set_option maxRecDepth 100000 in
theorem zw_9 : zMPw 9 (zmp 9) = true := by decide +kernel
set_option maxRecDepth 100000 in
theorem zk_10 : zchk 10 = true := by decide +kernel
set_option maxRecDepth 100000 in
theorem zw_10 : zMPw 10 (zmp 10) = true := by decide +kernel
set_option maxRecDepth 100000 in
theorem zk_11 : zchk 11 = true := by decide +kernel
set_option maxRecDepth 100000 in
theorem zw_11 : zMPw 11 (zmp 11) = true := by decide +kernel
set_option maxRecDepth 100000 in
theorem zk_12 : zchk 12 = true := by decide +kernel
set_option maxRecDepth 100000 in
theorem zw_12 : zMPw 12 (zmp 12) = true := by decide +kernel
set_option maxRecDepth 100000 in
theorem zk_13 : zchk 13 = true := by decide +kernel
set_option maxRecDepth 100000 in
theorem zw_13 : zMPw 13 (zmp 13) = true := by decide +kernel
set_option maxRecDepth 100000 in
theorem zk_14 : zchk 14 = true := by decide +kernel
set_option maxRecDepth 100000 in
theorem zw_14 : zMPw 14 (zmp 14) = true := by decide +kernel
set_option maxRecDepth 100000 in
theorem zk_15 : zchk 15 = true := by decide +kernel
set_option maxRecDepth 100000 in
theorem zw_15 : zMPw 15 (zmp 15) = true := by decide +kernel
set_option maxRecDepth 100000 in
theorem zk_16 : zchk 16 = true := by decide +kernel
set_option maxRecDepth 100000 in
theorem zw_16 : zMPw 16 (zmp 16) = true := by decide +kernel
set_option maxRecDepth 100000 in
theorem zk_17 : zchk 17 = true := by decide +kernel
set_option maxRecDepth 100000 in
theorem zw_17 : zMPw 17 (zmp 17) = true := by decide +kernel
set_option maxRecDepth 100000 in
theorem zk_18 : zchk 18 = true := by decide +kernel
set_option maxRecDepth 100000 in
theorem zw_18 : zMPw 18 (zmp 18) = true := by decide +kernel
set_option maxRecDepth 100000 in
theorem zk_19 : zchk 19 = true := by decide +kernel
set_option maxRecDepth 100000 in
theorem zw_19 : zMPw 19 (zmp 19) = true := by decide +kernel
set_option maxRecDepth 100000 in
theorem zk_20 : zchk 20 = true := by decide +kernel
set_option maxRecDepth 100000 in
theorem zw_20 : zMPw 20 (zmp 20) = true := by decide +kernel
set_option maxRecDepth 100000 in
theorem zk_21 : zchk 21 = true := by decide +kernel
set_option maxRecDepth 100000 in
theorem zw_21 : zMPw 21 (zmp 21) = true := by decide +kernel
set_option maxRecDepth 100000 in
theorem zk_22 : zchk 22 = true := by decide +kernel
set_option maxRecDepth 100000 in
theorem zw_22 : zMPw 22 (zmp 22) = true := by decide +kernel
set_option maxRecDepth 100000 in
theorem zk_23 : zchk 23 = true := by decide +kernel
set_option maxRecDepth 100000 in
theorem zw_23 : zMPw 23 (zmp 23) = true := by decide +kernel
set_option maxRecDepth 100000 in
theorem zk_24 : zchk 24 = true := by decide +kernel
set_option maxRecDepth 100000 in
theorem zw_24 : zMPw 24 (zmp 24) = true := by decide +kernel
set_option maxRecDepth 100000 in
theorem zk_25 : zchk 25 = true := by decide +kernel
set_option maxRecDepth 100000 in
theorem zw_25 : zMPw 25 (zmp 25) = true := by decide +kernel
set_option maxRecDepth 100000 in
theorem zk_26 : zchk 26 = true := by decide +kernel
set_option maxRecDepth 100000 in
theorem zw_26 : zMPw 26 (zmp 26) = true := by decide +kernel
set_option maxRecDepth 100000 in
theorem zk_27 : zchk 27 = true := by decide +kernel
set_option maxRecDepth 100000 in
theorem zw_27 : zMPw 27 (zmp 27) = true := by decide +kernel
set_option maxRecDepth 100000 in
theorem zk_28 : zchk 28 = true := by decide +kernel
set_option maxRecDepth 100000 in
theorem zw_28 : zMPw 28 (zmp 28) = true := by decide +kernel
set_option maxRecDepth 100000 in
theorem zk_29 : zchk 29 = true := by decide +kernel
set_option maxRecDepth 100000 in
theorem zw_29 : zMPw 29 (zmp 29) = true := by decide +kernel
set_option maxRecDepth 100000 in
theorem zk_30 : zchk 30 = true := by decide +kernel
set_option maxRecDepth 100000 in
theorem zw_30 : zMPw 30 (zmp 30) = true := by decide +kernel
set_option maxRecDepth 100000 in
theorem zk_31 : zchk 31 = true := by decide +kernel
set_option maxRecDepth 100000 in
theorem zw_31 : zMPw 31 (zmp 31) = true := by decide +kernel
set_option maxRecDepth 100000 in
theorem zk_32 : zchk 32 = true := by decide +kernel
set_option maxRecDepth 100000 in
theorem zw_32 : zMPw 32 (zmp 32) = true := by decide +kernel
set_option maxRecDepth 100000 in
theorem zk_33 : zchk 33 = true := by decide +kernel
set_option maxRecDepth 100000 in
theorem zw_33 : zMPw 33 (zmp 33) = true := by decide +kernel
set_option maxRecDepth 100000 in
theorem zk_34 : zchk 34 = true := by decide +kernel
set_option maxRecDepth 100000 in
theorem zw_34 : zMPw 34 (zmp 34) = true := by decide +kernel
set_option maxRecDepth 100000 in
theorem zk_35 : zchk 35 = true := by decide +kernel
set_option maxRecDepth 100000 in
theorem zw_35 : zMPw 35 (zmp 35) = true := by decide +kernel
set_option maxRecDepth 100000 in
theorem zk_36 : zchk 36 = true := by decide +kernel
set_option maxRecDepth 100000 in
theorem zw_36 : zMPw 36 (zmp 36) = true := by decide +kernel
set_option maxRecDepth 100000 in
theorem zk_37 : zchk 37 = true := by decide +kernel
set_option maxRecDepth 100000 in
theorem zw_37 : zMPw 37 (zmp 37) = true := by decide +kernel
set_option maxRecDepth 100000 in
theorem zk_38 : zchk 38 = true := by decide +kernel
set_option maxRecDepth 100000 in
theorem zw_38 : zMPw 38 (zmp 38) = true := by decide +kernel
set_option maxRecDepth 100000 in
theorem zk_39 : zchk 39 = true := by decide +kernel
set_option maxRecDepth 100000 in
theorem zw_39 : zMPw 39 (zmp 39) = true := by decide +kernel
set_option maxRecDepth 100000 in
theorem zk_40 : zchk 40 = true := by decide +kernel
set_option maxRecDepth 100000 in
theorem zw_40 : zMPw 40 (zmp 40) = true := by decide +kernel
set_option maxRecDepth 100000 in
theorem zk_41 : zchk 41 = true := by decide +kernel
set_option maxRecDepth 100000 in
theorem zw_41 : zMPw 41 (zmp 41) = true := by decide +kernel
set_option maxRecDepth 100000 in
theorem zk_42 : zchk 42 = true := by decide +kernel
set_option maxRecDepth 100000 in
theorem zw_42 : zMPw 42 (zmp 42) = true := by decide +kernel
set_option maxRecDepth 100000 in
theorem zk_43 : zchk 43 = true := by decide +kernel
set_option maxRecDepth 100000 in
theorem zw_43 : zMPw 43 (zmp 43) = true := by decide +kernel
set_option maxRecDepth 100000 in
theorem zk_44 : zchk 44 = true := by decide +kernel
set_option maxRecDepth 100000 in
theorem zw_44 : zMPw 44 (zmp 44) = true := by decide +kernel
set_option maxRecDepth 100000 in
theorem zk_45 : zchk 45 = true := by decide +kernel
set_option maxRecDepth 100000 in
theorem zw_45 : zMPw 45 (zmp 45) = true := by decide +kernel
set_option maxRecDepth 100000 in
theorem zk_46 : zchk 46 = true := by decide +kernel
set_option maxRecDepth 100000 in
theorem zw_46 : zMPw 46 (zmp 46) = true := by decide +kernel
set_option maxRecDepth 100000 in
theorem zk_47 : zchk 47 = true := by decide +kernel
set_option maxRecDepth 100000 in
theorem zw_47 : zMPw 47 (zmp 47) = true := by decide +kernel
set_option maxRecDepth 100000 in
theorem zk_48 : zchk 48 = true := by decide +kernel
set_option maxRecDepth 100000 in
theorem zw_48 : zMPw 48 (zmp 48) = true := by decide +kernel
set_option maxRecDepth 100000 in
theorem zk_49 : zchk 49 = true := by decide +kernel
set_option maxRecDepth 100000 in
theorem zw_49 : zMPw 49 (zmp 49) = true := by decide +kernel
set_option maxRecDepth 100000 in
theorem zk_50 : zchk 50 = true := by decide +kernel
set_option maxRecDepth 100000 in
theorem zw_50 : zMPw 50 (zmp 50) = true := by decide +kernel
set_option maxRecDepth 100000 in
theorem zk_51 : zchk 51 = true := by decide +kernel
set_option maxRecDepth 100000 in
theorem zw_51 : zMPw 51 (zmp 51) = true := by decide +kernel
set_option maxRecDepth 100000 in
theorem zk_52 : zchk 52 = true := by decide +kernel
set_option maxRecDepth 100000 in
theorem zw_52 : zMPw 52 (zmp 52) = true := by decide +kernel
set_option maxRecDepth 100000 in
theorem zk_53 : zchk 53 = true := by decide +kernel
set_option maxRecDepth 100000 in
theorem zw_53 : zMPw 53 (zmp 53) = true := by decide +kernel
set_option maxRecDepth 100000 in
theorem zk_54 : zchk 54 = true := by decide +kernel
set_option maxRecDepth 100000 in
theorem zw_54 : zMPw 54 (zmp 54) = true := by decide +kernel
set_option maxRecDepth 100000 in
theorem zk_55 : zchk 55 = true := by decide +kernel
set_option maxRecDepth 100000 in
theorem zw_55 : zMPw 55 (zmp 55) = true := by decide +kernel
set_option maxRecDepth 100000 in
theorem zk_56 : zchk 56 = true := by decide +kernel
set_option maxRecDepth 100000 in
theorem zw_56 : zMPw 56 (zmp 56) = true := by decide +kernel
set_option maxRecDepth 100000 in
theorem zk_57 : zchk 57 = true := by decide +kernel
set_option maxRecDepth 100000 in
theorem zw_57 : zMPw 57 (zmp 57) = true := by decide +kernel
set_option maxRecDepth 100000 in
theorem zk_58 : zchk 58 = true := by decide +kernel
set_option maxRecDepth 100000 in
theorem zw_58 : zMPw 58 (zmp 58) = true := by decide +kernel
set_option maxRecDepth 100000 in
theorem zk_59 : zchk 59 = true := by decide +kernel
set_option maxRecDepth 100000 in
theorem zw_59 : zMPw 59 (zmp 59) = true := by decide +kernel
set_option maxRecDepth 100000 in
theorem zk_60 : zchk 60 = true := by decide +kernel
set_option maxRecDepth 100000 in
theorem zw_60 : zMPw 60 (zmp 60) = true := by decide +kernel
set_option maxRecDepth 100000 in
theorem zk_61 : zchk 61 = true := by decide +kernel
set_option maxRecDepth 100000 in
theorem zw_61 : zMPw 61 (zmp 61) = true := by decide +kernel
set_option maxRecDepth 100000 in
theorem zk_62 : zchk 62 = true := by decide +kernel
set_option maxRecDepth 100000 in
theorem zw_62 : zMPw 62 (zmp 62) = true := by decide +kernel
set_option maxRecDepth 100000 in
theorem zk_63 : zchk 63 = true := by decide +kernel
set_option maxRecDepth 100000 in
theorem zw_63 : zMPw 63 (zmp 63) = true := by decide +kernel
set_option maxRecDepth 100000 in
theorem zk_64 : zchk 64 = true := by decide +kernel
set_option maxRecDepth 100000 in
theorem zw_64 : zMPw 64 (zmp 64) = true := by decide +kernel
set_option maxRecDepth 100000 in
theorem zk_65 : zchk 65 = true := by decide +kernel
set_option maxRecDepth 100000 in
theorem zw_65 : zMPw 65 (zmp 65) = true := by decide +kernel
set_option maxRecDepth 100000 in
theorem zk_66 : zchk 66 = true := by decide +kernel
set_option maxRecDepth 100000 in
theorem zw_66 : zMPw 66 (zmp 66) = true := by decide +kernel
set_option maxRecDepth 100000 in
theorem zk_67 : zchk 67 = true := by decide +kernel
set_option maxRecDepth 100000 in
theorem zw_67 : zMPw 67 (zmp 67) = true := by decide +kernel
set_option maxRecDepth 100000 in
theorem zk_68 : zchk 68 = true := by decide +kernel
set_option maxRecDepth 100000 in
theorem zw_68 : zMPw 68 (zmp 68) = true := by decide +kernel
set_option maxRecDepth 100000 in
theorem zk_69 : zchk 69 = true := by decide +kernel
set_option maxRecDepth 100000 in
theorem zw_69 : zMPw 69 (zmp 69) = true := by decide +kernel
set_option maxRecDepth 100000 in
theorem zk_70 : zchk 70 = true := by decide +kernel
set_option maxRecDepth 100000 in
theorem zw_70 : zMPw 70 (zmp 70) = true := by decide +kernel
set_option maxRecDepth 100000 in
theorem zk_71 : zchk 71 = true := by decide +kernel
set_option maxRecDepth 100000 in
theorem zw_71 : zMPw 71 (zmp 71) = true := by decide +kernel
set_option maxRecDepth 100000 in
theorem zk_72 : zchk 72 = true := by decide +kernel
set_option maxRecDepth 100000 in
theorem zw_72 : zMPw 72 (zmp 72) = true := by decide +kernel
set_option maxRecDepth 100000 in
theorem zk_73 : zchk 73 = true := by decide +kernel
set_option maxRecDepth 100000 in
theorem zw_73 : zMPw 73 (zmp 73) = true := by decide +kernel
set_option maxRecDepth 100000 in
theorem zk_74 : zchk 74 = true := by decide +kernel
set_option maxRecDepth 100000 in
theorem zw_74 : zMPw 74 (zmp 74) = true := by decide +kernel
set_option maxRecDepth 100000 in
theorem zk_75 : zchk 75 = true := by decide +kernel
set_option maxRecDepth 100000 in
theorem zw_75 : zMPw 75 (zmp 75) = true := by decide +kernel
set_option maxRecDepth 100000 in
theorem zk_76 : zchk 76 = true := by decide +kernel
set_option maxRecDepth 100000 in
theorem zw_76 : zMPw 76 (zmp 76) = true := by decide +kernel
set_option maxRecDepth 100000 in
theorem zk_77 : zchk 77 = true := by decide +kernel
set_option maxRecDepth 100000 in
theorem zw_77 : zMPw 77 (zmp 77) = true := by decide +kernel
set_option maxRecDepth 100000 in
theorem zk_78 : zchk 78 = true := by decide +kernel
set_option maxRecDepth 100000 in
theorem zw_78 : zMPw 78 (zmp 78) = true := by decide +kernel
set_option maxRecDepth 100000 in
theorem zk_79 : zchk 79 = true := by decide +kernel
set_option maxRecDepth 100000 in
theorem zw_79 : zMPw 79 (zmp 79) = true := by decide +kernel
