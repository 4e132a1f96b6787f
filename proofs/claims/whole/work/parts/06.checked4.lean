/-! pieces of 134 -/
set_option maxRecDepth 100000 in
theorem zsg_134_0 : zseg 134 0 100 = true := by decide +kernel
set_option maxRecDepth 100000 in
theorem zsg_134_100 : zseg 134 100 100 = true := by decide +kernel
set_option maxRecDepth 100000 in
theorem zsg_134_200 : zseg 134 200 100 = true := by decide +kernel
set_option maxRecDepth 100000 in
theorem zsg_134_300 : zseg 134 300 100 = true := by decide +kernel
set_option maxRecDepth 100000 in
theorem zsg_134_400 : zseg 134 400 100 = true := by decide +kernel
set_option maxRecDepth 100000 in
theorem zsg_134_500 : zseg 134 500 100 = true := by decide +kernel
set_option maxRecDepth 100000 in
theorem zsg_134_600 : zseg 134 600 100 = true := by decide +kernel
set_option maxRecDepth 100000 in
theorem zsg_134_700 : zseg 134 700 100 = true := by decide +kernel
set_option maxRecDepth 100000 in
theorem zsg_134_800 : zseg 134 800 100 = true := by decide +kernel
set_option maxRecDepth 100000 in
theorem zsg_134_900 : zseg 134 900 100 = true := by decide +kernel
set_option maxRecDepth 100000 in
theorem zsg_134_1000 : zseg 134 1000 100 = true := by decide +kernel
set_option maxRecDepth 100000 in
theorem zsg_134_1100 : zseg 134 1100 59 = true := by decide +kernel
set_option maxRecDepth 100000 in
theorem zln_134 : (zM 134).1.length = 1159 := by decide +kernel
theorem zkk_134 : zOK 134 := by
  intro k i hk
  have hl : k < 1159 := by
    have := (List.getElem?_eq_some_iff.mp hk).1
    rw [zln_134] at this
    exact this
  rcases Nat.lt_or_ge k 100 with h | h
  · exact zseg_spec zsg_134_0 k i (by omega) (by omega) hk
  rcases Nat.lt_or_ge k 200 with h | h
  · exact zseg_spec zsg_134_100 k i (by omega) (by omega) hk
  rcases Nat.lt_or_ge k 300 with h | h
  · exact zseg_spec zsg_134_200 k i (by omega) (by omega) hk
  rcases Nat.lt_or_ge k 400 with h | h
  · exact zseg_spec zsg_134_300 k i (by omega) (by omega) hk
  rcases Nat.lt_or_ge k 500 with h | h
  · exact zseg_spec zsg_134_400 k i (by omega) (by omega) hk
  rcases Nat.lt_or_ge k 600 with h | h
  · exact zseg_spec zsg_134_500 k i (by omega) (by omega) hk
  rcases Nat.lt_or_ge k 700 with h | h
  · exact zseg_spec zsg_134_600 k i (by omega) (by omega) hk
  rcases Nat.lt_or_ge k 800 with h | h
  · exact zseg_spec zsg_134_700 k i (by omega) (by omega) hk
  rcases Nat.lt_or_ge k 900 with h | h
  · exact zseg_spec zsg_134_800 k i (by omega) (by omega) hk
  rcases Nat.lt_or_ge k 1000 with h | h
  · exact zseg_spec zsg_134_900 k i (by omega) (by omega) hk
  rcases Nat.lt_or_ge k 1100 with h | h
  · exact zseg_spec zsg_134_1000 k i (by omega) (by omega) hk
  exact zseg_spec zsg_134_1100 k i (by omega) (by omega) hk
