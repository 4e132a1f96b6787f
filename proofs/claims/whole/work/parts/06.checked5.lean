/-! pieces of 219 -/
set_option maxRecDepth 100000 in
theorem zsg_219_0 : zseg 219 0 100 = true := by decide +kernel
set_option maxRecDepth 100000 in
theorem zsg_219_100 : zseg 219 100 100 = true := by decide +kernel
set_option maxRecDepth 100000 in
theorem zsg_219_200 : zseg 219 200 100 = true := by decide +kernel
set_option maxRecDepth 100000 in
theorem zsg_219_300 : zseg 219 300 100 = true := by decide +kernel
set_option maxRecDepth 100000 in
theorem zsg_219_400 : zseg 219 400 100 = true := by decide +kernel
set_option maxRecDepth 100000 in
theorem zsg_219_500 : zseg 219 500 100 = true := by decide +kernel
set_option maxRecDepth 100000 in
theorem zsg_219_600 : zseg 219 600 100 = true := by decide +kernel
set_option maxRecDepth 100000 in
theorem zsg_219_700 : zseg 219 700 100 = true := by decide +kernel
set_option maxRecDepth 100000 in
theorem zsg_219_800 : zseg 219 800 100 = true := by decide +kernel
set_option maxRecDepth 100000 in
theorem zsg_219_900 : zseg 219 900 56 = true := by decide +kernel
set_option maxRecDepth 100000 in
theorem zln_219 : (zM 219).1.length = 956 := by decide +kernel
theorem zkk_219 : zOK 219 := by
  intro k i hk
  have hl : k < 956 := by
    have := (List.getElem?_eq_some_iff.mp hk).1
    rw [zln_219] at this
    exact this
  rcases Nat.lt_or_ge k 100 with h | h
  · exact zseg_spec zsg_219_0 k i (by omega) (by omega) hk
  rcases Nat.lt_or_ge k 200 with h | h
  · exact zseg_spec zsg_219_100 k i (by omega) (by omega) hk
  rcases Nat.lt_or_ge k 300 with h | h
  · exact zseg_spec zsg_219_200 k i (by omega) (by omega) hk
  rcases Nat.lt_or_ge k 400 with h | h
  · exact zseg_spec zsg_219_300 k i (by omega) (by omega) hk
  rcases Nat.lt_or_ge k 500 with h | h
  · exact zseg_spec zsg_219_400 k i (by omega) (by omega) hk
  rcases Nat.lt_or_ge k 600 with h | h
  · exact zseg_spec zsg_219_500 k i (by omega) (by omega) hk
  rcases Nat.lt_or_ge k 700 with h | h
  · exact zseg_spec zsg_219_600 k i (by omega) (by omega) hk
  rcases Nat.lt_or_ge k 800 with h | h
  · exact zseg_spec zsg_219_700 k i (by omega) (by omega) hk
  rcases Nat.lt_or_ge k 900 with h | h
  · exact zseg_spec zsg_219_800 k i (by omega) (by omega) hk
  exact zseg_spec zsg_219_900 k i (by omega) (by omega) hk
