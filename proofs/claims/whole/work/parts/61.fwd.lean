/-! THE MODEL: going forward from a place -/
section MFW
variable {E : Nat → Nat} {m : Nat} {t u : Nat → Nat}
def tp_qi (c mm k s : Nat) : Nat := ((c * 13 + mm) * 9 + k) * 3 + s
def MEx (h : ZH) (m : Nat) (e : Nat → Int) : Prop := ∀ j, j < 4 → zL h (m + 15) j = jL (e j)
def MLk (h : ZH) (a : Nat) (L : Nat → Int) : Prop := ∀ i, i < 7371 → zL h a i = jL (L i)
/-- goForward may change: scratch fields, the row behind, the sums -/
def tp_Sg (m : Nat) : Nat → Nat → Prop := fun a i => tp_Sw m a i ∨ a = m + 14 ∨ a = m + 15
set_option maxHeartbeats 4000000 in
theorem ct_188 {d n : Nat} {h : ZH} {dd q s cz dr : Nat} {e L L' : Nat → Int} {Q : Option Value → ZH → Prop} (hd : 9 ≤ d) (ok : tp_Ok t) (ou : tp_Ou u) (P : MPg h m t u) (hn : dd + 1 + n = tp_T t) (hq : q < 7371) (hs : s < 3) (hcz : cz ≤ 4) (hdr : dr ≤ 1) (D : MLd h m t u 0) (he : MEx h m e) (hL : MLk h (m + 13) L) (hL' : MLk h (m + 14) L')
    (kQ : ∀ h' x, x = tp_B t u (tp_pr t) n dd (q / 351) (q / 27 % 13) (q / 3 % 9) (q % 3) → Fr (tp_Sg m) h h' → MEx h' m (fun j => e j + L q * (cz : Int) * 4 ^ (n + 1 - dr) * tp_ad t u j dd (q / 351) (q / 27 % 13) (q / 3 % 9) s x) → (t 12 = 0 → MLk h' (m + 14) (fun i => if i = tp_qi (tp_c2 t u dd (q / 351) (q / 27 % 13) (q / 3 % 9) x) (tp_m2 t u dd (q / 351) (q / 27 % 13) (q / 3 % 9) x) (tp_k2 t u dd (q / 351) (q / 27 % 13) (q / 3 % 9) x) 0 then L' i + L q * (tp_ch t s 0 : Int) else if i = tp_qi (tp_c2 t u dd (q / 351) (q / 27 % 13) (q / 3 % 9) x) (tp_m2 t u dd (q / 351) (q / 27 % 13) (q / 3 % 9) x) (tp_k2 t u dd (q / 351) (q / 27 % 13) (q / 3 % 9) x) 1 then L' i + L q * (tp_ch t s 1 : Int) else if i = tp_qi (tp_c2 t u dd (q / 351) (q / 27 % 13) (q / 3 % 9) x) (tp_m2 t u dd (q / 351) (q / 27 % 13) (q / 3 % 9) x) (tp_k2 t u dd (q / 351) (q / 27 % 13) (q / 3 % 9) x) 2 then L' i + L q * (tp_ch t s 2 : Int) else L' i)) → (t 12 = 1 → MLk h' (m + 14) (fun i => if i = tp_qi (tp_c2 t u dd (q / 351) (q / 27 % 13) (q / 3 % 9) x) (tp_m2 t u dd (q / 351) (q / 27 % 13) (q / 3 % 9) x) (tp_k2 t u dd (q / 351) (q / 27 % 13) (q / 3 % 9) x) s then L' i + L q * (cz : Int) else L' i)) → Q none h') :
    Ct E d 188 [.ref m, .int (jI (dd : Int)), .int (jI (q : Int)), .int (jI (s : Int)), .int (jI (cz : Int)), .int (jI (dr : Int))] h Q := by
  obtain ⟨d, rfl⟩ : ∃ n, d = n + 1 := ⟨d - 1, by omega⟩
  have hT := ok.T
  have h12 : t 12 ≤ 1 := ok.2.2.2.2.2.2.2.2.2.2.2.1
  have h14 : t 14 ≤ 60 := ok.2.2.2.2.2.2.2.2.2.2.2.2.2.1
  have e351 : (jI (q : Int) / 351 : Int32) = jI ((q / 351 : Nat) : Int) := by rw [show (351 : Int32) = jI ((351 : Nat) : Int) from rfl, jI_div (by omega) (by omega) (by omega)]
  have e27 : ((jI (q : Int) / 27) - (jI (q : Int) / 27) / 13 * 13 : Int32) = jI ((q / 27 % 13 : Nat) : Int) := by rw [show (27 : Int32) = jI ((27 : Nat) : Int) from rfl, jI_div (by omega) (by omega) (by omega), show (13 : Int32) = jI ((13 : Nat) : Int) from rfl, jI_rem (by omega) (by omega) (by omega)]
  have e3 : ((jI (q : Int) / 3) - (jI (q : Int) / 3) / 9 * 9 : Int32) = jI ((q / 3 % 9 : Nat) : Int) := by rw [show (3 : Int32) = jI ((3 : Nat) : Int) from rfl, jI_div (by omega) (by omega) (by omega), show (9 : Int32) = jI ((9 : Nat) : Int) from rfl, jI_rem (by omega) (by omega) (by omega)]
  have hc : q / 351 ≤ 20 := by omega
  have hmm : q / 27 % 13 ≤ 12 := by omega
  have hk : q / 3 % 9 ≤ 8 := by omega
  have hsq : q % 3 < 3 := by omega
  have hb := (D dd (q / 351) (q / 27 % 13) (q / 3 % 9) (q % 3) (by omega) (by omega) hc hmm hk hsq).2
  rw [tp_at_q, show tp_T t - (dd + 1) = n by omega] at hb
  have hBi : tp_lo t u dd ≤ tp_B t u (tp_pr t) n dd (q / 351) (q / 27 % 13) (q / 3 % 9) (q % 3) ∧ tp_B t u (tp_pr t) n dd (q / 351) (q / 27 % 13) (q / 3 % 9) (q % 3) ≤ tp_lo t u dd + (tp_hi t u dd - tp_lo t u dd) := tp_ma_in _
  have hl := tp_lohi (u := u) ok dd
  generalize hx : tp_B t u (tp_pr t) n dd (q / 351) (q / 27 % 13) (q / 3 % 9) (q % 3) = x at hb hBi kQ
  generalize q / 351 = c at *
  generalize q / 27 % 13 = mm at *
  generalize q / 3 % 9 = k at *
  have hx4 : x ≤ 4 := by omega
  have hc2 := tp_c2_le t u dd c mm k x
  have hm2 := tp_m2_le t u dd c k x hmm
  have hk2 := tp_k2_le t u dd c mm x hk
  have ei : (7371 * jI (dd : Int) + jI (q : Int) : Int32) = jI ((7371 * dd + q : Nat) : Int) := by
    rw [show (7371 : Int32) = jI 7371 from rfl, jI_mul, jI_add]; congr 1
  refine ok_188 (nm_r e3 ⟨P.1.1, m + 12, P.1.a28.1, P.1.a28.ti, ?_, nm_r (e' := jI (x : Int)) ?_ ?_⟩)
  · rw [ei]; exact P.1.a28.inn (by omega) (by omega)
  · rw [ei, jI_cln (by omega)]; exact hb
  rw [e351, e27]
  have wdA : ∀ a i, tp_Sm m 21 24 a i → tp_Sg m a i := fun a i e => by unfold tp_Sm at e; unfold tp_Sg tp_Sw; omega
  have wdB : ∀ a i, (a = m ∧ (i = 25 ∨ i = 26 ∨ i = 30 ∨ i = 31)) → tp_Sg m a i := fun a i e => by unfold tp_Sg tp_Sw; omega
  refine ct_167 (by omega) ok ou P (by omega) hc hmm hk hs (by omega) (fun h6 F6 K6 => ?_)
  have P6 : MPg h6 m t u := P.fr F6 (fun i => by unfold tp_Sm; omega) (fun i => by unfold tp_Sm; omega)
  refine ⟨rfl, P6.1.1, ct_178 (by omega) ok ou P6 (by omega) hc hmm hk (by omega) K6 (fun h8 F8 i30 i31 i25 => ?_)⟩
  have F8' : Fr (tp_Sg m) h h8 := (F6.wd wdA).tr (F8.wd wdB)
  have P8 : MPg h8 m t u := P6.fr F8 (fun i => by omega) (fun i => by omega)
  have l13 : ∀ i, zL h8 (m + 13) i = zL h (m + 13) i := fun i => F8'.L (by unfold tp_Sg tp_Sw; omega)
  have l14 : ∀ i, zL h8 (m + 14) i = zL h (m + 14) i := fun i => by rw [F8.L (by omega), F6.L (by unfold tp_Sm; omega)]
  have l15 : ∀ i, zL h8 (m + 15) i = zL h (m + 15) i := fun i => by rw [F8.L (by omega), F6.L (by unfold tp_Sm; omega)]
  have i23 : zI h8 m 23 = jI ((tp_nC t u dd c mm k x * tp_un t (t (20 + s)) 1 + tp_fl t u dd c mm k x : Nat) : Int) := by rw [F8.I (by omega)]; exact K6.2.2.1
  have i24 : zI h8 m 24 = jI (tp_mU t u dd c mm k x : Int) := by rw [F8.I (by omega)]; exact K6.2.2.2
  have bd := tp_g1_bd (d := dd) (c := c) (m := mm) (k := k) ok u hs (show x ≤ 9 by omega)
  have hsh := tp_sh_le t u dd c mm k x
  have hmu := tp_mU_x t u dd c mm k x
  have ep : fz_176 E h8 ((fz_152 E h8 m - jI (dd : Int)) - jI (dr : Int)) = jL (4 ^ (n + 1 - dr)) := by
    rw [fz152 P8, jI_sub, jI_sub, show ((tp_T t : Int) - (dd : Int) - (dr : Int)) = ((n + 1 - dr : Nat) : Int) by omega, fz176 (by omega)]
  refine ⟨rfl, P8.1.1, m + 13, P8.1.a32.1, P8.1.a32.tg, P8.1.a32.inn hq (by omega), by omega, sz152 P8, by omega, trivial, nm_r (e' := jL (L q * (cz : Int) * 4 ^ (n + 1 - dr))) ?_ ⟨m + 15, P8.1.a34.1, P8.1.a34.tg, P8.1.a34.inc (by decide), m + 8, P8.1.a15.1, P8.1.a15.ti, P8.1.a15.inc (by decide), P8.1.a34.tg, P8.1.a34.inc (by decide), ?_⟩⟩
  · rw [ep, jI_cln (by omega), l13, hL q hq, jI_toL (by omega) (by omega), jL_mul, jL_mul]
  generalize hby : L q * (cz : Int) * 4 ^ (n + 1 - dr) = by_ at *
  have v0 : (zL h8 (m + 15) 0 + jL by_ * (((zI h8 m 23 + zI h8 m 31 : Int32).toInt64) - ((100 * ((zI h8 (m + 8) 14 : Int32).toInt64)) * (jI (x : Int)).toInt64))) = jL (e 0 + by_ * tp_ad t u 0 dd c mm k s x) := by
    rw [l15, he 0 (by omega), i23, i31, P8.2.1 14 (by omega), jI_add, jI_toL (by omega) (by omega), jI_toL (by omega) (by omega), jI_toL (by omega) (by omega), show (100 : Int64) = jL 100 from rfl, jL_mul, jL_mul, jL_sub, jL_mul, jL_add]
    rfl
  refine nm_r (e' := zuL h8 (m + 15) 0 (jL (e 0 + by_ * tp_ad t u 0 dd c mm k s x))) (by rw [v0]) ⟨P8.1.a34.inc (by decide), P8.1.a34.inc (by decide), nm_r (e' := zuL (zuL h8 (m + 15) 0 (jL (e 0 + by_ * tp_ad t u 0 dd c mm k s x))) (m + 15) 1 (jL (e 1 + by_ * tp_ad t u 1 dd c mm k s x))) ?_ ⟨P8.1.a34.inc (by decide), by omega, ?_, P8.1.a34.inc (by decide), nm_r (e' := zuL (zuL (zuL h8 (m + 15) 0 (jL (e 0 + by_ * tp_ad t u 0 dd c mm k s x))) (m + 15) 1 (jL (e 1 + by_ * tp_ad t u 1 dd c mm k s x))) (m + 15) 2 (jL (e 2 + by_ * tp_ad t u 2 dd c mm k s x))) ?_ ⟨P8.1.a34.inc (by decide), P8.1.a34.inc (by decide), nm_r (e' := zuL (zuL (zuL (zuL h8 (m + 15) 0 (jL (e 0 + by_ * tp_ad t u 0 dd c mm k s x))) (m + 15) 1 (jL (e 1 + by_ * tp_ad t u 1 dd c mm k s x))) (m + 15) 2 (jL (e 2 + by_ * tp_ad t u 2 dd c mm k s x))) (m + 15) 3 (jL (e 3 + by_ * tp_ad t u 3 dd c mm k s x))) ?_ ?_⟩⟩⟩
  · rw [zL_offi (by omega), l15, he 1 (by omega), jI_toL (by omega) (by omega), jL_mul, jL_add]
    rfl
  · exact sz177 ok (P8.fr (S := fun a i => a = m + 15) (Fr.uL (Fr.uL Fr.rf rfl) rfl) (fun i => by omega) (fun i => by omega))
  · have Px : MPg (zuL (zuL h8 (m + 15) 0 (jL (e 0 + by_ * tp_ad t u 0 dd c mm k s x))) (m + 15) 1 (jL (e 1 + by_ * tp_ad t u 1 dd c mm k s x))) m t u := P8.fr (S := fun a i => a = m + 15) (Fr.uL (Fr.uL Fr.rf rfl) rfl) (fun i => by omega) (fun i => by omega)
    rw [zL_offi (by omega), zL_offi (by omega), l15, he 2 (by omega), fz177 ok Px (by omega)]
    congr 1
    by_cases cl : (dd + 1) % t 1 = 0
    · rw [if_pos cl, if_neg (by decide)]
      show jL (e 2) + jL by_ * (zI h8 m 25 : Int32).toInt64 = _
      rw [i25 cl, jI_toL (by omega) (by omega), jL_mul, jL_add]
      rfl
    · rw [if_neg cl, if_pos rfl, show (0 : Int64) = jL 0 from rfl, jL_add]
      congr 1
      show e 2 + 0 = e 2 + by_ * (tp_sh t u dd c mm k x : Int)
      unfold tp_sh
      rw [if_neg cl]
      simp
  · rw [zL_offi (by omega), zL_offi (by omega), zL_offi (by omega), l15, he 3 (by omega)]
    show zuL _ (m + 15) 3 (jL (e 3) + jL by_ * (zI h8 m 24 : Int32).toInt64) = _
    rw [i24, jI_toL (by omega) (by omega), jL_mul, jL_add]
    rfl
  have F9 : Fr (fun a (i : Nat) => a = m + 15) h8 (zuL (zuL (zuL (zuL h8 (m + 15) 0 (jL (e 0 + by_ * tp_ad t u 0 dd c mm k s x))) (m + 15) 1 (jL (e 1 + by_ * tp_ad t u 1 dd c mm k s x))) (m + 15) 2 (jL (e 2 + by_ * tp_ad t u 2 dd c mm k s x))) (m + 15) 3 (jL (e 3 + by_ * tp_ad t u 3 dd c mm k s x))) := Fr.uL (Fr.uL (Fr.uL (Fr.uL Fr.rf rfl) rfl) rfl) rfl
  have X9 : MEx (zuL (zuL (zuL (zuL h8 (m + 15) 0 (jL (e 0 + by_ * tp_ad t u 0 dd c mm k s x))) (m + 15) 1 (jL (e 1 + by_ * tp_ad t u 1 dd c mm k s x))) (m + 15) 2 (jL (e 2 + by_ * tp_ad t u 2 dd c mm k s x))) (m + 15) 3 (jL (e 3 + by_ * tp_ad t u 3 dd c mm k s x))) m (fun j => e j + by_ * tp_ad t u j dd c mm k s x) := by
    intro j hj
    have : j = 0 ∨ j = 1 ∨ j = 2 ∨ j = 3 := by omega
    rcases this with q | q | q | q <;> subst q
    · rw [zL_offi (by omega), zL_offi (by omega), zL_offi (by omega), zL_here]
    · rw [zL_offi (by omega), zL_offi (by omega), zL_here]
    · rw [zL_offi (by omega), zL_here]
    · rw [zL_here]
  generalize zuL (zuL (zuL (zuL h8 (m + 15) 0 (jL (e 0 + by_ * tp_ad t u 0 dd c mm k s x))) (m + 15) 1 (jL (e 1 + by_ * tp_ad t u 1 dd c mm k s x))) (m + 15) 2 (jL (e 2 + by_ * tp_ad t u 2 dd c mm k s x))) (m + 15) 3 (jL (e 3 + by_ * tp_ad t u 3 dd c mm k s x)) = h9 at F9 X9 ⊢
  have P9 : MPg h9 m t u := P8.fr F9 (fun i => by omega) (fun i => by omega)
  have F9' : Fr (tp_Sg m) h h9 := F8'.tr (F9.wd (fun a i e => Or.inr (Or.inr e)))
  have l14' : MLk h9 (m + 14) L' := fun i hi => by rw [F9.L (by omega), l14]; exact hL' i hi
  have l13' : MLk h9 (m + 13) L := fun i hi => by rw [F9.L (by omega), l13]; exact hL i hi
  refine nm_r (e' := jI (tp_qi (tp_c2 t u dd c mm k x) (tp_m2 t u dd c mm k x) (tp_k2 t u dd c mm k x) 0 : Int)) ?_ ⟨P9.1.a15.inc (by decide), ?_⟩
  · rw [F9.I (by omega), i30, show (7371 : Int32) = jI 7371 from rfl, show (1 : Int32) = jI 1 from rfl, jI_add, jI_mul, jI_sub]
    congr 1
    unfold tp_at tp_qi
    omega
  have hqi : ∀ v, v < 3 → tp_qi (tp_c2 t u dd c mm k x) (tp_m2 t u dd c mm k x) (tp_k2 t u dd c mm k x) v < 7371 := fun v hv => by unfold tp_qi; omega
  have eqi : ∀ v : Nat, (jI (tp_qi (tp_c2 t u dd c mm k x) (tp_m2 t u dd c mm k x) (tp_k2 t u dd c mm k x) 0 : Int) + jI (v : Int) : Int32) = jI (tp_qi (tp_c2 t u dd c mm k x) (tp_m2 t u dd c mm k x) (tp_k2 t u dd c mm k x) v : Int) := fun v => by rw [jI_add]; congr 1
  have qne : ∀ v w, v ≠ w → tp_qi (tp_c2 t u dd c mm k x) (tp_m2 t u dd c mm k x) (tp_k2 t u dd c mm k x) v ≠ tp_qi (tp_c2 t u dd c mm k x) (tp_m2 t u dd c mm k x) (tp_k2 t u dd c mm k x) w := fun v w hvw => by unfold tp_qi; omega
  rw [P9.2.1 12 (by omega), show (1 : Int32) = jI ((1 : Nat) : Int) from rfl, jI_eqn (by omega) (by omega)]
  refine ⟨fun cn => ?_, fun cn => ?_⟩
  · have st : ∀ (f v : Nat) (G : Nat → Int) (h1 : ZH), v < 3 → Fr (fun a i => a = m + 14) h9 h1 → MLk h1 (m + 14) G → (∀ h2, Fr (fun a i => a = m + 14) h9 h2 → MLk h2 (m + 14) (fun i => if i = tp_qi (tp_c2 t u dd c mm k x) (tp_m2 t u dd c mm k x) (tp_k2 t u dd c mm k x) v then G i + L q * (tp_ch t s v : Int) else G i) → wl_188_150 E d Q f m (jI (q : Int)) (jI (s : Int)) (jI (tp_qi (tp_c2 t u dd c mm k x) (tp_m2 t u dd c mm k x) (tp_k2 t u dd c mm k x) 0 : Int)) (jI ((v + 1 : Nat) : Int)) h2) → wl_188_150 E d Q (f + 1) m (jI (q : Int)) (jI (s : Int)) (jI (tp_qi (tp_c2 t u dd c mm k x) (tp_m2 t u dd c mm k x) (tp_k2 t u dd c mm k x) 0 : Int)) (jI (v : Int)) h1 := by
      intro f v G h1 hv F1 G1 kk
      have P1 : MPg h1 m t u := P9.fr F1 (fun i => by omega) (fun i => by omega)
      have ech : ((19 + (3 * jI (s : Int))) + jI (v : Int) : Int32) = jI ((19 + (3 * s + v) : Nat) : Int) := by
        rw [show (19 : Int32) = jI 19 from rfl, show (3 : Int32) = jI 3 from rfl, jI_mul, jI_add, jI_add]
        congr 1
        omega
      have c4 := tp_ch_le ok hs hv
      have hqv := hqi v hv
      rw [wl_188_150]
      refine ⟨fun q => ?_, fun _ => ⟨P1.1.1, m + 14, P1.1.a33.1, P1.1.a33.tg, by rw [eqi v]; exact P1.1.a33.inn hqv (by omega), m + 13, P1.1.a32.1, P1.1.a32.tg, P1.1.a32.inn hq (by omega), m + 8, P1.1.a15.1, P1.1.a15.ti, by rw [ech]; exact P1.1.a15.inn (by omega) (by omega), P1.1.a33.tg, by rw [eqi v]; exact P1.1.a33.inn hqv (by omega), nm_r (e' := zuL h1 (m + 14) (tp_qi (tp_c2 t u dd c mm k x) (tp_m2 t u dd c mm k x) (tp_k2 t u dd c mm k x) v) (jL (G (tp_qi (tp_c2 t u dd c mm k x) (tp_m2 t u dd c mm k x) (tp_k2 t u dd c mm k x) v) + L q * (tp_ch t s v : Int)))) ?_ (nm_r (e' := jI ((v + 1 : Nat) : Int)) (by rw [show (1 : Int32) = jI 1 from rfl, jI_add]; rfl) (kk _ (F1.uL rfl) ?_))⟩⟩
      · exfalso
        rw [show (3 : Int32) = jI ((3 : Nat) : Int) from rfl, jI_len (by omega) (by omega)] at q
        omega
      · have ec : zI h1 (m + 8) (19 + (3 * s + v)) = jI (tp_ch t s v : Int) := by
          rw [P1.2.2.2.1 (3 * s + v) (by omega)]
          unfold tp_ch
          congr 3
          omega
        rw [eqi v, jI_cln (by omega), jI_cln (by omega), ech, jI_cln (by omega), ec, G1 _ hqv, F1.L (by omega), l13' q hq, jI_toL (by omega) (by omega), jL_mul, jL_add]
      · intro i hi
        dsimp only
        by_cases ci : i = tp_qi (tp_c2 t u dd c mm k x) (tp_m2 t u dd c mm k x) (tp_k2 t u dd c mm k x) v
        · subst ci
          rw [zL_here, if_pos rfl]
        · rw [zL_offi ci, if_neg ci]
          exact G1 i hi
    refine ⟨4, st 3 0 L' h9 (by omega) Fr.rf l14' (fun h1 F1 G1 => st 2 1 _ h1 (by omega) F1 G1 (fun h2 F2 G2 => st 1 2 _ h2 (by omega) F2 G2 (fun h3 F3 G3 => ?_)))⟩
    rw [wl_188_150]
    refine ⟨fun _ => kQ h3 x rfl (F9'.tr (F3.wd (fun a i e => Or.inr (Or.inl e)))) (fun j hj => by rw [F3.L (by omega)]; exact X9 j hj) (fun _ i hi => ?_) (fun c1 => absurd c1 cn), fun q => absurd (by decide) q⟩
    rw [G3 i hi]
    dsimp only
    congr 1
    have n01 := qne 0 1 (by omega)
    have n02 := qne 0 2 (by omega)
    have n12 := qne 1 2 (by omega)
    by_cases c0 : i = tp_qi (tp_c2 t u dd c mm k x) (tp_m2 t u dd c mm k x) (tp_k2 t u dd c mm k x) 0
    · rw [if_neg (fun q => n02 (c0.symm.trans q)), if_neg (fun q => n01 (c0.symm.trans q)), if_pos c0, if_pos c0]
    · by_cases c1 : i = tp_qi (tp_c2 t u dd c mm k x) (tp_m2 t u dd c mm k x) (tp_k2 t u dd c mm k x) 1
      · rw [if_neg (fun q => n12 (c1.symm.trans q)), if_pos c1, if_neg c0, if_neg c0, if_pos c1]
      · by_cases c2 : i = tp_qi (tp_c2 t u dd c mm k x) (tp_m2 t u dd c mm k x) (tp_k2 t u dd c mm k x) 2
        · rw [if_pos c2, if_neg c1, if_neg c0, if_neg c0, if_neg c1, if_pos c2]
        · rw [if_neg c2, if_neg c1, if_neg c0, if_neg c0, if_neg c1, if_neg c2]
  · have c1 : t 12 = 1 := Classical.not_not.mp cn
    have hqs := hqi s hs
    refine ⟨m + 14, P9.1.a33.1, P9.1.a33.tg, by rw [eqi s]; exact P9.1.a33.inn hqs (by omega), P9.1.a32.inn hq (by omega), P9.1.a33.tg, by rw [eqi s]; exact P9.1.a33.inn hqs (by omega), nm_r (e' := zuL h9 (m + 14) (tp_qi (tp_c2 t u dd c mm k x) (tp_m2 t u dd c mm k x) (tp_k2 t u dd c mm k x) s) (jL (L' (tp_qi (tp_c2 t u dd c mm k x) (tp_m2 t u dd c mm k x) (tp_k2 t u dd c mm k x) s) + L q * (cz : Int)))) ?_ (kQ _ x rfl (F9'.uL (Or.inr (Or.inl rfl))) (fun j hj => ?_) (fun c0 => absurd c0 (by omega)) (fun _ i hi => ?_))⟩
    · rw [eqi s, jI_cln (by omega), jI_cln (by omega), l14' _ hqs, l13' q hq, jI_toL (by omega) (by omega), jL_mul, jL_add]
    · rw [zL_offa (by omega)]
      exact X9 j hj
    · dsimp only
      by_cases ci : i = tp_qi (tp_c2 t u dd c mm k x) (tp_m2 t u dd c mm k x) (tp_k2 t u dd c mm k x) s
      · subst ci
        rw [zL_here, if_pos rfl]
      · rw [zL_offi ci, if_neg ci]
        exact l14' i hi
end MFW
