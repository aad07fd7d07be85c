/-! pure part: how the reference does ACTS (wip/whole/pure/14.g.rdo.src) -/
section RDO
variable {fd st : Nat → Nat → Nat} {w : am_S} {jm : Nat}
theorem rS.cop {g g' : Nat → Int32} (h : rS st g) {u X : Nat} (hu : u < 10) (h1 : g' (10 + u) = nI (X % 2 ^ 24)) (h2 : g' (20 + u) = nI (X / 2 ^ 24)) (h3 : ∀ k, k ≠ 10 + u → k ≠ 20 + u → g' k = g k) : rS (upk st u X) g' := by
  obtain ⟨g1, g2, g3, g4, g5, g6⟩ := h
  refine ⟨fun x hx => ?_, fun x hx => ?_, fun x hx => ?_, ?_, fun j hj => ?_, fun j i hj hi => ?_⟩
  · rw [h3 x (by omega) (by omega)]; exact g1 x hx
  · by_cases e : x = u
    · subst e; rw [h1, upk_same]
    · rw [h3 _ (by omega) (by omega), upk_ne e]; exact g2 x hx
  · by_cases e : x = u
    · subst e; rw [h2, upk_same]
    · rw [h3 _ (by omega) (by omega), upk_ne e]; exact g3 x hx
  · rw [h3 _ (by omega) (by omega)]; exact g4
  · rw [h3 _ (by omega) (by omega)]; exact g5 j hj
  · rw [h3 _ (by omega) (by omega)]; exact g6 j i hj hi
theorem rS.file {g g' : Nat → Int32} (h : rS st g) {j u : Nat} (hj : j < 3) (hf : ∀ i, st 3 i ≤ 10) (hn : st 3 j ≠ 10) (h1 : g' (31 + 11 * j) = nI (st 3 j + 1)) (h2 : g' (32 + 11 * j + st 3 j) = nI u) (h3 : ∀ k, k ≠ 31 + 11 * j → k ≠ 32 + 11 * j + st 3 j → g' k = g k) : rS (upf st j u) g' := by
  obtain ⟨g1, g2, g3, g4, g5, g6⟩ := h
  refine ⟨fun x hx => ?_, fun x hx => ?_, fun x hx => ?_, ?_, fun i hi => ?_, fun i l hi hl => ?_⟩
  · rw [h3 x (by omega) (by omega)]; simpa [upf] using g1 x hx
  · rw [h3 _ (by omega) (by omega)]; simpa [upf] using g2 x hx
  · rw [h3 _ (by omega) (by omega)]; simpa [upf] using g3 x hx
  · rw [h3 _ (by omega) (by omega)]; simpa [upf] using g4
  · have hfj := hf j
    by_cases e : i = j
    · subst e; rw [h1]; simp [upf]
    · rw [h3 _ (by omega) (by omega)]; simpa [upf, e] using g5 i hi
  · have hfi := hf i
    have hfj := hf j
    by_cases e : i = j
    · subst e
      have hl : l < st 3 i + 1 := by simpa [upf] using hl
      by_cases q : l = st 3 i
      · subst q; rw [h2]; simp [upf]
      · rw [h3 _ (by omega) (by omega), g6 i l hi (by omega)]
        simp [upf, q]
    · have hl : l < st 3 i := by simpa [upf, e] using hl
      rw [h3 _ (by omega) (by omega), g6 i l hi hl]
      have : ¬ 10 * i + l = 10 * j + st 3 j := by omega
      simp [upf, this]
theorem rQ.mk2 {st' : Nat → Nat → Nat} {w' : am_S} (h : rQ fd st jm w) (hS : wS fd st') (hr : rS st' (w'.1 281)) (hx : eqx [281, 284] w w') : rQ fd st' jm w' := ⟨h.1, hS, h.2.2.1.ex hx (by decide), hr, by rw [hx.l]; exact h.2.2.2.2.1, h.2.2.2.2.2⟩
theorem r_fileNow (h : rQ fd st jm w) {j : Nat} (hj : j < 3) (hn : st 3 j ≠ 10) {u : Nat} : ∃ w', f_X12_fileNow (nI j) (nI u) w = some (nI (st 3 j), w') ∧ rQ fd (upf st j u) jm w' ∧ (∀ k, 64 ≤ k → w'.1 281 k = w.1 281 k) ∧ eqx [281] w w' := by
  have hf : st 3 j ≤ 10 := h.2.1.2.2.2.2 j
  have h5 := h.2.2.2.1.2.2.2.2.1 j hj
  refine ⟨am_pi (am_pi w 281 (31 + 11 * j) (nI (st 3 j + 1))) 281 (32 + 11 * j + st 3 j) (nI u), ?_, h.mk2 (upf_w h.2.1 hn) (h.2.2.2.1.file hj h.2.1.2.2.2.2 hn ?_ pi_same (fun k k1 k2 => ?_)) ((eqx.pi (by simp)).on (eqx.pi (by simp))), fun k hk => ?_, (eqx.pi (by simp)).on (eqx.pi (by simp))⟩
  · have e1 : (am_pi w 281 (31 + 11 * j) (nI (st 3 j + 1))).1 281 (31 + 11 * j) = nI (st 3 j + 1) := pi_same
    have e2 : (am_pi (am_pi w 281 (31 + 11 * j) (nI (st 3 j + 1))) 281 (32 + 11 * j + st 3 j) (nI u)).1 281 (31 + 11 * j) = nI (st 3 j + 1) := by rw [pi_k (by omega), pi_same]
    have e3 : 31 + 11 * j + (st 3 j + 1) = 32 + 11 * j + st 3 j := by omega
    unfold f_X12_fileNow f_X12_shelfAt
    simp (disch := omega) only [pv_v, pv_b2, pv_b1, pv_x, pv_lit, pv_ofN, pu_chk, pu_cl, nI_add, pk_mul, nI_leI, nI_ltI, nI_eq, pu_nar0, pu_nar1, pu_narb, bI_0, bI_1, ↓reduceIte, pu_leT, pu_leF, pu_ltT, pu_ltF, pu_eqT, pu_eqF, pu_x1, pu_x2, pu_x3, pu_x4, pu_x5, pu_x6, pu_x7, pu_x8, Nat.zero_add, pu_m31I, pu_m31, pu_shlI, eq_self, Bool.false_eq_true, Bool.true_eq_false, h5, e1, e3, e2, pk_sub, Nat.add_sub_cancel]
  · rw [pi_k (by omega), pi_same]
  · rw [pi_k k2, pi_k k1]
  · rw [pi_k (by omega), pi_k (by omega)]
theorem r_turnCopy (h : rQ fd st jm w) {u s : Nat} (hu : u < 10) (hs : s < 48) (hS2 : wS fd (upk st u (st 1 u ^^^ 2 ^ s))) : ∃ w', f_X12_turnCopy (nI u) (nI s) w = some w' ∧ rQ fd (upk st u (st 1 u ^^^ 2 ^ s)) jm w' ∧ (∀ k, 30 ≤ k → w'.1 281 k = w.1 281 k) ∧ eqx [281] w w' := by
  have hl := wS_lt h.1 h.2.1 u
  have g2 := h.2.2.2.1.2.1 u hu
  have g3 := h.2.2.2.1.2.2.1 u hu
  by_cases c : 24 ≤ s
  · refine ⟨am_pi w 281 (20 + u) (nI (st 1 u / 2 ^ 24 ^^^ 2 ^ (s % 24))), ?_, h.mk2 hS2 (h.2.2.2.1.cop hu ?_ ?_ (fun k k1 k2 => pi_k k2)) (eqx.pi (by simp)), fun k hk => pi_k (by omega), eqx.pi (by simp)⟩
    · unfold f_X12_turnCopy f_X12_turnCopy_17
      simp (disch := omega) only [pv_v, pv_b2, pv_b1, pv_x, pv_lit, pv_ofN, pu_chk, pu_cl, nI_add, pk_mul, nI_leI, nI_ltI, nI_eq, pu_nar0, pu_nar1, pu_narb, bI_0, bI_1, ↓reduceIte, pu_leT, pu_leF, pu_ltT, pu_ltF, pu_eqT, pu_eqF, pu_x1, pu_x2, pu_x3, pu_x4, pu_x5, pu_x6, pu_x7, pu_x8, Nat.zero_add, pu_m31I, pu_m31, pu_shlI, eq_self, Bool.false_eq_true, Bool.true_eq_false, g3, pk_rem, pu_xor]
    · rw [pi_k (by omega), g2, Nat.xor_mod_two_pow, Nat.mod_eq_zero_of_dvd (Nat.pow_dvd_pow 2 c), Nat.xor_zero]
    · rw [pi_same, Nat.xor_div_two_pow, Nat.pow_div c (by decide), show s % 24 = s - 24 by omega]
  · refine ⟨am_pi w 281 (10 + u) (nI (st 1 u % 2 ^ 24 ^^^ 2 ^ (s % 24))), ?_, h.mk2 hS2 (h.2.2.2.1.cop hu ?_ ?_ (fun k k1 k2 => pi_k k1)) (eqx.pi (by simp)), fun k hk => pi_k (by omega), eqx.pi (by simp)⟩
    · unfold f_X12_turnCopy f_X12_turnCopy_17
      simp (disch := omega) only [pv_v, pv_b2, pv_b1, pv_x, pv_lit, pv_ofN, pu_chk, pu_cl, nI_add, pk_mul, nI_leI, nI_ltI, nI_eq, pu_nar0, pu_nar1, pu_narb, bI_0, bI_1, ↓reduceIte, pu_leT, pu_leF, pu_ltT, pu_ltF, pu_eqT, pu_eqF, pu_x1, pu_x2, pu_x3, pu_x4, pu_x5, pu_x6, pu_x7, pu_x8, Nat.zero_add, pu_m31I, pu_m31, pu_shlI, eq_self, Bool.false_eq_true, Bool.true_eq_false, g2, pk_rem, pu_xor]
    · rw [pi_same, Nat.xor_mod_two_pow, show s % 24 = s by omega, Nat.mod_eq_of_lt (Nat.pow_lt_pow_right (by decide) (show s < 24 by omega))]
    · rw [pi_k (by omega), g3, Nat.xor_div_two_pow, Nat.div_eq_of_lt (Nat.pow_lt_pow_right (by decide) (show s < 24 by omega)), Nat.xor_zero]
theorem known_kc (hF : wF fd) (hS : wS fd st) : cn (pu_sd (2 ^ (fd 0 0) - 1) (pu_u fd st)) = kc st := by
  unfold cn kc
  congr 1
  funext u
  rw [pu_sd_bit, Nat.testBit_two_pow_sub_one]
  unfold pu_u
  rw [pu_S_bit]
  by_cases e : u < (fd 0 0)
  · simp [e]
  · have := (hS.2.2.1 u (by omega)).1
    simp [e, this]
theorem r_knownMany (h : rQ fd st jm w) : f_X12_knownMany w = some (nI (kc st), w) := by
  have h10 := h.1.1
  have hlt : pu_sd (2 ^ (fd 0 0) - 1) (pu_u fd st) < 1024 := pu_k10 (sb_lt (n := (fd 0 0)) (sb_sd (a := 2 ^ (fd 0 0) - 1) (b := pu_u fd st)) (by have := Nat.two_pow_pos (fd 0 0); omega)) h10
  unfold f_X12_knownMany
  rw [r_knownSet h, pu_b2, r_bitsc hlt, pu_b2, known_kc h.1 h.2.1]
end RDO
