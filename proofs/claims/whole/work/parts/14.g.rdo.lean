/-! pure part: how the reference does ACTS (wip/whole/pure/14.g.rdo.src) -/
section RDO
variable {fd st : Nat → Nat → Nat} {w : am_S} {jm u0 t : Nat}
theorem rS.cop {g g' : Nat → Int32} (h : rS st g) {u X : Nat} (hu : u < 10) (h1 : g' (10 + u) = nI (X % 2 ^ 24)) (h2 : g' (20 + u) = nI (X / 2 ^ 24)) (h3 : ∀ k, k ≠ 10 + u → k ≠ 20 + u → g' k = g k) : rS (upk st u X) g' := by
  obtain ⟨g1, g2, g3, g4, g5, g6⟩ := h
  refine ⟨fun x hx => ?_, fun x hx => ?_, fun x hx => ?_, ?_, fun j hj => ?_, fun j i hj hi => ?_⟩
  · rw [h3 x (by omega) (by omega)]; exact g1 x hx
  · by_cases e : x = u
    · subst e; rw [h1, upk_same]
    · rw [h3 _ (by omega) (by omega), upk_ne e]; exact g2 x hx
  · by_cases e : x = u
    · subst e; rw [h2, upk_same]
    · rw [h3 _ (by omega) (by omega), upk_ne e]; exact g3 x hx
  · rw [h3 _ (by omega) (by omega)]; exact g4
  · rw [h3 _ (by omega) (by omega)]; exact g5 j hj
  · rw [h3 _ (by omega) (by omega)]; exact g6 j i hj hi
theorem rS.file {g g' : Nat → Int32} (h : rS st g) {j u : Nat} (hj : j < 3) (hf : ∀ i, st 3 i ≤ 10) (hn : st 3 j ≠ 10) (h1 : g' (31 + 11 * j) = nI (st 3 j + 1)) (h2 : g' (32 + 11 * j + st 3 j) = nI u) (h3 : ∀ k, k ≠ 31 + 11 * j → k ≠ 32 + 11 * j + st 3 j → g' k = g k) : rS (upf st j u) g' := by
  obtain ⟨g1, g2, g3, g4, g5, g6⟩ := h
  refine ⟨fun x hx => ?_, fun x hx => ?_, fun x hx => ?_, ?_, fun i hi => ?_, fun i l hi hl => ?_⟩
  · rw [h3 x (by omega) (by omega)]; simpa [upf] using g1 x hx
  · rw [h3 _ (by omega) (by omega)]; simpa [upf] using g2 x hx
  · rw [h3 _ (by omega) (by omega)]; simpa [upf] using g3 x hx
  · rw [h3 _ (by omega) (by omega)]; simpa [upf] using g4
  · have hfj := hf j
    by_cases e : i = j
    · subst e; rw [h1]; simp [upf]
    · rw [h3 _ (by omega) (by omega)]; simpa [upf, e] using g5 i hi
  · have hfi := hf i
    have hfj := hf j
    by_cases e : i = j
    · subst e
      have hl : l < st 3 i + 1 := by simpa [upf] using hl
      by_cases q : l = st 3 i
      · subst q; rw [h2]; simp [upf]
      · rw [h3 _ (by omega) (by omega), g6 i l hi (by omega)]
        simp [upf, q]
    · have hl : l < st 3 i := by simpa [upf, e] using hl
      rw [h3 _ (by omega) (by omega), g6 i l hi hl]
      have : ¬ 10 * i + l = 10 * j + st 3 j := by omega
      simp [upf, this]
theorem rQ.mk2 {st' : Nat → Nat → Nat} {w' : am_S} (h : rQ fd st jm w) (hS : wS fd st') (hr : rS st' (w'.1 281)) (hx : eqx [281, 284] w w') : rQ fd st' jm w' := ⟨h.1, hS, h.2.2.1.ex hx (by decide), hr, by rw [hx.l]; exact h.2.2.2.2.1, h.2.2.2.2.2⟩
theorem r_fileNow (h : rQ fd st jm w) {j : Nat} (hj : j < 3) (hn : st 3 j ≠ 10) {u : Nat} : ∃ w', f_X12_fileNow (nI j) (nI u) w = some (nI (st 3 j), w') ∧ rQ fd (upf st j u) jm w' ∧ (∀ k, 64 ≤ k → w'.1 281 k = w.1 281 k) ∧ eqx [281] w w' := by
  have hf : st 3 j ≤ 10 := h.2.1.2.2.2.2 j
  have h5 := h.2.2.2.1.2.2.2.2.1 j hj
  refine ⟨am_pi (am_pi w 281 (31 + 11 * j) (nI (st 3 j + 1))) 281 (32 + 11 * j + st 3 j) (nI u), ?_, h.mk2 (upf_w h.2.1 hn) (h.2.2.2.1.file hj h.2.1.2.2.2.2 hn ?_ pi_same (fun k k1 k2 => ?_)) ((eqx.pi (by simp)).on (eqx.pi (by simp))), fun k hk => ?_, (eqx.pi (by simp)).on (eqx.pi (by simp))⟩
  · have e1 : (am_pi w 281 (31 + 11 * j) (nI (st 3 j + 1))).1 281 (31 + 11 * j) = nI (st 3 j + 1) := pi_same
    have e2 : (am_pi (am_pi w 281 (31 + 11 * j) (nI (st 3 j + 1))) 281 (32 + 11 * j + st 3 j) (nI u)).1 281 (31 + 11 * j) = nI (st 3 j + 1) := by rw [pi_k (by omega), pi_same]
    have e3 : 31 + 11 * j + (st 3 j + 1) = 32 + 11 * j + st 3 j := by omega
    unfold f_X12_fileNow f_X12_shelfAt
    simp (disch := omega) only [pv_v, pv_b2, pv_b1, pv_x, pv_lit, pv_ofN, pu_chk, pu_cl, nI_add, pk_mul, nI_leI, nI_ltI, nI_eq, pu_nar0, pu_nar1, pu_narb, bI_0, bI_1, ↓reduceIte, pu_leT, pu_leF, pu_ltT, pu_ltF, pu_eqT, pu_eqF, pu_x1, pu_x2, pu_x3, pu_x4, pu_x5, pu_x6, pu_x7, pu_x8, Nat.zero_add, pu_m31I, pu_m31, pu_shlI, eq_self, Bool.false_eq_true, Bool.true_eq_false, h5, e1, e3, e2, pk_sub, Nat.add_sub_cancel]
  · rw [pi_k (by omega), pi_same]
  · rw [pi_k k2, pi_k k1]
  · rw [pi_k (by omega), pi_k (by omega)]
theorem r_turnCopy (h : rQ fd st jm w) {u s : Nat} (hu : u < 10) (hs : s < 48) (hS2 : wS fd (upk st u (st 1 u ^^^ 2 ^ s))) : ∃ w', f_X12_turnCopy (nI u) (nI s) w = some w' ∧ rQ fd (upk st u (st 1 u ^^^ 2 ^ s)) jm w' ∧ (∀ k, 30 ≤ k → w'.1 281 k = w.1 281 k) ∧ eqx [281] w w' := by
  have hl := wS_lt h.1 h.2.1 u
  have g2 := h.2.2.2.1.2.1 u hu
  have g3 := h.2.2.2.1.2.2.1 u hu
  by_cases c : 24 ≤ s
  · refine ⟨am_pi w 281 (20 + u) (nI (st 1 u / 2 ^ 24 ^^^ 2 ^ (s % 24))), ?_, h.mk2 hS2 (h.2.2.2.1.cop hu ?_ ?_ (fun k k1 k2 => pi_k k2)) (eqx.pi (by simp)), fun k hk => pi_k (by omega), eqx.pi (by simp)⟩
    · unfold f_X12_turnCopy f_X12_turnCopy_17
      simp (disch := omega) only [pv_v, pv_b2, pv_b1, pv_x, pv_lit, pv_ofN, pu_chk, pu_cl, nI_add, pk_mul, nI_leI, nI_ltI, nI_eq, pu_nar0, pu_nar1, pu_narb, bI_0, bI_1, ↓reduceIte, pu_leT, pu_leF, pu_ltT, pu_ltF, pu_eqT, pu_eqF, pu_x1, pu_x2, pu_x3, pu_x4, pu_x5, pu_x6, pu_x7, pu_x8, Nat.zero_add, pu_m31I, pu_m31, pu_shlI, eq_self, Bool.false_eq_true, Bool.true_eq_false, g3, pk_rem, pu_xor]
    · rw [pi_k (by omega), g2, Nat.xor_mod_two_pow, Nat.mod_eq_zero_of_dvd (Nat.pow_dvd_pow 2 c), Nat.xor_zero]
    · rw [pi_same, Nat.xor_div_two_pow, Nat.pow_div c (by decide), show s % 24 = s - 24 by omega]
  · refine ⟨am_pi w 281 (10 + u) (nI (st 1 u % 2 ^ 24 ^^^ 2 ^ (s % 24))), ?_, h.mk2 hS2 (h.2.2.2.1.cop hu ?_ ?_ (fun k k1 k2 => pi_k k1)) (eqx.pi (by simp)), fun k hk => pi_k (by omega), eqx.pi (by simp)⟩
    · unfold f_X12_turnCopy f_X12_turnCopy_17
      simp (disch := omega) only [pv_v, pv_b2, pv_b1, pv_x, pv_lit, pv_ofN, pu_chk, pu_cl, nI_add, pk_mul, nI_leI, nI_ltI, nI_eq, pu_nar0, pu_nar1, pu_narb, bI_0, bI_1, ↓reduceIte, pu_leT, pu_leF, pu_ltT, pu_ltF, pu_eqT, pu_eqF, pu_x1, pu_x2, pu_x3, pu_x4, pu_x5, pu_x6, pu_x7, pu_x8, Nat.zero_add, pu_m31I, pu_m31, pu_shlI, eq_self, Bool.false_eq_true, Bool.true_eq_false, g2, pk_rem, pu_xor]
    · rw [pi_same, Nat.xor_mod_two_pow, show s % 24 = s by omega, Nat.mod_eq_of_lt (Nat.pow_lt_pow_right (by decide) (show s < 24 by omega))]
    · rw [pi_k (by omega), g3, Nat.xor_div_two_pow, Nat.div_eq_of_lt (Nat.pow_lt_pow_right (by decide) (show s < 24 by omega)), Nat.xor_zero]
theorem known_kc (hF : wF fd) (hS : wS fd st) : cn (pu_sd (2 ^ (fd 0 0) - 1) (pu_u fd st)) = kc st := by
  unfold cn kc
  congr 1
  funext u
  rw [pu_sd_bit, Nat.testBit_two_pow_sub_one]
  unfold pu_u
  rw [pu_S_bit]
  by_cases e : u < (fd 0 0)
  · simp [e]
  · have := (hS.2.2.1 u (by omega)).1
    simp [e, this]
theorem r_knownMany (h : rQ fd st jm w) : f_X12_knownMany w = some (nI (kc st), w) := by
  have h10 := h.1.1
  have hlt : pu_sd (2 ^ (fd 0 0) - 1) (pu_u fd st) < 1024 := pu_k10 (sb_lt (n := (fd 0 0)) (sb_sd (a := 2 ^ (fd 0 0) - 1) (b := pu_u fd st)) (by have := Nat.two_pow_pos (fd 0 0); omega)) h10
  unfold f_X12_knownMany
  rw [r_knownSet h, pu_b2, r_bitsc hlt, pu_b2, known_kc h.1 h.2.1]
theorem r_swapNow (h : rQ fd st jm w) {u o : Nat} (hu : u < 10) (ho : o < 10) (hS1 : wS fd (upk st u (st 1 o))) (hS2 : wS fd (upk (upk st u (st 1 o)) o (st 1 u))) : ∃ w', f_X12_swapNow (nI u) (nI o) w = some (nI (cL (upk (upk st u (st 1 o)) o (st 1 u) 1 u)), w') ∧ rQ fd (upk (upk st u (st 1 o)) o (st 1 u)) jm w' ∧ (∀ k, 30 ≤ k → w'.1 281 k = w.1 281 k) ∧ eqx [281] w w' := by
  have gu2 := h.2.2.2.1.2.1 u hu
  have gu3 := h.2.2.2.1.2.2.1 u hu
  have go2 := h.2.2.2.1.2.1 o ho
  have go3 := h.2.2.2.1.2.2.1 o ho
  have e3 : (am_pi w 281 (10 + u) (nI (st 1 o % 2 ^ 24))).1 281 (20 + o) = nI (st 1 o / 2 ^ 24) := by rw [pi_k (by omega)]; exact go3
  have hx1 : eqx [281] w (am_pi (am_pi w 281 (10 + u) (nI (st 1 o % 2 ^ 24))) 281 (20 + u) (nI (st 1 o / 2 ^ 24))) := (eqx.pi (by simp)).on (eqx.pi (by simp))
  have h1 := h.mk2 hS1 (h.2.2.2.1.cop (g' := (am_pi (am_pi w 281 (10 + u) (nI (st 1 o % 2 ^ 24))) 281 (20 + u) (nI (st 1 o / 2 ^ 24))).1 281) hu (by rw [pi_k (by omega), pi_same]) pi_same (fun k k1 k2 => by rw [pi_k k2, pi_k k1])) (hx1.up (by simp))
  have hx2 : eqx [281] (am_pi (am_pi w 281 (10 + u) (nI (st 1 o % 2 ^ 24))) 281 (20 + u) (nI (st 1 o / 2 ^ 24))) (am_pi (am_pi (am_pi (am_pi w 281 (10 + u) (nI (st 1 o % 2 ^ 24))) 281 (20 + u) (nI (st 1 o / 2 ^ 24))) 281 (10 + o) (nI (st 1 u % 2 ^ 24))) 281 (20 + o) (nI (st 1 u / 2 ^ 24))) := (eqx.pi (by simp)).on (eqx.pi (by simp))
  have h2 := h1.mk2 hS2 (h1.2.2.2.1.cop (g' := (am_pi (am_pi (am_pi (am_pi w 281 (10 + u) (nI (st 1 o % 2 ^ 24))) 281 (20 + u) (nI (st 1 o / 2 ^ 24))) 281 (10 + o) (nI (st 1 u % 2 ^ 24))) 281 (20 + o) (nI (st 1 u / 2 ^ 24))).1 281) ho (by rw [pi_k (by omega), pi_same]) pi_same (fun k k1 k2 => by rw [pi_k k2, pi_k k1])) (hx2.up (by simp))
  refine ⟨_, ?_, h2, fun k hk => ?_, hx1.on hx2⟩
  · have hm := r_copyMany h2 hu
    unfold f_X12_swapNow
    simp (disch := omega) only [pv_v, pv_b2, pv_b1, pv_x, pv_lit, pv_ofN, pu_chk, pu_cl, nI_add, pk_mul, nI_leI, nI_ltI, nI_eq, pu_nar0, pu_nar1, pu_narb, bI_0, bI_1, ↓reduceIte, pu_leT, pu_leF, pu_ltT, pu_ltF, pu_eqT, pu_eqF, pu_x1, pu_x2, pu_x3, pu_x4, pu_x5, pu_x6, pu_x7, pu_x8, Nat.zero_add, pu_m31I, pu_m31, pu_shlI, eq_self, Bool.false_eq_true, Bool.true_eq_false, gu2, gu3, go2, e3, hm]
  · rw [pi_k (by omega), pi_k (by omega), pi_k (by omega), pi_k (by omega)]
theorem r_place (h : rQ fd (upk st u0 (t * 2 ^ pu_lo fd u0)) jm w) (hu : u0 < (fd 0 0)) {num i m : Nat} {x : Int64} (ht : t < 2 ^ (pu_up fd u0 - pu_lo fd u0)) (hi : i < 100) (hnum : num < pu_C (fun i => !t.testBit i) (pu_up fd u0 - pu_lo fd u0)) : ∃ w', f_X12_drawNow_70 (nI u0) x (nI m) (nI i) (nI num) (nI (pu_lo fd u0)) w = some (.inr (nI (i + 1), w')) ∧ rQ fd (upk st u0 ((t ||| 2 ^ fpl t num (pu_up fd u0 - pu_lo fd u0)) * 2 ^ pu_lo fd u0)) jm w' ∧ (∀ k, 30 ≤ k → w'.1 281 k = w.1 281 k) ∧ eqx [281] w w' := by
  have hF := h.1
  have h10 := hF.1
  have hT := pu_T48 hF
  obtain ⟨l1, l2, l3, l4⟩ := pu_lo_up hF hu
  obtain ⟨pl, p1, p2⟩ := isF_ex hnum
  rw [fpl_is p1 p2]
  have hbit : ∀ j, (t * 2 ^ pu_lo fd u0).testBit (pu_lo fd u0 + j) = t.testBit j := fun j => by
    rw [Nat.testBit_mul_two_pow, decide_eq_true (show pu_lo fd u0 ≤ pu_lo fd u0 + j by omega), Bool.true_and, Nat.add_sub_cancel_left]
  have hx : t * 2 ^ pu_lo fd u0 ^^^ 2 ^ (pu_lo fd u0 + pl) = (t ||| 2 ^ pl) * 2 ^ pu_lo fd u0 := by
    apply Nat.eq_of_testBit_eq
    intro i
    rw [Nat.testBit_xor, pu_p_bit, Nat.testBit_mul_two_pow, Nat.testBit_mul_two_pow, Nat.testBit_or, pu_p_bit]
    by_cases e : pu_lo fd u0 + pl = i
    · subst e
      rw [decide_eq_true (show pu_lo fd u0 ≤ pu_lo fd u0 + pl by omega), Nat.add_sub_cancel_left, p2.1]
      simp
    · rw [decide_eq_false e, Bool.xor_false]
      by_cases q : pu_lo fd u0 ≤ i
      · rw [decide_eq_true q, decide_eq_false (show ¬ pl = i - pu_lo fd u0 by omega), Bool.or_false]
      · rw [decide_eq_false q]; rfl
  have hS2 : wS fd (upk (upk st u0 (t * 2 ^ pu_lo fd u0)) u0 (upk st u0 (t * 2 ^ pu_lo fd u0) 1 u0 ^^^ 2 ^ (pu_lo fd u0 + pl))) := upk_w h.2.1 hu (fun i hi => by
    rw [Nat.testBit_xor, pu_p_bit] at hi
    by_cases e : pu_lo fd u0 + pl = i
    · subst e; exact ⟨by omega, by omega⟩
    · rw [decide_eq_false e, Bool.xor_false] at hi
      exact (h.2.1.2.2.2.1 u0 i hi).2)
  obtain ⟨w', t1, t2, t3, t4⟩ := r_turnCopy h (u := u0) (s := pu_lo fd u0 + pl) (by omega) (by omega) hS2
  have hst : upk (upk st u0 (t * 2 ^ pu_lo fd u0)) u0 (upk st u0 (t * 2 ^ pu_lo fd u0) 1 u0 ^^^ 2 ^ (pu_lo fd u0 + pl)) = upk st u0 ((t ||| 2 ^ pl) * 2 ^ pu_lo fd u0) := by
    rw [upk_same, hx]
    funext a b
    unfold upk
    split <;> rfl
  rw [hst] at t2
  refine ⟨w', ?_, t2, t3, t4⟩
  have hhc : ∀ j, j ≤ pl → f_X12_hasCopy (nI u0) (nI (pu_lo fd u0 + j)) w = some (bI (t.testBit j), w) := fun j hj => by
    rw [r_hasCopy h (u := u0) (s := pu_lo fd u0 + j) (by omega) (by omega), upk_same, hbit]
  have hle : ∀ j, j ≤ pl → pu_C (fun i => !t.testBit i) j ≤ num := fun j hj => by rw [← p2.2]; exact pu_C_m hj
  have hn24 : num ≤ 24 := by have := pu_C_le (fun i => !t.testBit i) (pu_up fd u0 - pu_lo fd u0); omega
  unfold f_X12_drawNow_70
  refine pu_tr (fun j => (nI (num - pu_C (fun i => !t.testBit i) j), nI (pu_lo fd u0 + j), w)) pl rfl (by omega) (fun j hj => ?_) ?_
  · have hl := hle j (by omega)
    have hl1 := hle (j + 1) (by omega)
    have hh := hhc j (by omega)
    unfold f_X12_drawNow_70b f_X12_drawNow_85 f_X12_drawNow_102
    cases e : t.testBit j
    · rw [e] at hh
      rw [pu_C_t (p := fun i => !t.testBit i) (by rw [e]; rfl)] at hl1 ⊢
      simp (disch := omega) only [pv_v, pv_b2, pv_b1, pv_x, pv_lit, pv_ofN, pu_chk, pu_cl, nI_add, pk_mul, nI_leI, nI_ltI, nI_eq, pu_nar0, pu_nar1, pu_narb, bI_0, bI_1, ↓reduceIte, pu_leT, pu_leF, pu_ltT, pu_ltF, pu_eqT, pu_eqF, pu_x1, pu_x2, pu_x3, pu_x4, pu_x5, pu_x6, pu_x7, pu_x8, Nat.zero_add, pu_m31I, pu_m31, pu_shlI, eq_self, Bool.false_eq_true, Bool.true_eq_false, hh, pk_sub]
      rw [Nat.sub_sub, Nat.add_assoc]
    · rw [e] at hh
      rw [pu_C_f (p := fun i => !t.testBit i) (by rw [e]; rfl)] at hl1 ⊢
      by_cases z : 0 < num - pu_C (fun i => !t.testBit i) j
      · simp (disch := omega) only [pv_v, pv_b2, pv_b1, pv_x, pv_lit, pv_ofN, pu_chk, pu_cl, nI_add, pk_mul, nI_leI, nI_ltI, nI_eq, pu_nar0, pu_nar1, pu_narb, bI_0, bI_1, ↓reduceIte, pu_leT, pu_leF, pu_ltT, pu_ltF, pu_eqT, pu_eqF, pu_x1, pu_x2, pu_x3, pu_x4, pu_x5, pu_x6, pu_x7, pu_x8, Nat.zero_add, pu_m31I, pu_m31, pu_shlI, eq_self, Bool.false_eq_true, Bool.true_eq_false, hh, pk_sub, z]
        rw [Nat.sub_zero, Nat.add_assoc]
      · simp (disch := omega) only [pv_v, pv_b2, pv_b1, pv_x, pv_lit, pv_ofN, pu_chk, pu_cl, nI_add, pk_mul, nI_leI, nI_ltI, nI_eq, pu_nar0, pu_nar1, pu_narb, bI_0, bI_1, ↓reduceIte, pu_leT, pu_leF, pu_ltT, pu_ltF, pu_eqT, pu_eqF, pu_x1, pu_x2, pu_x3, pu_x4, pu_x5, pu_x6, pu_x7, pu_x8, Nat.zero_add, pu_m31I, pu_m31, pu_shlI, eq_self, Bool.false_eq_true, Bool.true_eq_false, hh, pk_sub, z]
        rw [Nat.sub_zero, Nat.add_assoc]
  · have hh := hhc pl (Nat.le_refl _)
    rw [p2.1] at hh
    unfold f_X12_drawNow_70b
    rw [p2.2, Nat.sub_self]
    simp (disch := omega) only [pv_v, pv_b2, pv_b1, pv_x, pv_lit, pv_ofN, pu_chk, pu_cl, nI_add, pk_mul, nI_leI, nI_ltI, nI_eq, pu_nar0, pu_nar1, pu_narb, bI_0, bI_1, ↓reduceIte, pu_leT, pu_leF, pu_ltT, pu_ltF, pu_eqT, pu_eqF, pu_x1, pu_x2, pu_x3, pu_x4, pu_x5, pu_x6, pu_x7, pu_x8, Nat.zero_add, pu_m31I, pu_m31, pu_shlI, eq_self, Bool.false_eq_true, Bool.true_eq_false, hh, t1]
theorem rQ.pl24 (h : rQ fd st jm w) {y : Int64} : rQ fd st jm (am_pl w 271 24 y) := ⟨h.1, h.2.1, h.2.2.1, h.2.2.2.1, by rw [pl_k (by omega)]; exact h.2.2.2.2.1, h.2.2.2.2.2⟩
theorem r_drawNow (h : rQ fd st jm w) (hu : u0 < (fd 0 0)) (h0 : pu_W fd ≠ 0) (x : Int64) : Wp (f_X12_drawNow (nI u0) x w) (fun q => q.1 = nI (cL (pu_dw fd u0 x * 2 ^ pu_lo fd u0)) ∧ rQ fd (upk st u0 (pu_dw fd u0 x * 2 ^ pu_lo fd u0)) jm q.2 ∧ (∀ k, 30 ≤ k → q.2.1 281 k = w.1 281 k) ∧ eqy [281] [271] w q.2) := by
  have hF := h.1
  have hS := h.2.1
  have h10 := hF.1
  have hT := pu_T48 hF
  obtain ⟨l1, l2, l3, l4⟩ := pu_lo_up hF hu
  have hW : pu_W fd ≤ 594 := hF.2.2.2.2.2.2.2.2
  have hdl := dg_le hF (dv_lt (x := dn x) (m := pu_W fd) (by omega))
  have hdd := r_drawDegree (w := am_pl w 271 24 x) hF h.2.2.1 h0
  rw [pl_same, pl_pl] at hdd
  have hwd := r_widthOf (h.pl24 (y := dn x)) hu
  have hfa := fun m => draw_fa hF hu (x := x) (m := m)
  have hz : rQ fd (upk st u0 0) jm (am_pi (am_pi (am_pl w 271 24 (dn x)) 281 (10 + u0) (nI 0)) 281 (20 + u0) (nI 0)) := (h.pl24 (y := dn x)).mk2 (upk_w hS hu (fun s hs => by rw [Nat.zero_testBit] at hs; cases hs)) (h.2.2.2.1.cop (by omega) (by rw [pi_k (by omega), pi_same]) pi_same (fun k k1 k2 => by rw [pi_k k2, pi_k k1]; rfl)) ((eqx.pi (by simp)).on (eqx.pi (by simp)))
  have hyz : eqy [281] [271] w (am_pi (am_pi (am_pl w 271 24 (dn x)) 281 (10 + u0) (nI 0)) 281 (20 + u0) (nI 0)) := ((eqy.pl (by simp)).on (eqy.pi (by simp))).on (eqy.pi (by simp))
  have hkz : ∀ k, 30 ≤ k → (am_pi (am_pi (am_pl w 271 24 (dn x)) 281 (10 + u0) (nI 0)) 281 (20 + u0) (nI 0)).1 281 k = w.1 281 k := fun k hk => by rw [pi_k (by omega), pi_k (by omega)]; rfl
  have hlz : (am_pi (am_pi (am_pl w 271 24 (dn x)) 281 (10 + u0) (nI 0)) 281 (20 + u0) (nI 0)).2.1 271 24 = dn x := pl_same
  unfold f_X12_drawNow
  rw [pu_v, hdd, pu_b2, hwd, pu_b2, c_min (by omega) (by omega), pu_b2]
  generalize min (pu_dg fd (dv (dn x) (pu_W fd))) (pu_up fd u0 - pu_lo fd u0) = m at hfa ⊢
  obtain ⟨hmany, hdw, hbi⟩ := hfa m rfl
  clear hfa hdd hdl hbi
  simp (disch := omega) only [pv_v, pv_b2, pv_b1, pv_x, pv_lit, pv_ofN, pu_chk, pu_cl, nI_add, pk_mul, nI_leI, nI_ltI, nI_eq, pu_nar0, pu_nar1, pu_narb, bI_0, bI_1, ↓reduceIte, pu_leT, pu_leF, pu_ltT, pu_ltF, pu_eqT, pu_eqF, pu_x1, pu_x2, pu_x3, pu_x4, pu_x5, pu_x6, pu_x7, pu_x8, Nat.zero_add, pu_m31I, pu_m31, pu_shlI, eq_self, Bool.false_eq_true, Bool.true_eq_false]
  generalize am_pi (am_pi (am_pl w 271 24 (dn x)) 281 (10 + u0) (nI 0)) 281 (20 + u0) (nI 0) = w4 at hz hyz hkz hlz ⊢
  rw [hdw]
  clear hdw
  have e0 : (dq fd u0 x 0).2 * 2 ^ pu_lo fd u0 = 0 := by
    rw [dq_0]
    exact Nat.zero_mul _
  have e01 : (dq fd u0 x 0).1 = dn x := by rw [dq_0]
  unfold f_X12_drawNow_42
  refine Wp.for (fun i w => (nI i, w)) (fun i w5 => rQ fd (upk st u0 ((dq fd u0 x i).2 * 2 ^ pu_lo fd u0)) jm w5 ∧ w5.2.1 271 24 = (dq fd u0 x i).1 ∧ (∀ k, 30 ≤ k → w5.1 281 k = w.1 281 k) ∧ eqy [281] [271] w w5) m (by omega) (w := w4) rfl ⟨by rw [e0]; exact hz, by rw [e01]; exact hlz, hkz, hyz⟩ (fun i w5 hi hI => ?_) (fun w5 hI => ?_)
  · obtain ⟨i1, i2, i3, i4⟩ := hI
    obtain ⟨q1, q2⟩ := dq_ok (fd := fd) (u := u0) (x := x) rfl (h := i) (by omega)
    have hs := dq_s (fd := fd) (u := u0) (x := x) (h := i)
    generalize dq fd u0 x (i + 1) = d1 at hs ⊢
    generalize dq fd u0 x i = d0 at i1 i2 q1 q2 hs
    obtain ⟨y, T⟩ := d0
    dsimp only at i1 i2 q1 q2 hs
    subst hs
    have hC := C_not (t := T) (n := pu_up fd u0 - pu_lo fd u0)
    have hd := dv_lt (x := dn y) (m := pu_up fd u0 - pu_lo fd u0 - i) (by omega)
    have hwd5 := r_widthOf i1 hu
    have hdr := r_draw (w := w5) (m := pu_up fd u0 - pu_lo fd u0 - i) (by omega) (by omega)
    rw [i2] at hdr
    have hbg := r_beginOf (i1.pl24 (y := dn y)) hu
    obtain ⟨w', p1, p2, p3, p4⟩ := r_place (i1.pl24 (y := dn y)) hu (i := i) (m := m) (x := x) (num := dv (dn y) (pu_up fd u0 - pu_lo fd u0 - i)) q1 (by omega) (by omega)
    unfold f_X12_drawNow_42b
    simp (disch := omega) only [pv_v, pv_b2, pv_b1, pv_x, pv_lit, pv_ofN, pu_chk, pu_cl, nI_add, pk_mul, nI_leI, nI_ltI, nI_eq, pu_nar0, pu_nar1, pu_narb, bI_0, bI_1, ↓reduceIte, pu_leT, pu_leF, pu_ltT, pu_ltF, pu_eqT, pu_eqF, pu_x1, pu_x2, pu_x3, pu_x4, pu_x5, pu_x6, pu_x7, pu_x8, Nat.zero_add, pu_m31I, pu_m31, pu_shlI, eq_self, Bool.false_eq_true, Bool.true_eq_false, hwd5, pk_sub, hdr, hbg, p1]
    refine Wp.some ⟨w', rfl, p2, ?_, fun k hk => (p3 k hk).trans (i3 k hk), (i4.on (eqy.pl (by simp))).on p4.y⟩
    rw [p4.l]
    exact pl_same
  · obtain ⟨i1, i2, i3, i4⟩ := hI
    have hm := r_copyMany i1 (u := u0) (by omega)
    rw [upk_same] at hm
    unfold f_X12_drawNow_42b
    simp (disch := omega) only [pv_v, pv_b2, pv_b1, pv_x, pv_lit, pv_ofN, pu_chk, pu_cl, nI_add, pk_mul, nI_leI, nI_ltI, nI_eq, pu_nar0, pu_nar1, pu_narb, bI_0, bI_1, ↓reduceIte, pu_leT, pu_leF, pu_ltT, pu_ltF, pu_eqT, pu_eqF, pu_x1, pu_x2, pu_x3, pu_x4, pu_x5, pu_x6, pu_x7, pu_x8, Nat.zero_add, pu_m31I, pu_m31, pu_shlI, eq_self, Bool.false_eq_true, Bool.true_eq_false, hm]
    exact Wp.some ⟨rfl, i1, i3, i4⟩
theorem r_doNow (h : rQ fd st 0 w) {k : Nat} (hk : k ≤ 8) {a b : Int32} (x : Int64) (ha : aW fd st k a b = none) : Wp (f_X12_doNow (nI k) a b x w) (fun q => q.1 = nI (aR fd st k (aN a) (aN b) x) ∧ rQ fd (aS fd st k (aN a) (aN b) x) 0 q.2 ∧ (∀ j, 64 ≤ j → q.2.1 281 j = w.1 281 j) ∧ eqy [281, 284] [271] w q.2 ∧ (k ≠ 6 → q.2.2.1 = w.2.1)) := by
  obtain ⟨hn, w1, w5, w7, wu⟩ := aW_n ha
  clear ha
  have hF := h.1
  have hS := h.2.1
  have h10 := hF.1
  have hT := pu_T48 hF
  have hk' : k = 0 ∨ k = 1 ∨ k = 2 ∨ k = 3 ∨ k = 4 ∨ k = 5 ∨ k = 6 ∨ k = 7 ∨ k = 8 := by omega
  unfold f_X12_doNow
  rcases hk' with rfl | rfl | rfl | rfl | rfl | rfl | rfl | rfl | rfl
  · rw [if_pos (show nI 0 = (0 : Int32) from rfl)]
    rw [aR_st.1 rfl, aS_st.1 rfl, r_slotMany hF h.2.2.1, pu_b2, show (0 : Int32) = nI 0 from rfl]
    rcases r_peelNow h (a := 0) (b := (fd 0 1) * (fd 0 2)) (by omega) (by omega) with ⟨s, u, hs, hu, he⟩ | ⟨hz, -⟩
    · have hfz : pu_fz (pu_K fd st 0) 0 ((fd 0 1) * (fd 0 2)) = s := pu_fz_is (Nat.zero_le _) (by have := hs.2.1; omega) hs.2.2.1 (fun j h1 h2 => hs.2.2.2.1 j h1 h2)
      have hl1 : pu_l1 (pu_K fd st 0 s) = u := pu_l1_is hs.2.2.2.2 (by omega)
      have hwy2 := pu_wy_le (fd := fd) (st := st) (s := s) (u := u)
      have eS : aS fd st 0 0 0 0 = upw st u (pu_wy fd st s u) := by
        unfold aS
        rw [if_pos rfl, hfz, hl1]
      have eR : aR fd st 0 0 0 0 = u := by
        unfold aR
        rw [if_pos rfl, hfz, hl1]
      rw [he, pu_b2, eS, eR]
      exact Wp.some ⟨rfl, h.way hu (by omega), fun j hj => pi_k (by omega), eqy.pi (by simp), fun _ => rfl⟩
    · exact absurd ((pu_A_K hF hS).mpr (fun s hs => hz s (Nat.zero_le _) hs)) (w1 (by omega))
  · rw [if_neg (show ¬ nI 1 = (0 : Int32) by decide), if_pos (show nI 1 = (1 : Int32) from rfl)]
    rw [aR_st.2.1 rfl, aS_st.2.1 rfl]
    refine Wp.b2 ((r_roundNow h).mono ?_)
    rintro ⟨r, w'⟩ ⟨h1, h2, h3, h4⟩
    exact Wp.some ⟨h1, h2, fun j hj => h3 j (by omega), h4.y, fun _ => h4.l⟩
  · rw [if_neg (show ¬ nI 2 = (0 : Int32) by decide), if_neg (show ¬ nI 2 = (1 : Int32) by decide), if_pos (show nI 2 = (2 : Int32) from rfl)]
    obtain ⟨u, hu, rfl, hu31, -, -, -⟩ := wu (by omega) (by omega) (by omega)
    have hq := h.way hu (v := 3) (by omega)
    have hkm := r_knownMany hq
    rw [aR_st.2.2.1 rfl, aS_st.2.2.1 rfl, aN_nI hu31]
    simp (disch := omega) only [pv_v, pv_b2, pv_b1, pv_x, pv_lit, pv_ofN, pu_chk, pu_cl, nI_add, pk_mul, nI_leI, nI_ltI, nI_eq, pu_nar0, pu_nar1, pu_narb, bI_0, bI_1, ↓reduceIte, pu_leT, pu_leF, pu_ltT, pu_ltF, pu_eqT, pu_eqF, pu_x1, pu_x2, pu_x3, pu_x4, pu_x5, pu_x6, pu_x7, pu_x8, Nat.zero_add, pu_m31I, pu_m31, pu_shlI, eq_self, Bool.false_eq_true, Bool.true_eq_false, hkm]
    exact Wp.some ⟨rfl, hq, fun j hj => pi_k (by omega), eqy.pi (by simp), fun _ => rfl⟩
  · rw [if_neg (show ¬ nI 3 = (0 : Int32) by decide), if_neg (show ¬ nI 3 = (1 : Int32) by decide), if_neg (show ¬ nI 3 = (2 : Int32) by decide), if_pos (show nI 3 = (3 : Int32) from rfl)]
    obtain ⟨u, hu, rfl, hu31, -, -, -⟩ := wu (by omega) (by omega) (by omega)
    have g1 := h.2.2.2.1.1 u (by omega)
    rw [aR_st.2.2.2.1 rfl, aS_st.2.2.2.1 rfl, aN_nI hu31]
    simp (disch := omega) only [pv_v, pv_b2, pv_b1, pv_x, pv_lit, pv_ofN, pu_chk, pu_cl, nI_add, pk_mul, nI_leI, nI_ltI, nI_eq, pu_nar0, pu_nar1, pu_narb, bI_0, bI_1, ↓reduceIte, pu_leT, pu_leF, pu_ltT, pu_ltF, pu_eqT, pu_eqF, pu_x1, pu_x2, pu_x3, pu_x4, pu_x5, pu_x6, pu_x7, pu_x8, Nat.zero_add, pu_m31I, pu_m31, pu_shlI, eq_self, Bool.false_eq_true, Bool.true_eq_false, g1]
    exact Wp.some ⟨rfl, h.way hu (by omega), fun j hj => pi_k (by omega), eqy.pi (by simp), fun _ => rfl⟩
  · rw [if_neg (show ¬ nI 4 = (0 : Int32) by decide), if_neg (show ¬ nI 4 = (1 : Int32) by decide), if_neg (show ¬ nI 4 = (2 : Int32) by decide), if_neg (show ¬ nI 4 = (3 : Int32) by decide), if_pos (show nI 4 = (4 : Int32) from rfl)]
    obtain ⟨u, hu, rfl, hu31, h4, -, -⟩ := wu (by omega) (by omega) (by omega)
    obtain ⟨s, rfl, b1, b2⟩ := h4 rfl
    obtain ⟨l1, l2, l3, l4⟩ := pu_lo_up hF hu
    have hS2 : wS fd (upk st u (st 1 u ^^^ 2 ^ s)) := upk_w hS hu (fun i hi => by
      rw [Nat.testBit_xor, pu_p_bit] at hi
      by_cases e : s = i
      · subst e; exact ⟨b1, b2⟩
      · rw [decide_eq_false e, Bool.xor_false] at hi
        exact (hS.2.2.2.1 u i hi).2)
    obtain ⟨w', t1, t2, t3, t4⟩ := r_turnCopy h (u := u) (s := s) (by omega) (by omega) hS2
    rw [aR_st.2.2.2.2.2.2 (Or.inl rfl), aS_st.2.2.2.2.1 rfl, aN_nI hu31, aN_nI (show s < 2 ^ 31 by omega), t1, pu_b1, r_copyMany t2 (by omega), pu_b2]
    exact Wp.some ⟨rfl, t2, fun j hj => t3 j (by omega), (t4.up (by simp)).y, fun _ => t4.l⟩
  · rw [if_neg (show ¬ nI 5 = (0 : Int32) by decide), if_neg (show ¬ nI 5 = (1 : Int32) by decide), if_neg (show ¬ nI 5 = (2 : Int32) by decide), if_neg (show ¬ nI 5 = (3 : Int32) by decide), if_neg (show ¬ nI 5 = (4 : Int32) by decide), if_pos (show nI 5 = (5 : Int32) from rfl)]
    obtain ⟨c, hc1, rfl⟩ := w5 rfl
    have g4 := h.2.2.2.1.2.2.2.1
    rw [aR_st.2.2.2.2.1 rfl, aS_st.2.2.2.2.2.1 rfl, aN_nI (show c < 2 ^ 31 by omega)]
    simp (disch := omega) only [pv_v, pv_b2, pv_b1, pv_x, pv_lit, pv_ofN, pu_chk, pu_cl, nI_add, pk_mul, nI_leI, nI_ltI, nI_eq, pu_nar0, pu_nar1, pu_narb, bI_0, bI_1, ↓reduceIte, pu_leT, pu_leF, pu_ltT, pu_ltF, pu_eqT, pu_eqF, pu_x1, pu_x2, pu_x3, pu_x4, pu_x5, pu_x6, pu_x7, pu_x8, Nat.zero_add, pu_m31I, pu_m31, pu_shlI, eq_self, Bool.false_eq_true, Bool.true_eq_false, g4]
    exact Wp.some ⟨rfl, h.cap (by omega), fun j hj => pi_k (by omega), eqy.pi (by simp), fun _ => rfl⟩
  · rw [if_neg (show ¬ nI 6 = (0 : Int32) by decide), if_neg (show ¬ nI 6 = (1 : Int32) by decide), if_neg (show ¬ nI 6 = (2 : Int32) by decide), if_neg (show ¬ nI 6 = (3 : Int32) by decide), if_neg (show ¬ nI 6 = (4 : Int32) by decide), if_neg (show ¬ nI 6 = (5 : Int32) by decide), if_pos (show nI 6 = (6 : Int32) from rfl)]
    obtain ⟨u, hu, rfl, hu31, -, h6, -⟩ := wu (by omega) (by omega) (by omega)
    have hd := r_drawNow h hu (h6 rfl) x
    rw [aR_st.2.2.2.2.2.2 (Or.inr (Or.inl rfl)), aS_st.2.2.2.2.2.2.1 rfl, aN_nI hu31]
    generalize pu_dw fd u x * 2 ^ pu_lo fd u = X at hd ⊢
    refine Wp.b2 (hd.mono ?_)
    rintro ⟨r, w'⟩ ⟨h1, h2, h3, h4⟩
    rw [upk_same]
    exact Wp.some ⟨h1, h2, fun j hj => h3 j (by omega), h4.up (by simp) (by simp), fun c => absurd rfl c⟩
  · rw [if_neg (show ¬ nI 7 = (0 : Int32) by decide), if_neg (show ¬ nI 7 = (1 : Int32) by decide), if_neg (show ¬ nI 7 = (2 : Int32) by decide), if_neg (show ¬ nI 7 = (3 : Int32) by decide), if_neg (show ¬ nI 7 = (4 : Int32) by decide), if_neg (show ¬ nI 7 = (5 : Int32) by decide), if_neg (show ¬ nI 7 = (6 : Int32) by decide), if_pos (show nI 7 = (7 : Int32) from rfl)]
    obtain ⟨j, u, hj, rfl, hu, rfl, hf⟩ := w7 rfl
    obtain ⟨w', t1, t2, t3, t4⟩ := r_fileNow h hj hf (u := u)
    rw [aR_st.2.2.2.2.2.1 rfl, aS_st.2.2.2.2.2.2.2.1 rfl, aN_nI (show j < 2 ^ 31 by omega), aN_nI (show u < 2 ^ 31 by omega), t1, pu_b2]
    exact Wp.some ⟨rfl, t2, t3, (t4.up (by simp)).y, fun _ => t4.l⟩
  · rw [if_neg (show ¬ nI 8 = (0 : Int32) by decide), if_neg (show ¬ nI 8 = (1 : Int32) by decide), if_neg (show ¬ nI 8 = (2 : Int32) by decide), if_neg (show ¬ nI 8 = (3 : Int32) by decide), if_neg (show ¬ nI 8 = (4 : Int32) by decide), if_neg (show ¬ nI 8 = (5 : Int32) by decide), if_neg (show ¬ nI 8 = (6 : Int32) by decide), if_neg (show ¬ nI 8 = (7 : Int32) by decide)]
    obtain ⟨u, hu, rfl, hu31, -, -, h8⟩ := wu (by omega) (by omega) (by omega)
    obtain ⟨o, ho, rfl, ho31, hm⟩ := h8 (by omega)
    have el : pu_lo fd u = pu_lo fd o := by unfold pu_lo; rw [hm]
    have eu : pu_up fd u = pu_up fd o := by unfold pu_up; rw [hm]
    have hS1 : wS fd (upk st u (st 1 o)) := upk_w hS hu (fun i hi => by rw [el, eu]; exact (hS.2.2.2.1 o i hi).2)
    have hS2 : wS fd (upk (upk st u (st 1 o)) o (st 1 u)) := upk_w hS1 ho (fun i hi => by rw [← el, ← eu]; exact (hS.2.2.2.1 u i hi).2)
    obtain ⟨w', t1, t2, t3, t4⟩ := r_swapNow h (u := u) (o := o) (by omega) (by omega) hS1 hS2
    rw [aR_st.2.2.2.2.2.2 (Or.inr (Or.inr rfl)), aS_st.2.2.2.2.2.2.2.2 rfl, aN_nI hu31, aN_nI ho31, t1, pu_b2]
    exact Wp.some ⟨rfl, t2, fun j hj => t3 j (by omega), (t4.up (by simp)).y, fun _ => t4.l⟩
end RDO
