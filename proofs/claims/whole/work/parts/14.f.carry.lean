/-! pure part: how the class does ACTS, the end (wip/whole/pure/14.f.carry.src) -/
section DOF
variable {fd st : Nat → Nat → Nat} {w : am_S} {p : Nat}
theorem cS.file (h : cS st p w) {j u : Nat} (hj : j < 3) (hf : ∀ i, st 3 i ≤ 10) (hn : st 3 j ≠ 10) : cS (upf st j u) p (am_pi (am_pi w (p + 3) (10 * j + st 3 j) (nI u)) (p + 4) j (nI (st 3 j + 1))) := by
  obtain ⟨s1, s2, s3, s4, s5⟩ := h
  refine ⟨fun x hx => ?_, s2, ?_, fun i hi => ?_, fun i l hi hl => ?_⟩
  · rw [pi_p (by omega), pi_p (by omega)]; simpa [upf] using s1 x hx
  · rw [pi_p (by omega), pi_p (by omega)]; simpa [upf] using s3
  · by_cases e : i = j
    · subst e; rw [pi_same]; simp [upf]
    · rw [pi_k e, pi_p (by omega)]
      simpa [upf, e] using s4 i hi
  · rw [pi_p (by omega)]
    have hfi := hf i
    have hfj := hf j
    by_cases e : i = j
    · subst e
      have hl : l < st 3 i + 1 := by simpa [upf] using hl
      by_cases q : l = st 3 i
      · subst q; rw [pi_same]; simp [upf]
      · rw [pi_k (by omega), s5 i l hi (by omega)]
        simp [upf, q]
    · have hl : l < st 3 i := by simpa [upf, e] using hl
      rw [pi_k (by omega), s5 i l hi hl]
      have : ¬ 10 * i + l = 10 * j + st 3 j := by omega
      simp [upf, this]
theorem c_tail (hF : wF fd) (hS : wS fd st) (h : cS st p w) {u : Nat} (hu : u < 10) {k : Int32} {b : Int32} {x : Int64} : f_X2_carryOut_125 p k (nI u) b x w = some (nI (cL (st 1 u)), w) := by
  have l1 := wS_lt hF hS u
  have h2 := h.2.1 u hu
  unfold f_X2_carryOut_125
  simp (disch := omega) only [pv_v, pv_b2, pv_b1, pv_x, pv_lit, pv_ofN, pu_chk, pu_cl, nI_add, pk_mul, nI_leI, nI_ltI, nI_eq, pu_nar0, pu_nar1, pu_narb, bI_0, bI_1, ↓reduceIte, pu_leT, pu_leF, pu_ltT, pu_ltF, pu_eqT, pu_eqF, pu_x1, pu_x2, pu_x3, pu_x4, pu_x5, pu_x6, pu_x7, pu_x8, Nat.zero_add, pu_m31I, pu_m31, pu_shlI, eq_self, Bool.false_eq_true, Bool.true_eq_false, h2, c_bitCountL]
theorem c_makeKnown (h : cX fd st p w) {u : Nat} (hu : u < (fd 0 0)) : f_X2_makeKnown p (nI u) w = some (nI (kc (upw st u 3)), am_pi w (p + 1) u (nI 3)) := by
  have h10 := h.1.1
  have hk := c_knownCount (p := p) (w := am_pi w (p + 1) u (nI 3)) (upw_w h.2.1 hu (v := 3) (by omega)) h.2.2.2.2.way.1
  unfold f_X2_makeKnown
  simp (disch := omega) only [pv_v, pv_b2, pv_b1, pv_x, pv_lit, pv_ofN, pu_chk, pu_cl, nI_add, pk_mul, nI_leI, nI_ltI, nI_eq, pu_nar0, pu_nar1, pu_narb, bI_0, bI_1, ↓reduceIte, pu_leT, pu_leF, pu_ltT, pu_ltF, pu_eqT, pu_eqF, pu_x1, pu_x2, pu_x3, pu_x4, pu_x5, pu_x6, pu_x7, pu_x8, Nat.zero_add, pu_m31I, pu_m31, pu_shlI, eq_self, Bool.false_eq_true, Bool.true_eq_false, hk]
  rfl
theorem c_makeUnknown (h : cX fd st p w) {u : Nat} (hu : u < (fd 0 0)) : f_X2_makeUnknown p (nI u) w = some (nI (st 0 u), am_pi w (p + 1) u (nI 0)) := by
  have h10 := h.1.1
  have h1 := h.2.2.2.2.1 u (by omega)
  unfold f_X2_makeUnknown
  simp (disch := omega) only [pv_v, pv_b2, pv_b1, pv_x, pv_lit, pv_ofN, pu_chk, pu_cl, nI_add, pk_mul, nI_leI, nI_ltI, nI_eq, pu_nar0, pu_nar1, pu_narb, bI_0, bI_1, ↓reduceIte, pu_leT, pu_leF, pu_ltT, pu_ltF, pu_eqT, pu_eqF, pu_x1, pu_x2, pu_x3, pu_x4, pu_x5, pu_x6, pu_x7, pu_x8, Nat.zero_add, pu_m31I, pu_m31, pu_shlI, eq_self, Bool.false_eq_true, Bool.true_eq_false, h1]
theorem c_setCapture (h : cX fd st p w) {a : Int32} : f_X2_setCapture p a w = some (nI (st 2 0), am_pi w p 4 a) := by
  have h1 := h.2.2.2.2.2.2.1
  unfold f_X2_setCapture
  simp (disch := omega) only [pv_v, pv_b2, pv_b1, pv_x, pv_lit, pv_ofN, pu_chk, pu_cl, nI_add, pk_mul, nI_leI, nI_ltI, nI_eq, pu_nar0, pu_nar1, pu_narb, bI_0, bI_1, ↓reduceIte, pu_leT, pu_leF, pu_ltT, pu_ltF, pu_eqT, pu_eqF, pu_x1, pu_x2, pu_x3, pu_x4, pu_x5, pu_x6, pu_x7, pu_x8, Nat.zero_add, pu_m31I, pu_m31, pu_shlI, eq_self, Bool.false_eq_true, Bool.true_eq_false, h1]
theorem c_putOnShelf (h : cX fd st p w) {j : Nat} (hj : j < 3) (hn : st 3 j ≠ 10) {b : Int32} : f_X2_putOnShelf p (nI j) b w = some (nI (st 3 j), am_pi (am_pi w (p + 3) (10 * j + st 3 j) b) (p + 4) j (nI (st 3 j + 1))) := by
  have h1 := h.2.2.2.2.2.2.2.1 j hj
  have hf : st 3 j ≤ 10 := h.2.1.2.2.2.2 j
  have hm : j * 10 = 10 * j := Nat.mul_comm _ _
  unfold f_X2_putOnShelf
  simp (disch := omega) only [pv_v, pv_b2, pv_b1, pv_x, pv_lit, pv_ofN, pu_chk, pu_cl, nI_add, pk_mul, nI_leI, nI_ltI, nI_eq, pu_nar0, pu_nar1, pu_narb, bI_0, bI_1, ↓reduceIte, pu_leT, pu_leF, pu_ltT, pu_ltF, pu_eqT, pu_eqF, pu_x1, pu_x2, pu_x3, pu_x4, pu_x5, pu_x6, pu_x7, pu_x8, Nat.zero_add, pu_m31I, pu_m31, pu_shlI, eq_self, Bool.false_eq_true, Bool.true_eq_false, h1, hm]
theorem c_exchange (h : cX fd st p w) {u o : Nat} (hu : u < (fd 0 0)) (ho : o < (fd 0 0)) : f_X2_exchange p (nI u) (nI o) w = some (am_pl (am_pl w (p + 2) u (lN (st 1 o))) (p + 2) o (lN (st 1 u))) := by
  have h10 := h.1.1
  have h1 := h.2.2.2.2.2.1 u (by omega)
  have h2 := h.2.2.2.2.2.1 o (by omega)
  unfold f_X2_exchange
  simp (disch := omega) only [pv_v, pv_b2, pv_b1, pv_x, pv_lit, pv_ofN, pu_chk, pu_cl, nI_add, pk_mul, nI_leI, nI_ltI, nI_eq, pu_nar0, pu_nar1, pu_narb, bI_0, bI_1, ↓reduceIte, pu_leT, pu_leF, pu_ltT, pu_ltF, pu_eqT, pu_eqF, pu_x1, pu_x2, pu_x3, pu_x4, pu_x5, pu_x6, pu_x7, pu_x8, Nat.zero_add, pu_m31I, pu_m31, pu_shlI, eq_self, Bool.false_eq_true, Bool.true_eq_false, h1, h2]
theorem aS_st {k a b : Nat} {x : Int64} : (k = 0 → aS fd st k a b x = aS fd st 0 0 0 0) ∧ (k = 1 → aS fd st k a b x = pu_rd fd st 0) ∧ (k = 2 → aS fd st k a b x = upw st a 3) ∧ (k = 3 → aS fd st k a b x = upw st a 0) ∧ (k = 4 → aS fd st k a b x = upk st a (st 1 a ^^^ 2 ^ b)) ∧ (k = 5 → aS fd st k a b x = upc st a) ∧ (k = 6 → aS fd st k a b x = upk st a (pu_dw fd a x * 2 ^ pu_lo fd a)) ∧ (k = 7 → aS fd st k a b x = upf st a b) ∧ (k = 8 → aS fd st k a b x = upk (upk st a (st 1 b)) b (st 1 a)) := by
  refine ⟨?_, ?_, ?_, ?_, ?_, ?_, ?_, ?_, ?_⟩ <;> intro e <;> subst e <;> unfold aS
  · rw [if_pos rfl, if_pos rfl]
  · rw [if_neg (by decide), if_pos rfl]
  · rw [if_neg (by decide), if_neg (by decide), if_pos rfl]
  · rw [if_neg (by decide), if_neg (by decide), if_neg (by decide), if_pos rfl]
  · rw [if_neg (by decide), if_neg (by decide), if_neg (by decide), if_neg (by decide), if_pos rfl]
  · rw [if_neg (by decide), if_neg (by decide), if_neg (by decide), if_neg (by decide), if_neg (by decide), if_pos rfl]
  · rw [if_neg (by decide), if_neg (by decide), if_neg (by decide), if_neg (by decide), if_neg (by decide), if_neg (by decide), if_pos rfl]
  · rw [if_neg (by decide), if_neg (by decide), if_neg (by decide), if_neg (by decide), if_neg (by decide), if_neg (by decide), if_neg (by decide), if_pos rfl]
  · rw [if_neg (by decide), if_neg (by decide), if_neg (by decide), if_neg (by decide), if_neg (by decide), if_neg (by decide), if_neg (by decide), if_neg (by decide)]
theorem aR_st {k a b : Nat} {x : Int64} : (k = 0 → aR fd st k a b x = aR fd st 0 0 0 0) ∧ (k = 1 → aR fd st k a b x = cn (pu_A fd st 0)) ∧ (k = 2 → aR fd st k a b x = kc (upw st a 3)) ∧ (k = 3 → aR fd st k a b x = st 0 a) ∧ (k = 5 → aR fd st k a b x = (st 2 0)) ∧ (k = 7 → aR fd st k a b x = st 3 a) ∧ (k = 4 ∨ k = 6 ∨ k = 8 → aR fd st k a b x = cL (aS fd st k a b x 1 a)) := by
  refine ⟨?_, ?_, ?_, ?_, ?_, ?_, ?_⟩ <;> intro e
  · subst e; unfold aR; rw [if_pos rfl, if_pos rfl]
  · subst e; unfold aR; rw [if_neg (by decide), if_pos rfl]
  · subst e; unfold aR; rw [if_neg (by decide), if_neg (by decide), if_pos rfl]
  · subst e; unfold aR; rw [if_neg (by decide), if_neg (by decide), if_neg (by decide), if_pos rfl]
  · subst e; unfold aR; rw [if_neg (by decide), if_neg (by decide), if_neg (by decide), if_neg (by decide), if_pos rfl]
  · subst e; unfold aR; rw [if_neg (by decide), if_neg (by decide), if_neg (by decide), if_neg (by decide), if_neg (by decide), if_pos rfl]
  · unfold aR
    rw [if_neg (by omega), if_neg (by omega), if_neg (by omega), if_neg (by omega), if_neg (by omega), if_neg (by omega)]
/-- what holds where an ACT isn't refused -/
theorem aW_n {k : Nat} {a b : Int32} (h : aW fd st k a b = none) : 0 < (fd 0 0) ∧ (k ≤ 1 → pu_A fd st 0 ≠ 0) ∧ (k = 5 → ∃ c, c < 100 ∧ a = nI c) ∧ (k = 7 → ∃ j u, j < 3 ∧ a = nI j ∧ u < (fd 0 0) ∧ b = nI u ∧ st 3 j ≠ 10) ∧ (1 < k → k ≠ 5 → k ≠ 7 → ∃ u, u < (fd 0 0) ∧ a = nI u ∧ u < 2 ^ 31 ∧ (k = 4 → ∃ s, b = nI s ∧ pu_lo fd u ≤ s ∧ s < pu_up fd u) ∧ (k = 6 → pu_W fd ≠ 0) ∧ (7 < k → ∃ o, o < (fd 0 0) ∧ b = nI o ∧ o < 2 ^ 31 ∧ fd 3 u = fd 3 o)) := by
  unfold aW at h
  by_cases n0 : (fd 0 0) = 0
  · rw [if_pos n0] at h; cases h
  rw [if_neg n0] at h
  refine ⟨by omega, fun q => ?_, fun q => ?_, fun q => ?_, fun q q5 q7 => ?_⟩
  · rw [if_pos q] at h
    split at h
    · cases h
    · assumption
  · rw [if_neg (by omega), if_pos q] at h
    cases e : ix 100 a with
    | none => rw [e] at h; cases h
    | some c => exact ⟨c, (ix_s e).1, (ix_s e).2.1⟩
  · rw [if_neg (by omega), if_neg (by omega), if_pos q] at h
    cases e : ix 3 a with
    | none => rw [e] at h; cases h
    | some j =>
      rw [e] at h
      dsimp only at h
      cases e2 : ix (fd 0 0) b with
      | none => rw [e2] at h; cases h
      | some u =>
        rw [e2] at h
        dsimp only at h
        split at h
        · cases h
        · split at h
          · next q2 => exact ⟨j, u, (ix_s e).1, (ix_s e).2.1, (ix_s e2).1, (ix_s e2).2.1, q2.2⟩
          · cases h
  · rw [if_neg (by omega), if_neg q5, if_neg q7] at h
    cases e : ix (fd 0 0) a with
    | none => rw [e] at h; cases h
    | some u =>
      rw [e] at h
      dsimp only at h
      refine ⟨u, (ix_s e).1, (ix_s e).2.1, (ix_s e).2.2, fun z => ?_, fun z => ?_, fun z => ?_⟩
      · rw [if_neg (by omega), if_neg (by omega), if_pos z] at h
        cases e2 : ix ((fd 0 1) * (fd 0 2)) b with
        | none => rw [e2] at h; cases h
        | some s =>
          rw [e2] at h
          dsimp only at h
          split at h
          · next q2 => exact ⟨s, (ix_s e2).2.1, q2.1, q2.2⟩
          · cases h
      · rw [if_neg (by omega), if_neg (by omega), if_neg (by omega), if_pos z] at h
        split at h
        · cases h
        · assumption
      · rw [if_neg (by omega), if_neg (by omega), if_neg (by omega), if_neg (by omega)] at h
        cases e2 : ix (fd 0 0) b with
        | none => rw [e2] at h; cases h
        | some o =>
          rw [e2] at h
          dsimp only at h
          split at h
          · next q2 => exact ⟨o, (ix_s e2).1, (ix_s e2).2.1, (ix_s e2).2.2, q2⟩
          · cases h
theorem c_carryOut (h : cX fd st p w) (hp : p + 4 < 250) (hp2 : 18 < p) {k : Nat} (hk : k ≤ 8) {a b : Int32} (x : Int64) (ha : aW fd st k a b = none) : Wp (f_X2_carryOut p (nI k) a b x w) (fun q => q.1 = nI (aR fd st k (aN a) (aN b) x) ∧ cX fd (aS fd st k (aN a) (aN b) x) p q.2 ∧ eqy [p, p + 1, p + 3, p + 4, 250, 253, 254] [p + 2, 256] w q.2) := by
  obtain ⟨hn, w1, w5, w7, wu⟩ := aW_n ha
  clear ha
  have hF := h.1
  have hS := h.2.1
  have h10 := hF.1
  have hc := h.2.2.2.2
  have hA : ∀ q ∈ [11, 13, 14, 15, 18, 250, 253], q ∉ [p, p + 1, p + 3, p + 4] := fun q hq => by
    simp only [List.mem_cons, List.not_mem_nil, or_false] at hq ⊢
    omega
  have hk' : k = 0 ∨ k = 1 ∨ k = 2 ∨ k = 3 ∨ k = 4 ∨ k = 5 ∨ k = 6 ∨ k = 7 ∨ k = 8 := by omega
  unfold f_X2_carryOut
  rcases hk' with rfl | rfl | rfl | rfl | rfl | rfl | rfl | rfl | rfl
  · rw [if_pos (show nI 0 = (0 : Int32) from rfl)]
    rw [aR_st.1 rfl, aS_st.1 rfl]
    refine Wp.b2 ((c_stepOn h hp hp2 hn (w1 (by omega))).mono ?_)
    rintro ⟨r, w'⟩ ⟨h1, h2, h3⟩
    exact Wp.some ⟨h1, h2, (h3.up (by simp)).y⟩
  · rw [if_neg (show ¬ nI 1 = (0 : Int32) by decide), if_pos (show nI 1 = (1 : Int32) from rfl)]
    rw [aR_st.2.1 rfl, aS_st.2.1 rfl]
    refine Wp.b2 ((c_goRound h hp hp2 hn).mono ?_)
    rintro ⟨r, w'⟩ ⟨h1, h2, h3⟩
    exact Wp.some ⟨h1, h2, (h3.up (by simp)).y⟩
  · rw [if_neg (show ¬ nI 2 = (0 : Int32) by decide), if_neg (show ¬ nI 2 = (1 : Int32) by decide), if_pos (show nI 2 = (2 : Int32) from rfl)]
    obtain ⟨u, hu, rfl, hu31, -, -, -⟩ := wu (by omega) (by omega) (by omega)
    rw [aR_st.2.2.1 rfl, aS_st.2.2.1 rfl, aN_nI hu31, c_makeKnown h hu, pu_b2]
    have hy : eqy [p, p + 1, p + 3, p + 4] [p + 2, 256] w (am_pi w (p + 1) u (nI 3)) := eqy.pi (by simp)
    exact Wp.some ⟨rfl, h.mk' (upw_w hS hu (by omega)) hy hA hc.way, hy.up (by simp) (by simp)⟩
  · rw [if_neg (show ¬ nI 3 = (0 : Int32) by decide), if_neg (show ¬ nI 3 = (1 : Int32) by decide), if_neg (show ¬ nI 3 = (2 : Int32) by decide), if_pos (show nI 3 = (3 : Int32) from rfl)]
    obtain ⟨u, hu, rfl, hu31, -, -, -⟩ := wu (by omega) (by omega) (by omega)
    rw [aR_st.2.2.2.1 rfl, aS_st.2.2.2.1 rfl, aN_nI hu31, c_makeUnknown h hu, pu_b2]
    have hy : eqy [p, p + 1, p + 3, p + 4] [p + 2, 256] w (am_pi w (p + 1) u (nI 0)) := eqy.pi (by simp)
    exact Wp.some ⟨rfl, h.mk' (upw_w hS hu (by omega)) hy hA hc.way, hy.up (by simp) (by simp)⟩
  · rw [if_neg (show ¬ nI 4 = (0 : Int32) by decide), if_neg (show ¬ nI 4 = (1 : Int32) by decide), if_neg (show ¬ nI 4 = (2 : Int32) by decide), if_neg (show ¬ nI 4 = (3 : Int32) by decide), if_pos (show nI 4 = (4 : Int32) from rfl)]
    obtain ⟨u, hu, rfl, hu31, h4, -, -⟩ := wu (by omega) (by omega) (by omega)
    obtain ⟨s, rfl, b1, b2⟩ := h4 rfl
    obtain ⟨l1, l2, l3, l4⟩ := pu_lo_up hF hu
    have hT := pu_T48 hF
    rw [aR_st.2.2.2.2.2.2 (Or.inl rfl), aS_st.2.2.2.2.1 rfl, aN_nI hu31, aN_nI (show s < 2 ^ 31 by omega)]
    have h2 := hc.2.1 u (by omega)
    have hS2 : wS fd (upk st u (st 1 u ^^^ 2 ^ s)) := upk_w hS hu (fun i hi => by
      rw [Nat.testBit_xor, pu_p_bit] at hi
      by_cases e : s = i
      · subst e; exact ⟨b1, b2⟩
      · rw [decide_eq_false e, Bool.xor_false] at hi
        exact (hS.2.2.2.1 u i hi).2)
    have hy : eqy [p, p + 1, p + 3, p + 4] [p + 2, 256] w (am_pl w (p + 2) u (lN (st 1 u ^^^ 2 ^ s))) := eqy.pl (by simp)
    have ht := c_tail hF hS2 (hc.cop (u := u) (x := st 1 u ^^^ 2 ^ s)) (u := u) (by omega) (k := nI 4) (b := nI s) (x := x)
    have hl : am_lshl (1 : Int64) (nI s) = lN (2 ^ s) := ls_1 (by omega)
    rw [pu_chk _ (by omega) (by omega), pu_chk _ (by omega) (by omega), pu_cl hu31, h2, hl, fb_xorL, pu_v, ht]
    exact Wp.some ⟨rfl, h.mk' hS2 hy hA hc.cop, hy.up (by simp) (by simp)⟩
  · rw [if_neg (show ¬ nI 5 = (0 : Int32) by decide), if_neg (show ¬ nI 5 = (1 : Int32) by decide), if_neg (show ¬ nI 5 = (2 : Int32) by decide), if_neg (show ¬ nI 5 = (3 : Int32) by decide), if_neg (show ¬ nI 5 = (4 : Int32) by decide), if_pos (show nI 5 = (5 : Int32) from rfl)]
    obtain ⟨c, hc1, rfl⟩ := w5 rfl
    rw [aR_st.2.2.2.2.1 rfl, aS_st.2.2.2.2.2.1 rfl, aN_nI (show c < 2 ^ 31 by omega), c_setCapture h, pu_b2]
    have hy : eqy [p, p + 1, p + 3, p + 4] [p + 2, 256] w (am_pi w p 4 (nI c)) := eqy.pi (by simp)
    exact Wp.some ⟨rfl, h.mk' (upc_w hS (by omega)) hy hA hc.cap, hy.up (by simp) (by simp)⟩
  · rw [if_neg (show ¬ nI 6 = (0 : Int32) by decide), if_neg (show ¬ nI 6 = (1 : Int32) by decide), if_neg (show ¬ nI 6 = (2 : Int32) by decide), if_neg (show ¬ nI 6 = (3 : Int32) by decide), if_neg (show ¬ nI 6 = (4 : Int32) by decide), if_neg (show ¬ nI 6 = (5 : Int32) by decide), if_pos (show nI 6 = (6 : Int32) from rfl)]
    obtain ⟨u, hu, rfl, hu31, -, h6, -⟩ := wu (by omega) (by omega) (by omega)
    have hd := c_drawAnew h hp hp2 hu (h6 rfl) x
    rw [aR_st.2.2.2.2.2.2 (Or.inr (Or.inl rfl)), aS_st.2.2.2.2.2.2.1 rfl, aN_nI hu31]
    generalize pu_dw fd u x * 2 ^ pu_lo fd u = X at hd ⊢
    refine Wp.b1 (hd.mono ?_)
    rintro w' ⟨h1, h2⟩
    rw [c_tail hF h1.2.1 h1.2.2.2.2 (show u < 10 by omega)]
    exact Wp.some ⟨rfl, h1, h2.up (by simp) (by simp)⟩
  · rw [if_neg (show ¬ nI 7 = (0 : Int32) by decide), if_neg (show ¬ nI 7 = (1 : Int32) by decide), if_neg (show ¬ nI 7 = (2 : Int32) by decide), if_neg (show ¬ nI 7 = (3 : Int32) by decide), if_neg (show ¬ nI 7 = (4 : Int32) by decide), if_neg (show ¬ nI 7 = (5 : Int32) by decide), if_neg (show ¬ nI 7 = (6 : Int32) by decide), if_pos (show nI 7 = (7 : Int32) from rfl)]
    obtain ⟨j, u, hj, rfl, hu, rfl, hf⟩ := w7 rfl
    rw [aR_st.2.2.2.2.2.1 rfl, aS_st.2.2.2.2.2.2.2.1 rfl, aN_nI (show j < 2 ^ 31 by omega), aN_nI (show u < 2 ^ 31 by omega), c_putOnShelf h hj hf, pu_b2]
    have hy : eqy [p, p + 1, p + 3, p + 4] [p + 2, 256] w (am_pi (am_pi w (p + 3) (10 * j + st 3 j) (nI u)) (p + 4) j (nI (st 3 j + 1))) := (eqy.pi (by simp)).on (eqy.pi (by simp))
    exact Wp.some ⟨rfl, h.mk' (upf_w hS hf) hy hA (hc.file hj hS.2.2.2.2 hf), hy.up (by simp) (by simp)⟩
  · rw [if_neg (show ¬ nI 8 = (0 : Int32) by decide), if_neg (show ¬ nI 8 = (1 : Int32) by decide), if_neg (show ¬ nI 8 = (2 : Int32) by decide), if_neg (show ¬ nI 8 = (3 : Int32) by decide), if_neg (show ¬ nI 8 = (4 : Int32) by decide), if_neg (show ¬ nI 8 = (5 : Int32) by decide), if_neg (show ¬ nI 8 = (6 : Int32) by decide), if_neg (show ¬ nI 8 = (7 : Int32) by decide)]
    obtain ⟨u, hu, rfl, hu31, -, -, h8⟩ := wu (by omega) (by omega) (by omega)
    obtain ⟨o, ho, rfl, ho31, hm⟩ := h8 (by omega)
    rw [aR_st.2.2.2.2.2.2 (Or.inr (Or.inr rfl)), aS_st.2.2.2.2.2.2.2.2 rfl, aN_nI hu31, aN_nI ho31, c_exchange h hu ho, pu_b1]
    have el : pu_lo fd u = pu_lo fd o := by unfold pu_lo; rw [hm]
    have eu : pu_up fd u = pu_up fd o := by unfold pu_up; rw [hm]
    have hS1 : wS fd (upk st u (st 1 o)) := upk_w hS hu (fun i hi => by rw [el, eu]; exact (hS.2.2.2.1 o i hi).2)
    have hS2 : wS fd (upk (upk st u (st 1 o)) o (st 1 u)) := upk_w hS1 ho (fun i hi => by rw [← el, ← eu]; exact (hS.2.2.2.1 u i hi).2)
    have hy : eqy [p, p + 1, p + 3, p + 4] [p + 2, 256] w (am_pl (am_pl w (p + 2) u (lN (st 1 o))) (p + 2) o (lN (st 1 u))) := (eqy.pl (by simp)).on (eqy.pl (by simp))
    rw [c_tail hF hS2 hc.cop.cop (show u < 10 by omega)]
    exact Wp.some ⟨rfl, h.mk' hS2 hy hA hc.cop.cop, hy.up (by simp) (by simp)⟩
end DOF
