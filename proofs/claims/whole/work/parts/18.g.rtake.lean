/-! pure part: TAKE FIELD, the reference (wip/whole/pure/18.g.rtake.src) -/
def stU (p : Pt) (u : Nat) : Nat → Nat → Nat := fun a b => if a = 1 then (if b < u then pC p b else 0) else if a = 2 then p.2.1 2 else 0
def pM (p : Pt) (u : Nat) : Nat := p.2.2.2.1 u 3 ||| p.2.2.2.1 u 4 * 2 ^ p.2.1 0
def pY (M c j : Nat) : Nat := (M % 2 ^ j) * 2 ^ c
/-- what TAKE FIELD leaves, in the reference -/
def rtf (w w' : am_S) : Prop := (∀ q, q ∉ [271, 276, 277, 278, 281] → w'.1 q = w.1 q) ∧ (∀ k, k ≠ 13 → k ≠ 23 → k ≠ 29 → w'.1 271 k = w.1 271 k) ∧ w'.2.1 = w.2.1 ∧ ∀ q, q ≠ 283 → w'.2.2 q = w.2.2 q
section RTAKE
variable {fd st : Nat → Nat → Nat} {p : Pt} {w w' w'' : am_S} {T : Nat} {tp : Nat → Nat}
theorem rtf.rf : rtf w w := ⟨fun _ _ => rfl, fun _ _ _ _ => rfl, rfl, fun _ _ => rfl⟩
theorem rtf.on (h : rtf w w') (h2 : rtf w' w'') : rtf w w'' := ⟨fun q hq => (h2.1 q hq).trans (h.1 q hq), fun k k1 k2 k3 => (h2.2.1 k k1 k2 k3).trans (h.2.1 k k1 k2 k3), h2.2.2.1.trans h.2.2.1, fun q hq => (h2.2.2.2 q hq).trans (h.2.2.2 q hq)⟩
theorem rtf.x (h : eqx [276, 277, 278, 281] w w') : rtf w w' := ⟨fun q hq => h.2 q (fun e => hq (List.mem_cons_of_mem _ e)), fun k _ _ _ => by rw [h.2 271 (by decide)], h.l, fun q _ => by rw [h.f]⟩
theorem rtf.k {k : Nat} {v : Int32} (hk : k = 13 ∨ k = 23 ∨ k = 29) : rtf w (am_pi w 271 k v) := ⟨fun q hq => pi_p (fun e => hq (by rw [e]; simp)), fun j j1 j2 j3 => pi_k (by omega), rfl, fun _ _ => rfl⟩
theorem rtf.f {k : Nat} {v : UInt32} : rtf w (am_pf w 283 k v) := ⟨fun _ _ => rfl, fun _ _ _ _ => rfl, rfl, fun q hq => pf_p hq⟩
theorem r_turnC (h : rS st (w.1 281)) {u s : Nat} (hl : st 1 u < 2 ^ 48) (hu : u < 10) (hs : s < 48) : ∃ w', f_X12_turnCopy (nI u) (nI s) w = some w' ∧ rS (upk st u (st 1 u ^^^ 2 ^ s)) (w'.1 281) ∧ (∀ k, 30 ≤ k → w'.1 281 k = w.1 281 k) ∧ eqx [281] w w' := by
  have g2 := h.2.1 u hu
  have g3 := h.2.2.1 u hu
  by_cases c : 24 ≤ s
  · refine ⟨am_pi w 281 (20 + u) (nI (st 1 u / 2 ^ 24 ^^^ 2 ^ (s % 24))), ?_, h.cop hu ?_ ?_ (fun k k1 k2 => pi_k k2), fun k hk => pi_k (by omega), eqx.pi (by simp)⟩
    · unfold f_X12_turnCopy f_X12_turnCopy_17
      simp (disch := omega) only [pv_v, pv_b2, pv_b1, pv_x, pv_lit, pv_ofN, pu_chk, pu_cl, nI_add, pk_mul, nI_leI, nI_ltI, nI_eq, pu_nar0, pu_nar1, pu_narb, bI_0, bI_1, ↓reduceIte, pu_leT, pu_leF, pu_ltT, pu_ltF, pu_eqT, pu_eqF, pu_x1, pu_x2, pu_x3, pu_x4, pu_x5, pu_x6, pu_x7, pu_x8, Nat.zero_add, pu_m31I, pu_m31, pu_shlI, eq_self, Bool.false_eq_true, Bool.true_eq_false, g3, pk_rem, pu_xor]
    · rw [pi_k (by omega), g2, Nat.xor_mod_two_pow, Nat.mod_eq_zero_of_dvd (Nat.pow_dvd_pow 2 c), Nat.xor_zero]
    · rw [pi_same, Nat.xor_div_two_pow, Nat.pow_div c (by decide), show s % 24 = s - 24 by omega]
  · refine ⟨am_pi w 281 (10 + u) (nI (st 1 u % 2 ^ 24 ^^^ 2 ^ (s % 24))), ?_, h.cop hu ?_ ?_ (fun k k1 k2 => pi_k k1), fun k hk => pi_k (by omega), eqx.pi (by simp)⟩
    · unfold f_X12_turnCopy f_X12_turnCopy_17
      simp (disch := omega) only [pv_v, pv_b2, pv_b1, pv_x, pv_lit, pv_ofN, pu_chk, pu_cl, nI_add, pk_mul, nI_leI, nI_ltI, nI_eq, pu_nar0, pu_nar1, pu_narb, bI_0, bI_1, ↓reduceIte, pu_leT, pu_leF, pu_ltT, pu_ltF, pu_eqT, pu_eqF, pu_x1, pu_x2, pu_x3, pu_x4, pu_x5, pu_x6, pu_x7, pu_x8, Nat.zero_add, pu_m31I, pu_m31, pu_shlI, eq_self, Bool.false_eq_true, Bool.true_eq_false, g2, pk_rem, pu_xor]
    · rw [pi_same, Nat.xor_mod_two_pow, show s % 24 = s by omega, Nat.mod_eq_of_lt (Nat.pow_lt_pow_right (by decide) (show s < 24 by omega))]
    · rw [pi_k (by omega), g3, Nat.xor_div_two_pow, Nat.div_eq_of_lt (Nat.pow_lt_pow_right (by decide) (show s < 24 by omega)), Nat.xor_zero]
theorem pY_bit {M c j i : Nat} : (pY M c j).testBit i = (decide (c ≤ i) && (decide (i - c < j) && M.testBit (i - c))) := by
  unfold pY
  rw [Nat.mul_comm, Nat.testBit_two_pow_mul, Nat.testBit_mod_two_pow]
theorem pY_t {M c j : Nat} (h : M.testBit j = true) : pY M c j ^^^ 2 ^ (c + j) = pY M c (j + 1) := by
  apply Nat.eq_of_testBit_eq
  intro i
  rw [Nat.testBit_xor, pY_bit, pY_bit, pu_p_bit]
  by_cases c1 : c ≤ i
  · by_cases c2 : c + j = i
    · obtain rfl := c2
      rw [show c + j - c = j by omega, h]
      simp
    · by_cases c3 : i - c < j
      · rw [decide_eq_true c1, decide_eq_true c3, decide_eq_true (show i - c < j + 1 by omega), decide_eq_false c2]
        simp
      · rw [decide_eq_true c1, decide_eq_false c3, decide_eq_false (show ¬ i - c < j + 1 by omega), decide_eq_false c2]
        simp
  · rw [decide_eq_false c1, decide_eq_false (show ¬ c + j = i by omega)]
    simp
theorem pY_f {M c j : Nat} (h : M.testBit j = false) : pY M c j = pY M c (j + 1) := by
  apply Nat.eq_of_testBit_eq
  intro i
  rw [pY_bit, pY_bit]
  by_cases c3 : i - c < j
  · rw [decide_eq_true c3, decide_eq_true (show i - c < j + 1 by omega)]
  · by_cases c4 : i - c = j
    · rw [c4, h, Bool.and_false, Bool.and_false, Bool.and_false, Bool.and_false]
    · rw [decide_eq_false c3, decide_eq_false (show ¬ i - c < j + 1 by omega)]
theorem pY_z {M c : Nat} : pY M c 0 = 0 := by unfold pY; rw [Nat.pow_zero, Nat.mod_one, Nat.zero_mul]
theorem pY_e {M c j : Nat} (h : M < 2 ^ j) : pY M c j = M * 2 ^ c := by unfold pY; rw [Nat.mod_eq_of_lt h]
theorem pY_lt {M c j n : Nat} (h : M * 2 ^ c < n) : pY M c j < n := Nat.lt_of_le_of_lt (Nat.mul_le_mul_right _ (Nat.mod_le _ _)) h
theorem pM_lt (hp : pW p) (hw : whP p) {u : Nat} (hu : u < p.2.2.1) : p.2.2.2.1 u 3 < 2 ^ p.2.1 0 ∧ pM p u < 2 ^ (2 * p.2.1 0) := by
  have hk := hw.2 u hu
  unfold uok at hk
  rw [Bool.and_eq_true, Bool.and_eq_true, decide_eq_true_iff, decide_eq_true_iff, decide_eq_true_iff] at hk
  obtain ⟨k1, k2, k3⟩ := hk
  refine ⟨k2, ?_⟩
  have hpos : 0 < 2 ^ p.2.1 0 := Nat.pow_pos (by decide)
  have hB : p.2.2.2.1 u 4 < 2 ^ p.2.1 0 := by
    split at k3 <;> omega
  have e : 2 ^ (2 * p.2.1 0) = 2 ^ p.2.1 0 * 2 ^ p.2.1 0 := by rw [Nat.two_mul, Nat.pow_add]
  unfold pM
  refine Nat.or_lt_two_pow ?_ ?_
  · rw [e]
    exact Nat.lt_of_lt_of_le k2 (Nat.le_mul_of_pos_left _ hpos)
  · rw [e]
    exact Nat.mul_lt_mul_of_pos_right hB hpos
theorem pM_lo (hp : pW p) {u j : Nat} (hj : j < p.2.1 0) : (pM p u).testBit j = (p.2.2.2.1 u 3).testBit j := by
  unfold pM
  rw [Nat.testBit_or, Nat.mul_comm, Nat.testBit_two_pow_mul, decide_eq_false (by omega), Bool.false_and, Bool.or_false]
theorem pM_hi {u : Nat} (h : p.2.2.2.1 u 3 < 2 ^ p.2.1 0) {j : Nat} (hj : p.2.1 0 ≤ j) : (pM p u).testBit j = (p.2.2.2.1 u 4).testBit (j - p.2.1 0) := by
  unfold pM
  rw [Nat.testBit_or, Nat.mul_comm, Nat.testBit_two_pow_mul, decide_eq_true (by omega), Bool.true_and, pu_hi h hj, Bool.false_or]
theorem upk_upk {u x y : Nat} : upk (upk st u x) u y = upk st u y := by
  funext a b
  unfold upk
  split <;> rfl
theorem stU_s {u : Nat} : upk (stU p u) u (pC p u) = stU p (u + 1) := by
  funext a b
  unfold upk stU
  by_cases c : a = 1
  · by_cases d : b = u
    · rw [if_pos ⟨c, d⟩, if_pos c, if_pos (by omega), d]
    · rw [if_neg (fun e => d e.2), if_pos c, if_pos c]
      by_cases e : b < u
      · rw [if_pos e, if_pos (by omega)]
      · rw [if_neg e, if_neg (by omega)]
  · rw [if_neg (fun e => c e.1), if_neg c, if_neg c]
theorem stU_e : stU p p.2.2.1 = pS p := by
  funext a b
  unfold stU pS
  by_cases c : a = 1
  · rw [if_pos c, if_pos c]
    split
    · rfl
    · next h => unfold pC; rw [if_neg h]
  · rw [if_neg c, if_neg c]
theorem stU_z {u : Nat} : upk (stU p u) u 0 = stU p u := by
  funext a b
  unfold upk stU
  by_cases c : a = 1 ∧ b = u
  · rw [if_pos c, if_pos c.1, if_neg (by omega)]
  · rw [if_neg c]
theorem r_take227 (hp : pW p) (hw : whP p) {u : Nat} (hu : u < p.2.2.1) (g1 : ∀ k, k < 4 → w.1 276 k = nI (p.2.1 k)) (g2 : ∀ v, v < p.2.2.1 → ∀ k, k < 5 → w.1 277 (5 * v + k) = nI (p.2.2.2.1 v k)) (hr : rS (stU p u) (w.1 281)) : Wp (f_X12_takeField_227 (nI u) (nI 0) w) (fun q => ∃ w', q = .inr (nI (u + 1), w') ∧ rS (stU p (u + 1)) (w'.1 281) ∧ (∀ k, 30 ≤ k → w'.1 281 k = w.1 281 k) ∧ eqx [281] w w') := by
  have hu10 := hp.1
  have s0 : 2 ≤ p.2.1 0 ∧ p.2.1 0 ≤ 12 := hp.2.2.1 0 (by omega)
  have b3 : p.2.2.2.1 u 3 ≤ 4095 := (hp.2.2.2.1 u hu 3 (by omega)).2
  have b4 : p.2.2.2.1 u 4 ≤ 4095 := (hp.2.2.2.1 u hu 4 (by omega)).2
  have b2 : p.2.2.2.1 u 2 ≤ 3 := (hp.2.2.2.1 u hu 2 (by omega)).2
  have hlo : p.2.2.2.1 u 2 * p.2.1 0 ≤ 3 * 12 := Nat.mul_le_mul b2 s0.2
  obtain ⟨m1, m2⟩ := pM_lt hp hw hu
  have hC : pM p u * 2 ^ (p.2.2.2.1 u 2 * p.2.1 0) = pC p u := by unfold pC pM; rw [if_pos hu]
  have hF := pF_w hp hw
  have hSw := pS_w hp hw
  have hlt : pC p u < 2 ^ 48 := wS_lt hF hSw u
  unfold f_X12_takeField_227
  refine Wp.for (fun j w => (nI j, w)) (fun j w' => eqx [281] w w' ∧ (∀ k, 30 ≤ k → w'.1 281 k = w.1 281 k) ∧ rS (upk (stU p u) u (pY (pM p u) (p.2.2.2.1 u 2 * p.2.1 0) j)) (w'.1 281)) (2 * p.2.1 0) (by omega) rfl ⟨eqx.rf, fun _ _ => rfl, by rw [pY_z, stU_z]; exact hr⟩ (fun j w' hj hI => ?_) (fun w' hI => ?_)
  · obtain ⟨i1, i2, i3⟩ := hI
    have e0 : w'.1 276 0 = nI (p.2.1 0) := i1.t (g1 0 (by omega)) (by decide)
    have e2 : w'.1 277 (5 * u + 2) = nI (p.2.2.2.1 u 2) := i1.t (g2 u hu 2 (by omega)) (by decide)
    have e3 : w'.1 277 (5 * u + 3) = nI (p.2.2.2.1 u 3) := i1.t (g2 u hu 3 (by omega)) (by decide)
    have e4 : w'.1 277 (5 * u + 4) = nI (p.2.2.2.1 u 4) := i1.t (g2 u hu 4 (by omega)) (by decide)
    have key : f_X12_takeField_227b (nI u) (nI j) w' = f_X12_takeField_287 (nI u) (nI j) (bI ((pM p u).testBit j)) w' := by
      unfold f_X12_takeField_227b
      by_cases c : p.2.1 0 ≤ j
      · rw [pM_hi m1 c]
        simp (disch := omega) only [pv_v, pv_b2, pv_b1, pv_x, pv_lit, pv_ofN, pu_chk, pu_cl, nI_add, pk_mul, nI_leI, nI_ltI, nI_eq, pu_nar0, pu_nar1, pu_narb, bI_0, bI_1, ↓reduceIte, pu_leT, pu_leF, pu_ltT, pu_ltF, pu_eqT, pu_eqF, pu_x1, pu_x2, pu_x3, pu_x4, pu_x5, pu_x6, pu_x7, pu_x8, Nat.zero_add, pu_m31I, pu_m31, pu_shlI, eq_self, Bool.false_eq_true, Bool.true_eq_false, e0, e4, pk_sub, r_has]
      · rw [pM_lo hp (by omega)]
        simp (disch := omega) only [pv_v, pv_b2, pv_b1, pv_x, pv_lit, pv_ofN, pu_chk, pu_cl, nI_add, pk_mul, nI_leI, nI_ltI, nI_eq, pu_nar0, pu_nar1, pu_narb, bI_0, bI_1, ↓reduceIte, pu_leT, pu_leF, pu_ltT, pu_ltF, pu_eqT, pu_eqF, pu_x1, pu_x2, pu_x3, pu_x4, pu_x5, pu_x6, pu_x7, pu_x8, Nat.zero_add, pu_m31I, pu_m31, pu_shlI, eq_self, Bool.false_eq_true, Bool.true_eq_false, e0, e3, r_has]
    cases hb : (pM p u).testBit j
    · refine Wp.ofr (a := (nI (j + 1), w')) ?_ ⟨_, rfl, i1, i2, by rw [← pY_f hb]; exact i3⟩
      rw [key, hb]
      unfold f_X12_takeField_287 f_X12_takeField_318
      simp (disch := omega) only [pv_v, pv_b2, pv_b1, pv_x, pv_lit, pv_ofN, pu_chk, pu_cl, nI_add, pk_mul, nI_leI, nI_ltI, nI_eq, pu_nar0, pu_nar1, pu_narb, bI_0, bI_1, ↓reduceIte, pu_leT, pu_leF, pu_ltT, pu_ltF, pu_eqT, pu_eqF, pu_x1, pu_x2, pu_x3, pu_x4, pu_x5, pu_x6, pu_x7, pu_x8, Nat.zero_add, pu_m31I, pu_m31, pu_shlI, eq_self, Bool.false_eq_true, Bool.true_eq_false]
    · have hbit : (pC p u).testBit (p.2.2.2.1 u 2 * p.2.1 0 + j) = true := by
        rw [← hC, Nat.mul_comm _ (2 ^ _), Nat.testBit_two_pow_mul, decide_eq_true (by omega), Bool.true_and, Nat.add_sub_cancel_left]
        exact hb
      have hs : p.2.2.2.1 u 2 * p.2.1 0 + j < 48 := by
        rcases Nat.lt_or_ge (p.2.2.2.1 u 2 * p.2.1 0 + j) 48 with c | c
        · exact c
        · rw [pu_hi hlt c] at hbit; cases hbit
      have hcu : (upk (stU p u) u (pY (pM p u) (p.2.2.2.1 u 2 * p.2.1 0) j)) 1 u = pY (pM p u) (p.2.2.2.1 u 2 * p.2.1 0) j := upk_same
      obtain ⟨w2, t1, t2, t3, t4⟩ := r_turnC i3 (u := u) (s := p.2.2.2.1 u 2 * p.2.1 0 + j) (by rw [hcu]; exact pY_lt (by rw [hC]; exact hlt)) (by omega) hs
      rw [hcu, upk_upk, pY_t hb] at t2
      refine Wp.ofr (a := (nI (j + 1), w2)) ?_ ⟨_, rfl, i1.on t4, fun k hk => (t3 k hk).trans (i2 k hk), t2⟩
      have e5 : p.2.1 0 * p.2.2.2.1 u 2 = p.2.2.2.1 u 2 * p.2.1 0 := Nat.mul_comm _ _
      rw [key, hb]
      unfold f_X12_takeField_287 f_X12_takeField_318
      simp (disch := omega) only [pv_v, pv_b2, pv_b1, pv_x, pv_lit, pv_ofN, pu_chk, pu_cl, nI_add, pk_mul, nI_leI, nI_ltI, nI_eq, pu_nar0, pu_nar1, pu_narb, bI_0, bI_1, ↓reduceIte, pu_leT, pu_leF, pu_ltT, pu_ltF, pu_eqT, pu_eqF, pu_x1, pu_x2, pu_x3, pu_x4, pu_x5, pu_x6, pu_x7, pu_x8, Nat.zero_add, pu_m31I, pu_m31, pu_shlI, eq_self, Bool.false_eq_true, Bool.true_eq_false, e0, e2, e5, t1, bI_1, pu_x2]
  · obtain ⟨i1, i2, i3⟩ := hI
    have e0 : w'.1 276 0 = nI (p.2.1 0) := i1.t (g1 0 (by omega)) (by decide)
    rw [pY_e m2, hC, stU_s] at i3
    refine Wp.ofl (a := .inr (nI (u + 1), w')) ?_ ⟨w', rfl, i3, i2, i1⟩
    unfold f_X12_takeField_227b
    simp (disch := omega) only [pv_v, pv_b2, pv_b1, pv_x, pv_lit, pv_ofN, pu_chk, pu_cl, nI_add, pk_mul, nI_leI, nI_ltI, nI_eq, pu_nar0, pu_nar1, pu_narb, bI_0, bI_1, ↓reduceIte, pu_leT, pu_leF, pu_ltT, pu_ltF, pu_eqT, pu_eqF, pu_x1, pu_x2, pu_x3, pu_x4, pu_x5, pu_x6, pu_x7, pu_x8, Nat.zero_add, pu_m31I, pu_m31, pu_shlI, eq_self, Bool.false_eq_true, Bool.true_eq_false, e0]
end RTAKE
