/-! pure part: reading the TAPE, the reference (wip/whole/pure/17.b.rtape.src) -/
section RTAPE
variable {T : Nat} {tp : Nat → Nat} {w w' : am_S} {i j : Nat}
/-- only where the TAPE is read, and the FAULT, have changed -/
def r1 (w w' : am_S) : Prop := (∀ k, k ≠ 3 → k ≠ 4 → w'.1 271 k = w.1 271 k) ∧ eqx [271] w w'
theorem r1.on {w'' : am_S} (h : r1 w w') (h2 : r1 w' w'') : r1 w w'' := ⟨fun k h3 h4 => (h2.1 k h3 h4).trans (h.1 k h3 h4), h.2.on h2.2⟩
theorem r1.rf : r1 w w := ⟨fun _ _ _ => rfl, eqx.rf⟩
theorem r1.pi {k : Nat} {v : Int32} (h : k = 3 ∨ k = 4) : r1 w (am_pi w 271 k v) := ⟨fun j h3 h4 => pi_k (by omega), eqx.pi (by simp)⟩
theorem r1.t (h : r1 w w') (ht : rTp T tp w) : rTp T tp w' := ht.fr (h.1 2 (by omega) (by omega)) (h.2.r (by decide))
theorem sI_eq {c : Nat} {m : Nat} (hc : c < 2 ^ 31) (hm : 0 < m) (hm2 : m < 2 ^ 31) : (sI c = nI m) = (c = m) := by
  unfold sI
  apply propext
  split
  · next e => subst e; exact ⟨fun q => absurd q.symm (pu_ne1 hm2), fun q => absurd q (by omega)⟩
  · exact nI_eq hc hm2
theorem sI_m1 {c : Nat} (hc : c < 2 ^ 31) : (sI c = -nI 1) = (c = 0) := by
  unfold sI
  apply propext
  split
  · next e => exact ⟨fun _ => e, fun _ => rfl⟩
  · next e => exact ⟨fun q => absurd q (pu_ne1 hc), fun q => absurd q e⟩
theorem r_here (hT : tW T tp) (h : rTp T tp w) (hi : i ≤ T) (ha : w.1 271 3 = nI i) : f_X12_here w = some (sI (sg T tp i), w) := by
  have hT1 := hT.1
  unfold f_X12_here f_X12_here_24
  rcases Nat.lt_or_ge i T with c | c
  · have b2 := h.2 i c
    have b3 := hT.2 i c
    have e0 : sI (tp i) = nI (tp i) := if_neg (by omega)
    rw [sg_in c, e0]
    simp (disch := omega) only [pv_v, pv_b2, pv_b1, pv_x, pv_lit, pv_ofN, pu_chk, pu_cl, nI_add, pk_mul, nI_leI, nI_ltI, nI_eq, pu_nar0, pu_nar1, pu_narb, bI_0, bI_1, ↓reduceIte, pu_leT, pu_leF, pu_ltT, pu_ltF, pu_eqT, pu_eqF, pu_x1, pu_x2, pu_x3, pu_x4, pu_x5, pu_x6, pu_x7, pu_x8, Nat.zero_add, pu_m31I, pu_m31, pu_shlI, eq_self, Bool.false_eq_true, Bool.true_eq_false, ha, h.1, b2]
  · have e0 : sg T tp i = 0 := (sg_0 hT).mpr c
    rw [e0]
    simp (disch := omega) only [pv_v, pv_b2, pv_b1, pv_x, pv_lit, pv_ofN, pu_chk, pu_cl, nI_add, pk_mul, nI_leI, nI_ltI, nI_eq, pu_nar0, pu_nar1, pu_narb, bI_0, bI_1, ↓reduceIte, pu_leT, pu_leF, pu_ltT, pu_ltF, pu_eqT, pu_eqF, pu_x1, pu_x2, pu_x3, pu_x4, pu_x5, pu_x6, pu_x7, pu_x8, Nat.zero_add, pu_m31I, pu_m31, pu_shlI, eq_self, Bool.false_eq_true, Bool.true_eq_false, ha, h.1]
    rfl
theorem r_isDigit {c : Nat} (hc : c < 256) : f_X12_isDigit (sI c) w = some (bI (isDg c), w) := by
  unfold f_X12_isDigit f_X12_isDigit_16 f_X12_isDigit_17 isDg
  by_cases z0 : c = 0
  · subst z0
    rfl
  · have e0 : sI c = nI c := if_neg z0
    rw [e0]
    by_cases e : 48 ≤ c
    · by_cases e2 : c ≤ 57
      · rw [decide_eq_true e, decide_eq_true e2]
        simp (disch := omega) only [pv_v, pv_b2, pv_b1, pv_x, pv_lit, pv_ofN, pu_chk, pu_cl, nI_add, pk_mul, nI_leI, nI_ltI, nI_eq, pu_nar0, pu_nar1, pu_narb, bI_0, bI_1, ↓reduceIte, pu_leT, pu_leF, pu_ltT, pu_ltF, pu_eqT, pu_eqF, pu_x1, pu_x2, pu_x3, pu_x4, pu_x5, pu_x6, pu_x7, pu_x8, Nat.zero_add, pu_m31I, pu_m31, pu_shlI, eq_self, Bool.false_eq_true, Bool.true_eq_false]
        rfl
      · rw [decide_eq_true e, decide_eq_false e2]
        simp (disch := omega) only [pv_v, pv_b2, pv_b1, pv_x, pv_lit, pv_ofN, pu_chk, pu_cl, nI_add, pk_mul, nI_leI, nI_ltI, nI_eq, pu_nar0, pu_nar1, pu_narb, bI_0, bI_1, ↓reduceIte, pu_leT, pu_leF, pu_ltT, pu_ltF, pu_eqT, pu_eqF, pu_x1, pu_x2, pu_x3, pu_x4, pu_x5, pu_x6, pu_x7, pu_x8, Nat.zero_add, pu_m31I, pu_m31, pu_shlI, eq_self, Bool.false_eq_true, Bool.true_eq_false]
        rfl
    · rw [decide_eq_false e]
      simp (disch := omega) only [pv_v, pv_b2, pv_b1, pv_x, pv_lit, pv_ofN, pu_chk, pu_cl, nI_add, pk_mul, nI_leI, nI_ltI, nI_eq, pu_nar0, pu_nar1, pu_narb, bI_0, bI_1, ↓reduceIte, pu_leT, pu_leF, pu_ltT, pu_ltF, pu_eqT, pu_eqF, pu_x1, pu_x2, pu_x3, pu_x4, pu_x5, pu_x6, pu_x7, pu_x8, Nat.zero_add, pu_m31I, pu_m31, pu_shlI, eq_self, Bool.false_eq_true, Bool.true_eq_false]
      rfl
theorem r_next (hT : tW T tp) (h : rTp T tp w) (hi : i ≤ T) (ha : w.1 271 3 = nI i) : Wp (f_X12_ahead w) (fun q => q.1 = sI (sg T tp (nB T tp i)) ∧ q.2.1 271 3 = nI (nB T tp i) ∧ q.2.1 271 4 = w.1 271 4 ∧ r1 w q.2) := by
  have hT1 := hT.1
  unfold f_X12_ahead f_X12_ahead_0
  refine Wp.loop (fun j s => s.1 271 3 = nI (i + j) ∧ i + j ≤ T ∧ (∀ k, i ≤ k → k < i + j → tp k = 32) ∧ s.1 271 4 = w.1 271 4 ∧ r1 w s) (T - i) (by omega) ⟨ha, hi, fun k k1 k2 => absurd k2 (by omega), rfl, r1.rf⟩ ?_
  rintro j s hj ⟨a1, a2, a3, a4, a5⟩
  have b1 := r_here hT (a5.t h) a2 a1
  have b2 := sg_lt hT (i := i + j)
  unfold f_X12_ahead_0b
  by_cases e : sg T tp (i + j) = 32
  · have c : i + j < T := by
      rcases Nat.lt_or_ge (i + j) T with c | c
      · exact c
      · have := (sg_0 hT).mpr c; omega
    have e' : tp (i + j) = 32 := by rw [← sg_in (tp := tp) c]; exact e
    have es : sI (sg T tp (i + j)) = nI 32 := by rw [e]; rfl
    conv => arg 1; simp (disch := omega) only [pv_v, pv_b2, pv_b1, pv_x, pv_lit, pv_ofN, pu_chk, pu_cl, nI_add, pk_mul, nI_leI, nI_ltI, nI_eq, pu_nar0, pu_nar1, pu_narb, bI_0, bI_1, ↓reduceIte, pu_leT, pu_leF, pu_ltT, pu_ltF, pu_eqT, pu_eqF, pu_x1, pu_x2, pu_x3, pu_x4, pu_x5, pu_x6, pu_x7, pu_x8, Nat.zero_add, pu_m31I, pu_m31, pu_shlI, eq_self, Bool.false_eq_true, Bool.true_eq_false, b1, es, a1]
    refine Wp.some ⟨by omega, by rw [pi_same, Nat.add_assoc], by omega, fun k k1 k2 => ?_, by rw [pi_k (by omega)]; exact a4, a5.on (r1.pi (by omega))⟩
    by_cases q : k = i + j
    · rw [q]; exact e'
    · exact a3 k k1 (by omega)
  · have en : nB T tp i = i + j := nB_is a3 a2 (by
      rcases Nat.lt_or_ge (i + j) T with c | c
      · right; rw [← sg_in (tp := tp) c]; exact e
      · left; omega)
    have es : (sI (sg T tp (i + j)) = nI 32) = False := by rw [sI_eq (by omega) (by omega) (by omega)]; exact eq_false e
    conv => arg 1; simp (disch := omega) only [pv_v, pv_b2, pv_b1, pv_x, pv_lit, pv_ofN, pu_chk, pu_cl, nI_add, pk_mul, nI_leI, nI_ltI, nI_eq, pu_nar0, pu_nar1, pu_narb, bI_0, bI_1, ↓reduceIte, pu_leT, pu_leF, pu_ltT, pu_ltF, pu_eqT, pu_eqF, pu_x1, pu_x2, pu_x3, pu_x4, pu_x5, pu_x6, pu_x7, pu_x8, Nat.zero_add, pu_m31I, pu_m31, pu_shlI, eq_self, Bool.false_eq_true, Bool.true_eq_false, b1, es]
    exact Wp.some ⟨by rw [en], by rw [en]; exact a1, a4, a5⟩
theorem r_bad (ha : w.1 271 3 = nI i) (hw : w.1 271 4 = -nI 1) : f_X12_bad w = some (am_pi w 271 4 (nI i)) := by
  unfold f_X12_bad f_X12_bad_20
  simp (disch := omega) only [pv_v, pv_b2, pv_b1, pv_x, pv_lit, pv_ofN, pu_chk, pu_cl, nI_add, pk_mul, nI_leI, nI_ltI, nI_eq, pu_nar0, pu_nar1, pu_narb, bI_0, bI_1, ↓reduceIte, pu_leT, pu_leF, pu_ltT, pu_ltF, pu_eqT, pu_eqF, pu_x1, pu_x2, pu_x3, pu_x4, pu_x5, pu_x6, pu_x7, pu_x8, Nat.zero_add, pu_m31I, pu_m31, pu_shlI, eq_self, Bool.false_eq_true, Bool.true_eq_false, ha, hw]
theorem r_in2 {a b c : Nat} (ha : a < 2 ^ 31) (hb : b < 2 ^ 31) (hc : c < 2 ^ 31) : f_X12_in (nI a) (nI b) (nI c) w = some (bI (decide (b ≤ a ∧ a ≤ c)), w) := r_in ha hb hc
theorem r_number66 (hT : tW T tp) (h : rTp T tp w) {v e : Nat} (he : e ≤ T) (he0 : 0 < e) (ha : w.1 271 3 = nI e) (hw : w.1 271 4 = -nI 1) (hv : v < 2 ^ 30) {lo hh : Nat} (hlo : lo < 2 ^ 30) (hhh : hh < 2 ^ 30) : Wp (f_X12_number_66 (nI lo) (nI hh) (nI v) w) (fun q => q.1 = nI (nMr T tp lo hh (v, e)).2.2 ∧ q.2.1 271 3 = nI (nMr T tp lo hh (v, e)).2.1 ∧ q.2.1 271 4 = (if (nMr T tp lo hh (v, e)).1 then -nI 1 else nI (nMr T tp lo hh (v, e)).2.1) ∧ r1 w q.2) := by
  have hT1 := hT.1
  have b1 := r_here hT h he ha
  have b2 := r_isDigit (w := w) (sg_lt hT (i := e))
  unfold f_X12_number_66 f_X12_number_106
  cases e2 : isDg (sg T tp e) with
  | true =>
    rw [e2] at b2
    rw [nMr_1 e2]
    conv => arg 1; simp (disch := omega) only [pv_v, pv_b2, pv_b1, pv_x, pv_lit, pv_ofN, pu_chk, pu_cl, nI_add, pk_mul, nI_leI, nI_ltI, nI_eq, pu_nar0, pu_nar1, pu_narb, bI_0, bI_1, ↓reduceIte, pu_leT, pu_leF, pu_ltT, pu_ltF, pu_eqT, pu_eqF, pu_x1, pu_x2, pu_x3, pu_x4, pu_x5, pu_x6, pu_x7, pu_x8, Nat.zero_add, pu_m31I, pu_m31, pu_shlI, eq_self, Bool.false_eq_true, Bool.true_eq_false, b1, b2, r_bad ha hw]
    exact Wp.some ⟨rfl, by rw [pi_k (by omega)]; exact ha, pi_same, r1.pi (by omega)⟩
  | false =>
    rw [e2] at b2
    have b3 := r_in2 (w := w) (a := v) (b := lo) (c := hh) (by omega) (by omega) (by omega)
    by_cases c : lo ≤ v ∧ v ≤ hh
    · rw [nMr_2 e2 c]
      rw [decide_eq_true c] at b3
      conv => arg 1; simp (disch := omega) only [pv_v, pv_b2, pv_b1, pv_x, pv_lit, pv_ofN, pu_chk, pu_cl, nI_add, pk_mul, nI_leI, nI_ltI, nI_eq, pu_nar0, pu_nar1, pu_narb, bI_0, bI_1, ↓reduceIte, pu_leT, pu_leF, pu_ltT, pu_ltF, pu_eqT, pu_eqF, pu_x1, pu_x2, pu_x3, pu_x4, pu_x5, pu_x6, pu_x7, pu_x8, Nat.zero_add, pu_m31I, pu_m31, pu_shlI, eq_self, Bool.false_eq_true, Bool.true_eq_false, b1, b2, b3]
      exact Wp.some ⟨rfl, ha, hw, r1.rf⟩
    · rw [nMr_3 e2 c]
      rw [decide_eq_false c] at b3
      have b4 := r_bad (w := am_pi w 271 3 (nI (e - 1))) (i := e - 1) pi_same (by rw [pi_k (by omega)]; exact hw)
      conv => arg 1; simp (disch := omega) only [pv_v, pv_b2, pv_b1, pv_x, pv_lit, pv_ofN, pu_chk, pu_cl, nI_add, pk_mul, nI_leI, nI_ltI, nI_eq, pu_nar0, pu_nar1, pu_narb, bI_0, bI_1, ↓reduceIte, pu_leT, pu_leF, pu_ltT, pu_ltF, pu_eqT, pu_eqF, pu_x1, pu_x2, pu_x3, pu_x4, pu_x5, pu_x6, pu_x7, pu_x8, Nat.zero_add, pu_m31I, pu_m31, pu_shlI, eq_self, Bool.false_eq_true, Bool.true_eq_false, b1, b2, b3, ha, pk_sub, b4]
      exact Wp.some ⟨rfl, by rw [pi_k (by omega), pi_same], pi_same, (r1.pi (by omega)).on (r1.pi (by omega))⟩
theorem r_number (hT : tW T tp) (h : rTp T tp w) (hi : i ≤ T) (ha : w.1 271 3 = nI i) (hw : w.1 271 4 = -nI 1) {lo hh : Nat} (hlo : lo < 2 ^ 30) (hhh : hh < 2 ^ 30) : Wp (f_X12_number (nI lo) (nI hh) w) (fun q => q.1 = nI (nM T tp lo hh i).2.2 ∧ q.2.1 271 3 = nI (nM T tp lo hh i).2.1 ∧ q.2.1 271 4 = (if (nM T tp lo hh i).1 then -nI 1 else nI (nM T tp lo hh i).2.1) ∧ r1 w q.2) := by
  have hT1 := hT.1
  have hn := nB_le (tp := tp) hi
  unfold f_X12_number
  obtain ⟨⟨r, w1⟩, t1, t2, t3, t4, t5⟩ := r_next hT h hi ha
  have t2 : r = sI (sg T tp (nB T tp i)) := t2
  subst t2
  have t3 : w1.1 271 3 = nI (nB T tp i) := t3
  have t4' : w1.1 271 4 = -nI 1 := t4.trans hw
  clear t4
  have t5 : r1 w w1 := t5
  have d1 := r_isDigit (w := w1) (sg_lt hT (i := nB T tp i))
  unfold nM
  generalize nB T tp i = j at *
  cases e : isDg (sg T tp j) with
  | false =>
    rw [e] at d1
    rw [if_neg (by decide)]
    conv => arg 1; simp (disch := omega) only [pv_v, pv_b2, pv_b1, pv_x, pv_lit, pv_ofN, pu_chk, pu_cl, nI_add, pk_mul, nI_leI, nI_ltI, nI_eq, pu_nar0, pu_nar1, pu_narb, bI_0, bI_1, ↓reduceIte, pu_leT, pu_leF, pu_ltT, pu_ltF, pu_eqT, pu_eqF, pu_x1, pu_x2, pu_x3, pu_x4, pu_x5, pu_x6, pu_x7, pu_x8, Nat.zero_add, pu_m31I, pu_m31, pu_shlI, eq_self, Bool.false_eq_true, Bool.true_eq_false, t1, d1, r_bad t3 t4']
    exact Wp.some ⟨rfl, by rw [pi_k (by omega)]; exact t3, pi_same, t5.on (r1.pi (by omega))⟩
  | true =>
    rw [e] at d1
    rw [if_pos rfl]
    conv => arg 1; simp (disch := omega) only [pv_v, pv_b2, pv_b1, pv_x, pv_lit, pv_ofN, pu_chk, pu_cl, nI_add, pk_mul, nI_leI, nI_ltI, nI_eq, pu_nar0, pu_nar1, pu_narb, bI_0, bI_1, ↓reduceIte, pu_leT, pu_leF, pu_ltT, pu_ltF, pu_eqT, pu_eqF, pu_x1, pu_x2, pu_x3, pu_x4, pu_x5, pu_x6, pu_x7, pu_x8, Nat.zero_add, pu_m31I, pu_m31, pu_shlI, eq_self, Bool.false_eq_true, Bool.true_eq_false, t1, d1]
    unfold f_X12_number_21
    refine Wp.loop (fun k s => ∃ w' v, s = (nI v, nI k, w') ∧ k ≤ 4 ∧ j + k ≤ T ∧ w'.1 271 3 = nI (j + k) ∧ w'.1 271 4 = -nI 1 ∧ v < 10 ^ k ∧ ng T tp (4 - k) v (j + k) = ng T tp 4 0 j ∧ r1 w w') 4 (by decide) ⟨w1, 0, rfl, by omega, hn.2, t3, t4', by decide, rfl, t5⟩ ?_
    rintro k s hk ⟨w', v, rfl, k4, a1, a2, a3, a4, a5, a6⟩
    have d2 := r_isDigit (w := w') (sg_lt hT (i := j + k))
    have h2 := r_here hT (a6.t h) a1 a2
    have hv4 : v < 10000 := Nat.lt_of_lt_of_le a4 (Nat.pow_le_pow_right (n := 10) (by decide) k4)
    have hk0 : 0 < j + k ∨ isDg (sg T tp (j + k)) = true := by
      rcases Nat.eq_zero_or_pos k with c | c
      · right; subst c; exact e
      · left; omega
    unfold f_X12_number_21b
    by_cases k5 : k = 4
    · subst k5
      have en : ng T tp 4 0 j = (v, j + 4) := a5.symm
      rw [en]
      conv => arg 1; simp (disch := omega) only [pv_v, pv_b2, pv_b1, pv_x, pv_lit, pv_ofN, pu_chk, pu_cl, nI_add, pk_mul, nI_leI, nI_ltI, nI_eq, pu_nar0, pu_nar1, pu_narb, bI_0, bI_1, ↓reduceIte, pu_leT, pu_leF, pu_ltT, pu_ltF, pu_eqT, pu_eqF, pu_x1, pu_x2, pu_x3, pu_x4, pu_x5, pu_x6, pu_x7, pu_x8, Nat.zero_add, pu_m31I, pu_m31, pu_shlI, eq_self, Bool.false_eq_true, Bool.true_eq_false]
      refine Wp.x ((r_number66 hT (a6.t h) a1 (by omega) a2 a3 (by omega) hlo hhh).mono (fun q hq => ⟨hq.1, hq.2.1, hq.2.2.1, a6.on hq.2.2.2⟩))
    · cases e2 : isDg (sg T tp (j + k)) with
      | false =>
        rw [e2] at d2 hk0
        have en : ng T tp 4 0 j = (v, j + k) := by
          rw [← a5, show 4 - k = (3 - k) + 1 by omega, ng, e2]; rfl
        rw [en]
        conv => arg 1; simp (disch := omega) only [pv_v, pv_b2, pv_b1, pv_x, pv_lit, pv_ofN, pu_chk, pu_cl, nI_add, pk_mul, nI_leI, nI_ltI, nI_eq, pu_nar0, pu_nar1, pu_narb, bI_0, bI_1, ↓reduceIte, pu_leT, pu_leF, pu_ltT, pu_ltF, pu_eqT, pu_eqF, pu_x1, pu_x2, pu_x3, pu_x4, pu_x5, pu_x6, pu_x7, pu_x8, Nat.zero_add, pu_m31I, pu_m31, pu_shlI, eq_self, Bool.false_eq_true, Bool.true_eq_false, h2, d2]
        refine Wp.x ((r_number66 hT (a6.t h) a1 (by rcases hk0 with c | c; exact c; cases c) a2 a3 (by omega) hlo hhh).mono (fun q hq => ⟨hq.1, hq.2.1, hq.2.2.1, a6.on hq.2.2.2⟩))
      | true =>
        rw [e2] at d2
        obtain ⟨s1, s2, s3⟩ := sg_d e2
        have es : sI (sg T tp (j + k)) = nI (tp (j + k)) := by rw [sg_in s1]; exact if_neg (by omega)
        rw [es] at h2 d2
        rw [show 4 - k = (4 - (k + 1)) + 1 by omega, ng, e2, if_pos rfl] at a5
        have ev : 10 * v + tp (j + k) - 48 = 10 * v + (tp (j + k) - 48) := by omega
        conv => arg 1; simp (disch := omega) only [pv_v, pv_b2, pv_b1, pv_x, pv_lit, pv_ofN, pu_chk, pu_cl, nI_add, pk_mul, nI_leI, nI_ltI, nI_eq, pu_nar0, pu_nar1, pu_narb, bI_0, bI_1, ↓reduceIte, pu_leT, pu_leF, pu_ltT, pu_ltF, pu_eqT, pu_eqF, pu_x1, pu_x2, pu_x3, pu_x4, pu_x5, pu_x6, pu_x7, pu_x8, Nat.zero_add, pu_m31I, pu_m31, pu_shlI, eq_self, Bool.false_eq_true, Bool.true_eq_false, h2, d2, a2, pk_sub, ev]
        refine Wp.some ⟨by omega, _, 10 * v + (tp (j + k) - 48), rfl, by omega, by omega, by rw [pi_same, Nat.add_assoc], by rw [pi_k (by omega)]; exact a3, ?_, ?_, a6.on (r1.pi (by omega))⟩
        · rw [Nat.pow_succ]; omega
        · rw [← Nat.add_assoc]; exact a5
end RTAPE
