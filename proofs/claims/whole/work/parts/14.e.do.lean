/-! pure part: how the class does ACTS, on (wip/whole/pure/14.e.do.src) -/
section DOE
variable {fd st : Nat → Nat → Nat} {w : am_S} {p : Nat}
theorem pu_rd_0 {u : Nat} : pu_rd fd st 0 0 u = if u < (fd 0 0) ∧ pu_wa fd st 0 u ≠ 0 then pu_wa fd st 0 u else st 0 u := by
  unfold pu_rd
  by_cases h : u < (fd 0 0) ∧ pu_wa fd st 0 u ≠ 0
  · rw [if_pos ⟨rfl, h.1, h.2⟩, if_pos h]
  · rw [if_neg (fun q => h q.2), if_neg h]
theorem pu_rd_a {a u : Nat} (h : a ≠ 0) : pu_rd fd st 0 a u = st a u := by unfold pu_rd; rw [if_neg (by simp [h])]
/-- found in the first SLOTS -/
theorem found_bit {s u : Nat} : (sA (pu_k fd (st 2 0)) (pu_o fd st) (fun _ => true) (pu_u fd st) s).testBit u = !(pu_wr (pu_v1 fd st 0 u) 0 s == 0) := by
  have h1 : (sA (pu_k fd (st 2 0)) (pu_o fd st) (fun _ => true) (pu_u fd st) s).testBit u = true ↔ pu_wr (pu_v1 fd st 0 u) 0 s ≠ 0 := by
    rw [sA_bit, pu_wr_0]
    constructor
    · rintro ⟨j, j1, -, j3⟩
      exact ⟨j, by omega, by omega, pu_v1_0.mpr (by rw [pu_K_0]; exact j3)⟩
    · rintro ⟨j, -, j2, j3⟩
      refine ⟨j, by omega, rfl, ?_⟩
      have := pu_v1_0.mp j3
      rw [pu_K_0] at this
      exact this
  cases e : (sA (pu_k fd (st 2 0)) (pu_o fd st) (fun _ => true) (pu_u fd st) s).testBit u
  · have : pu_wr (pu_v1 fd st 0 u) 0 s = 0 := Classical.byContradiction (fun q => by rw [h1.mpr q] at e; cases e)
    rw [bq_t this]; rfl
  · rw [bq_f (h1.mp e)]; rfl
theorem c_goRound (h : cX fd st p w) (hp : p + 4 < 250) (hp2 : 18 < p) (hn : 0 < (fd 0 0)) : Wp (f_X2_goRound p w) (fun q => q.1 = nI (cn (pu_A fd st 0)) ∧ cX fd (pu_rd fd st 0) p q.2 ∧ eqx [p + 1, 250, 253, 254] w q.2) := by
  have hF := h.1
  have hS := h.2.1
  have h10 := hF.1
  have hT := pu_T48 hF
  have hU := pu_u_lt (fd := fd) (st := st)
  have hK := pu_k_M hF hS.1
  obtain ⟨s1, s2, s3, s4, s5⟩ := h.2.2.2.2
  have hf10 : ∀ s, sA (pu_k fd (st 2 0)) (pu_o fd st) (fun _ => true) (pu_u fd st) s < 1024 := fun s => pu_k10 (sb_lt (sA_sb hK) hU) h10
  unfold f_X2_goRound
  refine Wp.b1 ((h.look hp hp2 hn).mono ?_)
  intro w1 hw1
  unfold f_X2_goRound_12
  refine Wp.for (fun i w => (nI (sA (pu_k fd (st 2 0)) (pu_o fd st) (fun _ => true) (pu_u fd st) i), nI i, w)) (fun i w2 => ∃ w0, cW fd (pu_o fd st) (st 2 0) (pu_u fd st) w0 w2 ∧ eqx [p + 1] w w0 ∧ ∀ u, u < 10 → w0.1 (p + 1) u = nI (if u < (fd 0 0) ∧ pu_wr (pu_v1 fd st 0 u) 0 i ≠ 0 then pu_wr (pu_v1 fd st 0 u) 0 i else st 0 u)) ((fd 0 1) * (fd 0 2)) (by omega) rfl ⟨w, hw1, eqx.rf, fun u hu => by rw [if_neg (fun q => q.2 rfl)]; exact s1 u hu⟩ (fun i w2 hi hI => ?_) (fun w2 hI => ?_)
  · obtain ⟨w0, hw2, hx0, hr0⟩ := hI
    unfold f_X2_goRound_12b
    rw [hw2.all, pu_b2, if_neg (nI_ge hi (by omega)), hw2.u]
    refine Wp.b2 ((c_clearIn hw2 hi hU).mono ?_)
    rintro ⟨r, w3⟩ ⟨hr, hw3⟩
    have hr : r = nI (pu_K fd st 0 i) := by rw [pu_K_0]; exact hr
    subst hr
    have hk10 := pu_k10 (pu_K_lt (fd := fd) (st := st) (jm := 0) (s := i)) h10
    have hfi := hf10 i
    have hfr := sb_lt (n := 10) (sb_sd (a := pu_K fd st 0 i) (b := sA (pu_k fd (st 2 0)) (pu_o fd st) (fun _ => true) (pu_u fd st) i)) hk10
    have hfb : ∀ u, (pu_sd (pu_K fd st 0 i) (sA (pu_k fd (st 2 0)) (pu_o fd st) (fun _ => true) (pu_u fd st) i)).testBit u = (!(pu_v1 fd st 0 u i == 0) && (pu_wr (pu_v1 fd st 0 u) 0 i == 0)) := fun u => by
      rw [pu_sd_bit, found_bit, Bool.not_not]
      congr 1
      cases e : (pu_K fd st 0 i).testBit u
      · have : pu_v1 fd st 0 u i = 0 := Classical.byContradiction (fun q => by rw [pu_v1_0.mp q] at e; cases e)
        rw [bq_t this]; rfl
      · rw [bq_f (pu_v1_0.mpr e)]; rfl
    show Wp (am_v (nI (pu_K fd st 0 i) &&& (nI (sA (pu_k fd (st 2 0)) (pu_o fd st) (fun _ => true) (pu_u fd st) i) ^^^ -nI 1)) _) _
    rw [pu_andn, pu_v]
    unfold f_X2_goRound_47
    refine Wp.for (fun j w => (nI j, w)) (fun j w4 => ∃ w0, cW fd (pu_o fd st) (st 2 0) (pu_u fd st) w0 w4 ∧ eqx [p + 1] w w0 ∧ ∀ u, u < 10 → w0.1 (p + 1) u = nI (if u < (fd 0 0) ∧ pu_wr (pu_v1 fd st 0 u) 0 (if u < j then i + 1 else i) ≠ 0 then pu_wr (pu_v1 fd st 0 u) 0 (if u < j then i + 1 else i) else st 0 u)) (fd 0 0) (by omega) rfl ⟨w0, hw3, hx0, fun u hu => by rw [if_neg (Nat.not_lt_zero u)]; exact hr0 u hu⟩ (fun j w4 hj hJ => ?_) (fun w4 hJ => ?_)
    · obtain ⟨v0, hv4, hxv, hrv⟩ := hJ
      unfold f_X2_goRound_47b f_X2_goRound_81
      have hend := pu_wr_end (f := pu_v1 fd st 0 j) (l := i) (a := 0)
      rw [Nat.zero_add] at hend
      cases e : (pu_sd (pu_K fd st 0 i) (sA (pu_k fd (st 2 0)) (pu_o fd st) (fun _ => true) (pu_u fd st) i)).testBit j
      · simp (disch := omega) only [pv_v, pv_b2, pv_b1, pv_x, pv_lit, pv_ofN, pu_chk, pu_cl, nI_add, pk_mul, nI_leI, nI_ltI, nI_eq, pu_nar0, pu_nar1, pu_narb, bI_0, bI_1, ↓reduceIte, pu_leT, pu_leF, pu_ltT, pu_ltF, pu_eqT, pu_eqF, pu_x1, pu_x2, pu_x3, pu_x4, pu_x5, pu_x6, pu_x7, pu_x8, Nat.zero_add, pu_m31I, pu_m31, pu_shlI, eq_self, Bool.false_eq_true, Bool.true_eq_false, hv4.n, pu_shrI, pu_and, pu_bitN, e]
        refine Wp.some ⟨w4, rfl, v0, hv4, hxv, fun u hu => ?_⟩
        rw [hrv u hu]
        by_cases q : u = j
        · subst q
          rw [if_neg (Nat.lt_irrefl _), if_pos (Nat.lt_succ_self _), hend]
          rw [hfb u, Bool.and_eq_false_iff] at e
          by_cases z : pu_wr (pu_v1 fd st 0 u) 0 i = 0
          · have z2 : pu_v1 fd st 0 u i = 0 := by
              rcases e with e | e
              · simpa using e
              · rw [bq_t z] at e; cases e
            rw [z, z2]
            simp
          · rw [if_pos z]
        · by_cases q2 : u < j
          · rw [if_pos q2, if_pos (show u < j + 1 by omega)]
          · rw [if_neg q2, if_neg (show ¬ u < j + 1 by omega)]
      · have e' := e
        rw [hfb j, Bool.and_eq_true] at e'
        have z1 : pu_v1 fd st 0 j i ≠ 0 := by simpa using e'.1
        have z2 : pu_wr (pu_v1 fd st 0 j) 0 i = 0 := by simpa using e'.2
        have hkj := pu_v1_0.mp z1
        have hcr : (pu_o fd st i &&& pu_u fd st).testBit j = true := by
          rw [pu_K_0] at hkj
          exact (pu_k_bit.mp hkj).2.1
        have hcm := pu_k10 (Nat.lt_of_le_of_lt Nat.and_le_right hU : pu_o fd st i &&& pu_u fd st < 2 ^ (fd 0 0)) h10
        have hv1 : (if cn (pu_o fd st i &&& pu_u fd st) = 1 then 1 else 2) = pu_v1 fd st 0 j i := by
          unfold pu_v1
          rw [hkj, if_pos rfl]
          by_cases q : pu_o fd st i &&& pu_u fd st = 2 ^ j
          · rw [if_pos q, if_pos ((cn_1 hcm hcr).mpr q)]
          · rw [if_neg q, if_neg (fun q2 => q ((cn_1 hcm hcr).mp q2))]
        have hwi := c_wayIn hv4 (s := i) hi hU
        rw [hv1] at hwi
        simp (disch := omega) only [pv_v, pv_b2, pv_b1, pv_x, pv_lit, pv_ofN, pu_chk, pu_cl, nI_add, pk_mul, nI_leI, nI_ltI, nI_eq, pu_nar0, pu_nar1, pu_narb, bI_0, bI_1, ↓reduceIte, pu_leT, pu_leF, pu_ltT, pu_ltF, pu_eqT, pu_eqF, pu_x1, pu_x2, pu_x3, pu_x4, pu_x5, pu_x6, pu_x7, pu_x8, Nat.zero_add, pu_m31I, pu_m31, pu_shlI, eq_self, Bool.false_eq_true, Bool.true_eq_false, hv4.n, pu_shrI, pu_and, pu_bitN, e, hwi]
        refine Wp.some ⟨_, rfl, am_pi v0 (p + 1) j (nI (pu_v1 fd st 0 j i)), hv4.pi (by simp; omega), hxv.on (eqx.pi (by simp)), fun u hu => ?_⟩
        rw [pi_ite]
        by_cases q : u = j
        · subst q
          rw [if_pos rfl, if_pos (Nat.lt_succ_self _), hend, z2]
          simp [z1, hj]
        · rw [if_neg q, hrv u hu]
          by_cases q2 : u < j
          · rw [if_pos q2, if_pos (show u < j + 1 by omega)]
          · rw [if_neg q2, if_neg (show ¬ u < j + 1 by omega)]
    · obtain ⟨v0, hv4, hxv, hrv⟩ := hJ
      unfold f_X2_goRound_47b
      simp (disch := omega) only [pv_v, pv_b2, pv_b1, pv_x, pv_lit, pv_ofN, pu_chk, pu_cl, nI_add, pk_mul, nI_leI, nI_ltI, nI_eq, pu_nar0, pu_nar1, pu_narb, bI_0, bI_1, ↓reduceIte, pu_leT, pu_leF, pu_ltT, pu_ltF, pu_eqT, pu_eqF, pu_x1, pu_x2, pu_x3, pu_x4, pu_x5, pu_x6, pu_x7, pu_x8, Nat.zero_add, pu_m31I, pu_m31, pu_shlI, eq_self, Bool.false_eq_true, Bool.true_eq_false, hv4.n, pu_or]
      refine Wp.some ⟨w4, ?_, v0, hv4, hxv, fun u hu => ?_⟩
      · have hor : sA (pu_k fd (st 2 0)) (pu_o fd st) (fun _ => true) (pu_u fd st) i ||| pu_sd (pu_K fd st 0 i) (sA (pu_k fd (st 2 0)) (pu_o fd st) (fun _ => true) (pu_u fd st) i) = sA (pu_k fd (st 2 0)) (pu_o fd st) (fun _ => true) (pu_u fd st) (i + 1) := by
          show _ = sA (pu_k fd (st 2 0)) (pu_o fd st) (fun _ => true) (pu_u fd st) i ||| (if true = true then pu_k fd (st 2 0) (pu_o fd st i &&& pu_u fd st) else 0)
          rw [if_pos rfl, ← pu_K_0]
          apply Nat.eq_of_testBit_eq
          intro x
          rw [Nat.testBit_or, Nat.testBit_or, pu_sd_bit]
          cases (sA (pu_k fd (st 2 0)) (pu_o fd st) (fun _ => true) (pu_u fd st) i).testBit x <;> simp
        rw [hor]
      · rw [hrv u hu]
        by_cases q : u < (fd 0 0)
        · rw [if_pos q]
        · rw [if_neg q, if_neg (fun z => q z.1), if_neg (fun z => q z.1)]
  · obtain ⟨w0, hw2, hx0, hr0⟩ := hI
    have hA : sA (pu_k fd (st 2 0)) (pu_o fd st) (fun _ => true) (pu_u fd st) ((fd 0 1) * (fd 0 2)) = pu_A fd st 0 := sA_A
    have hf := hf10 ((fd 0 1) * (fd 0 2))
    rw [hA] at hf
    unfold f_X2_goRound_12b
    rw [hA]
    simp (disch := omega) only [pv_v, pv_b2, pv_b1, pv_x, pv_lit, pv_ofN, pu_chk, pu_cl, nI_add, pk_mul, nI_leI, nI_ltI, nI_eq, pu_nar0, pu_nar1, pu_narb, bI_0, bI_1, ↓reduceIte, pu_leT, pu_leF, pu_ltT, pu_ltF, pu_eqT, pu_eqF, pu_x1, pu_x2, pu_x3, pu_x4, pu_x5, pu_x6, pu_x7, pu_x8, Nat.zero_add, pu_m31I, pu_m31, pu_shlI, eq_self, Bool.false_eq_true, Bool.true_eq_false, hw2.all, c_bitCount]
    have hS' := pu_rd_w (jm := 0) hS
    have hcs : cS (pu_rd fd st 0) p w0 := by
      refine ⟨fun u hu => ?_, fun u hu => ?_, ?_, fun j hj => ?_, fun j i hj hi => ?_⟩
      · rw [hr0 u hu, pu_rd_0]; rfl
      · rw [hx0.l, pu_rd_a (by decide)]; exact s2 u hu
      · rw [pu_rd_a (by decide)]; exact hx0.t s3 (by simp)
      · rw [pu_rd_a (by decide)]; exact hx0.t (s4 j hj) (by simp)
      · rw [pu_rd_a (by decide)] at hi ⊢
        exact hx0.t (s5 j i hj hi) (by simp)
    refine Wp.some ⟨rfl, ?_, (hx0.up (by simp)).on (hw2.2.2.up (by simp))⟩
    refine ⟨hF, hS', ?_, hw2.1.T, ?_⟩
    · refine (h.2.2.1.ex hx0 (fun q hq => ?_)).ex hw2.2.2 (by decide)
      simp only [List.mem_cons, List.not_mem_nil, or_false] at hq ⊢
      omega
    · refine hcs.ex hw2.2.2 (fun q hq => ?_)
      simp only [List.mem_cons, List.not_mem_nil, or_false] at hq ⊢
      omega
theorem c_min {a b : Nat} (ha : a < 2 ^ 31) (hb : b < 2 ^ 31) : f_J9_min_7cf53 (nI a) (nI b) w = some (nI (min a b), w) := by
  unfold f_J9_min_7cf53 f_J9_min_7cf53_10
  simp (disch := omega) only [pv_v, pv_b2, pv_b1, pv_x, pv_lit, pv_ofN, pu_chk, pu_cl, nI_add, pk_mul, nI_leI, nI_ltI, nI_eq, pu_nar0, pu_nar1, pu_narb, bI_0, bI_1, ↓reduceIte, pu_leT, pu_leF, pu_ltT, pu_ltF, pu_eqT, pu_eqF, pu_x1, pu_x2, pu_x3, pu_x4, pu_x5, pu_x6, pu_x7, pu_x8, Nat.zero_add, pu_m31I, pu_m31, pu_shlI, eq_self, Bool.false_eq_true, Bool.true_eq_false]
  by_cases e : b < a
  · rw [if_pos e, Nat.min_eq_right (by omega)]
  · rw [if_neg e, Nat.min_eq_left (by omega)]
theorem bits_of {q lo up s : Nat} (hq : q < 2 ^ (up - lo)) (hs : (q * 2 ^ lo).testBit s = true) (hl : lo ≤ up) : lo ≤ s ∧ s < up := by
  rw [Nat.testBit_mul_two_pow, Bool.and_eq_true, decide_eq_true_iff] at hs
  refine ⟨hs.1, ?_⟩
  have := bit_n hq hs.2
  omega
theorem many_le {u : Nat} {x : Int64} : pu_many fd u x ≤ pu_up fd u - pu_lo fd u := by
  unfold pu_many
  exact Nat.min_le_right _ _
theorem dq_lt {u : Nat} {x : Int64} {W h : Nat} (hW : W = pu_up fd u - pu_lo fd u) (hh : h ≤ W) : (dq fd u x h).2 < 2 ^ W := (dq_ok hW hh).1
theorem dw_lt {u : Nat} {x : Int64} {W : Nat} (hW : W = pu_up fd u - pu_lo fd u) : pu_dw fd u x < 2 ^ W := by
  have hm := many_le (fd := fd) (u := u) (x := x)
  rw [← hW] at hm
  generalize he : pu_many fd u x = h at hm
  rw [dw_e he]
  exact dq_lt hW hm
theorem dw_bits (hF : wF fd) {u : Nat} (hu : u < (fd 0 0)) {x : Int64} (s : Nat) (hs : (pu_dw fd u x * 2 ^ pu_lo fd u).testBit s = true) : pu_lo fd u ≤ s ∧ s < pu_up fd u := by
  obtain ⟨l1, l2, l3, l4⟩ := pu_lo_up hF hu
  exact bits_of (dw_lt (fd := fd) (u := u) (x := x) rfl) hs (by clear hs; omega)
theorem dq_0 {u : Nat} {x : Int64} : dq fd u x 0 = (dn x, 0) := rfl
theorem draw_fa (hF : wF fd) {u m : Nat} {x : Int64} (hu : u < (fd 0 0)) (hm : min (pu_dg fd (dv (dn x) (pu_W fd))) (pu_up fd u - pu_lo fd u) = m) : m ≤ pu_up fd u - pu_lo fd u ∧ pu_dw fd u x = (dq fd u x m).2 ∧ ∀ s, (pu_dw fd u x * 2 ^ pu_lo fd u).testBit s = true → pu_lo fd u ≤ s ∧ s < pu_up fd u := by
  have hm2 : pu_many fd u x = m := by
    unfold pu_many
    exact hm
  exact ⟨hm2 ▸ many_le, dw_e hm2, fun s hs => dw_bits hF hu s hs⟩
theorem c_drawAnew (h : cX fd st p w) (hp : p + 4 < 250) (hp2 : 18 < p) {u : Nat} (hu : u < (fd 0 0)) (h0 : pu_W fd ≠ 0) (x : Int64) : Wp (f_X2_drawAnew p (nI u) x w) (fun w' => cX fd (upk st u (pu_dw fd u x * 2 ^ pu_lo fd u)) p w' ∧ eqy [] [p + 2, 256] w w') := by
  have hF := h.1
  have hS := h.2.1
  have h10 := hF.1
  have hT := pu_T48 hF
  obtain ⟨l1, l2, l3, l4⟩ := pu_lo_up hF hu
  obtain ⟨e1, e2, e3, e4, e5, e6, e7⟩ := id h.2.2.1
  have hW : pu_W fd ≤ 594 := hF.2.2.2.2.2.2.2.2
  have hdl := dg_le hF (dv_lt (x := dn x) (m := pu_W fd) (by omega))
  have e5 : w.1 11 13 = nI (pu_W fd) := e5
  have hcd := c_castDegree (w := am_pl w 256 0 x) hF e5 e7 h0 (p := 256)
  rw [pl_same] at hcd
  unfold f_X2_drawAnew f_X0_begin
  rw [c_reachFrom hF h.2.2.1 hu, pu_b2, c_reachTo hF h.2.2.1 hu, pu_b2, pk_sub (by omega), pu_v, pu_v, pu_b1, hcd, pu_b2, c_min (by omega) (by omega), pu_b2]
  have hfa := fun m => draw_fa hF hu (x := x) (m := m)
  rw [pl_pl]
  generalize min (pu_dg fd (dv (dn x) (pu_W fd))) (pu_up fd u - pu_lo fd u) = m at hfa ⊢
  obtain ⟨hmany, hdw, hbi⟩ := hfa m rfl
  generalize pu_dw fd u x = dw at hdw hbi ⊢
  unfold f_X2_drawAnew_55
  refine Wp.for (fun i w => (lN (dq fd u x i).2, nI i, w)) (fun i w2 => w2 = am_pl w 256 0 (dq fd u x i).1) m (by omega) (w := am_pl w 256 0 (dq fd u x 0).1) (by rw [dq_0]; rfl) rfl (fun i w2 hi hw => ?_) (fun w2 hw => ?_)
  · subst hw
    obtain ⟨q1, q2⟩ := dq_ok (fd := fd) (u := u) (x := x) rfl (h := i) (by omega)
    have hC := C_not (t := (dq fd u x i).2) (n := pu_up fd u - pu_lo fd u)
    have hd := dv_lt (x := dn (dq fd u x i).1) (m := pu_up fd u - pu_lo fd u - i) (by omega)
    have hq62 : (dq fd u x i).2 < 2 ^ 62 := Nat.lt_of_lt_of_le q1 (Nat.pow_le_pow_right (by decide) (by omega))
    have hca := c_cast (w := am_pl w 256 0 (dq fd u x i).1) (p := 256) (m := pu_up fd u - pu_lo fd u - i) (by omega) (by omega)
    rw [pl_same, pl_pl] at hca
    obtain ⟨pl, p1, p2⟩ := isF_ex (t := (dq fd u x i).2) (num := dv (dn (dq fd u x i).1) (pu_up fd u - pu_lo fd u - i)) (room := pu_up fd u - pu_lo fd u) (by omega)
    have hpl : fpl (dq fd u x i).2 (dv (dn (dq fd u x i).1) (pu_up fd u - pu_lo fd u - i)) (pu_up fd u - pu_lo fd u) < 63 := by rw [fpl_is p1 p2]; omega
    have hfp := c_freePlace (w := am_pl w 256 0 (dn (dq fd u x i).1)) (t := (dq fd u x i).2) (room := pu_up fd u - pu_lo fd u) (num := dv (dn (dq fd u x i).1) (pu_up fd u - pu_lo fd u - i)) hq62 (by omega) (by omega)
    unfold f_X2_drawAnew_55b
    simp (disch := omega) only [pv_v, pv_b2, pv_b1, pv_x, pv_lit, pv_ofN, pu_chk, pu_cl, nI_add, pk_mul, nI_leI, nI_ltI, nI_eq, pu_nar0, pu_nar1, pu_narb, bI_0, bI_1, ↓reduceIte, pu_leT, pu_leF, pu_ltT, pu_ltF, pu_eqT, pu_eqF, pu_x1, pu_x2, pu_x3, pu_x4, pu_x5, pu_x6, pu_x7, pu_x8, Nat.zero_add, pu_m31I, pu_m31, pu_shlI, eq_self, Bool.false_eq_true, Bool.true_eq_false, pk_sub, hca, hfp, pu_litL1, ls_1, fb_orL]
    exact Wp.some ⟨am_pl w 256 0 (dq fd u x (i + 1)).1, by rw [dq_s], rfl⟩
  · subst hw
    have hsl : am_lshl (lN dw) (nI (pu_lo fd u)) = lN (dw * 2 ^ pu_lo fd u) := by
      unfold am_lshl
      exact wb_shl _ (by omega)
    unfold f_X2_drawAnew_55b
    simp (disch := omega) only [pv_v, pv_b2, pv_b1, pv_x, pv_lit, pv_ofN, pu_chk, pu_cl, nI_add, pk_mul, nI_leI, nI_ltI, nI_eq, pu_nar0, pu_nar1, pu_narb, bI_0, bI_1, ↓reduceIte, pu_leT, pu_leF, pu_ltT, pu_ltF, pu_eqT, pu_eqF, pu_x1, pu_x2, pu_x3, pu_x4, pu_x5, pu_x6, pu_x7, pu_x8, Nat.zero_add, pu_m31I, pu_m31, pu_shlI, eq_self, Bool.false_eq_true, Bool.true_eq_false, ← hdw, hsl]
    have hy : eqy [] [p + 2, 256] w (am_pl w 256 0 (dq fd u x m).1) := eqy.pl (by simp)
    have hx1 : cX fd st p (am_pl w 256 0 (dq fd u x m).1) := by
      refine h.mk' hS hy (by simp) ?_
      obtain ⟨s1, s2, s3, s4, s5⟩ := h.2.2.2.2
      exact ⟨s1, fun v hv => by rw [pl_p (by omega)]; exact s2 v hv, s3, s4, s5⟩
    refine Wp.some ⟨?_, hy.on (eqy.pl (by simp))⟩
    exact hx1.mk' (A := []) (B := [p + 2, 256]) (upk_w hS hu hbi) (eqy.pl (by simp)) (by simp) hx1.2.2.2.2.cop
end DOE
