/-! pure part: a SCRIPT is read, the class (wip/whole/pure/19.a.cscript.src) -/
/-- one step: whether it is told well, where, its sort, its number -/
def stp (T : Nat) (tp : Nat → Nat) (i : Nat) : Bool × Nat × Nat × Int32 :=
  match lx 3 (sg T tp (nB T tp i)) with
  | none => (false, nB T tp i, 0, -nI 1)
  | some k => if k = 5 then ((nM T tp 0 9999 (nB T tp i + 1)).1, (nM T tp 0 9999 (nB T tp i + 1)).2.1, 5, nI (nM T tp 0 9999 (nB T tp i + 1)).2.2) else if k < 2 then (true, nB T tp i + 1, k, -nI 1) else if isDg (sg T tp (nB T tp (nB T tp i + 1))) then (true, nB T tp (nB T tp i + 1) + 1, k, nI (sg T tp (nB T tp (nB T tp i + 1)) - 48)) else (false, nB T tp (nB T tp i + 1), k, -nI 1)
def upi (f : Nat → Int32) (k : Nat) (v : Int32) : Nat → Int32 := fun j => if j = k then v else f j
/-- a SCRIPT: the place of the fault, or none; its length, its sorts, its numbers -/
def scl (T : Nat) (tp : Nat → Nat) : Nat → Nat → (Nat → Nat) → (Nat → Int32) → Nat → Option Nat × Nat × (Nat → Nat) × (Nat → Int32)
  | 0, n, sk, sn, i => (some i, n, sk, sn)
  | f + 1, n, sk, sn, i =>
    if (stp T tp i).1 = false then (some (stp T tp i).2.1, n, sk, sn)
    else if sg T tp (nB T tp (stp T tp i).2.1) = 0 then (none, n + 1, upn sk n (stp T tp i).2.2.1, upi sn n (stp T tp i).2.2.2)
    else if sg T tp (nB T tp (stp T tp i).2.1) = 59 ∧ n + 1 ≠ 16 then scl T tp f (n + 1) (upn sk n (stp T tp i).2.2.1) (upi sn n (stp T tp i).2.2.2) (nB T tp (stp T tp i).2.1 + 1)
    else (some (nB T tp (stp T tp i).2.1), n + 1, sk, sn)
section CSCRIPT
variable {T : Nat} {tp : Nat → Nat} {w w' : am_S} {i o n k : Nat}
theorem stp_n (h : lx 3 (sg T tp (nB T tp i)) = none) : stp T tp i = (false, nB T tp i, 0, -nI 1) := by
  unfold stp; rw [h]
theorem stp_5 (h : lx 3 (sg T tp (nB T tp i)) = some k) (hk : k = 5) : stp T tp i = ((nM T tp 0 9999 (nB T tp i + 1)).1, (nM T tp 0 9999 (nB T tp i + 1)).2.1, 5, nI (nM T tp 0 9999 (nB T tp i + 1)).2.2) := by
  unfold stp; rw [h]; exact if_pos hk
theorem stp_2 (h : lx 3 (sg T tp (nB T tp i)) = some k) (hk : k < 2) : stp T tp i = (true, nB T tp i + 1, k, -nI 1) := by
  unfold stp; rw [h]
  show (if k = 5 then _ else _) = _
  rw [if_neg (by omega), if_pos hk]
theorem stp_d (h : lx 3 (sg T tp (nB T tp i)) = some k) (h5 : k ≠ 5) (hk : ¬ k < 2) (hd : isDg (sg T tp (nB T tp (nB T tp i + 1))) = true) : stp T tp i = (true, nB T tp (nB T tp i + 1) + 1, k, nI (sg T tp (nB T tp (nB T tp i + 1)) - 48)) := by
  unfold stp; rw [h]
  show (if k = 5 then _ else _) = _
  rw [if_neg h5, if_neg hk, if_pos hd]
theorem stp_e (h : lx 3 (sg T tp (nB T tp i)) = some k) (h5 : k ≠ 5) (hk : ¬ k < 2) (hd : isDg (sg T tp (nB T tp (nB T tp i + 1))) = false) : stp T tp i = (false, nB T tp (nB T tp i + 1), k, -nI 1) := by
  unfold stp; rw [h]
  show (if k = 5 then _ else _) = _
  rw [if_neg h5, if_neg hk, hd]; rfl
theorem lx3_in (hT : tW T tp) (h : lx 3 (sg T tp i) = some k) : k < 6 ∧ i < T := by
  obtain ⟨h1, h2⟩ := lx_lt h
  have h1 : k < 6 := h1
  refine ⟨h1, ?_⟩
  rcases Nat.lt_or_ge i T with c | c
  · exact c
  · rw [(sg_0 hT).mpr c] at h2
    have : ∀ k, k < 6 → lt 3 k ≠ 0 := by decide
    exact absurd h2 (this k h1)
theorem stp_le (hT : tW T tp) (hi : i ≤ T) : (stp T tp i).2.1 ≤ T ∧ (stp T tp i).2.2.1 < 6 := by
  have hb := nB_le (tp := tp) hi
  cases e : lx 3 (sg T tp (nB T tp i)) with
  | none => rw [stp_n e]; exact ⟨hb.2, by show 0 < 6; omega⟩
  | some k =>
    obtain ⟨k6, kT⟩ := lx3_in hT e
    by_cases h5 : k = 5
    · rw [stp_5 e h5]; exact ⟨nM_le (by omega), by show 5 < 6; omega⟩
    · by_cases h2 : k < 2
      · rw [stp_2 e h2]; exact ⟨kT, k6⟩
      · have hb2 := nB_le (tp := tp) (i := nB T tp i + 1) (T := T) (by omega)
        cases d : isDg (sg T tp (nB T tp (nB T tp i + 1))) with
        | false => rw [stp_e e h5 h2 d]; exact ⟨hb2.2, k6⟩
        | true => rw [stp_d e h5 h2 d]; exact ⟨(sg_d d).1, k6⟩
/-- what reading a step leaves -/
def sf (o n : Nat) (w w' : am_S) : Prop := w'.1 1 1 = w.1 1 1 ∧ eqx [1, o, o + 1, o + 2] w w' ∧ ∀ j, j < n → w'.1 (o + 1) j = w.1 (o + 1) j ∧ w'.1 (o + 2) j = w.1 (o + 2) j
theorem sf.c (h : c1 w w') (ho : 2 < o) : sf o n w w' := ⟨h.1, h.2.up (by simp), fun j _ => ⟨by rw [h.2.r (by simp only [List.mem_cons, List.not_mem_nil, or_false]; omega)], by rw [h.2.r (by simp only [List.mem_cons, List.not_mem_nil, or_false]; omega)]⟩⟩
theorem c_step65 (ho : 2 < o) (hn : n < 16) (hl : w.1 o 2 = nI n) {v : Int32} (hv : w.1 1 3 = v) : Wp (f_X8_readStep_65 o (nI k) w) (fun q => q.1 = nI 1 ∧ q.2.1 1 2 = w.1 1 2 ∧ q.2.1 o 2 = nI (n + 1) ∧ q.2.1 (o + 1) n = nI k ∧ q.2.1 (o + 2) n = v ∧ sf o n w q.2) := by
  have e1 : (am_pi w (o + 1) n (nI k)).1 o 2 = nI n := by rw [pi_p (by omega)]; exact hl
  have e2 : (am_pi w (o + 1) n (nI k)).1 1 3 = v := by rw [pi_p (by omega)]; exact hv
  have e3 : (am_pi (am_pi w (o + 1) n (nI k)) (o + 2) n v).1 o 2 = nI n := by rw [pi_p (by omega)]; exact e1
  refine ⟨(nI 1, am_pi (am_pi (am_pi w (o + 1) n (nI k)) (o + 2) n v) o 2 (nI (n + 1))), ?_, rfl, ?_, pi_same, ?_, ?_, ?_, ?_, fun j hj => ⟨?_, ?_⟩⟩
  · unfold f_X8_readStep_65
    simp (disch := omega) only [pv_v, pv_b2, pv_b1, pv_x, pv_lit, pv_ofN, pu_chk, pu_cl, nI_add, pk_mul, nI_leI, nI_ltI, nI_eq, pu_nar0, pu_nar1, pu_narb, bI_0, bI_1, ↓reduceIte, pu_leT, pu_leF, pu_ltT, pu_ltF, pu_eqT, pu_eqF, pu_x1, pu_x2, pu_x3, pu_x4, pu_x5, pu_x6, pu_x7, pu_x8, Nat.zero_add, pu_m31I, pu_m31, pu_shlI, eq_self, Bool.false_eq_true, Bool.true_eq_false, hl, e1, e2, e3]
  · rw [pi_p (by omega), pi_p (by omega), pi_p (by omega)]
  · show (am_pi (am_pi (am_pi w (o + 1) n (nI k)) (o + 2) n v) o 2 (nI (n + 1))).1 (o + 1) n = _
    rw [pi_p (by omega), pi_p (by omega), pi_same]
  · show (am_pi (am_pi (am_pi w (o + 1) n (nI k)) (o + 2) n v) o 2 (nI (n + 1))).1 (o + 2) n = _
    rw [pi_p (by omega), pi_same]
  · rw [pi_p (by omega), pi_p (by omega), pi_p (by omega)]
  · exact ((eqx.pi (by simp)).on (eqx.pi (by simp))).on (eqx.pi (by simp))
  · show (am_pi (am_pi (am_pi w (o + 1) n (nI k)) (o + 2) n v) o 2 (nI (n + 1))).1 (o + 1) j = _
    rw [pi_p (by omega), pi_p (by omega), pi_k (by omega)]
  · show (am_pi (am_pi (am_pi w (o + 1) n (nI k)) (o + 2) n v) o 2 (nI (n + 1))).1 (o + 2) j = _
    rw [pi_p (by omega), pi_k (by omega), pi_p (by omega)]
theorem sf.on {w'' : am_S} (h : sf o n w w') (h2 : sf o n w' w'') : sf o n w w'' := ⟨h2.1.trans h.1, h.2.1.on h2.2.1, fun j hj => ⟨((h2.2.2 j hj).1).trans (h.2.2 j hj).1, ((h2.2.2 j hj).2).trans (h.2.2 j hj).2⟩⟩
theorem c_readDigit (hT : tW T tp) (h : cTp T tp w) (hi : i ≤ T) (ha : w.1 1 2 = nI i) : Wp (f_X10_readDigit w) (fun q => q.1 = bI (isDg (sg T tp (nB T tp i))) ∧ q.2.1 1 2 = nI (nB T tp i + (if isDg (sg T tp (nB T tp i)) then 1 else 0)) ∧ (isDg (sg T tp (nB T tp i)) = true → q.2.1 1 3 = nI (sg T tp (nB T tp i) - 48)) ∧ c1 w q.2) := by
  have hT1 := hT.1
  have hb := nB_le (tp := tp) hi
  obtain ⟨⟨r1, w1⟩, e1, a1, a2, a3, a4⟩ := c_nextSign hT h hi ha
  have a2 : w1.1 1 2 = nI (nB T tp i) := a2
  have a4 : c1 w w1 := a4
  have h1 := a4.t h
  have hd := c_isDigit hT h1 hb.2 a2
  unfold f_X10_readDigit
  cases d : isDg (sg T tp (nB T tp i)) with
  | false =>
    rw [d] at hd
    refine ⟨(nI 0, w1), ?_, rfl, a2, (fun q => by cases q), a4⟩
    simp (disch := omega) only [pv_v, pv_b2, pv_b1, pv_x, pv_lit, pv_ofN, pu_chk, pu_cl, nI_add, pk_mul, nI_leI, nI_ltI, nI_eq, pu_nar0, pu_nar1, pu_narb, bI_0, bI_1, ↓reduceIte, pu_leT, pu_leF, pu_ltT, pu_ltF, pu_eqT, pu_eqF, pu_x1, pu_x2, pu_x3, pu_x4, pu_x5, pu_x6, pu_x7, pu_x8, Nat.zero_add, pu_m31I, pu_m31, pu_shlI, eq_self, Bool.false_eq_true, Bool.true_eq_false, e1, hd]
  | true =>
    obtain ⟨d1, d2, d3⟩ := sg_d d
    rw [d] at hd
    have e2 : w1.1 2 (nB T tp i) = nI (tp (nB T tp i)) := h1.2 _ d1
    have es : sg T tp (nB T tp i) = tp (nB T tp i) := sg_in d1
    have e3 : (am_pi w1 1 3 (nI (tp (nB T tp i) - 48))).1 1 2 = nI (nB T tp i) := by rw [pi_k (by decide)]; exact a2
    refine ⟨(nI 1, am_pi (am_pi w1 1 3 (nI (tp (nB T tp i) - 48))) 1 2 (nI (nB T tp i + 1))), ?_, rfl, pi_same, fun _ => ?_, (a4.on (c1.pi (by decide))).on (c1.pi (by decide))⟩
    · simp (disch := omega) only [pv_v, pv_b2, pv_b1, pv_x, pv_lit, pv_ofN, pu_chk, pu_cl, nI_add, pk_mul, nI_leI, nI_ltI, nI_eq, pu_nar0, pu_nar1, pu_narb, bI_0, bI_1, ↓reduceIte, pu_leT, pu_leF, pu_ltT, pu_ltF, pu_eqT, pu_eqF, pu_x1, pu_x2, pu_x3, pu_x4, pu_x5, pu_x6, pu_x7, pu_x8, Nat.zero_add, pu_m31I, pu_m31, pu_shlI, eq_self, Bool.false_eq_true, Bool.true_eq_false, e1, hd, a2, e2, pk_sub, e3]
    · rw [pi_k (by decide), pi_same, es]
end CSCRIPT
