/-! pure part: what the reference foretells by ROUNDS (wip/whole/pure/13.a.rask.src) -/
theorem sel_0 : (fun s => !Nat.testBit 0 s) = (fun _ => true) := by
  funext s
  rw [Nat.zero_testBit]; rfl
/-- behind i ROUNDS -/
def pu_it (fd st : Nat → Nat → Nat) (jm : Nat) : Nat → Nat → Nat → Nat
  | 0 => st
  | i + 1 => pu_rd fd (pu_it fd st jm i) jm
section RASK
variable {fd st : Nat → Nat → Nat} {jm : Nat} {w w0 : am_S}
theorem pu_it_o {s : Nat} : ∀ i, pu_o fd (pu_it fd st jm i) s = pu_o fd st s
  | 0 => rfl
  | i + 1 => (pu_rd_o (st := pu_it fd st jm i)).trans (pu_it_o i)
theorem pu_it_c : ∀ i, pu_it fd st jm i 2 0 = (st 2 0)
  | 0 => rfl
  | i + 1 => (pu_rd_c (st := pu_it fd st jm i)).trans (pu_it_c i)
theorem pu_A_eq {st' : Nat → Nat → Nat} (h1 : st' 2 0 = (st 2 0)) (h2 : ∀ s, pu_o fd st' s = pu_o fd st s) : pu_A fd st' jm = sA (pu_k fd (st 2 0)) (pu_o fd st) (fun s => !jm.testBit s) (pu_u fd st') ((fd 0 1) * (fd 0 2)) := by
  unfold pu_A
  rw [h1]
  exact sA_cong (fun s _ => ⟨h2 s, rfl⟩)
theorem pu_it_u : ∀ i, pu_u fd (pu_it fd st jm i) = sR (pu_k fd (st 2 0)) (pu_o fd st) (fun s => !jm.testBit s) ((fd 0 1) * (fd 0 2)) (pu_u fd st) i
  | 0 => rfl
  | i + 1 => by
    show pu_u fd (pu_rd fd (pu_it fd st jm i) jm) = pu_sd _ _
    rw [pu_rd_u, pu_A_eq (st := st) (pu_it_c i) (fun s => pu_it_o i), pu_it_u i]
theorem pu_it_A (i : Nat) : pu_A fd (pu_it fd st jm i) jm = sA (pu_k fd (st 2 0)) (pu_o fd st) (fun s => !jm.testBit s) (sR (pu_k fd (st 2 0)) (pu_o fd st) (fun s => !jm.testBit s) ((fd 0 1) * (fd 0 2)) (pu_u fd st) i) ((fd 0 1) * (fd 0 2)) := by
  rw [pu_A_eq (st := st) (pu_it_c i) (fun s => pu_it_o i), pu_it_u i]
theorem r_roundB (h : rQ fd st jm w) (hb : rB w0 w) : Wp (f_X12_roundNow w) (fun p => p.1 = nI (cn (pu_A fd st jm)) ∧ rQ fd (pu_rd fd st jm) jm p.2 ∧ rB w0 p.2) := by
  refine (r_roundNow h).mono ?_
  rintro ⟨r, w'⟩ ⟨h1, h2, h3, h4⟩
  exact ⟨h1, h2, hb.go (fun k hk => h3 k (by omega)) (h4.up (by decide))⟩
theorem r_ahead {k : Nat} (h : rQ fd st 0 w) (hn : 0 < (fd 0 0)) (hk : k ≤ 20) : Wp (f_X12_ahead_ (nI k) w) (fun p => p.1 = nI (pu_sd (2 ^ (fd 0 0) - 1) (sR (pu_k fd (st 2 0)) (pu_o fd st) (fun _ => true) ((fd 0 1) * (fd 0 2)) (pu_u fd st) k)) ∧ eqx [284, 286, 288] w p.2) := by
  have h10 := h.1.1
  unfold f_X12_ahead_
  rw [r_isField h.2.2.1.1 h10, pu_b2, decide_eq_true hn, if_neg (by decide), show (0 : Int32) = nI 0 from rfl, show (20 : Int32) = nI 20 from rfl, r_in (by omega) (by omega) (by omega), pu_b2, decide_eq_true ⟨Nat.zero_le _, hk⟩, if_neg (by decide)]
  refine Wp.b1 ((r_putAside w).mono ?_)
  rintro w1 ⟨p1, p2⟩
  unfold f_X12_ahead__25
  refine Wp.for (fun i w => (nI i, w)) (fun i w' => rQ fd (pu_it fd st 0 i) 0 w' ∧ rB w w') k (by omega) rfl ⟨h.ex p2 (by decide), rB.of p1 p2⟩ (fun i w' hi hI => ?_) (fun w' hI => ?_)
  · unfold f_X12_ahead__25b
    simp (disch := omega) only [pv_v, pv_b2, pv_b1, pv_x, pv_lit, pv_ofN, pu_chk, pu_cl, nI_add, pk_mul, nI_leI, nI_ltI, nI_eq, pu_nar0, pu_nar1, pu_narb, bI_0, bI_1, ↓reduceIte, pu_leT, pu_leF, pu_ltT, pu_ltF, pu_eqT, pu_eqF, pu_x1, pu_x2, pu_x3, pu_x4, pu_x5, pu_x6, pu_x7, pu_x8, Nat.zero_add, pu_m31I, pu_m31, pu_shlI, eq_self, Bool.false_eq_true, Bool.true_eq_false]
    refine Wp.b2 ((r_roundB hI.1 hI.2).mono ?_)
    rintro ⟨r, w2⟩ ⟨-, q1, q2⟩
    simp (disch := omega) only [pv_v, pv_b2, pv_b1, pv_x, pv_lit, pv_ofN, pu_chk, pu_cl, nI_add, pk_mul, nI_leI, nI_ltI, nI_eq, pu_nar0, pu_nar1, pu_narb, bI_0, bI_1, ↓reduceIte, pu_leT, pu_leF, pu_ltT, pu_ltF, pu_eqT, pu_eqF, pu_x1, pu_x2, pu_x3, pu_x4, pu_x5, pu_x6, pu_x7, pu_x8, Nat.zero_add, pu_m31I, pu_m31, pu_shlI, eq_self, Bool.false_eq_true, Bool.true_eq_false]
    exact Wp.some ⟨w2, rfl, q1, q2⟩
  · have hs := r_knownSet hI.1
    rw [pu_it_u, sel_0] at hs
    unfold f_X12_ahead__25b
    simp (disch := omega) only [pv_v, pv_b2, pv_b1, pv_x, pv_lit, pv_ofN, pu_chk, pu_cl, nI_add, pk_mul, nI_leI, nI_ltI, nI_eq, pu_nar0, pu_nar1, pu_narb, bI_0, bI_1, ↓reduceIte, pu_leT, pu_leF, pu_ltT, pu_ltF, pu_eqT, pu_eqF, pu_x1, pu_x2, pu_x3, pu_x4, pu_x5, pu_x6, pu_x7, pu_x8, Nat.zero_add, pu_m31I, pu_m31, pu_shlI, eq_self, Bool.false_eq_true, Bool.true_eq_false, hs]
    refine Wp.x (Wp.b1 ((r_bringBack hI.2).mono ?_))
    intro w2 hx
    exact Wp.some ⟨rfl, hx⟩
theorem cn_A0 (hF : wF fd) (hS : wS fd st) : (cn (pu_A fd st jm) = 0) ↔ pu_A fd st jm = 0 := by
  constructor
  · intro h
    exact cn_0 (pu_k10 (sb_lt (sA_sb (pu_k_M hF hS.1)) pu_u_lt : pu_A fd st jm < 2 ^ (fd 0 0)) hF.1) h
  · intro h; rw [h, cn_z]
theorem r_solveNow (h : rQ fd st 0 w) (hb : rB w0 w) : Wp (f_X12_solveNow w) (fun p => (∃ r, p.1 = nI r ∧ isN (pu_k fd (st 2 0)) (pu_o fd st) (fun _ => true) ((fd 0 1) * (fd 0 2)) (pu_u fd st) r ∧ rQ fd (pu_it fd st 0 (r + 1)) 0 p.2) ∧ rB w0 p.2) := by
  have hF := h.1
  have h10 := hF.1
  have hK := pu_k_M hF h.2.1.1
  have hU10 := pu_k10 (pu_u_lt (fd := fd) (st := st)) h10
  unfold f_X12_solveNow f_X12_solveNow_2
  refine Wp.lp (fun i s => ∃ w, s = (nI i, w) ∧ rQ fd (pu_it fd st 0 i) 0 w ∧ rB w0 w ∧ ∀ j, j < i → sA (pu_k fd (st 2 0)) (pu_o fd st) (fun _ => true) (sR (pu_k fd (st 2 0)) (pu_o fd st) (fun _ => true) ((fd 0 1) * (fd 0 2)) (pu_u fd st) j) ((fd 0 1) * (fd 0 2)) ≠ 0) 10 (by decide) ⟨w, rfl, h, hb, fun j hj => absurd hj (by omega)⟩ ?_
  rintro i _ hi ⟨w, rfl, hq, hb, hj⟩
  have hA := pu_it_A (fd := fd) (st := st) (jm := 0) i
  rw [sel_0] at hA
  have hc0 := cn_A0 (jm := 0) hF hq.2.1
  have hc10 := cn_le (pu_A fd (pu_it fd st 0 i) 0)
  unfold f_X12_solveNow_2b
  refine Wp.b2 ((r_roundB hq hb).mono ?_)
  rintro ⟨r, w2⟩ ⟨rfl, q1, q2⟩
  by_cases e : cn (pu_A fd (pu_it fd st 0 i) 0) = 0
  · simp (disch := omega) only [pv_v, pv_b2, pv_b1, pv_x, pv_lit, pv_ofN, pu_chk, pu_cl, nI_add, pk_mul, nI_leI, nI_ltI, nI_eq, pu_nar0, pu_nar1, pu_narb, bI_0, bI_1, ↓reduceIte, pu_leT, pu_leF, pu_ltT, pu_ltF, pu_eqT, pu_eqF, pu_x1, pu_x2, pu_x3, pu_x4, pu_x5, pu_x6, pu_x7, pu_x8, Nat.zero_add, pu_m31I, pu_m31, pu_shlI, eq_self, Bool.false_eq_true, Bool.true_eq_false, e]
    refine Wp.some ⟨⟨i, rfl, ⟨?_, hj⟩, q1⟩, q2⟩
    rw [← hA]
    exact hc0.mp e
  · simp (disch := omega) only [pv_v, pv_b2, pv_b1, pv_x, pv_lit, pv_ofN, pu_chk, pu_cl, nI_add, pk_mul, nI_leI, nI_ltI, nI_eq, pu_nar0, pu_nar1, pu_narb, bI_0, bI_1, ↓reduceIte, pu_leT, pu_leF, pu_ltT, pu_ltF, pu_eqT, pu_eqF, pu_x1, pu_x2, pu_x3, pu_x4, pu_x5, pu_x6, pu_x7, pu_x8, Nat.zero_add, pu_m31I, pu_m31, pu_shlI, eq_self, Bool.false_eq_true, Bool.true_eq_false, e]
    have hne : sA (pu_k fd (st 2 0)) (pu_o fd st) (fun _ => true) (sR (pu_k fd (st 2 0)) (pu_o fd st) (fun _ => true) ((fd 0 1) * (fd 0 2)) (pu_u fd st) i) ((fd 0 1) * (fd 0 2)) ≠ 0 := fun z => e (hc0.mpr (by rw [hA]; exact z))
    refine Wp.some ⟨.mk ?_, w2, rfl, q1, q2, fun j hj1 => ?_⟩
    · rcases sR_cn (occ := pu_o fd st) (sel := fun _ => true) (T := (fd 0 1) * (fd 0 2)) hK hU10 i with q | q
      · exact absurd q hne
      · have : cn (sR (pu_k fd (st 2 0)) (pu_o fd st) (fun _ => true) ((fd 0 1) * (fd 0 2)) (pu_u fd st) i) ≠ 0 := fun q0 => hne (by rw [cn_0 (sb_lt (n := 10) (sR_P hK i).1 hU10) q0]; exact sA_0 hK)
        omega
    · by_cases q : j = i
      · subst q; exact hne
      · exact hj j (by omega)
theorem isN_R {K occ : Nat → Nat} {sel : Nat → Bool} {T U r : Nat} (hK : kM K) (hU : U < 1024) (h : isN K occ sel T U r) : sR K occ sel T U (r + 1) = sRR K occ sel T U := by
  have e1 := sR_stop h.1 1
  have e2 : isR K occ sel T U (sR K occ sel T U r) := ⟨sR_P hK r, h.1⟩
  rw [e1, sRR_uq hK hU e2]
/-- who is known, SOLVED -/
def pu_so (fd st : Nat → Nat → Nat) : Nat := pu_sd (2 ^ (fd 0 0) - 1) (sRR (pu_k fd (st 2 0)) (pu_o fd st) (fun _ => true) ((fd 0 1) * (fd 0 2)) (pu_u fd st))
theorem pu_all10 {n : Nat} (hn : n ≤ 10) : 2 ^ n - 1 < 1024 := by have := pu_pow10 hn; have := Nat.two_pow_pos n; omega
theorem pu_B_cn {a : Nat} (h : a < 1024) : pu_B a = cn a := by
  unfold pu_B cn
  exact pu_C_ext (by decide) (fun u h1 _ => pu_hi (n := 10) h h1)
theorem r_bitsc {a : Nat} (h : a < 1024) : f_X12_bits (nI a) w = some (nI (cn a), w) := by rw [r_bits (by omega), pu_B_cn h]
theorem r_solved {k : Nat} (h : rQ fd st 0 w) (hn : 0 < (fd 0 0)) (hk : k ≤ 2) : Wp (f_X12_solved (nI k) w) (fun p => (∃ r, isN (pu_k fd (st 2 0)) (pu_o fd st) (fun _ => true) ((fd 0 1) * (fd 0 2)) (pu_u fd st) r ∧ p.1 = nI (if k = 0 then cn (pu_so fd st) else if k = 1 then pu_so fd st else r)) ∧ eqx [284, 286, 288] w p.2) := by
  have hF := h.1
  have h10 := hF.1
  have hK := pu_k_M hF h.2.1.1
  have hU10 := pu_k10 (pu_u_lt (fd := fd) (st := st)) h10
  unfold f_X12_solved
  rw [r_isField h.2.2.1.1 h10, pu_b2, decide_eq_true hn, if_neg (by decide), show (0 : Int32) = nI 0 from rfl, show (2 : Int32) = nI 2 from rfl, r_in (by omega) (by omega) (by omega), pu_b2, decide_eq_true ⟨Nat.zero_le _, hk⟩, if_neg (by decide)]
  refine Wp.b1 ((r_putAside w).mono ?_)
  rintro w1 ⟨p1, p2⟩
  refine Wp.b2 ((r_solveNow (h.ex p2 (by decide)) (rB.of p1 p2)).mono ?_)
  rintro ⟨r, w2⟩ ⟨⟨r, rfl, hN, hq⟩, hb⟩
  have hs := r_knownSet hq
  rw [pu_it_u, sel_0, isN_R hK hU10 hN] at hs
  have hso : pu_so fd st < 1024 := sb_lt (n := 10) sb_sd (pu_all10 h10)
  have hs : f_X12_knownSet w2 = some (nI (pu_so fd st), w2) := hs
  show Wp (am_b2 (f_X12_knownSet w2) _) _
  rw [hs, pu_b2]
  refine Wp.b1 ((r_bringBack hb).mono ?_)
  intro w3 hx
  unfold f_X12_solved_57
  simp (disch := omega) only [pv_v, pv_b2, pv_b1, pv_x, pv_lit, pv_ofN, pu_chk, pu_cl, nI_add, pk_mul, nI_leI, nI_ltI, nI_eq, pu_nar0, pu_nar1, pu_narb, bI_0, bI_1, ↓reduceIte, pu_leT, pu_leF, pu_ltT, pu_ltF, pu_eqT, pu_eqF, pu_x1, pu_x2, pu_x3, pu_x4, pu_x5, pu_x6, pu_x7, pu_x8, Nat.zero_add, pu_m31I, pu_m31, pu_shlI, eq_self, Bool.false_eq_true, Bool.true_eq_false, r_bitsc]
  refine Wp.of (r := (nI (if k = 0 then cn (pu_so fd st) else if k = 1 then pu_so fd st else r), w3)) ?_ ⟨⟨r, hN, rfl⟩, hx⟩
  split
  · rfl
  · split <;> rfl
theorem r_hasteOf {u : Nat} (h : rQ fd st 0 w) (hu : u < (fd 0 0)) : Wp (f_X12_hasteOf (nI u) w) (fun p => isH (pu_k fd (st 2 0)) (pu_o fd st) (fun _ => true) ((fd 0 1) * (fd 0 2)) (pu_u fd st) u p.1 ∧ eqx [284, 286, 288] w p.2) := by
  have hF := h.1
  have h10 := hF.1
  have hK := pu_k_M hF h.2.1.1
  have hU10 := pu_k10 (pu_u_lt (fd := fd) (st := st)) h10
  have hbit : ∀ i, (pu_it fd st 0 i 0 u == 0) = (sR (pu_k fd (st 2 0)) (pu_o fd st) (fun _ => true) ((fd 0 1) * (fd 0 2)) (pu_u fd st) i).testBit u := by
    intro i
    have := pu_it_u (fd := fd) (st := st) (jm := 0) i
    rw [sel_0] at this
    rw [← this]
    unfold pu_u
    rw [pu_S_bit, decide_eq_true hu, Bool.true_and]
  unfold f_X12_hasteOf
  refine Wp.b1 ((r_putAside w).mono ?_)
  rintro w1 ⟨p1, p2⟩
  unfold f_X12_hasteOf_6
  refine Wp.lp (fun i s => ∃ w', s = (nI i, w') ∧ rQ fd (pu_it fd st 0 i) 0 w' ∧ rB w w' ∧ ∀ j, j < i → (sR (pu_k fd (st 2 0)) (pu_o fd st) (fun _ => true) ((fd 0 1) * (fd 0 2)) (pu_u fd st) j).testBit u = true ∧ sA (pu_k fd (st 2 0)) (pu_o fd st) (fun _ => true) (sR (pu_k fd (st 2 0)) (pu_o fd st) (fun _ => true) ((fd 0 1) * (fd 0 2)) (pu_u fd st) j) ((fd 0 1) * (fd 0 2)) ≠ 0) 10 (by decide) ⟨w1, rfl, h.ex p2 (by decide), rB.of p1 p2, fun j hj => absurd hj (by omega)⟩ ?_
  rintro i _ hi ⟨w', rfl, hq, hb, hj⟩
  have hA := pu_it_A (fd := fd) (st := st) (jm := 0) i
  rw [sel_0] at hA
  have hc0 := cn_A0 (jm := 0) hF hq.2.1
  have hc10 := cn_le (pu_A fd (pu_it fd st 0 i) 0)
  unfold f_X12_hasteOf_6b
  simp (disch := omega) only [pv_v, pv_b2, pv_b1, pv_x, pv_lit, pv_ofN, pu_chk, pu_cl, nI_add, pk_mul, nI_leI, nI_ltI, nI_eq, pu_nar0, pu_nar1, pu_narb, bI_0, bI_1, ↓reduceIte, pu_leT, pu_leF, pu_ltT, pu_ltF, pu_eqT, pu_eqF, pu_x1, pu_x2, pu_x3, pu_x4, pu_x5, pu_x6, pu_x7, pu_x8, Nat.zero_add, pu_m31I, pu_m31, pu_shlI, eq_self, Bool.false_eq_true, Bool.true_eq_false, r_isUnknown hq (u := u) (by omega), hbit i]
  cases e : (sR (pu_k fd (st 2 0)) (pu_o fd st) (fun _ => true) ((fd 0 1) * (fd 0 2)) (pu_u fd st) i).testBit u
  · unfold f_X12_hasteOf_27 f_X12_hasteOf_40 f_X12_hasteOf_54
    simp (disch := omega) only [pv_v, pv_b2, pv_b1, pv_x, pv_lit, pv_ofN, pu_chk, pu_cl, nI_add, pk_mul, nI_leI, nI_ltI, nI_eq, pu_nar0, pu_nar1, pu_narb, bI_0, bI_1, ↓reduceIte, pu_leT, pu_leF, pu_ltT, pu_ltF, pu_eqT, pu_eqF, pu_x1, pu_x2, pu_x3, pu_x4, pu_x5, pu_x6, pu_x7, pu_x8, Nat.zero_add, pu_m31I, pu_m31, pu_shlI, eq_self, Bool.false_eq_true, Bool.true_eq_false, r_isUnknown hq (u := u) (by omega), hbit i, e]
    refine Wp.x (Wp.b1 ((r_bringBack hb).mono ?_))
    intro w3 hx
    exact Wp.some ⟨.inl ⟨i, by omega, rfl, e, fun j hj1 => (hj j hj1).1⟩, hx⟩
  · simp (disch := omega) only [pv_v, pv_b2, pv_b1, pv_x, pv_lit, pv_ofN, pu_chk, pu_cl, nI_add, pk_mul, nI_leI, nI_ltI, nI_eq, pu_nar0, pu_nar1, pu_narb, bI_0, bI_1, ↓reduceIte, pu_leT, pu_leF, pu_ltT, pu_ltF, pu_eqT, pu_eqF, pu_x1, pu_x2, pu_x3, pu_x4, pu_x5, pu_x6, pu_x7, pu_x8, Nat.zero_add, pu_m31I, pu_m31, pu_shlI, eq_self, Bool.false_eq_true, Bool.true_eq_false]
    refine Wp.b2 ((r_roundB hq hb).mono ?_)
    rintro ⟨r, w2⟩ ⟨rfl, q1, q2⟩
    by_cases e2 : cn (pu_A fd (pu_it fd st 0 i) 0) = 0
    · have hst : sA (pu_k fd (st 2 0)) (pu_o fd st) (fun _ => true) (sR (pu_k fd (st 2 0)) (pu_o fd st) (fun _ => true) ((fd 0 1) * (fd 0 2)) (pu_u fd st) i) ((fd 0 1) * (fd 0 2)) = 0 := by rw [← hA]; exact hc0.mp e2
      have hb1 := hbit (i + 1)
      rw [sR_stop hst 1, e] at hb1
      unfold f_X12_hasteOf_27 f_X12_hasteOf_40 f_X12_hasteOf_54
      have hu2 := r_isUnknown q1 (u := u) (by omega)
      rw [show pu_rd fd (pu_it fd st 0 i) 0 0 u = pu_it fd st 0 (i + 1) 0 u from rfl, hb1] at hu2
      simp (disch := omega) only [pv_v, pv_b2, pv_b1, pv_x, pv_lit, pv_ofN, pu_chk, pu_cl, nI_add, pk_mul, nI_leI, nI_ltI, nI_eq, pu_nar0, pu_nar1, pu_narb, bI_0, bI_1, ↓reduceIte, pu_leT, pu_leF, pu_ltT, pu_ltF, pu_eqT, pu_eqF, pu_x1, pu_x2, pu_x3, pu_x4, pu_x5, pu_x6, pu_x7, pu_x8, Nat.zero_add, pu_m31I, pu_m31, pu_shlI, eq_self, Bool.false_eq_true, Bool.true_eq_false, e2, hu2]
      refine Wp.x (Wp.b1 ((r_bringBack q2).mono ?_))
      intro w3 hx
      refine Wp.some ⟨.inr ⟨rfl, fun j hj1 => ?_⟩, hx⟩
      rcases Nat.lt_or_ge j i with q | q
      · exact (hj j q).1
      · have := sR_stop hst (j - i)
        rw [show i + (j - i) = j by omega] at this
        rw [this]; exact e
    · simp (disch := omega) only [pv_v, pv_b2, pv_b1, pv_x, pv_lit, pv_ofN, pu_chk, pu_cl, nI_add, pk_mul, nI_leI, nI_ltI, nI_eq, pu_nar0, pu_nar1, pu_narb, bI_0, bI_1, ↓reduceIte, pu_leT, pu_leF, pu_ltT, pu_ltF, pu_eqT, pu_eqF, pu_x1, pu_x2, pu_x3, pu_x4, pu_x5, pu_x6, pu_x7, pu_x8, Nat.zero_add, pu_m31I, pu_m31, pu_shlI, eq_self, Bool.false_eq_true, Bool.true_eq_false, e2]
      have hne : sA (pu_k fd (st 2 0)) (pu_o fd st) (fun _ => true) (sR (pu_k fd (st 2 0)) (pu_o fd st) (fun _ => true) ((fd 0 1) * (fd 0 2)) (pu_u fd st) i) ((fd 0 1) * (fd 0 2)) ≠ 0 := fun z => e2 (hc0.mpr (by rw [hA]; exact z))
      refine Wp.some ⟨.mk ?_, w2, rfl, q1, q2, fun j hj1 => ?_⟩
      · rcases sR_cn (occ := pu_o fd st) (sel := fun _ => true) (T := (fd 0 1) * (fd 0 2)) hK hU10 i with q | q
        · exact absurd q hne
        · have : cn (sR (pu_k fd (st 2 0)) (pu_o fd st) (fun _ => true) ((fd 0 1) * (fd 0 2)) (pu_u fd st) i) ≠ 0 := fun q0 => hne (by rw [cn_0 (sb_lt (n := 10) (sR_P hK i).1 hU10) q0]; exact sA_0 hK)
          omega
      · by_cases q : j = i
        · subst q; exact ⟨e, hne⟩
        · exact hj j (by omega)
end RASK
