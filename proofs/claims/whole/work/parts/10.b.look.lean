/-! pure part: states; the class looks at one (wip/whole/pure/10.b.look.src)
st 0 how a USER is known, 1 its COPIES as bits, 2 0 CAPTURE, 3 how many on a SHELF, 4 who lies at 10 * SHELF + place -/
def pu_lo (fd : Nat → Nat → Nat) (u : Nat) : Nat := fd 3 u * (fd 0 1)
def pu_up (fd : Nat → Nat → Nat) (u : Nat) : Nat := min (fd 3 u + 2) (fd 0 2) * (fd 0 1)
def wS (fd st : Nat → Nat → Nat) : Prop := (st 2 0) ≤ 99 ∧ (∀ u, st 0 u ≤ 3) ∧ (∀ u, (fd 0 0) ≤ u → st 0 u = 0 ∧ st 1 u = 0) ∧ (∀ u s, (st 1 u).testBit s = true → u < (fd 0 0) ∧ pu_lo fd u ≤ s ∧ s < pu_up fd u) ∧ (∀ j, st 3 j ≤ 10)
/-- who has a COPY in a SLOT; who is UNKNOWN -/
def pu_o (fd st : Nat → Nat → Nat) (s : Nat) : Nat := pu_S (fun u => (st 1 u).testBit s) (fd 0 0)
def pu_u (fd st : Nat → Nat → Nat) : Nat := pu_S (fun u => st 0 u == 0) (fd 0 0)
theorem pu_o_lt {fd st : Nat → Nat → Nat} {s : Nat} : pu_o fd st s < 2 ^ (fd 0 0) := pu_S_lt _ _
theorem pu_u_lt {fd st : Nat → Nat → Nat} : pu_u fd st < 2 ^ (fd 0 0) := pu_S_lt _ _
theorem pu_lo_up {fd : Nat → Nat → Nat} (h : wF fd) {u : Nat} (hu : u < (fd 0 0)) : pu_lo fd u < pu_up fd u ∧ pu_up fd u ≤ (fd 0 1) * (fd 0 2) ∧ pu_lo fd u + 2 ≤ pu_up fd u ∧ pu_up fd u ≤ pu_lo fd u + 24 := by
  obtain ⟨h1, h2, h3, h4, h5, h6, h7⟩ := h
  obtain ⟨-, -, -, -, h8⟩ := h6 u hu
  obtain ⟨h9, -⟩ := h4 (by omega)
  unfold pu_lo pu_up
  have a1 : (fd 3 u + 1) * (fd 0 1) ≤ min (fd 3 u + 2) (fd 0 2) * (fd 0 1) := Nat.mul_le_mul_right _ (by omega)
  have a2 : min (fd 3 u + 2) (fd 0 2) * (fd 0 1) ≤ (fd 0 2) * (fd 0 1) := Nat.mul_le_mul_right _ (by omega)
  have a3 : min (fd 3 u + 2) (fd 0 2) * (fd 0 1) ≤ (fd 3 u + 2) * (fd 0 1) := Nat.mul_le_mul_right _ (by omega)
  rw [Nat.add_mul] at a1 a3
  rw [Nat.mul_comm (fd 0 1) (fd 0 2)]
  omega
theorem wS_lt {fd st : Nat → Nat → Nat} (hF : wF fd) (h : wS fd st) (u : Nat) : st 1 u < 2 ^ 48 := by
  apply Nat.lt_pow_two_of_testBit
  intro s hs
  cases e : (st 1 u).testBit s
  · rfl
  · obtain ⟨h1, h2, h3⟩ := h.2.2.2.1 u s e
    have := (pu_lo_up hF h1).2.1
    have := pu_T48 hF
    omega
/-- the class's side of a state, at place p -/
def cS (st : Nat → Nat → Nat) (p : Nat) (w : am_S) : Prop := (∀ u, u < 10 → w.1 (p + 1) u = nI (st 0 u)) ∧ (∀ u, u < 10 → w.2.1 (p + 2) u = lN (st 1 u)) ∧ w.1 p 4 = nI (st 2 0) ∧ (∀ j, j < 3 → w.1 (p + 4) j = nI (st 3 j)) ∧ (∀ j i, j < 3 → i < st 3 j → w.1 (p + 3) (10 * j + i) = nI (st 4 (10 * j + i)))
/-- the class's side of the FIELD -/
def cF (fd : Nat → Nat → Nat) (w : am_S) : Prop := w.1 11 11 = nI (fd 0 0) ∧ w.1 11 7 = nI (fd 0 1) ∧ w.1 11 8 = nI (fd 0 2) ∧ w.1 11 10 = nI (fd 0 3) ∧ w.1 11 13 = nI (fd 4 1 + fd 4 2 + fd 4 3 + fd 4 4 + fd 4 5 + fd 4 6) ∧ (∀ u, u < (fd 0 0) → w.1 13 u = nI (fd 1 u) ∧ w.1 14 u = nI (fd 2 u) ∧ w.1 15 u = nI (fd 3 u)) ∧ (∀ k, 1 ≤ k → k ≤ 6 → w.1 18 k = nI (fd 4 k))
/-- the Peeler's tables -/
def cT (fd : Nat → Nat → Nat) (w : am_S) : Prop := (∀ u, u < (fd 0 0) → w.2.2 251 u = pu_f fd u) ∧ (∀ m, m < 2 ^ (fd 0 0) → w.2.2 252 m = pu_d fd m (fd 0 0)) ∧ (w.1 250 5 = -nI 1 ∨ ∃ c, c ≤ 99 ∧ w.1 250 5 = nI c ∧ ∀ m, m < 2 ^ (fd 0 0) → w.1 253 m = -nI 1 ∨ w.1 253 m = nI (pu_k fd c m))
def am_fill (w : am_S) (p n : Nat) (v : Int32) : am_S := (fun q j => if q = p ∧ j < n then v else w.1 q j, w.2)
theorem fill_in {w : am_S} {p n j : Nat} {v : Int32} (h : j < n) : (am_fill w p n v).1 p j = v := by simp [am_fill, h]
theorem fill_out {w : am_S} {p n j : Nat} {v : Int32} (h : n ≤ j) : (am_fill w p n v).1 p j = w.1 p j := by simp [am_fill, Nat.not_lt.mpr h]
theorem fill_p {w : am_S} {p n q : Nat} {v : Int32} (h : q ≠ p) : (am_fill w p n v).1 q = w.1 q := by
  funext j
  simp [am_fill, h]
theorem fill_l {w : am_S} {p n : Nat} {v : Int32} : (am_fill w p n v).2 = w.2 := rfl
theorem eqx.fill {A : List Nat} {w : am_S} {p k : Nat} {v : Int32} (h : p ∈ A) : eqx A w (am_fill w p k v) := ⟨rfl, fun q hq => fill_p (fun e => hq (e ▸ h))⟩
theorem c_fill {p m : Nat} {v : Int32} (w : am_S) (hm : m < 1000000) : f_J7_fill_53178 p m v w = some (am_fill w p m v) := by
  unfold f_J7_fill_53178 f_J7_fill_53178_5
  rw [pu_v]
  refine pu_tr (fun i => (nI i, am_fill w p i v)) m ?_ hm (fun i hi => ?_) ?_
  · refine Prod.ext rfl (Prod.ext ?_ rfl)
    funext q j
    simp [am_fill]
  · unfold f_J7_fill_53178_5b
    simp (disch := omega) only [pv_v, pv_b2, pv_b1, pv_x, pv_lit, pv_ofN, pu_chk, pu_cl, nI_add, pk_mul, nI_leI, nI_ltI, nI_eq, pu_nar0, pu_nar1, pu_narb, bI_0, bI_1, ↓reduceIte, pu_leT, pu_leF, pu_ltT, pu_ltF, pu_eqT, pu_eqF, pu_x1, pu_x2, pu_x3, pu_x4, pu_x5, pu_x6, pu_x7, pu_x8, Nat.zero_add, pu_m31I, pu_m31, pu_shlI, eq_self, Bool.false_eq_true, Bool.true_eq_false]
    congr 3
    refine Prod.ext ?_ rfl
    funext q j
    show (if q = p ∧ j = i then v else if q = p ∧ j < i then v else w.1 q j) = if q = p ∧ j < i + 1 then v else w.1 q j
    by_cases h1 : q = p
    · by_cases h2 : j = i
      · simp [h1, h2]
      · by_cases h3 : j < i
        · rw [if_neg (by omega), if_pos ⟨h1, h3⟩, if_pos ⟨h1, by omega⟩]
        · rw [if_neg (by omega), if_neg (by omega), if_neg (by omega)]
    · simp [h1]
  · unfold f_J7_fill_53178_5b
    simp (disch := omega) only [pv_v, pv_b2, pv_b1, pv_x, pv_lit, pv_ofN, pu_chk, pu_cl, nI_add, pk_mul, nI_leI, nI_ltI, nI_eq, pu_nar0, pu_nar1, pu_narb, bI_0, bI_1, ↓reduceIte, pu_leT, pu_leF, pu_ltT, pu_ltF, pu_eqT, pu_eqF, pu_x1, pu_x2, pu_x3, pu_x4, pu_x5, pu_x6, pu_x7, pu_x8, Nat.zero_add, pu_m31I, pu_m31, pu_shlI, eq_self, Bool.false_eq_true, Bool.true_eq_false]
section LOOK
variable {fd st : Nat → Nat → Nat} {w : am_S}
theorem c_reachTo (hF : wF fd) (h : cF fd w) {u : Nat} (hu : u < (fd 0 0)) : f_X1_reachTo 11 (nI u) w = some (nI (pu_up fd u), w) := by
  obtain ⟨e1, e2, e3, e4, e5, e6, e7⟩ := h
  have h10 := hF.1
  have hf := hF.2.2.1
  have hh := (hF.2.2.2.2.2.1 u hu).2.2.2.2
  have hr : w.1 (11 + 4) u = nI (fd 3 u) := (e6 u hu).2.2
  unfold f_X1_reachTo f_X1_reachTo_25 pu_up
  simp (disch := omega) only [pv_v, pv_b2, pv_b1, pv_x, pv_lit, pv_ofN, pu_chk, pu_cl, nI_add, pk_mul, nI_leI, nI_ltI, nI_eq, pu_nar0, pu_nar1, pu_narb, bI_0, bI_1, ↓reduceIte, pu_leT, pu_leF, pu_ltT, pu_ltF, pu_eqT, pu_eqF, pu_x1, pu_x2, pu_x3, pu_x4, pu_x5, pu_x6, pu_x7, pu_x8, Nat.zero_add, pu_m31I, pu_m31, pu_shlI, eq_self, Bool.false_eq_true, Bool.true_eq_false, hr, e2, e3]
  by_cases c : (fd 0 2) ≤ fd 3 u + 2
  · rw [if_pos c, Nat.min_eq_right c]
  · rw [if_neg c, Nat.min_eq_left (by omega)]
theorem c_reachFrom (hF : wF fd) (h : cF fd w) {u : Nat} (hu : u < (fd 0 0)) : f_X1_reachFrom 11 (nI u) w = some (nI (pu_lo fd u), w) := by
  obtain ⟨e1, e2, e3, e4, e5, e6, e7⟩ := h
  have h10 := hF.1
  have hr : w.1 (11 + 4) u = nI (fd 3 u) := (e6 u hu).2.2
  unfold f_X1_reachFrom pu_lo
  simp (disch := omega) only [pv_v, pv_b2, pv_b1, pv_x, pv_lit, pv_ofN, pu_chk, pu_cl, nI_add, pk_mul, nI_leI, nI_ltI, nI_eq, pu_nar0, pu_nar1, pu_narb, bI_0, bI_1, ↓reduceIte, pu_leT, pu_leF, pu_ltT, pu_ltF, pu_eqT, pu_eqF, pu_x1, pu_x2, pu_x3, pu_x4, pu_x5, pu_x6, pu_x7, pu_x8, Nat.zero_add, pu_m31I, pu_m31, pu_shlI, eq_self, Bool.false_eq_true, Bool.true_eq_false, hr, e2]
theorem c_hasCopy {p : Nat} (hF : wF fd) (hS : wS fd st) (h : ∀ u, u < 10 → w.2.1 (p + 2) u = lN (st 1 u)) {u s : Nat} (hu : u < 10) (hs : s < 63) : f_X9_hasCopy p (nI u) (nI s) w = some (bI ((st 1 u).testBit s), w) := by
  have hl := wS_lt hF hS u
  unfold f_X9_hasCopy f_X9_hasCopy_20
  simp (disch := omega) only [pv_v, pv_b2, pv_b1, pv_x, pv_lit, pv_ofN, pu_chk, pu_cl, nI_add, pk_mul, nI_leI, nI_ltI, nI_eq, pu_nar0, pu_nar1, pu_narb, bI_0, bI_1, ↓reduceIte, pu_leT, pu_leF, pu_ltT, pu_ltF, pu_eqT, pu_eqF, pu_x1, pu_x2, pu_x3, pu_x4, pu_x5, pu_x6, pu_x7, pu_x8, Nat.zero_add, pu_m31I, pu_m31, pu_shlI, eq_self, Bool.false_eq_true, Bool.true_eq_false, h u hu, pu_litL0, pu_litL1, lr_0]
  cases (st 1 u).testBit s <;> rfl
theorem c_assume {c : Nat} (hF : wF fd) (hc : c ≤ 99) (h : cT fd w) : Wp (f_X7_assume (nI c) w) (fun w' => (∀ u, u < (fd 0 0) → w'.2.2 251 u = pu_f fd u) ∧ (∀ m, m < 2 ^ (fd 0 0) → w'.2.2 252 m = pu_d fd m (fd 0 0)) ∧ w'.1 250 5 = nI c ∧ (∀ m, m < 2 ^ (fd 0 0) → w'.1 253 m = -nI 1 ∨ w'.1 253 m = nI (pu_k fd c m)) ∧ (∀ k, k ≠ 5 → w'.1 250 k = w.1 250 k) ∧ eqx [250, 253] w w') := by
  obtain ⟨h1, h2, h3⟩ := h
  have h10 := hF.1
  unfold f_X7_assume f_X7_assume_21
  by_cases e : w.1 250 5 = nI c
  · rw [if_pos e]
    refine Wp.some ⟨h1, h2, e, ?_, fun _ _ => rfl, eqx.rf⟩
    rcases h3 with h3 | ⟨d, hd, h3, h4⟩
    · rw [e] at h3; exact absurd h3 (pu_ne1 (by omega))
    · rw [e, nI_eq (by omega) (by omega)] at h3
      subst h3
      exact h4
  · rw [if_neg e, c_fill w (by decide), pu_b1, pu_v]
    refine Wp.some ⟨h1, h2, pi_same, fun m hm => .inl ?_, fun k hk => ?_, (eqx.fill (by simp)).on (eqx.pi (by simp))⟩
    · rw [pi_p (by decide), fill_in (pu_k10 hm h10)]
      rfl
    · rw [pi_k hk, fill_p (by decide)]
theorem c_look70 {p i : Nat} {w' : am_S} (hp : p + 4 < 250) (hF : wF fd) (hS : wS fd st) (hi : i < (fd 0 0)) (hc : ∀ u, u < 10 → w'.2.1 (p + 2) u = lN (st 1 u)) (h0 : ∀ s, s < 48 → w'.1 254 s = nI (pu_S (fun u => (st 1 u).testBit s) i)) : Wp (f_X7_lookAt_70 p (nI i) (nI (pu_up fd i)) (nI (pu_lo fd i)) w') (Sum.elim (fun _ => False) (fun s => ∃ w'', s = (nI (i + 1), w'') ∧ (∀ s, s < 48 → w''.1 254 s = nI (pu_S (fun u => (st 1 u).testBit s) (i + 1))) ∧ eqx [254] w' w'')) := by
  have h10 := hF.1
  have hT := pu_T48 hF
  obtain ⟨hl1, hl2, hl3, hl4⟩ := pu_lo_up hF hi
  unfold f_X7_lookAt_70
  refine Wp.for (fun j w => (nI (pu_lo fd i + j), w)) (fun j w'' => (∀ s, s < 48 → w''.1 254 s = nI (pu_S (fun u => (st 1 u).testBit s) (if s < pu_lo fd i + j then i + 1 else i))) ∧ eqx [254] w' w'') (pu_up fd i - pu_lo fd i) (by omega) rfl ⟨fun s hs => ?_, eqx.rf⟩ (fun j w'' hj hI => ?_) (fun w'' hI => ?_)
  · rw [h0 s hs]
    by_cases c : s < pu_lo fd i + 0
    · rw [if_pos c]
      have : (st 1 i).testBit s = false := by
        cases e : (st 1 i).testBit s
        · rfl
        · have := (hS.2.2.2.1 i s e).2.1; omega
      rw [pu_S_f (p := fun u => (st 1 u).testBit s) this]
    · rw [if_neg c]
  · obtain ⟨hI1, hI2⟩ := hI
    have hc' : ∀ u, u < 10 → w''.2.1 (p + 2) u = lN (st 1 u) := fun u hu => by rw [hI2.l]; exact hc u hu
    have hr := hI1 (pu_lo fd i + j) (by omega)
    rw [if_neg (Nat.lt_irrefl _)] at hr
    have hh := c_hasCopy hF hS hc' (u := i) (s := pu_lo fd i + j) (by omega) (by omega)
    have fin : ∀ x, x = pu_S (fun u => (st 1 u).testBit (pu_lo fd i + j)) (i + 1) → ∀ s, s < 48 → (am_pi w'' 254 (pu_lo fd i + j) (nI x)).1 254 s = nI (pu_S (fun u => (st 1 u).testBit s) (if s < pu_lo fd i + (j + 1) then i + 1 else i)) := by
      intro x hx s hs
      rw [pi_ite]
      by_cases e : s = pu_lo fd i + j
      · subst e
        rw [if_pos rfl, if_pos (show pu_lo fd i + j < pu_lo fd i + (j + 1) by omega), hx]
      · rw [if_neg e, hI1 s hs]
        by_cases c : s < pu_lo fd i + j
        · rw [if_pos c, if_pos (by omega)]
        · rw [if_neg c, if_neg (by omega)]
    unfold f_X7_lookAt_70b f_X7_lookAt_101
    simp (disch := omega) only [pv_v, pv_b2, pv_b1, pv_x, pv_lit, pv_ofN, pu_chk, pu_cl, nI_add, pk_mul, nI_leI, nI_ltI, nI_eq, pu_nar0, pu_nar1, pu_narb, bI_0, bI_1, ↓reduceIte, pu_leT, pu_leF, pu_ltT, pu_ltF, pu_eqT, pu_eqF, pu_x1, pu_x2, pu_x3, pu_x4, pu_x5, pu_x6, pu_x7, pu_x8, Nat.zero_add, pu_m31I, pu_m31, pu_shlI, eq_self, Bool.false_eq_true, Bool.true_eq_false, hh, hr]
    cases hb : (st 1 i).testBit (pu_lo fd i + j)
    · simp (disch := omega) only [pv_v, pv_b2, pv_b1, pv_x, pv_lit, pv_ofN, pu_chk, pu_cl, nI_add, pk_mul, nI_leI, nI_ltI, nI_eq, pu_nar0, pu_nar1, pu_narb, bI_0, bI_1, ↓reduceIte, pu_leT, pu_leF, pu_ltT, pu_ltF, pu_eqT, pu_eqF, pu_x1, pu_x2, pu_x3, pu_x4, pu_x5, pu_x6, pu_x7, pu_x8, Nat.zero_add, pu_m31I, pu_m31, pu_shlI, eq_self, Bool.false_eq_true, Bool.true_eq_false, pu_or, Nat.or_zero]
      exact Wp.some ⟨_, rfl, fin _ (pu_S_f (p := fun u => (st 1 u).testBit (pu_lo fd i + j)) hb).symm, hI2.on (eqx.pi (by simp))⟩
    · simp (disch := omega) only [pv_v, pv_b2, pv_b1, pv_x, pv_lit, pv_ofN, pu_chk, pu_cl, nI_add, pk_mul, nI_leI, nI_ltI, nI_eq, pu_nar0, pu_nar1, pu_narb, bI_0, bI_1, ↓reduceIte, pu_leT, pu_leF, pu_ltT, pu_ltF, pu_eqT, pu_eqF, pu_x1, pu_x2, pu_x3, pu_x4, pu_x5, pu_x6, pu_x7, pu_x8, Nat.zero_add, pu_m31I, pu_m31, pu_shlI, eq_self, Bool.false_eq_true, Bool.true_eq_false, pu_or]
      exact Wp.some ⟨_, rfl, fin _ (pu_S_t (p := fun u => (st 1 u).testBit (pu_lo fd i + j)) hb).symm, hI2.on (eqx.pi (by simp))⟩
  · obtain ⟨hI1, hI2⟩ := hI
    rw [show pu_lo fd i + (pu_up fd i - pu_lo fd i) = pu_up fd i by omega] at hI1 ⊢
    unfold f_X7_lookAt_70b
    simp (disch := omega) only [pv_v, pv_b2, pv_b1, pv_x, pv_lit, pv_ofN, pu_chk, pu_cl, nI_add, pk_mul, nI_leI, nI_ltI, nI_eq, pu_nar0, pu_nar1, pu_narb, bI_0, bI_1, ↓reduceIte, pu_leT, pu_leF, pu_ltT, pu_ltF, pu_eqT, pu_eqF, pu_x1, pu_x2, pu_x3, pu_x4, pu_x5, pu_x6, pu_x7, pu_x8, Nat.zero_add, pu_m31I, pu_m31, pu_shlI, eq_self, Bool.false_eq_true, Bool.true_eq_false]
    refine Wp.some ⟨w'', rfl, fun s hs => ?_, hI2⟩
    rw [hI1 s hs]
    by_cases c : s < pu_up fd i
    · rw [if_pos c]
    · rw [if_neg c]
      have : (st 1 i).testBit s = false := by
        cases e : (st 1 i).testBit s
        · rfl
        · have := (hS.2.2.2.1 i s e).2.2; omega
      rw [pu_S_f (p := fun u => (st 1 u).testBit s) this]
theorem c_lookAt {p : Nat} (hp : p + 4 < 250) (hp2 : 18 < p) (hF : wF fd) (hn : 0 < (fd 0 0)) (hS : wS fd st) (hf : cF fd w) (ht : cT fd w) (hs : cS st p w) : Wp (f_X7_lookAt p w) (fun w' => cV fd (pu_o fd st) (st 2 0) w' ∧ w'.1 250 6 = nI (pu_u fd st) ∧ eqx [250, 253, 254] w w') := by
  have h10 := hF.1
  have hT := pu_T48 hF
  obtain ⟨s1, s2, s3, s4, s5⟩ := id hs
  unfold f_X7_lookAt
  rw [c_fill w (by decide), pu_b1, pu_v]
  unfold f_X7_lookAt_15
  refine Wp.for (fun i w => (nI i, w)) (fun i w' => (∀ s, s < 48 → w'.1 254 s = nI (pu_S (fun u => (st 1 u).testBit s) i)) ∧ w'.1 250 6 = nI (pu_S (fun u => st 0 u == 0) i) ∧ w'.1 250 5 = w.1 250 5 ∧ eqx [250, 254] w w') (fd 0 0) (by omega) rfl ⟨fun s hs => ?_, ?_, ?_, ?_⟩ (fun i w' hi hI => ?_) (fun w' hI => ?_)
  · rw [pi_p (by decide), fill_in hs]
    rfl
  · rw [pi_same]
    rfl
  · rw [pi_k (by decide), fill_p (by decide)]
  · exact (eqx.fill (by simp)).on (eqx.pi (by simp))
  · obtain ⟨i1, i2, i3, i4⟩ := hI
    have r1 : w'.1 11 11 = nI (fd 0 0) := i4.t (hf.1) (by simp)
    have r2 : w'.1 (p + 1) i = nI (st 0 i) := i4.t (s1 i (by omega)) (by simp; omega)
    have hw : st 0 i ≤ 3 := hS.2.1 i
    have hS2 := pu_S_n10 (fun u => st 0 u == 0) (n := i) (by omega)
    have key : ∀ x : Nat, pu_S (fun u => st 0 u == 0) i ||| x = pu_S (fun u => st 0 u == 0) (i + 1) → Wp (f_X7_lookAt_47 p (nI i) (nI x) (nI (pu_S (fun u => st 0 u == 0) i)) w') (Sum.elim (fun w' => cV fd (pu_o fd st) (st 2 0) w' ∧ w'.1 250 6 = nI (pu_u fd st) ∧ eqx [250, 253, 254] w w') (fun s' => ∃ w'', s' = (nI (i + 1), w'') ∧ (∀ s, s < 48 → w''.1 254 s = nI (pu_S (fun u => (st 1 u).testBit s) (i + 1))) ∧ w''.1 250 6 = nI (pu_S (fun u => st 0 u == 0) (i + 1)) ∧ w''.1 250 5 = w.1 250 5 ∧ eqx [250, 254] w w'')) := by
      intro x hx
      have i5 : eqx [250, 254] w (am_pi w' 250 6 (nI (pu_S (fun u => st 0 u == 0) (i + 1)))) := i4.on (eqx.pi (by simp))
      have hf' : cF fd (am_pi w' 250 6 (nI (pu_S (fun u => st 0 u == 0) (i + 1)))) := by
        obtain ⟨a1, a2, a3, a4, a5, a6, a7⟩ := hf
        refine ⟨?_, ?_, ?_, ?_, ?_, fun u hu => ?_, fun k h1 h2 => ?_⟩
        · exact i5.t (a1) (by simp)
        · exact i5.t (a2) (by simp)
        · exact i5.t (a3) (by simp)
        · exact i5.t (a4) (by simp)
        · exact i5.t (a5) (by simp)
        · exact ⟨i5.t (a6 u hu).1 (by simp), i5.t (a6 u hu).2.1 (by simp), i5.t (a6 u hu).2.2 (by simp)⟩
        · exact i5.t (a7 k h1 h2) (by simp)
      unfold f_X7_lookAt_47
      rw [pu_or, hx, pu_v, c_reachTo hF hf' hi, pu_b2, c_reachFrom hF hf' hi, pu_b2]
      refine (c_look70 hp hF hS hi (fun u hu => by rw [i5.l]; exact s2 u hu) (fun s hs => by rw [pi_p (by decide)]; exact i1 s hs)).mono ?_
      rintro (b | s') hq
      · exact absurd hq id
      · obtain ⟨w'', rfl, q1, q2⟩ := hq
        refine ⟨w'', rfl, q1, ?_, ?_, i5.on (q2.up (by decide))⟩
        · exact q2.t pi_same (by simp)
        · exact q2.t ((pi_k (by decide)).trans i3) (by simp)
    unfold f_X7_lookAt_15b
    simp (disch := omega) only [pv_v, pv_b2, pv_b1, pv_x, pv_lit, pv_ofN, pu_chk, pu_cl, nI_add, pk_mul, nI_leI, nI_ltI, nI_eq, pu_nar0, pu_nar1, pu_narb, bI_0, bI_1, ↓reduceIte, pu_leT, pu_leF, pu_ltT, pu_ltF, pu_eqT, pu_eqF, pu_x1, pu_x2, pu_x3, pu_x4, pu_x5, pu_x6, pu_x7, pu_x8, Nat.zero_add, pu_m31I, pu_m31, pu_shlI, eq_self, Bool.false_eq_true, Bool.true_eq_false, r1, r2, i2]
    by_cases e : st 0 i = 0
    · rw [if_pos e]
      exact key _ (by rw [pu_S_t (by simp [e])])
    · rw [if_neg e]
      exact key 0 (by rw [pu_S_f (by simp [e]), Nat.or_zero])
  · obtain ⟨i1, i2, i3, i4⟩ := hI
    have r1 : w'.1 11 11 = nI (fd 0 0) := i4.t (hf.1) (by simp)
    have r2 : w'.1 p 4 = nI (st 2 0) := i4.t (s3) (by simp; omega)
    have ht' : cT fd w' := by
      obtain ⟨t1, t2, t3⟩ := ht
      refine ⟨fun u hu => ?_, fun m hm => ?_, ?_⟩
      · rw [i4.f]; exact t1 u hu
      · rw [i4.f]; exact t2 m hm
      · rw [i3, show w'.1 253 = w.1 253 from i4.r (by simp)]; exact t3
    unfold f_X7_lookAt_15b
    simp (disch := omega) only [pv_v, pv_b2, pv_b1, pv_x, pv_lit, pv_ofN, pu_chk, pu_cl, nI_add, pk_mul, nI_leI, nI_ltI, nI_eq, pu_nar0, pu_nar1, pu_narb, bI_0, bI_1, ↓reduceIte, pu_leT, pu_leF, pu_ltT, pu_ltF, pu_eqT, pu_eqF, pu_x1, pu_x2, pu_x3, pu_x4, pu_x5, pu_x6, pu_x7, pu_x8, Nat.zero_add, pu_m31I, pu_m31, pu_shlI, eq_self, Bool.false_eq_true, Bool.true_eq_false, r1, r2]
    refine Wp.x (Wp.b1 ((c_assume hF hS.1 ht').mono ?_))
    rintro w'' ⟨q1, q2, q3, q4, q5, q6⟩
    have h11 : w''.1 11 = w.1 11 := (q6.r (by simp)).trans (i4.r (by simp))
    refine Wp.some ⟨⟨hF, hn, hS.1, fun s hs => pu_o_lt, by rw [h11]; exact hf.1, by rw [h11]; exact hf.2.1, by rw [h11]; exact hf.2.2.1, q3, q1, q2, q4, fun s hs => ?_⟩, ?_, ?_⟩
    · exact q6.t (i1 s (by omega)) (by simp)
    · rw [q5 6 (by decide)]; exact i2
    · exact (i4.up (by decide)).on (q6.up (by decide))
theorem c_look {p : Nat} (hp : p + 4 < 250) (hp2 : 18 < p) (hF : wF fd) (hn : 0 < (fd 0 0)) (hS : wS fd st) (hf : cF fd w) (ht : cT fd w) (hs : cS st p w) : Wp (f_X7_lookAt p w) (fun w' => cW fd (pu_o fd st) (st 2 0) (pu_u fd st) w w') := c_lookAt hp hp2 hF hn hS hf ht hs
theorem cV.T {occ : Nat → Nat} {c : Nat} (h : cV fd occ c w) : cT fd w := ⟨h.2.2.2.2.2.2.2.2.1, h.2.2.2.2.2.2.2.2.2.1, .inr ⟨c, h.2.2.1, h.2.2.2.2.2.2.2.1, h.2.2.2.2.2.2.2.2.2.2.1⟩⟩
theorem cF.ex {w w' : am_S} {A : List Nat} (h : cF fd w) (hx : eqx A w w') (hA : ∀ q ∈ [11, 13, 14, 15, 18], q ∉ A) : cF fd w' := by
  unfold cF
  rw [hx.r (hA 11 (by simp)), hx.r (hA 13 (by simp)), hx.r (hA 14 (by simp)), hx.r (hA 15 (by simp)), hx.r (hA 18 (by simp))]
  exact h
theorem cS.ex {w w' : am_S} {A : List Nat} {p : Nat} (h : cS st p w) (hx : eqx A w w') (hA : ∀ q ∈ [p, p + 1, p + 3, p + 4], q ∉ A) : cS st p w' := by
  unfold cS
  rw [hx.r (hA p (by simp)), hx.r (hA (p + 1) (by simp)), hx.r (hA (p + 3) (by simp)), hx.r (hA (p + 4) (by simp)), hx.l]
  exact h
end LOOK
