/-! pure part: the reference's ROUNDS (wip/whole/pure/11.c.round.src) -/
/-- the first that is not 0 of l from a on -/
def pu_wr (f : Nat → Nat) : Nat → Nat → Nat
  | _, 0 => 0
  | a, l + 1 => if f a ≠ 0 then f a else pu_wr f (a + 1) l
theorem pu_wr_z {f : Nat → Nat} {a : Nat} : pu_wr f a 0 = 0 := rfl
theorem pu_wr_s {f : Nat → Nat} {a l : Nat} : pu_wr f a (l + 1) = if f a ≠ 0 then f a else pu_wr f (a + 1) l := rfl
theorem pu_wr_0 {f : Nat → Nat} : ∀ {l a : Nat}, pu_wr f a l ≠ 0 ↔ ∃ s, a ≤ s ∧ s < a + l ∧ f s ≠ 0
  | 0, a => by
    constructor
    · intro h; exact absurd rfl h
    · rintro ⟨s, h1, h2, -⟩; omega
  | l + 1, a => by
    show (if f a ≠ 0 then f a else pu_wr f (a + 1) l) ≠ 0 ↔ _
    by_cases e : f a ≠ 0
    · rw [if_pos e]
      exact ⟨fun _ => ⟨a, by omega, by omega, e⟩, fun _ => e⟩
    · rw [if_neg e, pu_wr_0]
      constructor
      · rintro ⟨s, h1, h2, h3⟩; exact ⟨s, by omega, by omega, h3⟩
      · rintro ⟨s, h1, h2, h3⟩
        by_cases c : s = a
        · subst c; exact absurd h3 e
        · exact ⟨s, by omega, by omega, h3⟩
theorem pu_wr_end {f : Nat → Nat} : ∀ {l a : Nat}, pu_wr f a (l + 1) = if pu_wr f a l ≠ 0 then pu_wr f a l else f (a + l)
  | 0, a => by
    show (if f a ≠ 0 then f a else 0) = if (0 : Nat) ≠ 0 then _ else f (a + 0)
    rw [if_neg (by decide : ¬ (0 : Nat) ≠ 0), Nat.add_zero]
    split <;> omega
  | l + 1, a => by
    have ih := pu_wr_end (f := f) (l := l) (a := a + 1)
    show (if f a ≠ 0 then f a else pu_wr f (a + 1) (l + 1)) = if (if f a ≠ 0 then f a else pu_wr f (a + 1) l) ≠ 0 then (if f a ≠ 0 then f a else pu_wr f (a + 1) l) else f (a + (l + 1))
    by_cases e : f a ≠ 0
    · rw [if_pos e, if_pos e, if_pos e]
    · rw [if_neg e, if_neg e, ih, show a + 1 + l = a + (l + 1) by omega]
/-- how a SLOT makes a USER known -/
def pu_v1 (fd st : Nat → Nat → Nat) (jm u s : Nat) : Nat := if (pu_K fd st jm s).testBit u then (if pu_o fd st s &&& pu_u fd st = 2 ^ u then 1 else 2) else 0
def pu_wa (fd st : Nat → Nat → Nat) (jm u : Nat) : Nat := pu_wr (pu_v1 fd st jm u) 0 ((fd 0 1) * (fd 0 2))
/-- the state behind a ROUND -/
def pu_rd (fd st : Nat → Nat → Nat) (jm : Nat) : Nat → Nat → Nat := fun a u => if a = 0 ∧ u < (fd 0 0) ∧ pu_wa fd st jm u ≠ 0 then pu_wa fd st jm u else st a u
/-- who is CLEAR anywhere, as it is now -/
def pu_A (fd st : Nat → Nat → Nat) (jm : Nat) : Nat := sA (pu_k fd (st 2 0)) (pu_o fd st) (fun s => !jm.testBit s) (pu_u fd st) ((fd 0 1) * (fd 0 2))
section ROUND
variable {fd st : Nat → Nat → Nat} {jm : Nat} {w w0 : am_S}
theorem pu_v1_0 {u s : Nat} : pu_v1 fd st jm u s ≠ 0 ↔ (pu_K fd st jm s).testBit u = true := by
  unfold pu_v1
  cases (pu_K fd st jm s).testBit u
  · simp
  · rw [if_pos rfl]
    constructor
    · intro _; rfl
    · intro _; split <;> decide
theorem pu_v1_le {u s : Nat} : pu_v1 fd st jm u s ≤ 2 := by
  unfold pu_v1
  split
  · split <;> decide
  · decide
theorem pu_wr_le {f : Nat → Nat} {c : Nat} (h : ∀ s, f s ≤ c) : ∀ {l a : Nat}, pu_wr f a l ≤ c
  | 0, _ => Nat.zero_le _
  | l + 1, a => by
    show (if f a ≠ 0 then f a else pu_wr f (a + 1) l) ≤ c
    split
    · exact h a
    · exact pu_wr_le h
theorem pu_wa_0 {u : Nat} : pu_wa fd st jm u ≠ 0 ↔ (pu_A fd st jm).testBit u = true := by
  unfold pu_wa pu_A
  rw [pu_wr_0, sA_bit]
  constructor
  · rintro ⟨s, h1, h2, h3⟩
    have h4 := pu_v1_0.mp h3
    unfold pu_K at h4
    refine ⟨s, by omega, ?_, ?_⟩
    · cases e : jm.testBit s
      · rfl
      · rw [e, if_pos rfl, Nat.zero_testBit] at h4; cases h4
    · cases e : jm.testBit s
      · rw [e, if_neg (by decide)] at h4; exact h4
      · rw [e, if_pos rfl, Nat.zero_testBit] at h4; cases h4
  · rintro ⟨s, h1, h2, h3⟩
    refine ⟨s, by omega, by omega, pu_v1_0.mpr ?_⟩
    unfold pu_K
    have : jm.testBit s = false := by simpa using h2
    rw [this, if_neg (by decide)]
    exact h3
theorem pu_rd_o {s : Nat} : pu_o fd (pu_rd fd st jm) s = pu_o fd st s := by
  unfold pu_o
  exact pu_S_cong (fun u _ => by unfold pu_rd; rw [if_neg (by simp)])
theorem pu_rd_c : pu_rd fd st jm 2 0 = (st 2 0) := by unfold pu_rd; rw [if_neg (by simp)]
theorem pu_rd_u : pu_u fd (pu_rd fd st jm) = pu_sd (pu_u fd st) (pu_A fd st jm) := by
  apply Nat.eq_of_testBit_eq
  intro u
  unfold pu_u
  rw [pu_sd_bit, pu_S_bit, pu_S_bit]
  by_cases hu : u < (fd 0 0)
  · rw [decide_eq_true hu, Bool.true_and, Bool.true_and]
    unfold pu_rd
    by_cases e : pu_wa fd st jm u ≠ 0
    · rw [if_pos ⟨rfl, hu, e⟩, pu_wa_0.mp e, Bool.not_true, Bool.and_false]
      simpa using e
    · have : (pu_A fd st jm).testBit u = false := by
        cases q : (pu_A fd st jm).testBit u
        · rfl
        · exact absurd (pu_wa_0.mpr q) e
      rw [if_neg (by simp [e]), this, Bool.not_false, Bool.and_true]
  · rw [decide_eq_false hu, Bool.false_and, Bool.false_and, Bool.false_and]
theorem pu_rd_w (hS : wS fd st) : wS fd (pu_rd fd st jm) := by
  obtain ⟨h1, h2, h3, h4, h5⟩ := hS
  have e : ∀ a u, a ≠ 0 → pu_rd fd st jm a u = st a u := fun a u h => by unfold pu_rd; rw [if_neg (by simp [h])]
  refine ⟨by rw [e _ _ (by decide)]; exact h1, fun u => ?_, fun u hu => ⟨?_, ?_⟩, fun u s hs => ?_, fun j => by rw [e _ _ (by decide)]; exact h5 j⟩
  · unfold pu_rd
    split
    · have : pu_wa fd st jm u ≤ 2 := pu_wr_le (fun s => pu_v1_le)
      omega
    · exact h2 u
  · unfold pu_rd
    rw [if_neg (by omega)]
    exact (h3 u hu).1
  · rw [e _ _ (by decide)]; exact (h3 u hu).2
  · rw [e _ _ (by decide)] at hs; exact h4 u s hs
theorem r_rd95 {v : Nat → Nat} (hn : (fd 0 0) ≤ 10) (h1 : w.1 271 13 = nI (fd 0 0)) (hv : ∀ u, u < (fd 0 0) → w.1 284 u = nI (v u) ∧ v u ≤ 3) : Wp (f_X12_roundNow_95 (nI 0) (nI 0) w) (fun p => p.1 = nI (pu_C (fun u => !(v u == 0)) (fd 0 0)) ∧ (∀ u, u < (fd 0 0) → v u ≠ 0 → p.2.1 281 u = nI (v u)) ∧ (∀ k, (k < (fd 0 0) → v k = 0) → p.2.1 281 k = w.1 281 k) ∧ eqx [281] w p.2) := by
  unfold f_X12_roundNow_95
  refine Wp.for (fun i w => (nI (pu_C (fun u => !(v u == 0)) i), nI i, w)) (fun i w' => (∀ u, u < i → v u ≠ 0 → w'.1 281 u = nI (v u)) ∧ (∀ k, (k < i → v k = 0) → w'.1 281 k = w.1 281 k) ∧ eqx [281] w w') (fd 0 0) (by omega) rfl ⟨fun u hu => absurd hu (by omega), fun _ _ => rfl, eqx.rf⟩ (fun i w' hi hI => ?_) (fun w' hI => ?_)
  · obtain ⟨i1, i2, i3⟩ := hI
    have r1 : w'.1 271 13 = nI (fd 0 0) := i3.t (h1) (by simp)
    have r2 : w'.1 284 i = nI (v i) := i3.t (hv i hi).1 (by simp)
    have r3 := (hv i hi).2
    unfold f_X12_roundNow_95b f_X12_roundNow_129
    simp (disch := omega) only [pv_v, pv_b2, pv_b1, pv_x, pv_lit, pv_ofN, pu_chk, pu_cl, nI_add, pk_mul, nI_leI, nI_ltI, nI_eq, pu_nar0, pu_nar1, pu_narb, bI_0, bI_1, ↓reduceIte, pu_leT, pu_leF, pu_ltT, pu_ltF, pu_eqT, pu_eqF, pu_x1, pu_x2, pu_x3, pu_x4, pu_x5, pu_x6, pu_x7, pu_x8, Nat.zero_add, pu_m31I, pu_m31, pu_shlI, eq_self, Bool.false_eq_true, Bool.true_eq_false, r1, r2]
    by_cases e : v i = 0
    · simp (disch := omega) only [pv_v, pv_b2, pv_b1, pv_x, pv_lit, pv_ofN, pu_chk, pu_cl, nI_add, pk_mul, nI_leI, nI_ltI, nI_eq, pu_nar0, pu_nar1, pu_narb, bI_0, bI_1, ↓reduceIte, pu_leT, pu_leF, pu_ltT, pu_ltF, pu_eqT, pu_eqF, pu_x1, pu_x2, pu_x3, pu_x4, pu_x5, pu_x6, pu_x7, pu_x8, Nat.zero_add, pu_m31I, pu_m31, pu_shlI, eq_self, Bool.false_eq_true, Bool.true_eq_false, e]
      rw [pu_C_f (by simp [e])]
      refine Wp.some ⟨w', rfl, fun u hu hv' => ?_, fun k hk => i2 k (fun h => hk (by omega)), i3⟩
      by_cases c : u = i
      · subst c; exact absurd e hv'
      · exact i1 u (by omega) hv'
    · simp (disch := omega) only [pv_v, pv_b2, pv_b1, pv_x, pv_lit, pv_ofN, pu_chk, pu_cl, nI_add, pk_mul, nI_leI, nI_ltI, nI_eq, pu_nar0, pu_nar1, pu_narb, bI_0, bI_1, ↓reduceIte, pu_leT, pu_leF, pu_ltT, pu_ltF, pu_eqT, pu_eqF, pu_x1, pu_x2, pu_x3, pu_x4, pu_x5, pu_x6, pu_x7, pu_x8, Nat.zero_add, pu_m31I, pu_m31, pu_shlI, eq_self, Bool.false_eq_true, Bool.true_eq_false, e]
      rw [pu_C_t (by simp [e])]
      refine Wp.some ⟨_, rfl, fun u hu hv' => ?_, fun k hk => ?_, i3.on (eqx.pi (by simp))⟩
      · by_cases c : u = i
        · subst c; exact pi_same
        · rw [pi_k c]; exact i1 u (by omega) hv'
      · have c : k ≠ i := fun c => e (c ▸ hk (by omega))
        rw [pi_k c]
        exact i2 k (fun h => hk (by omega))
  · obtain ⟨i1, i2, i3⟩ := hI
    have r1 : w'.1 271 13 = nI (fd 0 0) := i3.t (h1) (by simp)
    unfold f_X12_roundNow_95b
    simp (disch := omega) only [pv_v, pv_b2, pv_b1, pv_x, pv_lit, pv_ofN, pu_chk, pu_cl, nI_add, pk_mul, nI_leI, nI_ltI, nI_eq, pu_nar0, pu_nar1, pu_narb, bI_0, bI_1, ↓reduceIte, pu_leT, pu_leF, pu_ltT, pu_ltF, pu_eqT, pu_eqF, pu_x1, pu_x2, pu_x3, pu_x4, pu_x5, pu_x6, pu_x7, pu_x8, Nat.zero_add, pu_m31I, pu_m31, pu_shlI, eq_self, Bool.false_eq_true, Bool.true_eq_false, r1]
    exact Wp.some ⟨rfl, i1, i2, i3⟩
theorem r_rd42 (h : rQ fd st jm w) {s : Nat} (hs : s < 48) {v : Nat → Nat} (hv : ∀ u, u < (fd 0 0) → w.1 284 u = nI (v u) ∧ v u ≤ 3) : Wp (f_X12_roundNow_42 (nI s) (nI (pu_K fd st jm s)) (nI 0) w) (Sum.elim (fun _ => False) (fun p => ∃ w', p = (nI s + -nI 1, w') ∧ (∀ u, u < (fd 0 0) → w'.1 284 u = nI (if pu_v1 fd st jm u s ≠ 0 then pu_v1 fd st jm u s else v u)) ∧ eqx [284] w w')) := by
  have hn := h.1.1
  have hK := pu_k10 (pu_K_lt (fd := fd) (st := st) (jm := jm) (s := s)) hn
  unfold f_X12_roundNow_42
  refine Wp.for (fun i w => (nI i, w)) (fun i w' => (∀ u, u < i → w'.1 284 u = nI (if pu_v1 fd st jm u s ≠ 0 then pu_v1 fd st jm u s else v u)) ∧ (∀ u, i ≤ u → u < (fd 0 0) → w'.1 284 u = nI (v u)) ∧ eqx [284] w w') (fd 0 0) (by omega) rfl ⟨fun u hu => absurd hu (by omega), fun u _ hu => (hv u hu).1, eqx.rf⟩ (fun i w' hi hI => ?_) (fun w' hI => ?_)
  · obtain ⟨i1, i2, i3⟩ := hI
    have hQ := h.ex i3 (by decide)
    have r1 := hQ.2.2.1.1
    have r2 := i2 i (by omega) hi
    have fin : ∀ x, x = (if pu_v1 fd st jm i s ≠ 0 then pu_v1 fd st jm i s else v i) → (∀ u, u < i + 1 → (am_pi w' 284 i (nI x)).1 284 u = nI (if pu_v1 fd st jm u s ≠ 0 then pu_v1 fd st jm u s else v u)) ∧ (∀ u, i + 1 ≤ u → u < (fd 0 0) → (am_pi w' 284 i (nI x)).1 284 u = nI (v u)) ∧ eqx [284] w (am_pi w' 284 i (nI x)) := by
      intro x hx
      refine ⟨fun u hu => ?_, fun u hu hu2 => ?_, i3.on (eqx.pi (by simp))⟩
      · by_cases c : u = i
        · subst c; rw [pi_same, hx]
        · rw [pi_k c]; exact i1 u (by omega)
      · rw [pi_k (by omega)]; exact i2 u (by omega) hu2
    unfold f_X12_roundNow_42b f_X12_roundNow_78
    simp (disch := omega) only [pv_v, pv_b2, pv_b1, pv_x, pv_lit, pv_ofN, pu_chk, pu_cl, nI_add, pk_mul, nI_leI, nI_ltI, nI_eq, pu_nar0, pu_nar1, pu_narb, bI_0, bI_1, ↓reduceIte, pu_leT, pu_leF, pu_ltT, pu_ltF, pu_eqT, pu_eqF, pu_x1, pu_x2, pu_x3, pu_x4, pu_x5, pu_x6, pu_x7, pu_x8, Nat.zero_add, pu_m31I, pu_m31, pu_shlI, eq_self, Bool.false_eq_true, Bool.true_eq_false, r1, r_has, r_wayIn hQ hi hs, r2]
    have hv1 : pu_v1 fd st jm i s = if (pu_K fd st jm s).testBit i then (if pu_o fd st s &&& pu_u fd st = 2 ^ i then 1 else 2) else 0 := rfl
    cases e : (pu_K fd st jm s).testBit i
    · rw [e, if_neg (by decide)] at hv1
      rw [if_pos rfl]
      exact Wp.some ⟨_, rfl, fin _ (by rw [hv1, if_neg (by decide)])⟩
    · rw [e, if_pos rfl] at hv1
      rw [if_neg (by decide)]
      refine Wp.some ⟨_, rfl, fin _ ?_⟩
      rw [← hv1, if_pos (by rw [hv1]; split <;> decide)]
  · obtain ⟨i1, i2, i3⟩ := hI
    have hQ := h.ex i3 (by decide)
    have r1 := hQ.2.2.1.1
    unfold f_X12_roundNow_42b
    simp (disch := omega) only [pv_v, pv_b2, pv_b1, pv_x, pv_lit, pv_ofN, pu_chk, pu_cl, nI_add, pk_mul, nI_leI, nI_ltI, nI_eq, pu_nar0, pu_nar1, pu_narb, bI_0, bI_1, ↓reduceIte, pu_leT, pu_leF, pu_ltT, pu_ltF, pu_eqT, pu_eqF, pu_x1, pu_x2, pu_x3, pu_x4, pu_x5, pu_x6, pu_x7, pu_x8, Nat.zero_add, pu_m31I, pu_m31, pu_shlI, eq_self, Bool.false_eq_true, Bool.true_eq_false, r1]
    exact Wp.some ⟨w', rfl, i1, i3⟩
theorem pu_C_cn {m n : Nat} (hm : m < 2 ^ n) (hn : n ≤ 10) : pu_C (fun u => m.testBit u) n = cn m := (pu_C_ext hn (fun u h1 _ => pu_hi hm h1)).symm
theorem r_rdEnd (h : rQ fd st jm w) {w' : am_S} (hx : eqx [284] w w') (hv : ∀ u, u < (fd 0 0) → w'.1 284 u = nI (pu_wa fd st jm u)) : Wp (f_X12_roundNow_95 (nI 0) (nI 0) w') (fun p => p.1 = nI (cn (pu_A fd st jm)) ∧ rQ fd (pu_rd fd st jm) jm p.2 ∧ (∀ k, 10 ≤ k → p.2.1 281 k = w.1 281 k) ∧ eqx [281, 284] w p.2) := by
  have hF := h.1
  have hn := hF.1
  have hQ := h.ex hx (by decide)
  refine (r_rd95 hn hQ.2.2.1.1 (v := fun u => pu_wa fd st jm u) (fun u hu => ⟨hv u hu, Nat.le_trans (pu_wr_le (fun s => pu_v1_le)) (by decide)⟩)).mono ?_
  rintro ⟨r, w4⟩ ⟨q1, q2, q3, q4⟩
  have hAlt : pu_A fd st jm < 2 ^ (fd 0 0) := sb_lt (sA_sb (pu_k_M hF h.2.1.1)) pu_u_lt
  obtain ⟨g1, g2, g3, g4, g5, g6⟩ := hQ.2.2.2.1
  have e3 : ∀ a b, a ≠ 0 → pu_rd fd st jm a b = st a b := fun a b h => by unfold pu_rd; rw [if_neg (by simp [h])]
  refine ⟨?_, ⟨hF, pu_rd_w h.2.1, hQ.2.2.1.ex q4 (by decide), ⟨fun u hu => ?_, fun u hu => ?_, fun u hu => ?_, ?_, fun j hj => ?_, fun j i hj hi => ?_⟩, ?_, h.2.2.2.2.2⟩, fun k hk => ?_, ?_⟩
  · rw [q1, ← pu_C_cn hAlt hn]
    refine congrArg nI (pu_C_cong (fun u hu => ?_))
    have e0 := pu_wa_0 (fd := fd) (st := st) (jm := jm) (u := u)
    cases e : (pu_A fd st jm).testBit u
    · have : pu_wa fd st jm u = 0 := Classical.byContradiction (fun hne => by rw [e0.mp hne] at e; cases e)
      simp [this]
    · have := e0.mpr e
      simp [this]
  · show w4.1 281 u = nI (pu_rd fd st jm 0 u)
    unfold pu_rd
    by_cases c : u < (fd 0 0) ∧ pu_wa fd st jm u ≠ 0
    · rw [if_pos ⟨rfl, c.1, c.2⟩, q2 u c.1 c.2]
    · rw [if_neg (by simp at c ⊢; exact c), q3 u (fun hu2 => Classical.byContradiction (fun hne => c ⟨hu2, hne⟩)), g1 u hu]
  · rw [q3 _ (fun hh => by omega), g2 u hu, e3 _ _ (by decide)]
  · rw [q3 _ (fun hh => by omega), g3 u hu, e3 _ _ (by decide)]
  · rw [q3 _ (fun hh => by omega), g4, e3 _ _ (by decide)]
  · rw [q3 _ (fun hh => by omega), g5 j hj, e3 _ _ (by decide)]
  · rw [e3 _ _ (by decide)] at hi ⊢
    rw [q3 _ (fun hh => by omega), g6 j i hj hi]
  · rw [q4.l]; exact hQ.2.2.2.2.1
  · rw [q3 k (fun hh => by omega)]; exact hx.t rfl (by simp)
  · exact (hx.up (by decide)).on (q4.up (by decide))
theorem r_rd30b (h : rQ fd st jm w) {s : Nat} (hs : s < 48) : f_X12_roundNow_30b (nI s) w = f_X12_roundNow_42 (nI s) (nI (pu_K fd st jm s)) (nI 0) w := by
  unfold f_X12_roundNow_30b
  rw [if_neg (nI_pos (by omega)), r_clearIn h hs, pu_b2, nI_0]
theorem r_rd30 (h : rQ fd st jm w) {w' : am_S} (hx : eqx [284] w w') (hv : ∀ u, u < (fd 0 0) → w'.1 284 u = nI 0) : Wp (f_X12_roundNow_30 (nI ((fd 0 1) * (fd 0 2)) - nI 1) w') (fun p => p.1 = nI (cn (pu_A fd st jm)) ∧ rQ fd (pu_rd fd st jm) jm p.2 ∧ (∀ k, 10 ≤ k → p.2.1 281 k = w.1 281 k) ∧ eqx [281, 284] w p.2) := by
  have hF := h.1
  have hn := hF.1
  have hT := pu_T48 hF
  unfold f_X12_roundNow_30
  refine Wp.for (fun i w => (nI ((fd 0 1) * (fd 0 2) - i) - nI 1, w)) (fun i w'' => (∀ u, u < (fd 0 0) → w''.1 284 u = nI (pu_wr (pu_v1 fd st jm u) ((fd 0 1) * (fd 0 2) - i) i)) ∧ eqx [284] w w'') ((fd 0 1) * (fd 0 2)) (by omega) (by rw [Nat.sub_zero]) ⟨fun u hu => by rw [hv u hu, pu_wr_z], hx⟩ (fun i w'' hi hI => ?_) (fun w'' hI => ?_)
  · obtain ⟨j1, j3⟩ := hI
    have hQ := h.ex j3 (by decide)
    obtain ⟨s, hs⟩ : ∃ s, (fd 0 1) * (fd 0 2) = s + 1 + i := ⟨(fd 0 1) * (fd 0 2) - i - 1, by omega⟩
    have e1 : (fd 0 1) * (fd 0 2) - i = s + 1 := by omega
    have e2 : (fd 0 1) * (fd 0 2) - (i + 1) = s := by omega
    have e3 : nI (s + 1) - nI 1 = nI s := nI_pred s
    rw [e1] at j1
    have hB := r_rd30b hQ (s := s) (by omega)
    show Wp (f_X12_roundNow_30b (nI ((fd 0 1) * (fd 0 2) - i) - nI 1) w'') _
    rw [e1, e3, hB]
    refine (r_rd42 hQ (s := s) (by omega) (v := fun u => pu_wr (pu_v1 fd st jm u) (s + 1) i) (fun u hu => ⟨j1 u hu, Nat.le_trans (pu_wr_le (fun s => pu_v1_le)) (by decide)⟩)).mono ?_
    rintro (b | p) hq
    · exact absurd hq id
    · obtain ⟨w3, rfl, q1, q2⟩ := hq
      refine ⟨w3, ?_, fun u hu => ?_, j3.on q2⟩
      · show _ = (nI ((fd 0 1) * (fd 0 2) - (i + 1)) - nI 1, w3)
        rw [e2, Int32.sub_eq_add_neg]
      · show _ = nI (pu_wr (pu_v1 fd st jm u) ((fd 0 1) * (fd 0 2) - (i + 1)) (i + 1))
        rw [q1 u hu, e2, pu_wr_s]
  · obtain ⟨j1, j3⟩ := hI
    rw [Nat.sub_self] at j1 ⊢
    unfold f_X12_roundNow_30b
    rw [show nI 0 - nI 1 = -nI 1 by decide]
    simp (disch := omega) only [pv_v, pv_b2, pv_b1, pv_x, pv_lit, pv_ofN, pu_chk, pu_cl, nI_add, pk_mul, nI_leI, nI_ltI, nI_eq, pu_nar0, pu_nar1, pu_narb, bI_0, bI_1, ↓reduceIte, pu_leT, pu_leF, pu_ltT, pu_ltF, pu_eqT, pu_eqF, pu_x1, pu_x2, pu_x3, pu_x4, pu_x5, pu_x6, pu_x7, pu_x8, Nat.zero_add, pu_m31I, pu_m31, pu_shlI, eq_self, Bool.false_eq_true, Bool.true_eq_false]
    exact Wp.x (r_rdEnd h j3 j1)
theorem r_roundNow (h : rQ fd st jm w) : Wp (f_X12_roundNow w) (fun p => p.1 = nI (cn (pu_A fd st jm)) ∧ rQ fd (pu_rd fd st jm) jm p.2 ∧ (∀ k, 10 ≤ k → p.2.1 281 k = w.1 281 k) ∧ eqx [281, 284] w p.2) := by
  have hF := h.1
  have hn := hF.1
  unfold f_X12_roundNow f_X12_roundNow_2
  refine Wp.for (fun i w => (nI i, w)) (fun i w' => (∀ u, u < i → w'.1 284 u = nI 0) ∧ eqx [284] w w') (fd 0 0) (by omega) rfl ⟨fun u hu => absurd hu (by omega), eqx.rf⟩ (fun i w' hi hI => ?_) (fun w' hI => ?_)
  · obtain ⟨i1, i3⟩ := hI
    have r1 := (h.ex i3 (by decide)).2.2.1.1
    unfold f_X12_roundNow_2b
    simp (disch := omega) only [pv_v, pv_b2, pv_b1, pv_x, pv_lit, pv_ofN, pu_chk, pu_cl, nI_add, pk_mul, nI_leI, nI_ltI, nI_eq, pu_nar0, pu_nar1, pu_narb, bI_0, bI_1, ↓reduceIte, pu_leT, pu_leF, pu_ltT, pu_ltF, pu_eqT, pu_eqF, pu_x1, pu_x2, pu_x3, pu_x4, pu_x5, pu_x6, pu_x7, pu_x8, Nat.zero_add, pu_m31I, pu_m31, pu_shlI, eq_self, Bool.false_eq_true, Bool.true_eq_false, r1]
    refine Wp.some ⟨_, rfl, fun u hu => ?_, i3.on (eqx.pi (by simp))⟩
    by_cases c : u = i
    · subst c; exact pi_same
    · rw [pi_k c]; exact i1 u (by omega)
  · obtain ⟨i1, i3⟩ := hI
    have hQ := h.ex i3 (by decide)
    have r1 := hQ.2.2.1.1
    unfold f_X12_roundNow_2b
    simp (disch := omega) only [pv_v, pv_b2, pv_b1, pv_x, pv_lit, pv_ofN, pu_chk, pu_cl, nI_add, pk_mul, nI_leI, nI_ltI, nI_eq, pu_nar0, pu_nar1, pu_narb, bI_0, bI_1, ↓reduceIte, pu_leT, pu_leF, pu_ltT, pu_ltF, pu_eqT, pu_eqF, pu_x1, pu_x2, pu_x3, pu_x4, pu_x5, pu_x6, pu_x7, pu_x8, Nat.zero_add, pu_m31I, pu_m31, pu_shlI, eq_self, Bool.false_eq_true, Bool.true_eq_false, r1, r_slotMany hF hQ.2.2.1]
    exact Wp.x (r_rd30 h i3 i1)
/-- what was put aside -/
def rB (w0 w : am_S) : Prop := (∀ k, k < 31 → w.1 286 k = w0.1 281 k) ∧ (∀ k, 31 ≤ k → w.1 281 k = w0.1 281 k) ∧ eqx [281, 284, 286, 288] w0 w
theorem r_putAside (w : am_S) : Wp (f_X12_putAside w) (fun w' => (∀ k, k < 31 → w'.1 286 k = w.1 281 k) ∧ eqx [286] w w') := by
  unfold f_X12_putAside f_X12_putAside_2
  refine Wp.for (fun i w => (nI i, w)) (fun i w' => (∀ k, k < i → w'.1 286 k = w.1 281 k) ∧ eqx [286] w w') 31 (by decide) rfl ⟨fun k hk => absurd hk (by omega), eqx.rf⟩ (fun i w' hi hI => ?_) (fun w' hI => ?_)
  · obtain ⟨i1, i3⟩ := hI
    unfold f_X12_putAside_2b
    simp (disch := omega) only [pv_v, pv_b2, pv_b1, pv_x, pv_lit, pv_ofN, pu_chk, pu_cl, nI_add, pk_mul, nI_leI, nI_ltI, nI_eq, pu_nar0, pu_nar1, pu_narb, bI_0, bI_1, ↓reduceIte, pu_leT, pu_leF, pu_ltT, pu_ltF, pu_eqT, pu_eqF, pu_x1, pu_x2, pu_x3, pu_x4, pu_x5, pu_x6, pu_x7, pu_x8, Nat.zero_add, pu_m31I, pu_m31, pu_shlI, eq_self, Bool.false_eq_true, Bool.true_eq_false]
    refine Wp.some ⟨_, rfl, fun k hk => ?_, i3.on (eqx.pi (by simp))⟩
    by_cases c : k = i
    · subst c; rw [pi_same]; exact i3.t rfl (by simp)
    · rw [pi_k c]; exact i1 k (by omega)
  · unfold f_X12_putAside_2b
    simp (disch := omega) only [pv_v, pv_b2, pv_b1, pv_x, pv_lit, pv_ofN, pu_chk, pu_cl, nI_add, pk_mul, nI_leI, nI_ltI, nI_eq, pu_nar0, pu_nar1, pu_narb, bI_0, bI_1, ↓reduceIte, pu_leT, pu_leF, pu_ltT, pu_ltF, pu_eqT, pu_eqF, pu_x1, pu_x2, pu_x3, pu_x4, pu_x5, pu_x6, pu_x7, pu_x8, Nat.zero_add, pu_m31I, pu_m31, pu_shlI, eq_self, Bool.false_eq_true, Bool.true_eq_false]
    exact Wp.some hI
theorem rB.of {w' : am_S} (h1 : ∀ k, k < 31 → w'.1 286 k = w.1 281 k) (h2 : eqx [286] w w') : rB w w' := ⟨h1, fun k _ => h2.t rfl (by simp), h2.up (by decide)⟩
theorem rB.go {w' : am_S} (h : rB w0 w) (h1 : ∀ k, 31 ≤ k → w'.1 281 k = w.1 281 k) (h2 : eqx [281, 284, 288] w w') : rB w0 w' := ⟨fun k hk => h2.t (h.1 k hk) (by simp), fun k hk => by rw [h1 k hk]; exact h.2.1 k hk, h.2.2.on (h2.up (by decide))⟩
theorem r_bringBack (h : rB w0 w) : Wp (f_X12_bringBack w) (fun w' => eqx [284, 286, 288] w0 w') := by
  unfold f_X12_bringBack f_X12_bringBack_2
  refine Wp.for (fun i w => (nI i, w)) (fun i w' => (∀ k, k < i → w'.1 281 k = w0.1 281 k) ∧ rB w0 w') 31 (by decide) rfl ⟨fun k hk => absurd hk (by omega), h⟩ (fun i w' hi hI => ?_) (fun w' hI => ?_)
  · obtain ⟨i1, i2⟩ := hI
    unfold f_X12_bringBack_2b
    simp (disch := omega) only [pv_v, pv_b2, pv_b1, pv_x, pv_lit, pv_ofN, pu_chk, pu_cl, nI_add, pk_mul, nI_leI, nI_ltI, nI_eq, pu_nar0, pu_nar1, pu_narb, bI_0, bI_1, ↓reduceIte, pu_leT, pu_leF, pu_ltT, pu_ltF, pu_eqT, pu_eqF, pu_x1, pu_x2, pu_x3, pu_x4, pu_x5, pu_x6, pu_x7, pu_x8, Nat.zero_add, pu_m31I, pu_m31, pu_shlI, eq_self, Bool.false_eq_true, Bool.true_eq_false]
    refine Wp.some ⟨_, rfl, fun k hk => ?_, i2.go (fun k hk => ?_) (eqx.pi (by simp))⟩
    · by_cases c : k = i
      · subst c; rw [pi_same]; exact i2.1 k hi
      · rw [pi_k c]; exact i1 k (by omega)
    · rw [pi_k (by omega)]
  · obtain ⟨i1, i2⟩ := hI
    unfold f_X12_bringBack_2b
    simp (disch := omega) only [pv_v, pv_b2, pv_b1, pv_x, pv_lit, pv_ofN, pu_chk, pu_cl, nI_add, pk_mul, nI_leI, nI_ltI, nI_eq, pu_nar0, pu_nar1, pu_narb, bI_0, bI_1, ↓reduceIte, pu_leT, pu_leF, pu_ltT, pu_ltF, pu_eqT, pu_eqF, pu_x1, pu_x2, pu_x3, pu_x4, pu_x5, pu_x6, pu_x7, pu_x8, Nat.zero_add, pu_m31I, pu_m31, pu_shlI, eq_self, Bool.false_eq_true, Bool.true_eq_false]
    refine Wp.some ⟨i2.2.2.1, fun q hq => ?_⟩
    by_cases c : q = 281
    · subst c
      funext k
      by_cases hk : k < 31
      · exact i1 k hk
      · exact i2.2.1 k (by omega)
    · exact i2.2.2.r (by simp at hq ⊢; omega)
end ROUND
