/-! pure part: PARTS on both sides (wip/whole/pure/12.e.parts.src) -/
/-- a set that no SLOT leaves -/
def cl (occ : Nat → Nat) (T U C : Nat) : Prop := ∀ s, s < T → occ s &&& U &&& C ≠ 0 → sb (occ s &&& U) C
def isC (occ : Nat → Nat) (T U seed C : Nat) : Prop := sb seed C ∧ cl occ T U C ∧ ∀ D, sb seed D → cl occ T U D → sb C D
theorem isC.uq {occ : Nat → Nat} {T U seed C C' : Nat} (h : isC occ T U seed C) (h2 : isC occ T U seed C') : C = C' := sb.eq (h.2.2 C' h2.1 h2.2.1) (h2.2.2 C h.1 h.2.1)
/-- a look at s SLOTS -/
def cP (occ : Nat → Nat) (U L : Nat) : Nat → Nat
  | 0 => L
  | s + 1 => if occ s &&& U &&& cP occ U L s = 0 then cP occ U L s else cP occ U L s ||| (occ s &&& U)
theorem cP_s {occ : Nat → Nat} {U L s : Nat} : cP occ U L (s + 1) = if occ s &&& U &&& cP occ U L s = 0 then cP occ U L s else cP occ U L s ||| (occ s &&& U) := rfl
theorem cP_up {occ : Nat → Nat} {U L : Nat} : ∀ {s d : Nat}, sb (cP occ U L s) (cP occ U L (s + d))
  | s, 0 => sb.rf
  | s, d + 1 => by
    refine (cP_up (s := s) (d := d)).tr ?_
    rw [← Nat.add_assoc, cP_s]
    split
    · exact sb.rf
    · exact sb_ol
theorem cP_in {occ : Nat → Nat} {T U L D : Nat} (hL : sb L D) (hD : cl occ T U D) : ∀ {s : Nat}, s ≤ T → sb (cP occ U L s) D
  | 0, _ => hL
  | s + 1, hs => by
    have ih := cP_in hL hD (s := s) (by omega)
    rw [cP_s]
    split
    · exact ih
    · next h =>
      refine sb_or ih (hD s (by omega) (fun e => h ?_))
      have := sb_am (c := occ s &&& U) ih
      rw [e] at this
      exact sb_z this
theorem cP_U {occ : Nat → Nat} {U L : Nat} (hL : sb L U) : ∀ s, sb (cP occ U L s) U
  | 0 => hL
  | s + 1 => by
    rw [cP_s]
    split
    · exact cP_U hL s
    · exact sb_or (cP_U hL s) sb_ar
theorem cP_cl {occ : Nat → Nat} {T U L : Nat} (h : cP occ U L T = L) : cl occ T U L := by
  have key : ∀ s, s ≤ T → cP occ U L s = L := by
    intro s hs
    refine sb.eq ?_ ?_
    · have := cP_up (occ := occ) (U := U) (L := L) (s := s) (d := T - s)
      rw [show s + (T - s) = T by omega, h] at this
      exact this
    · have := cP_up (occ := occ) (U := U) (L := L) (s := 0) (d := s)
      rw [Nat.zero_add] at this
      exact this
  intro s hs hne
  have h1 := key (s + 1) (by omega)
  rw [cP_s, key s (by omega), if_neg hne] at h1
  intro i hi
  rw [← h1, Nat.testBit_or, hi, Bool.or_true]
theorem cP_fix {occ : Nat → Nat} {T U L : Nat} (h : cl occ T U L) : cP occ U L T = L := by
  refine sb.eq (cP_in sb.rf h (Nat.le_refl _)) ?_
  have := cP_up (occ := occ) (U := U) (L := L) (s := 0) (d := T)
  rw [Nat.zero_add] at this
  exact this
def cQ (occ : Nat → Nat) (T U seed : Nat) : Nat → Nat
  | 0 => seed
  | i + 1 => cP occ U (cQ occ T U seed i) T
theorem cQ_U {occ : Nat → Nat} {T U seed : Nat} (h : sb seed U) : ∀ i, sb (cQ occ T U seed i) U
  | 0 => h
  | i + 1 => cP_U (cQ_U h i) T
theorem cQ_up {occ : Nat → Nat} {T U seed : Nat} : ∀ i, sb seed (cQ occ T U seed i)
  | 0 => sb.rf
  | i + 1 => (cQ_up i).tr (by
    have := cP_up (occ := occ) (U := U) (L := cQ occ T U seed i) (s := 0) (d := T)
    rw [Nat.zero_add] at this
    exact this)
theorem cQ_in {occ : Nat → Nat} {T U seed D : Nat} (h : sb seed D) (hD : cl occ T U D) : ∀ i, sb (cQ occ T U seed i) D
  | 0 => h
  | i + 1 => cP_in (cQ_in h hD i) hD (Nat.le_refl _)
theorem cQ_cn {occ : Nat → Nat} {T U seed : Nat} (hU : U < 1024) (h : sb seed U) (h1 : 1 ≤ cn seed) : ∀ i, cl occ T U (cQ occ T U seed i) ∨ i + 1 ≤ cn (cQ occ T U seed i)
  | 0 => .inr h1
  | i + 1 => by
    by_cases e : cP occ U (cQ occ T U seed i) T = cQ occ T U seed i
    · left
      show cl occ T U (cP occ U (cQ occ T U seed i) T)
      rw [e]
      exact cP_cl e
    · rcases cQ_cn hU h h1 i with q | q
      · exact absurd (cP_fix q) e
      · right
        have hs : sb (cQ occ T U seed i) (cP occ U (cQ occ T U seed i) T) := by
          have := cP_up (occ := occ) (U := U) (L := cQ occ T U seed i) (s := 0) (d := T)
          rw [Nat.zero_add] at this
          exact this
        have := cn_lt hs (sb_lt (n := 10) (cQ_U h (i + 1)) hU) (fun q => e q.symm)
        show i + 1 + 1 ≤ cn (cP occ U (cQ occ T U seed i) T)
        omega
theorem cQ_is {occ : Nat → Nat} {T U seed : Nat} (hU : U < 1024) (h : sb seed U) (h1 : 1 ≤ cn seed) : isC occ T U seed (cQ occ T U seed 10) := by
  refine ⟨cQ_up 10, ?_, fun D hD hc => cQ_in hD hc 10⟩
  rcases cQ_cn (occ := occ) (T := T) hU h h1 10 with q | q
  · exact q
  · have := cn_le (cQ occ T U seed 10)
    omega
/-- the lowest alone -/
def lbr (m : Nat) : Nat → Nat
  | 0 => 0
  | i + 1 => if lbr m i = 0 then (if m.testBit i then 2 ^ i else 0) else lbr m i
def lb (m : Nat) : Nat := lbr m 10
theorem lb_all : ∀ m, m < 1024 → nI m &&& -nI m = nI (lb m) ∧ lb m < 1024 ∧ pu_sd (lb m) m = 0 ∧ (m ≠ 0 → cn (lb m) = 1) := by decide +kernel
/-- what is left behind i PARTS -/
def lf (occ : Nat → Nat) (T U : Nat) : Nat → Nat
  | 0 => U
  | i + 1 => pu_sd (lf occ T U i) (cQ occ T U (lb (lf occ T U i)) 10)
def isK (occ : Nat → Nat) (T U r : Nat) : Prop := lf occ T U r = 0 ∧ ∀ j, j < r → lf occ T U j ≠ 0
theorem isK.uq {occ : Nat → Nat} {T U r r' : Nat} (h : isK occ T U r) (h2 : isK occ T U r') : r = r' := by
  rcases Nat.lt_trichotomy r r' with q | q | q
  · exact absurd h.1 (h2.2 r q)
  · exact q
  · exact absurd h2.1 (h.2 r' q)
theorem lf_sb {occ : Nat → Nat} {T U : Nat} : ∀ i, sb (lf occ T U i) U
  | 0 => sb.rf
  | i + 1 => sb_sd.tr (lf_sb i)
theorem lf_lt {occ : Nat → Nat} {T U : Nat} (hU : U < 1024) (i : Nat) : lf occ T U i < 1024 := sb_lt (n := 10) (lf_sb i) hU
theorem lf_lb {occ : Nat → Nat} {T U : Nat} (hU : U < 1024) (i : Nat) : sb (lb (lf occ T U i)) U := (pu_sd0.mp (lb_all _ (lf_lt hU i)).2.2.1).tr (lf_sb i)
theorem lf_cn {occ : Nat → Nat} {T U : Nat} (hU : U < 1024) {i : Nat} (h : lf occ T U i ≠ 0) : cn (lf occ T U (i + 1)) < cn (lf occ T U i) := by
  have ha := lb_all _ (lf_lt (occ := occ) (T := T) hU i)
  refine cn_lt (a := pu_sd (lf occ T U i) (cQ occ T U (lb (lf occ T U i)) 10)) sb_sd (lf_lt hU i) (fun e => ?_)
  have h1 := ha.2.2.2 h
  have hne : lb (lf occ T U i) ≠ 0 := fun z => by rw [z, cn_z] at h1; omega
  obtain ⟨u, hu⟩ := pu_ne_bit hne
  have b1 := pu_sd0.mp ha.2.2.1 u hu
  have b2 := cQ_up (occ := occ) (T := T) (U := U) 10 u hu
  have b3 := pu_sd_bit (lf occ T U i) (cQ occ T U (lb (lf occ T U i)) 10) u
  rw [e, b1, b2] at b3
  cases b3
theorem lf_cl {occ : Nat → Nat} {T U : Nat} (hU : U < 1024) : ∀ {i : Nat}, (∀ j, j < i → lf occ T U j ≠ 0) → cl occ T U (lf occ T U i)
  | 0, _ => fun s _ _ => sb_ar
  | i + 1, h => by
    have ih := lf_cl hU (i := i) (fun j hj => h j (by omega))
    have ha := lb_all _ (lf_lt (occ := occ) (T := T) hU i)
    have hC := cQ_is (occ := occ) (T := T) hU (lf_lb hU i) (by rw [ha.2.2.2 (h i (by omega))]; exact Nat.le_refl _)
    intro s hs hne u hu
    show (pu_sd (lf occ T U i) (cQ occ T U (lb (lf occ T U i)) 10)).testBit u = true
    obtain ⟨v, hv⟩ := pu_ne_bit hne
    have hv1 : (occ s &&& U).testBit v = true := sb_al v hv
    have hv2 : (pu_sd (lf occ T U i) (cQ occ T U (lb (lf occ T U i)) 10)).testBit v = true := sb_ar v hv
    rw [pu_sd_bit, Bool.and_eq_true] at hv2
    have h1 : sb (occ s &&& U) (lf occ T U i) := ih s hs (pu_bit_ne (u := v) (by rw [Nat.testBit_and, hv1, hv2.1]; rfl))
    rw [pu_sd_bit, h1 u hu, Bool.true_and]
    cases e : (cQ occ T U (lb (lf occ T U i)) 10).testBit u
    · rfl
    · have := hC.2.1 s hs (pu_bit_ne (u := u) (by rw [Nat.testBit_and, hu, e]; rfl)) v hv1
      rw [this] at hv2
      cases hv2.2
section PARTS
variable {fd st : Nat → Nat → Nat} {occ : Nat → Nat} {c U jm : Nat} {w w0 : am_S}
theorem c_partAround (h : cW fd occ c U w0 w) (hU : U < 2 ^ (fd 0 0)) {m : Nat} (hm : sb m U) : f_X6_partAround (nI m) w = some (nI (cQ occ ((fd 0 1) * (fd 0 2)) U m 10), w) := by
  have h10 := h.F.1
  have hT := pu_T48 h.F
  have hU10 := pu_k10 hU h10
  have hQ : ∀ i, cQ occ ((fd 0 1) * (fd 0 2)) U m i < 1024 := fun i => sb_lt (n := 10) (cQ_U hm i) hU10
  unfold f_X6_partAround f_X6_partAround_4
  refine pu_tr (fun i => (nI (cQ occ ((fd 0 1) * (fd 0 2)) U m i), nI i, w)) 10 rfl (by decide) (fun i hi => ?_) ?_
  · unfold f_X6_partAround_4b
    simp (disch := omega) only [pv_v, pv_b2, pv_b1, pv_x, pv_lit, pv_ofN, pu_chk, pu_cl, nI_add, pk_mul, nI_leI, nI_ltI, nI_eq, pu_nar0, pu_nar1, pu_narb, bI_0, bI_1, ↓reduceIte, pu_leT, pu_leF, pu_ltT, pu_ltF, pu_eqT, pu_eqF, pu_x1, pu_x2, pu_x3, pu_x4, pu_x5, pu_x6, pu_x7, pu_x8, Nat.zero_add, pu_m31I, pu_m31, pu_shlI, eq_self, Bool.false_eq_true, Bool.true_eq_false]
    unfold f_X6_partAround_13
    refine pu_tr (fun j => (nI (cP occ U (cQ occ ((fd 0 1) * (fd 0 2)) U m i) j), nI j, w)) ((fd 0 1) * (fd 0 2)) rfl (by omega) (fun j hj => ?_) ?_
    · have hP := sb_lt (n := 10) (cP_U (occ := occ) (cQ_U (occ := occ) (T := (fd 0 1) * (fd 0 2)) hm i) j) hU10
      have hor : occ j &&& U &&& cP occ U (cQ occ ((fd 0 1) * (fd 0 2)) U m i) j < 2 ^ 31 := Nat.lt_of_le_of_lt Nat.and_le_right (by omega)
      unfold f_X6_partAround_13b f_X6_partAround_59
      simp (disch := omega) only [pv_v, pv_b2, pv_b1, pv_x, pv_lit, pv_ofN, pu_chk, pu_cl, nI_add, pk_mul, nI_leI, nI_ltI, nI_eq, pu_nar0, pu_nar1, pu_narb, bI_0, bI_1, ↓reduceIte, pu_leT, pu_leF, pu_ltT, pu_ltF, pu_eqT, pu_eqF, pu_x1, pu_x2, pu_x3, pu_x4, pu_x5, pu_x6, pu_x7, pu_x8, Nat.zero_add, pu_m31I, pu_m31, pu_shlI, eq_self, Bool.false_eq_true, Bool.true_eq_false, h.all, h.o j hj, h.u, pu_and]
      rw [cP_s]
      by_cases e : occ j &&& U &&& cP occ U (cQ occ ((fd 0 1) * (fd 0 2)) U m i) j = 0
      · rw [if_pos e, if_pos e, pu_or, Nat.or_zero]
      · rw [if_neg e, if_neg e, pu_or]
    · unfold f_X6_partAround_13b
      simp (disch := omega) only [pv_v, pv_b2, pv_b1, pv_x, pv_lit, pv_ofN, pu_chk, pu_cl, nI_add, pk_mul, nI_leI, nI_ltI, nI_eq, pu_nar0, pu_nar1, pu_narb, bI_0, bI_1, ↓reduceIte, pu_leT, pu_leF, pu_ltT, pu_ltF, pu_eqT, pu_eqF, pu_x1, pu_x2, pu_x3, pu_x4, pu_x5, pu_x6, pu_x7, pu_x8, Nat.zero_add, pu_m31I, pu_m31, pu_shlI, eq_self, Bool.false_eq_true, Bool.true_eq_false, h.all]
      rfl
  · unfold f_X6_partAround_4b
    simp (disch := omega) only [pv_v, pv_b2, pv_b1, pv_x, pv_lit, pv_ofN, pu_chk, pu_cl, nI_add, pk_mul, nI_leI, nI_ltI, nI_eq, pu_nar0, pu_nar1, pu_narb, bI_0, bI_1, ↓reduceIte, pu_leT, pu_leF, pu_ltT, pu_ltF, pu_eqT, pu_eqF, pu_x1, pu_x2, pu_x3, pu_x4, pu_x5, pu_x6, pu_x7, pu_x8, Nat.zero_add, pu_m31I, pu_m31, pu_shlI, eq_self, Bool.false_eq_true, Bool.true_eq_false]
theorem c_partsOfUnknown (h : cW fd occ c U w0 w) (hU : U < 2 ^ (fd 0 0)) : ∃ r, isK occ ((fd 0 1) * (fd 0 2)) U r ∧ f_X6_partsOfUnknown w = some (nI r, w) := by
  have h10 := h.F.1
  have hU10 := pu_k10 hU h10
  have hw : Wp (f_X6_partsOfUnknown w) (fun p => (∃ r, isK occ ((fd 0 1) * (fd 0 2)) U r ∧ p = (nI r, w))) := by
    unfold f_X6_partsOfUnknown
    rw [h.u, pu_v]
    unfold f_X6_partsOfUnknown_12
    refine Wp.lp (fun i s => s = (nI (lf occ ((fd 0 1) * (fd 0 2)) U i), nI i, nI i, w) ∧ Lt (cn (lf occ ((fd 0 1) * (fd 0 2)) U i) + i) 11 ∧ ∀ j, j < i → lf occ ((fd 0 1) * (fd 0 2)) U j ≠ 0) 10 (by decide) ⟨rfl, .mk (by have := cn_le (lf occ ((fd 0 1) * (fd 0 2)) U 0); omega), fun j hj => absurd hj (by omega)⟩ ?_
    rintro i _ hi ⟨rfl, hcn, hj⟩
    have hcn : cn (lf occ ((fd 0 1) * (fd 0 2)) U i) + i < 11 := hcn
    have hl := lf_lt (occ := occ) (T := (fd 0 1) * (fd 0 2)) hU10 i
    have ha := lb_all _ hl
    unfold f_X6_partsOfUnknown_12b f_X6_partsOfUnknown_44
    by_cases e : lf occ ((fd 0 1) * (fd 0 2)) U i = 0
    · by_cases q : 10 ≤ i
      · simp (disch := omega) only [pv_v, pv_b2, pv_b1, pv_x, pv_lit, pv_ofN, pu_chk, pu_cl, nI_add, pk_mul, nI_leI, nI_ltI, nI_eq, pu_nar0, pu_nar1, pu_narb, bI_0, bI_1, ↓reduceIte, pu_leT, pu_leF, pu_ltT, pu_ltF, pu_eqT, pu_eqF, pu_x1, pu_x2, pu_x3, pu_x4, pu_x5, pu_x6, pu_x7, pu_x8, Nat.zero_add, pu_m31I, pu_m31, pu_shlI, eq_self, Bool.false_eq_true, Bool.true_eq_false, e]
        exact Wp.some ⟨i, ⟨e, hj⟩, rfl⟩
      · simp (disch := omega) only [pv_v, pv_b2, pv_b1, pv_x, pv_lit, pv_ofN, pu_chk, pu_cl, nI_add, pk_mul, nI_leI, nI_ltI, nI_eq, pu_nar0, pu_nar1, pu_narb, bI_0, bI_1, ↓reduceIte, pu_leT, pu_leF, pu_ltT, pu_ltF, pu_eqT, pu_eqF, pu_x1, pu_x2, pu_x3, pu_x4, pu_x5, pu_x6, pu_x7, pu_x8, Nat.zero_add, pu_m31I, pu_m31, pu_shlI, eq_self, Bool.false_eq_true, Bool.true_eq_false, e]
        exact Wp.some ⟨i, ⟨e, hj⟩, rfl⟩
    · have hi10 : i < 10 := by
        have : cn (lf occ ((fd 0 1) * (fd 0 2)) U i) ≠ 0 := fun z => e (cn_0 hl z)
        omega
      have hcn2 := lf_cn (occ := occ) (T := (fd 0 1) * (fd 0 2)) hU10 e
      have hlb := lf_lb (occ := occ) (T := (fd 0 1) * (fd 0 2)) hU10 i
      simp (disch := omega) only [pv_v, pv_b2, pv_b1, pv_x, pv_lit, pv_ofN, pu_chk, pu_cl, nI_add, pk_mul, nI_leI, nI_ltI, nI_eq, pu_nar0, pu_nar1, pu_narb, bI_0, bI_1, ↓reduceIte, pu_leT, pu_leF, pu_ltT, pu_ltF, pu_eqT, pu_eqF, pu_x1, pu_x2, pu_x3, pu_x4, pu_x5, pu_x6, pu_x7, pu_x8, Nat.zero_add, pu_m31I, pu_m31, pu_shlI, eq_self, Bool.false_eq_true, Bool.true_eq_false, e, ha.1, c_partAround h hU hlb, pu_andn]
      refine Wp.some ⟨.mk hi10, rfl, .mk (by omega), fun j hj1 => ?_⟩
      by_cases q : j = i
      · subst q; exact e
      · exact hj j (by omega)
  obtain ⟨p, e, r, hr, rfl⟩ := hw
  exact ⟨r, hr, e⟩
theorem cL_and (x y : Nat) : cL (x &&& y) = 0 ↔ ∀ s, s < 48 → (x.testBit s && y.testBit s) = false := by
  constructor
  · intro h s hs
    cases e : (x.testBit s && y.testBit s)
    · rfl
    · have := pu_C_lt (p := fun _ => false) (q := fun u => (x &&& y).testBit u) (n := 48) (i := s) (fun _ _ h => by cases h) hs rfl (by rw [Nat.testBit_and]; exact e)
      unfold cL at h
      omega
  · intro h
    exact pu_C_zero (fun u hu => by rw [Nat.testBit_and]; exact h u hu)
theorem cL_half (x : Nat) : pu_B (x % 2 ^ 24) + pu_B (x / 2 ^ 24) = cL x := by
  unfold pu_B cL
  rw [show 48 = 24 + 24 by decide, pu_C_add]
  congr 1
  · exact pu_C_cong (fun u hu => by rw [Nat.testBit_mod_two_pow, decide_eq_true hu, Bool.true_and])
  · exact pu_C_cong (fun u _ => by rw [Nat.testBit_div_two_pow, Nat.add_comm])
theorem r_copyMany (h : rQ fd st jm w) {u : Nat} (hu : u < 10) : f_X12_copyMany (nI u) w = some (nI (cL (st 1 u)), w) := by
  obtain ⟨hF, hS, hf, ⟨g1, g2, g3, g4, g5, g6⟩, hj, hj2⟩ := h
  have hl := wS_lt hF hS u
  have hl2 : st 1 u % 2 ^ 24 < 2 ^ 31 := by omega
  have hl3 : st 1 u / 2 ^ 24 < 2 ^ 31 := by omega
  unfold f_X12_copyMany
  simp (disch := omega) only [pv_v, pv_b2, pv_b1, pv_x, pv_lit, pv_ofN, pu_chk, pu_cl, nI_add, pk_mul, nI_leI, nI_ltI, nI_eq, pu_nar0, pu_nar1, pu_narb, bI_0, bI_1, ↓reduceIte, pu_leT, pu_leF, pu_ltT, pu_ltF, pu_eqT, pu_eqF, pu_x1, pu_x2, pu_x3, pu_x4, pu_x5, pu_x6, pu_x7, pu_x8, Nat.zero_add, pu_m31I, pu_m31, pu_shlI, eq_self, Bool.false_eq_true, Bool.true_eq_false, g2 u hu, g3 u hu, r_bits, cL_half]
theorem r_touches (h : rQ fd st jm w) {u o : Nat} (hu : u < 10) (ho : o < 10) : f_X12_touches (nI u) (nI o) w = some (nI (cL (st 1 u &&& st 1 o)), w) := by
  obtain ⟨hF, hS, hf, ⟨g1, g2, g3, g4, g5, g6⟩, hj, hj2⟩ := h
  have hl := wS_lt hF hS u
  have hl2 : (st 1 u % 2 ^ 24) &&& (st 1 o % 2 ^ 24) < 2 ^ 31 := Nat.lt_of_le_of_lt Nat.and_le_left (by omega)
  have hl3 : (st 1 u / 2 ^ 24) &&& (st 1 o / 2 ^ 24) < 2 ^ 31 := Nat.lt_of_le_of_lt Nat.and_le_left (by omega)
  have e1 : (st 1 u % 2 ^ 24) &&& (st 1 o % 2 ^ 24) = (st 1 u &&& st 1 o) % 2 ^ 24 := by rw [Nat.and_mod_two_pow]
  have e2 : (st 1 u / 2 ^ 24) &&& (st 1 o / 2 ^ 24) = (st 1 u &&& st 1 o) / 2 ^ 24 := by rw [Nat.and_div_two_pow]
  unfold f_X12_touches
  simp (disch := omega) only [pv_v, pv_b2, pv_b1, pv_x, pv_lit, pv_ofN, pu_chk, pu_cl, nI_add, pk_mul, nI_leI, nI_ltI, nI_eq, pu_nar0, pu_nar1, pu_narb, bI_0, bI_1, ↓reduceIte, pu_leT, pu_leF, pu_ltT, pu_ltF, pu_eqT, pu_eqF, pu_x1, pu_x2, pu_x3, pu_x4, pu_x5, pu_x6, pu_x7, pu_x8, Nat.zero_add, pu_m31I, pu_m31, pu_shlI, eq_self, Bool.false_eq_true, Bool.true_eq_false, g2 u hu, g3 u hu, g2 o ho, g3 o ho, pu_and, r_bits]
  rw [e1, e2, cL_half]
/-- the reference's look at pairs -/
def rI (st : Nat → Nat → Nat) (lt L u : Nat) : Nat → Nat
  | 0 => L
  | o + 1 => if (rI st lt L u o).testBit u && (lt.testBit o && !(cL (st 1 u &&& st 1 o) == 0)) then rI st lt L u o ||| 2 ^ o else rI st lt L u o
theorem rI_s {lt L u o : Nat} : rI st lt L u (o + 1) = if (rI st lt L u o).testBit u && (lt.testBit o && !(cL (st 1 u &&& st 1 o) == 0)) then rI st lt L u o ||| 2 ^ o else rI st lt L u o := rfl
def rU (st : Nat → Nat → Nat) (n lt L : Nat) : Nat → Nat
  | 0 => L
  | u + 1 => rI st lt (rU st n lt L u) u n
theorem rI_up {lt L u : Nat} : ∀ {o d : Nat}, sb (rI st lt L u o) (rI st lt L u (o + d))
  | o, 0 => sb.rf
  | o, d + 1 => by
    refine (rI_up (o := o) (d := d)).tr ?_
    rw [← Nat.add_assoc, rI_s]
    split
    · exact sb_ol
    · exact sb.rf
theorem rU_up {n lt L : Nat} : ∀ {o d : Nat}, sb (rU st n lt L o) (rU st n lt L (o + d))
  | o, 0 => sb.rf
  | o, d + 1 => (rU_up (o := o) (d := d)).tr (by
    have := rI_up (st := st) (lt := lt) (L := rU st n lt L (o + d)) (u := o + d) (o := 0) (d := n)
    rw [Nat.zero_add] at this
    exact this)
theorem rI_D {lt L u D : Nat} (hD : ∀ o, D.testBit u = true → lt.testBit o = true → cL (st 1 u &&& st 1 o) ≠ 0 → D.testBit o = true) (hL : sb L D) : ∀ o, sb (rI st lt L u o) D
  | 0 => hL
  | o + 1 => by
    have ih := rI_D hD hL o
    rw [rI_s]
    split
    · next h =>
      rw [Bool.and_eq_true, Bool.and_eq_true] at h
      refine sb_or ih (fun i hi => ?_)
      rw [pu_p_bit, decide_eq_true_iff] at hi
      subst hi
      exact hD o (ih u h.1) h.2.1 (by simpa using h.2.2)
    · exact ih
theorem rU_D {n lt L D : Nat} (hD : ∀ u o, u < n → D.testBit u = true → lt.testBit o = true → cL (st 1 u &&& st 1 o) ≠ 0 → D.testBit o = true) (hL : sb L D) : ∀ u, u ≤ n → sb (rU st n lt L u) D
  | 0, _ => hL
  | u + 1, hu => rI_D (fun o => hD u o (by omega)) (rU_D hD hL u (by omega)) n
theorem rU_fix {n lt L : Nat} (h : rU st n lt L n = L) {u o : Nat} (hu : u < n) (ho : o < n) (h1 : L.testBit u = true) (h2 : lt.testBit o = true) (h3 : cL (st 1 u &&& st 1 o) ≠ 0) : L.testBit o = true := by
  have k0 : ∀ v, v ≤ n → rU st n lt L v = L := fun v hv => by
    refine sb.eq ?_ ?_
    · have := rU_up (st := st) (n := n) (lt := lt) (L := L) (o := v) (d := n - v)
      rw [show v + (n - v) = n by omega, h] at this
      exact this
    · have := rU_up (st := st) (n := n) (lt := lt) (L := L) (o := 0) (d := v)
      rw [Nat.zero_add] at this
      exact this
  have k1 : rI st lt L u n = L := by
    have := k0 (u + 1) (by omega)
    rw [show rU st n lt L (u + 1) = rI st lt (rU st n lt L u) u n from rfl, k0 u (by omega)] at this
    exact this
  have k2 : ∀ v, v ≤ n → rI st lt L u v = L := fun v hv => by
    refine sb.eq ?_ ?_
    · have := rI_up (st := st) (lt := lt) (L := L) (u := u) (o := v) (d := n - v)
      rw [show v + (n - v) = n by omega, k1] at this
      exact this
    · have := rI_up (st := st) (lt := lt) (L := L) (u := u) (o := 0) (d := v)
      rw [Nat.zero_add] at this
      exact this
  have k3 := k2 (o + 1) (by omega)
  rw [rI_s, k2 o (by omega), h1, h2, show (!(cL (st 1 u &&& st 1 o) == 0)) = true by simpa using h3] at k3
  have k4 : L ||| 2 ^ o = L := k3
  rw [← k4, Nat.testBit_or, pu_p_bit, decide_eq_true rfl, Bool.or_true]
end PARTS
