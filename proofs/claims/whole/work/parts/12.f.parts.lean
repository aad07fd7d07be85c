/-! pure part: PARTS of the reference (wip/whole/pure/12.f.parts.src) -/
section PARTR
variable {fd st : Nat → Nat → Nat} {jm : Nat} {w : am_S}
theorem rI_lt {n lt L u : Nat} (hlt : lt < 2 ^ n) (hL : sb L lt) (o : Nat) : sb (rI st lt L u o) lt := rI_D (fun o _ h _ => h) hL o
theorem rU_lt {n lt L : Nat} (hL : sb L lt) (u : Nat) (hu : u ≤ n) : sb (rU st n lt L u) lt := rU_D (fun u o _ _ h _ => h) hL u hu
theorem r_parts43 (h : rQ fd st jm w) {lt L u : Nat} {x2 x4 : Int32} (hlt : lt < 2 ^ (fd 0 0)) (hL : sb L lt) (hu : u < (fd 0 0)) : f_X12_parts_43 (nI lt) x2 (nI L) x4 (nI u) (nI 0) w = some (.inr (nI (rI st lt L u (fd 0 0)), nI (u + 1), w)) := by
  have h10 := h.1.1
  have e1 := h.2.2.1.1
  have hl10 := pu_k10 hlt h10
  unfold f_X12_parts_43
  refine pu_tr (fun o => (nI (rI st lt L u o), nI o, w)) (fd 0 0) rfl (by omega) (fun o ho => ?_) ?_
  · have hr := sb_lt (n := 10) (rI_lt (st := st) (u := u) hlt hL o) hl10
    have hc := cL_le (st 1 u &&& st 1 o)
    unfold f_X12_parts_43b f_X12_parts_89 f_X12_parts_90
    simp (disch := omega) only [pv_v, pv_b2, pv_b1, pv_x, pv_lit, pv_ofN, pu_chk, pu_cl, nI_add, pk_mul, nI_leI, nI_ltI, nI_eq, pu_nar0, pu_nar1, pu_narb, bI_0, bI_1, ↓reduceIte, pu_leT, pu_leF, pu_ltT, pu_ltF, pu_eqT, pu_eqF, pu_x1, pu_x2, pu_x3, pu_x4, pu_x5, pu_x6, pu_x7, pu_x8, Nat.zero_add, pu_m31I, pu_m31, pu_shlI, eq_self, Bool.false_eq_true, Bool.true_eq_false, e1, r_has, r_touches h (u := u) (o := o) (by omega) (by omega)]
    rw [rI_s]
    cases q1 : (rI st lt L u o).testBit u
    · simp (disch := omega) only [pv_v, pv_b2, pv_b1, pv_x, pv_lit, pv_ofN, pu_chk, pu_cl, nI_add, pk_mul, nI_leI, nI_ltI, nI_eq, pu_nar0, pu_nar1, pu_narb, bI_0, bI_1, ↓reduceIte, pu_leT, pu_leF, pu_ltT, pu_ltF, pu_eqT, pu_eqF, pu_x1, pu_x2, pu_x3, pu_x4, pu_x5, pu_x6, pu_x7, pu_x8, Nat.zero_add, pu_m31I, pu_m31, pu_shlI, eq_self, Bool.false_eq_true, Bool.true_eq_false, pu_or, Nat.or_zero, Bool.false_and]
    · cases q2 : lt.testBit o
      · simp (disch := omega) only [pv_v, pv_b2, pv_b1, pv_x, pv_lit, pv_ofN, pu_chk, pu_cl, nI_add, pk_mul, nI_leI, nI_ltI, nI_eq, pu_nar0, pu_nar1, pu_narb, bI_0, bI_1, ↓reduceIte, pu_leT, pu_leF, pu_ltT, pu_ltF, pu_eqT, pu_eqF, pu_x1, pu_x2, pu_x3, pu_x4, pu_x5, pu_x6, pu_x7, pu_x8, Nat.zero_add, pu_m31I, pu_m31, pu_shlI, eq_self, Bool.false_eq_true, Bool.true_eq_false, pu_or, Nat.or_zero, Bool.false_and, Bool.and_false]
      · by_cases q3 : cL (st 1 u &&& st 1 o) = 0
        · simp (disch := omega) only [pv_v, pv_b2, pv_b1, pv_x, pv_lit, pv_ofN, pu_chk, pu_cl, nI_add, pk_mul, nI_leI, nI_ltI, nI_eq, pu_nar0, pu_nar1, pu_narb, bI_0, bI_1, ↓reduceIte, pu_leT, pu_leF, pu_ltT, pu_ltF, pu_eqT, pu_eqF, pu_x1, pu_x2, pu_x3, pu_x4, pu_x5, pu_x6, pu_x7, pu_x8, Nat.zero_add, pu_m31I, pu_m31, pu_shlI, eq_self, Bool.false_eq_true, Bool.true_eq_false, q3, pu_or, Nat.or_zero]
          rfl
        · simp (disch := omega) only [pv_v, pv_b2, pv_b1, pv_x, pv_lit, pv_ofN, pu_chk, pu_cl, nI_add, pk_mul, nI_leI, nI_ltI, nI_eq, pu_nar0, pu_nar1, pu_narb, bI_0, bI_1, ↓reduceIte, pu_leT, pu_leF, pu_ltT, pu_ltF, pu_eqT, pu_eqF, pu_x1, pu_x2, pu_x3, pu_x4, pu_x5, pu_x6, pu_x7, pu_x8, Nat.zero_add, pu_m31I, pu_m31, pu_shlI, eq_self, Bool.false_eq_true, Bool.true_eq_false, q3, pu_or, bq_f q3, Bool.not_false, Bool.and_true]
  · unfold f_X12_parts_43b
    simp (disch := omega) only [pv_v, pv_b2, pv_b1, pv_x, pv_lit, pv_ofN, pu_chk, pu_cl, nI_add, pk_mul, nI_leI, nI_ltI, nI_eq, pu_nar0, pu_nar1, pu_narb, bI_0, bI_1, ↓reduceIte, pu_leT, pu_leF, pu_ltT, pu_ltF, pu_eqT, pu_eqF, pu_x1, pu_x2, pu_x3, pu_x4, pu_x5, pu_x6, pu_x7, pu_x8, Nat.zero_add, pu_m31I, pu_m31, pu_shlI, eq_self, Bool.false_eq_true, Bool.true_eq_false, e1]
theorem r_parts31 (h : rQ fd st jm w) {lt L : Nat} {x2 x4 : Int32} (hlt : lt < 2 ^ (fd 0 0)) (hL : sb L lt) : f_X12_parts_31 (nI lt) x2 (nI L) x4 (nI 0) w = some (.inr (nI (rU st (fd 0 0) lt L (fd 0 0)), x4, w)) := by
  have h10 := h.1.1
  have e1 := h.2.2.1.1
  unfold f_X12_parts_31
  refine pu_tr (fun u => (nI (rU st (fd 0 0) lt L u), nI u, w)) (fd 0 0) rfl (by omega) (fun u hu => ?_) ?_
  · unfold f_X12_parts_31b
    simp (disch := omega) only [pv_v, pv_b2, pv_b1, pv_x, pv_lit, pv_ofN, pu_chk, pu_cl, nI_add, pk_mul, nI_leI, nI_ltI, nI_eq, pu_nar0, pu_nar1, pu_narb, bI_0, bI_1, ↓reduceIte, pu_leT, pu_leF, pu_ltT, pu_ltF, pu_eqT, pu_eqF, pu_x1, pu_x2, pu_x3, pu_x4, pu_x5, pu_x6, pu_x7, pu_x8, Nat.zero_add, pu_m31I, pu_m31, pu_shlI, eq_self, Bool.false_eq_true, Bool.true_eq_false, e1, r_parts43 h (L := rU st (fd 0 0) lt L u) (u := u) hlt (rU_lt hL u (by omega)) hu]
    rfl
  · unfold f_X12_parts_31b
    simp (disch := omega) only [pv_v, pv_b2, pv_b1, pv_x, pv_lit, pv_ofN, pu_chk, pu_cl, nI_add, pk_mul, nI_leI, nI_ltI, nI_eq, pu_nar0, pu_nar1, pu_narb, bI_0, bI_1, ↓reduceIte, pu_leT, pu_leF, pu_ltT, pu_ltF, pu_eqT, pu_eqF, pu_x1, pu_x2, pu_x3, pu_x4, pu_x5, pu_x6, pu_x7, pu_x8, Nat.zero_add, pu_m31I, pu_m31, pu_shlI, eq_self, Bool.false_eq_true, Bool.true_eq_false, e1]
def rC (st : Nat → Nat → Nat) (n lt L : Nat) : Nat → Nat
  | 0 => L
  | i + 1 => rU st n lt (rC st n lt L i) n
theorem rC_lt {n lt L : Nat} (hL : sb L lt) : ∀ i, sb (rC st n lt L i) lt
  | 0 => hL
  | i + 1 => rU_lt (rC_lt hL i) n (Nat.le_refl _)
theorem rC_up {n lt L : Nat} (i : Nat) : sb (rC st n lt L i) (rC st n lt L (i + 1)) := by
  have := rU_up (st := st) (n := n) (lt := lt) (L := rC st n lt L i) (o := 0) (d := n)
  rw [Nat.zero_add] at this
  exact this
theorem r_adj (hF : wF fd) (hS : wS fd st) {u o : Nat} (hu : u < (fd 0 0)) (ho : o < (fd 0 0)) : cL (st 1 u &&& st 1 o) ≠ 0 ↔ ∃ s, s < (fd 0 1) * (fd 0 2) ∧ (pu_o fd st s).testBit u = true ∧ (pu_o fd st s).testBit o = true := by
  constructor
  · intro h
    have : ∃ s, s < 48 ∧ ((st 1 u).testBit s && (st 1 o).testBit s) = true := by
      apply Classical.byContradiction
      intro hn
      refine h ((cL_and _ _).mpr (fun s hs => ?_))
      cases e : ((st 1 u).testBit s && (st 1 o).testBit s)
      · rfl
      · exact absurd ⟨s, hs, e⟩ hn
    obtain ⟨s, -, h2⟩ := this
    rw [Bool.and_eq_true] at h2
    have h3 := hS.2.2.2.1 u s h2.1
    have h4 := (pu_lo_up hF hu).2.1
    unfold pu_o
    refine ⟨s, by omega, ?_, ?_⟩
    · rw [pu_S_bit, decide_eq_true hu, h2.1]; rfl
    · rw [pu_S_bit, decide_eq_true ho, h2.2]; rfl
  · rintro ⟨s, h1, h2, h3⟩ hz
    have hT := pu_T48 hF
    unfold pu_o at h2 h3
    rw [pu_S_bit, decide_eq_true hu, Bool.true_and] at h2
    rw [pu_S_bit, decide_eq_true ho, Bool.true_and] at h3
    have := (cL_and _ _).mp hz s (by omega)
    rw [h2, h3] at this
    cases this
theorem bit_n {m n u : Nat} (h : m < 2 ^ n) (hu : m.testBit u = true) : u < n := by
  rcases Nat.lt_or_ge u n with c | c
  · exact c
  · rw [pu_hi h c] at hu; cases hu
theorem r_isC (hF : wF fd) (hS : wS fd st) {lt seed C : Nat} (hlt : sb lt (pu_u fd st)) (hcl : cl (pu_o fd st) ((fd 0 1) * (fd 0 2)) (pu_u fd st) lt) (hC1 : sb seed C) (hC2 : sb C lt) (hfix : rU st (fd 0 0) lt C (fd 0 0) = C) (hD : ∀ D, sb seed D → (∀ u o, u < (fd 0 0) → D.testBit u = true → lt.testBit o = true → cL (st 1 u &&& st 1 o) ≠ 0 → D.testBit o = true) → sb C D) : isC (pu_o fd st) ((fd 0 1) * (fd 0 2)) (pu_u fd st) seed C := by
  have hl : lt < 2 ^ (fd 0 0) := sb_lt hlt pu_u_lt
  refine ⟨hC1, fun s hs hne u hu => ?_, fun D h1 h2 => ?_⟩
  · obtain ⟨v, hv⟩ := pu_ne_bit hne
    have v1 := sb_al v hv
    have v2 : C.testBit v = true := sb_ar v hv
    have hsub : sb (pu_o fd st s &&& pu_u fd st) lt := hcl s hs (pu_bit_ne (u := v) (by rw [Nat.testBit_and, v1, hC2 v v2]; rfl))
    have hun := bit_n hl (hsub u hu)
    have hvn := bit_n hl (hC2 v v2)
    exact rU_fix hfix hvn hun v2 (hsub u hu) ((r_adj hF hS hvn hun).mpr ⟨s, hs, sb_al v v1, sb_al u hu⟩)
  · have : sb C (D &&& lt) := by
      refine hD _ (fun i hi => ?_) (fun u o hu hDu ho hc => ?_)
      · rw [Nat.testBit_and, h1 i hi, hC2 i (hC1 i hi)]; rfl
      · rw [Nat.testBit_and, Bool.and_eq_true] at hDu ⊢
        obtain ⟨s, s1, s2, s3⟩ := (r_adj hF hS hu (bit_n hl ho)).mp hc
        refine ⟨?_, ho⟩
        exact h2 s s1 (pu_bit_ne (u := u) (by rw [Nat.testBit_and, Nat.testBit_and, s2, hlt u hDu.2, hDu.1]; rfl)) o (by rw [Nat.testBit_and, s3, hlt o ho]; rfl)
    exact this.tr sb_al
theorem r_parts19 (h : rQ fd st jm w) {lt seed : Nat} {k : Nat} (hlt : sb lt (pu_u fd st)) (hcl : cl (pu_o fd st) ((fd 0 1) * (fd 0 2)) (pu_u fd st) lt) (hs : sb seed lt) (h1 : cn seed = 1) : f_X12_parts_19 (nI lt) (nI k) (nI seed) (nI 0) w = some (.inr (nI (pu_sd lt (cQ (pu_o fd st) ((fd 0 1) * (fd 0 2)) (pu_u fd st) seed 10)), nI (k + 1), w)) := by
  have hF := h.1
  have h10 := hF.1
  have hl : lt < 2 ^ (fd 0 0) := sb_lt hlt pu_u_lt
  have hl10 := pu_k10 hl h10
  have hU10 := pu_k10 (pu_u_lt (fd := fd) (st := st)) h10
  have hC10 : ∀ i, rC st (fd 0 0) lt seed i < 1024 := fun i => sb_lt (n := 10) (rC_lt hs i) hl10
  have hsd : ∀ i, sb seed (rC st (fd 0 0) lt seed i) := by
    intro i
    induction i with
    | zero => exact sb.rf
    | succ i ih => exact ih.tr (rC_up i)
  have hin : ∀ D, sb seed D → (∀ u o, u < (fd 0 0) → D.testBit u = true → lt.testBit o = true → cL (st 1 u &&& st 1 o) ≠ 0 → D.testBit o = true) → ∀ i, sb (rC st (fd 0 0) lt seed i) D := by
    intro D d1 d2 i
    induction i with
    | zero => exact d1
    | succ i ih => exact rU_D d2 ih (fd 0 0) (Nat.le_refl _)
  have hs0 : seed ≠ 0 := fun e => by rw [e, cn_z] at h1; omega
  unfold f_X12_parts_19
  apply Wp.eq
  refine Wp.lp (fun i s => s = (nI (rC st (fd 0 0) lt seed i), nI (if i = 0 then 0 else rC st (fd 0 0) lt seed (i - 1)), w) ∧ Lt i (cn (rC st (fd 0 0) lt seed (i - 1)) + 1)) 11 (by decide) ⟨rfl, .mk (by omega)⟩ ?_
  rintro i _ hi ⟨rfl, hc⟩
  have hc : i < cn (rC st (fd 0 0) lt seed (i - 1)) + 1 := hc
  have hcl10 := cn_le (rC st (fd 0 0) lt seed (i - 1))
  have hcl11 := cn_le (rC st (fd 0 0) lt seed i)
  have hCi := hC10 i
  have step := r_parts31 h (x2 := nI k) (x4 := nI (rC st (fd 0 0) lt seed i)) hl (rC_lt (st := st) (n := (fd 0 0)) hs i)
  by_cases hi0 : i = 0
  · subst hi0
    unfold f_X12_parts_19b
    have : ¬ rC st (fd 0 0) lt seed 0 = 0 := hs0
    simp (disch := omega) only [pv_v, pv_b2, pv_b1, pv_x, pv_lit, pv_ofN, pu_chk, pu_cl, nI_add, pk_mul, nI_leI, nI_ltI, nI_eq, pu_nar0, pu_nar1, pu_narb, bI_0, bI_1, ↓reduceIte, pu_leT, pu_leF, pu_ltT, pu_ltF, pu_eqT, pu_eqF, pu_x1, pu_x2, pu_x3, pu_x4, pu_x5, pu_x6, pu_x7, pu_x8, Nat.zero_add, pu_m31I, pu_m31, pu_shlI, eq_self, Bool.false_eq_true, Bool.true_eq_false, this]
    exact Wp.of step ⟨.mk (by decide), rfl, .mk (show 1 < cn seed + 1 by omega)⟩
  · obtain ⟨j, rfl⟩ : ∃ j, i = j + 1 := ⟨i - 1, by omega⟩
    have hCj := hC10 j
    unfold f_X12_parts_19b
    by_cases e : rC st (fd 0 0) lt seed (j + 1) = rC st (fd 0 0) lt seed j
    · have hfix : rU st (fd 0 0) lt (rC st (fd 0 0) lt seed j) (fd 0 0) = rC st (fd 0 0) lt seed j := e
      have hC := r_isC hF h.2.1 hlt hcl (hsd j) (rC_lt hs j) hfix (fun D d1 d2 => hin D d1 d2 j)
      have hq := hC.uq (cQ_is hU10 (hs.tr hlt) (by omega))
      simp (disch := omega) only [pv_v, pv_b2, pv_b1, pv_x, pv_lit, pv_ofN, pu_chk, pu_cl, nI_add, pk_mul, nI_leI, nI_ltI, nI_eq, pu_nar0, pu_nar1, pu_narb, bI_0, bI_1, ↓reduceIte, pu_leT, pu_leF, pu_ltT, pu_ltF, pu_eqT, pu_eqF, pu_x1, pu_x2, pu_x3, pu_x4, pu_x5, pu_x6, pu_x7, pu_x8, Nat.zero_add, pu_m31I, pu_m31, pu_shlI, eq_self, Bool.false_eq_true, Bool.true_eq_false, Nat.add_sub_cancel, e, pu_andn]
      rw [hq]
      exact Wp.some rfl
    · have hlt2 := cn_lt (rC_up (st := st) (n := (fd 0 0)) (lt := lt) (L := seed) j) (hC10 (j + 1)) (fun q => e q.symm)
      simp (disch := omega) only [pv_v, pv_b2, pv_b1, pv_x, pv_lit, pv_ofN, pu_chk, pu_cl, nI_add, pk_mul, nI_leI, nI_ltI, nI_eq, pu_nar0, pu_nar1, pu_narb, bI_0, bI_1, ↓reduceIte, pu_leT, pu_leF, pu_ltT, pu_ltF, pu_eqT, pu_eqF, pu_x1, pu_x2, pu_x3, pu_x4, pu_x5, pu_x6, pu_x7, pu_x8, Nat.zero_add, pu_m31I, pu_m31, pu_shlI, eq_self, Bool.false_eq_true, Bool.true_eq_false, Nat.add_sub_cancel, e]
      exact Wp.of step ⟨.mk (by omega), rfl, .mk (show j + 1 + 1 < cn (rC st (fd 0 0) lt seed (j + 1)) + 1 by rw [Nat.add_sub_cancel] at hc; omega)⟩
theorem r_parts (h : rQ fd st jm w) : ∃ r, isK (pu_o fd st) ((fd 0 1) * (fd 0 2)) (pu_u fd st) r ∧ f_X12_parts w = some (nI r, w) := by
  have hF := h.1
  have h10 := hF.1
  have hU10 := pu_k10 (pu_u_lt (fd := fd) (st := st)) h10
  have hw : Wp (f_X12_parts w) (fun p => (∃ r, isK (pu_o fd st) ((fd 0 1) * (fd 0 2)) (pu_u fd st) r ∧ p = (nI r, w))) := by
    unfold f_X12_parts
    rw [r_unknownOnes h, pu_b2]
    unfold f_X12_parts_7
    refine Wp.lp (fun i s => s = (nI (lf (pu_o fd st) ((fd 0 1) * (fd 0 2)) (pu_u fd st) i), nI i, w) ∧ Lt (cn (lf (pu_o fd st) ((fd 0 1) * (fd 0 2)) (pu_u fd st) i) + i) 11 ∧ ∀ j, j < i → lf (pu_o fd st) ((fd 0 1) * (fd 0 2)) (pu_u fd st) j ≠ 0) 10 (by decide) ⟨rfl, .mk (by have := cn_le (lf (pu_o fd st) ((fd 0 1) * (fd 0 2)) (pu_u fd st) 0); omega), fun j hj => absurd hj (by omega)⟩ ?_
    rintro i _ hi ⟨rfl, hcn, hj⟩
    have hcn : cn (lf (pu_o fd st) ((fd 0 1) * (fd 0 2)) (pu_u fd st) i) + i < 11 := hcn
    have hl := lf_lt (occ := pu_o fd st) (T := (fd 0 1) * (fd 0 2)) hU10 i
    have ha := lb_all _ hl
    unfold f_X12_parts_7b
    by_cases e : lf (pu_o fd st) ((fd 0 1) * (fd 0 2)) (pu_u fd st) i = 0
    · simp (disch := omega) only [pv_v, pv_b2, pv_b1, pv_x, pv_lit, pv_ofN, pu_chk, pu_cl, nI_add, pk_mul, nI_leI, nI_ltI, nI_eq, pu_nar0, pu_nar1, pu_narb, bI_0, bI_1, ↓reduceIte, pu_leT, pu_leF, pu_ltT, pu_ltF, pu_eqT, pu_eqF, pu_x1, pu_x2, pu_x3, pu_x4, pu_x5, pu_x6, pu_x7, pu_x8, Nat.zero_add, pu_m31I, pu_m31, pu_shlI, eq_self, Bool.false_eq_true, Bool.true_eq_false, e]
      exact Wp.some ⟨i, ⟨e, hj⟩, rfl⟩
    · have hi10 : i < 10 := by
        have : cn (lf (pu_o fd st) ((fd 0 1) * (fd 0 2)) (pu_u fd st) i) ≠ 0 := fun z => e (cn_0 hl z)
        omega
      have hcn2 := lf_cn (occ := pu_o fd st) (T := (fd 0 1) * (fd 0 2)) hU10 e
      have hp := r_parts19 h (k := i) (lf_sb i) (lf_cl hU10 hj) (pu_sd0.mp ha.2.2.1) (ha.2.2.2 e)
      simp (disch := omega) only [pv_v, pv_b2, pv_b1, pv_x, pv_lit, pv_ofN, pu_chk, pu_cl, nI_add, pk_mul, nI_leI, nI_ltI, nI_eq, pu_nar0, pu_nar1, pu_narb, bI_0, bI_1, ↓reduceIte, pu_leT, pu_leF, pu_ltT, pu_ltF, pu_eqT, pu_eqF, pu_x1, pu_x2, pu_x3, pu_x4, pu_x5, pu_x6, pu_x7, pu_x8, Nat.zero_add, pu_m31I, pu_m31, pu_shlI, eq_self, Bool.false_eq_true, Bool.true_eq_false, e, ha.1]
      refine Wp.of hp ⟨.mk hi10, rfl, .mk (by omega), fun j hj1 => ?_⟩
      by_cases q : j = i
      · subst q; exact e
      · exact hj j (by omega)
  obtain ⟨p, e, r, hr, rfl⟩ := hw
  exact ⟨r, hr, e⟩
end PARTR
