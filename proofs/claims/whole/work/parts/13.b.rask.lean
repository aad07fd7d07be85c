/-! pure part: what the reference foretells by sets (wip/whole/pure/13.b.rask.src) -/
theorem cn_sdC {a b : Nat} (h : sb b a) : ∀ n, pu_C (fun u => (pu_sd a b).testBit u) n + pu_C (fun u => b.testBit u) n = pu_C (fun u => a.testBit u) n
  | 0 => rfl
  | n + 1 => by
    have ih := cn_sdC h n
    rw [pu_C_succ, pu_C_succ, pu_C_succ, pu_sd_bit]
    have := h n
    cases e : a.testBit n <;> cases e2 : b.testBit n
    · simp; omega
    · rw [this e2] at e; cases e
    · simp; omega
    · simp; omega
theorem cn_sd {a b : Nat} (h : sb b a) : cn (pu_sd a b) + cn b = cn a := cn_sdC h 10
theorem cn_p {u : Nat} (h : u < 10) : cn (2 ^ u) = 1 := by
  have : ∀ u, u < 10 → cn (2 ^ u) = 1 := by decide
  exact this u h
theorem sb_p {a u : Nat} (h : a.testBit u = true) : sb (2 ^ u) a := fun i hi => by
  rw [pu_p_bit, decide_eq_true_iff] at hi
  subst hi
  exact h
theorem sb_le {a b : Nat} (h : sb a b) : a ≤ b := by
  have he : a &&& b = a := Nat.eq_of_testBit_eq (fun q => by
    rw [Nat.testBit_and]
    cases e : a.testBit q
    · rfl
    · rw [h q e]; rfl)
  rw [← he]
  exact Nat.and_le_right
theorem sb_cn {a b : Nat} (h : sb a b) (hb : b < 1024) (hc : cn b ≤ cn a) : a = b := Classical.byContradiction (fun hne => by have := cn_lt h hb hne; omega)
/-- the greatest of the STUCK ones below i -/
def pu_gs (p : Nat → Bool) : Nat → Nat
  | 0 => 0
  | i + 1 => if p i && decide (cn (pu_gs p i) < cn i) then i else pu_gs p i
theorem pu_gs_s {p : Nat → Bool} {i : Nat} : pu_gs p (i + 1) = if p i && decide (cn (pu_gs p i) < cn i) then i else pu_gs p i := rfl
theorem pu_gs_i {p : Nat → Bool} : ∀ i, (pu_gs p i = 0 ∨ p (pu_gs p i) = true) ∧ pu_gs p i ≤ i ∧ ∀ j, j < i → p j = true → cn j ≤ cn (pu_gs p i)
  | 0 => ⟨.inl rfl, Nat.le_refl _, fun j hj => absurd hj (by omega)⟩
  | i + 1 => by
    obtain ⟨h1, h2, h3⟩ := pu_gs_i (p := p) i
    rw [pu_gs_s]
    split
    · next h =>
      rw [Bool.and_eq_true, decide_eq_true_iff] at h
      refine ⟨.inr h.1, by omega, fun j hj hp => ?_⟩
      by_cases q : j = i
      · subst q; exact Nat.le_refl _
      · have := h3 j (by omega) hp; omega
    · next h =>
      refine ⟨h1, by omega, fun j hj hp => ?_⟩
      by_cases q : j = i
      · subst q
        rw [hp, Bool.true_and, decide_eq_true_iff] at h
        omega
      · exact h3 j (by omega) hp
theorem pu_ls_i {p : Nat → Bool} (h0 : p 0 = false) : ∀ i, (pu_ls p i = 0 ↔ pu_C p i = 0)
  | 0 => by simp [pu_ls, pu_C]
  | i + 1 => by
    have ih := pu_ls_i h0 i
    rw [pu_ls_s, pu_C_succ]
    cases e : p i
    · simp; exact ih
    · have hi : i ≠ 0 := fun z => by rw [z, h0] at e; cases e
      by_cases q : pu_ls p i = 0
      · simp [q]; exact hi
      · have : pu_C p i ≠ 0 := fun z => q (ih.mpr z)
        simp only [Bool.true_and, if_true]
        split
        · omega
        · omega
section RASKB
variable {fd st : Nat → Nat → Nat} {occ : Nat → Nat} {c : Nat} {w : am_S}
theorem rL.of {jm : Nat} (h : rQ fd st jm w) (hl : ∀ s, s < (fd 0 1) * (fd 0 2) → w.1 287 s = nI (pu_o fd st s)) : rL fd (pu_o fd st) (st 2 0) jm w := ⟨h.1, h.2.1.1, h.2.2.1, h.2.2.2.1.2.2.2.1, h.2.2.2.2.1, h.2.2.2.2.2, fun s hs => ⟨hl s hs, pu_o_lt⟩⟩
theorem r_rem0 (h : rL fd occ c 0 w) {X : Nat} (hX : X < 2 ^ (fd 0 0)) : f_X12_remaining (nI X) w = some (nI (sRR (pu_k fd c) occ (fun _ => true) ((fd 0 1) * (fd 0 2)) X), w) := by rw [r_remaining h hX, sel_0]
theorem r_knownWith (h : rQ fd st 0 w) (hl : rL fd (pu_o fd st) (st 2 0) 0 w) {X : Nat} (b : Bool) : f_X12_knownWith (nI X) (bI b) w = some (nI (if b then pu_sd (2 ^ (fd 0 0) - 1) (sRR (pu_k fd (st 2 0)) (pu_o fd st) (fun _ => true) ((fd 0 1) * (fd 0 2)) (pu_sd (pu_u fd st) X)) else pu_sd (pu_sd (2 ^ (fd 0 0) - 1) (sRR (pu_k fd (st 2 0)) (pu_o fd st) (fun _ => true) ((fd 0 1) * (fd 0 2)) (pu_sd (pu_u fd st) X))) X), w) := by
  have h10 := h.1.1
  unfold f_X12_knownWith f_X12_knownWith_33
  simp (disch := omega) only [pv_v, pv_b2, pv_b1, pv_x, pv_lit, pv_ofN, pu_chk, pu_cl, nI_add, pk_mul, nI_leI, nI_ltI, nI_eq, pu_nar0, pu_nar1, pu_narb, bI_0, bI_1, ↓reduceIte, pu_leT, pu_leF, pu_ltT, pu_ltF, pu_eqT, pu_eqF, pu_x1, pu_x2, pu_x3, pu_x4, pu_x5, pu_x6, pu_x7, pu_x8, Nat.zero_add, pu_m31I, pu_m31, pu_shlI, eq_self, Bool.false_eq_true, Bool.true_eq_false, r_everybody h.2.2.1.1 h10, r_unknownOnes h, pu_andn, r_rem0 hl (pu_sd_lt (b := X) (pu_u_lt (fd := fd) (st := st)))]
  cases b <;> rfl
/-- laid -/
theorem r_lay (h : rQ fd st 0 w) : Wp (f_X12_layOccupied w) (fun w' => rQ fd st 0 w' ∧ rL fd (pu_o fd st) (st 2 0) 0 w' ∧ eqx [287] w w') := by
  refine (r_layOccupied h).mono ?_
  rintro w' ⟨h1, h2⟩
  have hq := h.ex h2 (by decide)
  exact ⟨hq, rL.of hq h1, h2⟩
theorem r_isUser {jm : Nat} (h : rQ fd st jm w) {u : Nat} (hu : u < (fd 0 0)) : f_X12_isUser (nI u) w = some (bI true, w) := by
  have h10 := h.1.1
  have e1 := h.2.2.1.1
  unfold f_X12_isUser
  simp (disch := omega) only [pv_v, pv_b2, pv_b1, pv_x, pv_lit, pv_ofN, pu_chk, pu_cl, nI_add, pk_mul, nI_leI, nI_ltI, nI_eq, pu_nar0, pu_nar1, pu_narb, bI_0, bI_1, ↓reduceIte, pu_leT, pu_leF, pu_ltT, pu_ltF, pu_eqT, pu_eqF, pu_x1, pu_x2, pu_x3, pu_x4, pu_x5, pu_x6, pu_x7, pu_x8, Nat.zero_add, pu_m31I, pu_m31, pu_shlI, eq_self, Bool.false_eq_true, Bool.true_eq_false, e1, pk_sub, r_in]
  simp
theorem r_blame (h : rQ fd st 0 w) {u : Nat} (hu : u < (fd 0 0)) (hk : st 0 u = 0) : Wp (f_X12_blame (nI u) w) (fun p => p.1 = nI (pu_S (fun o => !(o == u) && ((pu_u fd st).testBit o && !(sRR (pu_k fd (st 2 0)) (pu_o fd st) (fun _ => true) ((fd 0 1) * (fd 0 2)) (pu_sd (pu_u fd st) (2 ^ o))).testBit u)) (fd 0 0)) ∧ eqx [287] w p.2) := by
  have hF := h.1
  have h10 := hF.1
  have e1 := h.2.2.1.1
  have hiu := r_isUser h hu
  unfold f_X12_blame
  simp (disch := omega) only [pv_v, pv_b2, pv_b1, pv_x, pv_lit, pv_ofN, pu_chk, pu_cl, nI_add, pk_mul, nI_leI, nI_ltI, nI_eq, pu_nar0, pu_nar1, pu_narb, bI_0, bI_1, ↓reduceIte, pu_leT, pu_leF, pu_ltT, pu_ltF, pu_eqT, pu_eqF, pu_x1, pu_x2, pu_x3, pu_x4, pu_x5, pu_x6, pu_x7, pu_x8, Nat.zero_add, pu_m31I, pu_m31, pu_shlI, eq_self, Bool.false_eq_true, Bool.true_eq_false, hiu, r_isUnknown h (u := u) (by omega), bq_t hk]
  refine Wp.b1 ((r_lay h).mono ?_)
  rintro w1 ⟨hq, hl, hx⟩
  have e1 := hq.2.2.1.1
  unfold f_X12_blame_26
  refine Wp.of (pu_tr (fun i => (nI (pu_S (fun o => !(o == u) && ((pu_u fd st).testBit o && !(sRR (pu_k fd (st 2 0)) (pu_o fd st) (fun _ => true) ((fd 0 1) * (fd 0 2)) (pu_sd (pu_u fd st) (2 ^ o))).testBit u)) i), nI i, w1)) (fd 0 0) (b := (nI (pu_S (fun o => !(o == u) && ((pu_u fd st).testBit o && !(sRR (pu_k fd (st 2 0)) (pu_o fd st) (fun _ => true) ((fd 0 1) * (fd 0 2)) (pu_sd (pu_u fd st) (2 ^ o))).testBit u)) (fd 0 0)), w1)) rfl (by omega) (fun i hi => ?_) ?_) ⟨rfl, hx⟩
  · have hb : (st 0 i == 0) = (pu_u fd st).testBit i := by
      unfold pu_u
      rw [pu_S_bit, decide_eq_true hi, Bool.true_and]
    have hkw := r_knownWith hq hl (X := 2 ^ i) true
    have hso : pu_sd (2 ^ (fd 0 0) - 1) (sRR (pu_k fd (st 2 0)) (pu_o fd st) (fun _ => true) ((fd 0 1) * (fd 0 2)) (pu_sd (pu_u fd st) (2 ^ i))) < 1024 := sb_lt (n := 10) sb_sd (pu_all10 h10)
    have hbit : (pu_sd (2 ^ (fd 0 0) - 1) (sRR (pu_k fd (st 2 0)) (pu_o fd st) (fun _ => true) ((fd 0 1) * (fd 0 2)) (pu_sd (pu_u fd st) (2 ^ i)))).testBit u = !(sRR (pu_k fd (st 2 0)) (pu_o fd st) (fun _ => true) ((fd 0 1) * (fd 0 2)) (pu_sd (pu_u fd st) (2 ^ i))).testBit u := by
      rw [pu_sd_bit, Nat.testBit_two_pow_sub_one, decide_eq_true hu, Bool.true_and]
    rw [bI_t, if_pos rfl] at hkw
    unfold f_X12_blame_26b f_X12_blame_69 f_X12_blame_70
    simp (disch := omega) only [pv_v, pv_b2, pv_b1, pv_x, pv_lit, pv_ofN, pu_chk, pu_cl, nI_add, pk_mul, nI_leI, nI_ltI, nI_eq, pu_nar0, pu_nar1, pu_narb, bI_0, bI_1, ↓reduceIte, pu_leT, pu_leF, pu_ltT, pu_ltF, pu_eqT, pu_eqF, pu_x1, pu_x2, pu_x3, pu_x4, pu_x5, pu_x6, pu_x7, pu_x8, Nat.zero_add, pu_m31I, pu_m31, pu_shlI, eq_self, Bool.false_eq_true, Bool.true_eq_false, e1, r_isUnknown hq (u := i) (by omega), hb, hkw, r_has, hbit]
    by_cases q1 : i = u
    · simp (disch := omega) only [pv_v, pv_b2, pv_b1, pv_x, pv_lit, pv_ofN, pu_chk, pu_cl, nI_add, pk_mul, nI_leI, nI_ltI, nI_eq, pu_nar0, pu_nar1, pu_narb, bI_0, bI_1, ↓reduceIte, pu_leT, pu_leF, pu_ltT, pu_ltF, pu_eqT, pu_eqF, pu_x1, pu_x2, pu_x3, pu_x4, pu_x5, pu_x6, pu_x7, pu_x8, Nat.zero_add, pu_m31I, pu_m31, pu_shlI, eq_self, Bool.false_eq_true, Bool.true_eq_false, q1, pu_or, Nat.or_zero]
      rw [pu_S_f (by simp [q1])]
    · cases q2 : (pu_u fd st).testBit i
      · simp (disch := omega) only [pv_v, pv_b2, pv_b1, pv_x, pv_lit, pv_ofN, pu_chk, pu_cl, nI_add, pk_mul, nI_leI, nI_ltI, nI_eq, pu_nar0, pu_nar1, pu_narb, bI_0, bI_1, ↓reduceIte, pu_leT, pu_leF, pu_ltT, pu_ltF, pu_eqT, pu_eqF, pu_x1, pu_x2, pu_x3, pu_x4, pu_x5, pu_x6, pu_x7, pu_x8, Nat.zero_add, pu_m31I, pu_m31, pu_shlI, eq_self, Bool.false_eq_true, Bool.true_eq_false, q1, pu_or, Nat.or_zero]
        rw [pu_S_f (by simp [q2])]
      · cases q3 : (sRR (pu_k fd (st 2 0)) (pu_o fd st) (fun _ => true) ((fd 0 1) * (fd 0 2)) (pu_sd (pu_u fd st) (2 ^ i))).testBit u
        · simp (disch := omega) only [pv_v, pv_b2, pv_b1, pv_x, pv_lit, pv_ofN, pu_chk, pu_cl, nI_add, pk_mul, nI_leI, nI_ltI, nI_eq, pu_nar0, pu_nar1, pu_narb, bI_0, bI_1, ↓reduceIte, pu_leT, pu_leF, pu_ltT, pu_ltF, pu_eqT, pu_eqF, pu_x1, pu_x2, pu_x3, pu_x4, pu_x5, pu_x6, pu_x7, pu_x8, Nat.zero_add, pu_m31I, pu_m31, pu_shlI, eq_self, Bool.false_eq_true, Bool.true_eq_false, q1, pu_or, Bool.not_false]
          rw [pu_S_t (by simp [q1, q2, q3])]
        · simp (disch := omega) only [pv_v, pv_b2, pv_b1, pv_x, pv_lit, pv_ofN, pu_chk, pu_cl, nI_add, pk_mul, nI_leI, nI_ltI, nI_eq, pu_nar0, pu_nar1, pu_narb, bI_0, bI_1, ↓reduceIte, pu_leT, pu_leF, pu_ltT, pu_ltF, pu_eqT, pu_eqF, pu_x1, pu_x2, pu_x3, pu_x4, pu_x5, pu_x6, pu_x7, pu_x8, Nat.zero_add, pu_m31I, pu_m31, pu_shlI, eq_self, Bool.false_eq_true, Bool.true_eq_false, q1, pu_or, Nat.or_zero, Bool.not_true]
          rw [pu_S_f (by simp [q3])]
  · unfold f_X12_blame_26b
    simp (disch := omega) only [pv_v, pv_b2, pv_b1, pv_x, pv_lit, pv_ofN, pu_chk, pu_cl, nI_add, pk_mul, nI_leI, nI_ltI, nI_eq, pu_nar0, pu_nar1, pu_narb, bI_0, bI_1, ↓reduceIte, pu_leT, pu_leF, pu_ltT, pu_ltF, pu_eqT, pu_eqF, pu_x1, pu_x2, pu_x3, pu_x4, pu_x5, pu_x6, pu_x7, pu_x8, Nat.zero_add, pu_m31I, pu_m31, pu_shlI, eq_self, Bool.false_eq_true, Bool.true_eq_false, e1]
theorem good_iff {b : Bool} {n R X U : Nat} (hU : U < 2 ^ n) (hX : sb X U) (hR : sb R (pu_sd U X)) : ((if b then pu_sd (2 ^ n - 1) R else pu_sd (pu_sd (2 ^ n - 1) R) X) ||| X = 2 ^ n - 1) ↔ R = 0 := by
  constructor
  · intro h
    apply pu_zero_bit
    intro i
    cases e : R.testBit i
    · rfl
    · have h1 := hR i e
      rw [pu_sd_bit, Bool.and_eq_true] at h1
      have h2 : (2 ^ n - 1).testBit i = true := sb_all hU i h1.1
      rw [← h, Nat.testBit_or] at h2
      cases b <;> simp [pu_sd_bit, e] at h2 <;> rw [h2] at h1 <;> cases h1.2
  · intro h
    subst h
    rw [pu_sd_z]
    apply Nat.eq_of_testBit_eq
    intro i
    have := (hX.tr (sb_all hU)) i
    rw [Nat.testBit_or]
    cases b
    · rw [if_neg (by decide), pu_sd_bit]
      cases e : X.testBit i
      · simp
      · rw [this e]; simp
    · rw [if_pos rfl]
      cases e : X.testBit i
      · simp
      · rw [this e]; simp
theorem r_fewest (h : rQ fd st 0 w) (hn : 0 < (fd 0 0)) {a b : Nat} (ha : a ≤ 1) (hb : b ≤ 1) : Wp (f_X12_fewest (nI a) (nI b) w) (fun p => (∃ m, m < 1024 ∧ isM (fun m => sb m (pu_u fd st) ∧ sRR (pu_k fd (st 2 0)) (pu_o fd st) (fun _ => true) ((fd 0 1) * (fd 0 2)) (pu_sd (pu_u fd st) m) = 0) m ∧ p.1 = nI (if b = 0 then cn m else m)) ∧ eqx [287] w p.2) := by
  have hF := h.1
  have h10 := hF.1
  have hK := pu_k_M hF h.2.1.1
  have hU := pu_u_lt (fd := fd) (st := st)
  have hU10 := pu_k10 hU h10
  unfold f_X12_fewest
  rw [r_isField h.2.2.1.1 h10, pu_b2, decide_eq_true hn, if_neg (by decide), show (0 : Int32) = nI 0 from rfl, show (1 : Int32) = nI 1 from rfl, r_in (by omega) (by omega) (by omega), pu_b2, decide_eq_true ⟨Nat.zero_le _, ha⟩, if_neg (by decide), r_in (by omega) (by omega) (by omega), pu_b2, decide_eq_true ⟨Nat.zero_le _, hb⟩, if_neg (by decide)]
  refine Wp.b1 ((r_lay h).mono ?_)
  rintro w1 ⟨hq, hl, hx⟩
  rw [r_unknownOnes hq, pu_b2]
  generalize hUe : pu_u fd st = U at *
  unfold f_X12_fewest_42
  refine Wp.lp (fun i s => ∃ m, s = (nI m, nI i, w1) ∧ (sb m U ∧ sRR (pu_k fd (st 2 0)) (pu_o fd st) (fun _ => true) ((fd 0 1) * (fd 0 2)) (pu_sd U m) = 0) ∧ (m = U ∨ m < i) ∧ m < 1024 ∧ ∀ j, j < i → sb j U → sRR (pu_k fd (st 2 0)) (pu_o fd st) (fun _ => true) ((fd 0 1) * (fd 0 2)) (pu_sd U j) = 0 → cn m < cn j ∨ (cn m = cn j ∧ m ≤ j)) (U + 1) (by omega) ⟨U, rfl, ⟨sb.rf, by rw [pu_sd0.mpr sb.rf, sRR_0 hK]⟩, .inl rfl, hU10, fun j hj => absurd hj (by omega)⟩ ?_
  rintro i _ hi ⟨m, rfl, hm, hmi, hm10, hj⟩
  have c1 := cn_le i
  have c2 := cn_le m
  unfold f_X12_fewest_42b f_X12_fewest_132
  by_cases hiU : i = U + 1
  · subst hiU
    simp (disch := omega) only [pv_v, pv_b2, pv_b1, pv_x, pv_lit, pv_ofN, pu_chk, pu_cl, nI_add, pk_mul, nI_leI, nI_ltI, nI_eq, pu_nar0, pu_nar1, pu_narb, bI_0, bI_1, ↓reduceIte, pu_leT, pu_leF, pu_ltT, pu_ltF, pu_eqT, pu_eqF, pu_x1, pu_x2, pu_x3, pu_x4, pu_x5, pu_x6, pu_x7, pu_x8, Nat.zero_add, pu_m31I, pu_m31, pu_shlI, eq_self, Bool.false_eq_true, Bool.true_eq_false, r_bitsc]
    refine Wp.x (Wp.of (r := (nI (if b = 0 then cn m else m), w1)) ?_ ⟨⟨m, hm10, ⟨hm, fun m' hm' => hj m' (by have := sb_le hm'.1; omega) hm'.1 hm'.2⟩, rfl⟩, hx⟩)
    split <;> rfl
  · have hi10 : i < 1024 := by omega
    have h31 : pu_sd i U < 2 ^ 31 := by have := sb_lt (n := 10) (sb_sd (a := i) (b := U)) hi10; omega
    have keep : (sb i U → sRR (pu_k fd (st 2 0)) (pu_o fd st) (fun _ => true) ((fd 0 1) * (fd 0 2)) (pu_sd U i) = 0 → cn m ≤ cn i) → Wp (f_X12_fewest_112 (nI a) (nI b) (nI U) (nI m) (nI i) w1) (Sum.elim (fun p => (∃ m, m < 1024 ∧ isM (fun m => sb m U ∧ sRR (pu_k fd (st 2 0)) (pu_o fd st) (fun _ => true) ((fd 0 1) * (fd 0 2)) (pu_sd U m) = 0) m ∧ p.1 = nI (if b = 0 then cn m else m)) ∧ eqx [287] w p.2) (fun s' => Lt i (U + 1) ∧ ∃ m, s' = (nI m, nI (i + 1), w1) ∧ (sb m U ∧ sRR (pu_k fd (st 2 0)) (pu_o fd st) (fun _ => true) ((fd 0 1) * (fd 0 2)) (pu_sd U m) = 0) ∧ (m = U ∨ m < i + 1) ∧ m < 1024 ∧ ∀ j, j < i + 1 → sb j U → sRR (pu_k fd (st 2 0)) (pu_o fd st) (fun _ => true) ((fd 0 1) * (fd 0 2)) (pu_sd U j) = 0 → cn m < cn j ∨ (cn m = cn j ∧ m ≤ j))) := by
      intro hge
      unfold f_X12_fewest_112
      simp (disch := omega) only [pv_v, pv_b2, pv_b1, pv_x, pv_lit, pv_ofN, pu_chk, pu_cl, nI_add, pk_mul, nI_leI, nI_ltI, nI_eq, pu_nar0, pu_nar1, pu_narb, bI_0, bI_1, ↓reduceIte, pu_leT, pu_leF, pu_ltT, pu_ltF, pu_eqT, pu_eqF, pu_x1, pu_x2, pu_x3, pu_x4, pu_x5, pu_x6, pu_x7, pu_x8, Nat.zero_add, pu_m31I, pu_m31, pu_shlI, eq_self, Bool.false_eq_true, Bool.true_eq_false]
      refine Wp.some ⟨.mk (by omega), m, rfl, hm, by omega, hm10, fun j hj1 hs hg => ?_⟩
      by_cases q : j = i
      · subst q
        have := hge hs hg
        rcases hmi with rfl | hmi
        · by_cases q2 : j = m
          · subst q2; right; exact ⟨rfl, Nat.le_refl _⟩
          · have := cn_lt hs hU10 q2; omega
        · omega
      · exact hj j (by omega) hs hg
    by_cases hs0 : pu_sd i U = 0
    · have hs := pu_sd0.mp hs0
      by_cases hc : cn m ≤ cn i
      · unfold f_X12_fewest_74 f_X12_fewest_75
        simp (disch := omega) only [pv_v, pv_b2, pv_b1, pv_x, pv_lit, pv_ofN, pu_chk, pu_cl, nI_add, pk_mul, nI_leI, nI_ltI, nI_eq, pu_nar0, pu_nar1, pu_narb, bI_0, bI_1, ↓reduceIte, pu_leT, pu_leF, pu_ltT, pu_ltF, pu_eqT, pu_eqF, pu_x1, pu_x2, pu_x3, pu_x4, pu_x5, pu_x6, pu_x7, pu_x8, Nat.zero_add, pu_m31I, pu_m31, pu_shlI, eq_self, Bool.false_eq_true, Bool.true_eq_false, pu_andn, hs0, r_bitsc, hc]
        exact keep (fun _ _ => hc)
      · have hRs := sRR_sb (occ := pu_o fd st) (sel := fun _ => true) (T := (fd 0 1) * (fd 0 2)) hK (U := pu_sd U i)
        have key : ∀ bb : Bool, Wp (f_X12_fewest_95 (nI a) (nI b) (nI U) (nI m) (nI i) (bI bb) (nI i) w1) (Sum.elim (fun p => (∃ m, m < 1024 ∧ isM (fun m => sb m U ∧ sRR (pu_k fd (st 2 0)) (pu_o fd st) (fun _ => true) ((fd 0 1) * (fd 0 2)) (pu_sd U m) = 0) m ∧ p.1 = nI (if b = 0 then cn m else m)) ∧ eqx [287] w p.2) (fun s' => Lt i (U + 1) ∧ ∃ m, s' = (nI m, nI (i + 1), w1) ∧ (sb m U ∧ sRR (pu_k fd (st 2 0)) (pu_o fd st) (fun _ => true) ((fd 0 1) * (fd 0 2)) (pu_sd U m) = 0) ∧ (m = U ∨ m < i + 1) ∧ m < 1024 ∧ ∀ j, j < i + 1 → sb j U → sRR (pu_k fd (st 2 0)) (pu_o fd st) (fun _ => true) ((fd 0 1) * (fd 0 2)) (pu_sd U j) = 0 → cn m < cn j ∨ (cn m = cn j ∧ m ≤ j))) := by
          intro bb
          have hkw := r_knownWith hq hl (X := i) bb
          rw [hUe] at hkw
          have hg := good_iff (b := bb) (n := (fd 0 0)) hU hs hRs
          have hall := pu_all10 h10
          have hl31 : (if bb then pu_sd (2 ^ (fd 0 0) - 1) (sRR (pu_k fd (st 2 0)) (pu_o fd st) (fun _ => true) ((fd 0 1) * (fd 0 2)) (pu_sd U i)) else pu_sd (pu_sd (2 ^ (fd 0 0) - 1) (sRR (pu_k fd (st 2 0)) (pu_o fd st) (fun _ => true) ((fd 0 1) * (fd 0 2)) (pu_sd U i))) i) ||| i < 2 ^ 10 := by
            refine Nat.or_lt_two_pow ?_ hi10
            split
            · exact sb_lt (n := 10) sb_sd hall
            · exact sb_lt (n := 10) (sb_sd.tr sb_sd) hall
          generalize (if bb then pu_sd (2 ^ (fd 0 0) - 1) (sRR (pu_k fd (st 2 0)) (pu_o fd st) (fun _ => true) ((fd 0 1) * (fd 0 2)) (pu_sd U i)) else pu_sd (pu_sd (2 ^ (fd 0 0) - 1) (sRR (pu_k fd (st 2 0)) (pu_o fd st) (fun _ => true) ((fd 0 1) * (fd 0 2)) (pu_sd U i))) i) = Z at *
          unfold f_X12_fewest_95
          rw [hkw, pu_b2, r_everybody hq.2.2.1.1 h10, pu_b2, pu_or]
          by_cases hgd : sRR (pu_k fd (st 2 0)) (pu_o fd st) (fun _ => true) ((fd 0 1) * (fd 0 2)) (pu_sd U i) = 0
          · rw [hg.mpr hgd, if_pos rfl]
            unfold f_X12_fewest_112
            simp (disch := omega) only [pv_v, pv_b2, pv_b1, pv_x, pv_lit, pv_ofN, pu_chk, pu_cl, nI_add, pk_mul, nI_leI, nI_ltI, nI_eq, pu_nar0, pu_nar1, pu_narb, bI_0, bI_1, ↓reduceIte, pu_leT, pu_leF, pu_ltT, pu_ltF, pu_eqT, pu_eqF, pu_x1, pu_x2, pu_x3, pu_x4, pu_x5, pu_x6, pu_x7, pu_x8, Nat.zero_add, pu_m31I, pu_m31, pu_shlI, eq_self, Bool.false_eq_true, Bool.true_eq_false]
            refine Wp.some ⟨.mk (by omega), i, rfl, ⟨hs, hgd⟩, by omega, hi10, fun j hj1 hs' hg' => ?_⟩
            by_cases q : j = i
            · subst q; right; exact ⟨rfl, Nat.le_refl _⟩
            · have := hj j (by omega) hs' hg'; omega
          · rw [if_neg (fun e => hgd (hg.mp ((nI_eq (by omega) (by omega)).mp e)))]
            exact keep (fun _ hg' => absurd hg' hgd)
        by_cases ha1 : a = 1
        · subst ha1
          unfold f_X12_fewest_74 f_X12_fewest_75
          simp (disch := omega) only [pv_v, pv_b2, pv_b1, pv_x, pv_lit, pv_ofN, pu_chk, pu_cl, nI_add, pk_mul, nI_leI, nI_ltI, nI_eq, pu_nar0, pu_nar1, pu_narb, bI_0, bI_1, ↓reduceIte, pu_leT, pu_leF, pu_ltT, pu_ltF, pu_eqT, pu_eqF, pu_x1, pu_x2, pu_x3, pu_x4, pu_x5, pu_x6, pu_x7, pu_x8, Nat.zero_add, pu_m31I, pu_m31, pu_shlI, eq_self, Bool.false_eq_true, Bool.true_eq_false, pu_andn, hs0, r_bitsc, hc]
          exact key true
        · unfold f_X12_fewest_74 f_X12_fewest_75
          simp (disch := omega) only [pv_v, pv_b2, pv_b1, pv_x, pv_lit, pv_ofN, pu_chk, pu_cl, nI_add, pk_mul, nI_leI, nI_ltI, nI_eq, pu_nar0, pu_nar1, pu_narb, bI_0, bI_1, ↓reduceIte, pu_leT, pu_leF, pu_ltT, pu_ltF, pu_eqT, pu_eqF, pu_x1, pu_x2, pu_x3, pu_x4, pu_x5, pu_x6, pu_x7, pu_x8, Nat.zero_add, pu_m31I, pu_m31, pu_shlI, eq_self, Bool.false_eq_true, Bool.true_eq_false, pu_andn, hs0, r_bitsc, hc, ha1]
          exact key false
    · unfold f_X12_fewest_74 f_X12_fewest_75
      simp (disch := omega) only [pv_v, pv_b2, pv_b1, pv_x, pv_lit, pv_ofN, pu_chk, pu_cl, nI_add, pk_mul, nI_leI, nI_ltI, nI_eq, pu_nar0, pu_nar1, pu_narb, bI_0, bI_1, ↓reduceIte, pu_leT, pu_leF, pu_ltT, pu_ltF, pu_eqT, pu_eqF, pu_x1, pu_x2, pu_x3, pu_x4, pu_x5, pu_x6, pu_x7, pu_x8, Nat.zero_add, pu_m31I, pu_m31, pu_shlI, eq_self, Bool.false_eq_true, Bool.true_eq_false, pu_andn, hs0]
      exact keep (fun hs' _ => absurd (pu_sd0.mpr hs') hs0)
/-- fewest of the stuck ones are fewest of all -/
theorem isM_up {K occ : Nat → Nat} {T U m : Nat} (hK : kM K) (hU : U < 1024) (h : isM (fun m => sb m (sRR K occ (fun _ => true) T U) ∧ sRR K occ (fun _ => true) T (pu_sd (sRR K occ (fun _ => true) T U) m) = 0) m) : isM (fun m => sb m U ∧ sRR K occ (fun _ => true) T (pu_sd U m) = 0) m := by
  refine ⟨⟨h.1.1.tr (sRR_sb hK), by rw [sRR_cut hK hU]; exact h.1.2⟩, fun m' hm' => ?_⟩
  have hs : sb (m' &&& sRR K occ (fun _ => true) T U) (sRR K occ (fun _ => true) T U) := sb_ar
  have he : pu_sd (sRR K occ (fun _ => true) T U) (m' &&& sRR K occ (fun _ => true) T U) = pu_sd (sRR K occ (fun _ => true) T U) m' := Nat.eq_of_testBit_eq (fun i => by
    rw [pu_sd_bit, pu_sd_bit, Nat.testBit_and]
    cases (sRR K occ (fun _ => true) T U).testBit i <;> simp)
  have := h.2 (m' &&& sRR K occ (fun _ => true) T U) ⟨hs, by rw [he, ← sRR_cut hK hU]; exact hm'.2⟩
  have c1 := cn_sb (sb_al (a := m') (b := sRR K occ (fun _ => true) T U))
  have c2 := Nat.and_le_left (n := m') (m := sRR K occ (fun _ => true) T U)
  omega
end RASKB
