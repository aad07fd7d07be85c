/-! pure part: what the class foretells, on (wip/whole/pure/12.b.ask.src) -/
theorem bq_f {a b : Nat} (h : ¬ a = b) : (a == b) = false := by simpa using h
theorem bq_t {a b : Nat} (h : a = b) : (a == b) = true := by simpa using h
/-- whether a set is STUCK -/
def stk (K occ : Nat → Nat) (T U X : Nat) : Bool := !(X == 0) && (pu_sd X U == 0) && (sA K occ (fun _ => true) X T == 0)
/-- the least of them below i -/
def pu_ls (p : Nat → Bool) : Nat → Nat
  | 0 => 0
  | i + 1 => if p i && (pu_ls p i == 0 || decide (cn i < cn (pu_ls p i))) then i else pu_ls p i
theorem pu_ls_s {p : Nat → Bool} {i : Nat} : pu_ls p (i + 1) = if p i && (pu_ls p i == 0 || decide (cn i < cn (pu_ls p i))) then i else pu_ls p i := rfl
theorem pu_ls_le {p : Nat → Bool} : ∀ i, pu_ls p i ≤ i
  | 0 => Nat.le_refl _
  | i + 1 => by
    have := pu_ls_le (p := p) i
    rw [pu_ls_s]
    split <;> omega
/-- the first with the most, of i from a on -/
def pu_mx (p : Nat → Bool) (f : Nat → Nat) (a : Nat) : Nat → Option Nat
  | 0 => none
  | i + 1 => match pu_mx p f a i with
    | none => if p (a + i) then some (a + i) else none
    | some b => if p (a + i) && decide (f b < f (a + i)) then some (a + i) else some b
def oI : Option Nat → Int32
  | none => -nI 1
  | some b => nI b
theorem pu_mx_p {p : Nat → Bool} {f : Nat → Nat} {a : Nat} : ∀ {i b : Nat}, pu_mx p f a i = some b → p b = true ∧ a ≤ b ∧ b < a + i
  | 0, b, h => by cases h
  | i + 1, b, h => by
    unfold pu_mx at h
    cases e : pu_mx p f a i with
    | none =>
      rw [e] at h
      by_cases q : p (a + i) = true
      · simp only [q, if_true] at h
        cases h
        exact ⟨q, by omega, by omega⟩
      · simp only [q] at h
        cases h
    | some b' =>
      rw [e] at h
      have ih := pu_mx_p e
      simp only at h
      split at h
      · next q =>
        cases h
        exact ⟨((Bool.and_eq_true _ _).mp q).1, by omega, by omega⟩
      · cases h
        exact ⟨ih.1, ih.2.1, by omega⟩
theorem pu_mx_f {p : Nat → Bool} {f : Nat → Nat} {a i : Nat} (h : p (a + i) = false) : pu_mx p f a (i + 1) = pu_mx p f a i := by
  show (match pu_mx p f a i with | none => _ | some b => _) = _
  cases pu_mx p f a i with
  | none => simp [h]
  | some b => simp [h]
theorem pu_mx_n {p : Nat → Bool} {f : Nat → Nat} {a i : Nat} (h : p (a + i) = true) (e : pu_mx p f a i = none) : pu_mx p f a (i + 1) = some (a + i) := by
  show (match pu_mx p f a i with | none => _ | some b => _) = _
  rw [e]
  simp [h]
theorem pu_mx_g {p : Nat → Bool} {f : Nat → Nat} {a i b : Nat} (h : p (a + i) = true) (e : pu_mx p f a i = some b) (h2 : f b < f (a + i)) : pu_mx p f a (i + 1) = some (a + i) := by
  show (match pu_mx p f a i with | none => _ | some b => _) = _
  rw [e]
  simp [h, h2]
theorem pu_mx_k {p : Nat → Bool} {f : Nat → Nat} {a i b : Nat} (e : pu_mx p f a i = some b) (h2 : f (a + i) ≤ f b) : pu_mx p f a (i + 1) = some b := by
  show (match pu_mx p f a i with | none => _ | some b => _) = _
  rw [e]
  simp [Nat.not_lt.mpr h2]
/-- the first with the most, all of them asked -/
def pu_my (f : Nat → Nat) : Nat → Nat
  | 0 => 0
  | i + 1 => if f (pu_my f i) < f i then i else pu_my f i
theorem pu_my_s {f : Nat → Nat} {i : Nat} : pu_my f (i + 1) = if f (pu_my f i) < f i then i else pu_my f i := rfl
theorem pu_my_1 {f : Nat → Nat} : pu_my f 1 = 0 := by
  rw [pu_my_s]
  exact if_neg (Nat.lt_irrefl _)
theorem pu_my_lt {f : Nat → Nat} : ∀ i, pu_my f (i + 1) < i + 1
  | 0 => by rw [pu_my_1]; decide
  | i + 1 => by
    have := pu_my_lt (f := f) i
    rw [pu_my_s]
    split <;> omega
def pu_sum (f : Nat → Nat) : Nat → Nat
  | 0 => 0
  | i + 1 => pu_sum f i + f i
theorem pu_sum_le {f : Nat → Nat} {c : Nat} (h : ∀ i, f i ≤ c) : ∀ i, pu_sum f i ≤ i * c
  | 0 => by simp [pu_sum]
  | i + 1 => by
    have := pu_sum_le h i
    have := h i
    show pu_sum f i + f i ≤ (i + 1) * c
    rw [Nat.add_mul]
    omega
theorem pu_sum_cong {f g : Nat → Nat} : ∀ {n : Nat}, (∀ i, i < n → f i = g i) → pu_sum f n = pu_sum g n
  | 0, _ => rfl
  | n + 1, h => by
    show pu_sum f n + f n = pu_sum g n + g n
    rw [pu_sum_cong (n := n) (fun i hi => h i (by omega)), h n (by omega)]
theorem cn_all {n : Nat} (hn : n ≤ 10) : cn (2 ^ n - 1) = n := by
  have : ∀ n, n ≤ 10 → cn (2 ^ n - 1) = n := by decide
  exact this n hn
theorem cn_n {X n : Nat} (hX : X < 2 ^ n) (hn : n ≤ 10) : cn X ≤ n := by
  have := cn_sb (sb_all hX)
  rwa [cn_all hn] at this
theorem cn_out {X n u : Nat} (hX : X < 2 ^ n) (hn : n ≤ 10) (hu : u < n) (h : X.testBit u = false) : cn X + 1 ≤ n := by
  have h1 : 2 ^ n - 1 < 1024 := by have := pu_pow10 hn; have := Nat.two_pow_pos n; omega
  have := cn_lt (sb_all hX) h1 (fun e => by rw [e, Nat.testBit_two_pow_sub_one, decide_eq_true hu] at h; cases h)
  rwa [cn_all hn] at this
section ASKB
variable {fd : Nat → Nat → Nat} {occ : Nat → Nat} {c U : Nat} {w w0 : am_S}
theorem c_isStuckSet (h : cW fd occ c U w0 w) (hU : U < 2 ^ (fd 0 0)) {X : Nat} (hX : X < 2 ^ (fd 0 0)) : Wp (f_X6_isStuckSet (nI X) w) (fun p => p.1 = bI (stk (pu_k fd c) occ ((fd 0 1) * (fd 0 2)) U X) ∧ cW fd occ c U w0 p.2) := by
  have h10 := h.F.1
  have hX10 := pu_k10 hX h10
  have h31 := pu_k10 (pu_sd_lt (b := U) hX) h10
  have hA := pu_k10 (sb_lt (sA_sb (occ := occ) (sel := fun _ => true) (T := (fd 0 1) * (fd 0 2)) h.K) hX) h10
  unfold f_X6_isStuckSet f_X6_isStuckSet_33 f_X6_isStuckSet_34 stk
  simp (disch := omega) only [pv_v, pv_b2, pv_b1, pv_x, pv_lit, pv_ofN, pu_chk, pu_cl, nI_add, pk_mul, nI_leI, nI_ltI, nI_eq, pu_nar0, pu_nar1, pu_narb, bI_0, bI_1, ↓reduceIte, pu_leT, pu_leF, pu_ltT, pu_ltF, pu_eqT, pu_eqF, pu_x1, pu_x2, pu_x3, pu_x4, pu_x5, pu_x6, pu_x7, pu_x8, Nat.zero_add, pu_m31I, pu_m31, pu_shlI, eq_self, Bool.false_eq_true, Bool.true_eq_false, h.u, pu_andn]
  by_cases e1 : X = 0
  · simp (disch := omega) only [pv_v, pv_b2, pv_b1, pv_x, pv_lit, pv_ofN, pu_chk, pu_cl, nI_add, pk_mul, nI_leI, nI_ltI, nI_eq, pu_nar0, pu_nar1, pu_narb, bI_0, bI_1, ↓reduceIte, pu_leT, pu_leF, pu_ltT, pu_ltF, pu_eqT, pu_eqF, pu_x1, pu_x2, pu_x3, pu_x4, pu_x5, pu_x6, pu_x7, pu_x8, Nat.zero_add, pu_m31I, pu_m31, pu_shlI, eq_self, Bool.false_eq_true, Bool.true_eq_false, e1]
    exact Wp.some ⟨rfl, h⟩
  · simp (disch := omega) only [pv_v, pv_b2, pv_b1, pv_x, pv_lit, pv_ofN, pu_chk, pu_cl, nI_add, pk_mul, nI_leI, nI_ltI, nI_eq, pu_nar0, pu_nar1, pu_narb, bI_0, bI_1, ↓reduceIte, pu_leT, pu_leF, pu_ltT, pu_ltF, pu_eqT, pu_eqF, pu_x1, pu_x2, pu_x3, pu_x4, pu_x5, pu_x6, pu_x7, pu_x8, Nat.zero_add, pu_m31I, pu_m31, pu_shlI, eq_self, Bool.false_eq_true, Bool.true_eq_false, e1]
    by_cases e2 : pu_sd X U = 0
    · simp (disch := omega) only [pv_v, pv_b2, pv_b1, pv_x, pv_lit, pv_ofN, pu_chk, pu_cl, nI_add, pk_mul, nI_leI, nI_ltI, nI_eq, pu_nar0, pu_nar1, pu_narb, bI_0, bI_1, ↓reduceIte, pu_leT, pu_leF, pu_ltT, pu_ltF, pu_eqT, pu_eqF, pu_x1, pu_x2, pu_x3, pu_x4, pu_x5, pu_x6, pu_x7, pu_x8, Nat.zero_add, pu_m31I, pu_m31, pu_shlI, eq_self, Bool.false_eq_true, Bool.true_eq_false, e2]
      refine Wp.b2 ((c_clearAnywhere h hX).mono ?_)
      rintro ⟨r, w'⟩ ⟨rfl, hw'⟩
      by_cases e3 : sA (pu_k fd c) occ (fun _ => true) X ((fd 0 1) * (fd 0 2)) = 0
      · simp (disch := omega) only [pv_v, pv_b2, pv_b1, pv_x, pv_lit, pv_ofN, pu_chk, pu_cl, nI_add, pk_mul, nI_leI, nI_ltI, nI_eq, pu_nar0, pu_nar1, pu_narb, bI_0, bI_1, ↓reduceIte, pu_leT, pu_leF, pu_ltT, pu_ltF, pu_eqT, pu_eqF, pu_x1, pu_x2, pu_x3, pu_x4, pu_x5, pu_x6, pu_x7, pu_x8, Nat.zero_add, pu_m31I, pu_m31, pu_shlI, eq_self, Bool.false_eq_true, Bool.true_eq_false, e3]
        exact Wp.some ⟨by rw [bq_f e1]; rfl, hw'⟩
      · simp (disch := omega) only [pv_v, pv_b2, pv_b1, pv_x, pv_lit, pv_ofN, pu_chk, pu_cl, nI_add, pk_mul, nI_leI, nI_ltI, nI_eq, pu_nar0, pu_nar1, pu_narb, bI_0, bI_1, ↓reduceIte, pu_leT, pu_leF, pu_ltT, pu_ltF, pu_eqT, pu_eqF, pu_x1, pu_x2, pu_x3, pu_x4, pu_x5, pu_x6, pu_x7, pu_x8, Nat.zero_add, pu_m31I, pu_m31, pu_shlI, eq_self, Bool.false_eq_true, Bool.true_eq_false, e3]
        exact Wp.some ⟨by rw [bq_f e3, Bool.and_false]; rfl, hw'⟩
    · simp (disch := omega) only [pv_v, pv_b2, pv_b1, pv_x, pv_lit, pv_ofN, pu_chk, pu_cl, nI_add, pk_mul, nI_leI, nI_ltI, nI_eq, pu_nar0, pu_nar1, pu_narb, bI_0, bI_1, ↓reduceIte, pu_leT, pu_leF, pu_ltT, pu_ltF, pu_eqT, pu_eqF, pu_x1, pu_x2, pu_x3, pu_x4, pu_x5, pu_x6, pu_x7, pu_x8, Nat.zero_add, pu_m31I, pu_m31, pu_shlI, eq_self, Bool.false_eq_true, Bool.true_eq_false, e2]
      exact Wp.some ⟨by rw [bq_f e2, Bool.and_false, Bool.false_and]; rfl, h⟩
theorem stk_0 {K : Nat → Nat} {T : Nat} : stk K occ T U 0 = false := rfl
theorem c_stuckSets (h : cW fd occ c U w0 w) (hU : U < 2 ^ (fd 0 0)) : Wp (f_X6_stuckSets w) (fun p => p.1 = nI (pu_C (stk (pu_k fd c) occ ((fd 0 1) * (fd 0 2)) U) (U + 1)) ∧ cW fd occ c U w0 p.2) := by
  have h10 := h.F.1
  have hU10 := pu_k10 hU h10
  unfold f_X6_stuckSets f_X6_stuckSets_4
  refine Wp.for (fun i w => (nI (pu_C (stk (pu_k fd c) occ ((fd 0 1) * (fd 0 2)) U) (i + 1)), nI (i + 1), w)) (fun _ w => cW fd occ c U w0 w) U (by omega) rfl h (fun i w hi hw => ?_) (fun w hw => ?_)
  · unfold f_X6_stuckSets_4b f_X6_stuckSets_29
    simp (disch := omega) only [pv_v, pv_b2, pv_b1, pv_x, pv_lit, pv_ofN, pu_chk, pu_cl, nI_add, pk_mul, nI_leI, nI_ltI, nI_eq, pu_nar0, pu_nar1, pu_narb, bI_0, bI_1, ↓reduceIte, pu_leT, pu_leF, pu_ltT, pu_ltF, pu_eqT, pu_eqF, pu_x1, pu_x2, pu_x3, pu_x4, pu_x5, pu_x6, pu_x7, pu_x8, Nat.zero_add, pu_m31I, pu_m31, pu_shlI, eq_self, Bool.false_eq_true, Bool.true_eq_false, hw.u]
    refine Wp.b2 ((c_isStuckSet hw hU (X := i + 1) (by omega)).mono ?_)
    rintro ⟨r, w'⟩ ⟨rfl, hw'⟩
    cases e : stk (pu_k fd c) occ ((fd 0 1) * (fd 0 2)) U (i + 1)
    · simp (disch := omega) only [pv_v, pv_b2, pv_b1, pv_x, pv_lit, pv_ofN, pu_chk, pu_cl, nI_add, pk_mul, nI_leI, nI_ltI, nI_eq, pu_nar0, pu_nar1, pu_narb, bI_0, bI_1, ↓reduceIte, pu_leT, pu_leF, pu_ltT, pu_ltF, pu_eqT, pu_eqF, pu_x1, pu_x2, pu_x3, pu_x4, pu_x5, pu_x6, pu_x7, pu_x8, Nat.zero_add, pu_m31I, pu_m31, pu_shlI, eq_self, Bool.false_eq_true, Bool.true_eq_false]
      exact Wp.some ⟨w', by rw [pu_C_f e]; rfl, hw'⟩
    · simp (disch := omega) only [pv_v, pv_b2, pv_b1, pv_x, pv_lit, pv_ofN, pu_chk, pu_cl, nI_add, pk_mul, nI_leI, nI_ltI, nI_eq, pu_nar0, pu_nar1, pu_narb, bI_0, bI_1, ↓reduceIte, pu_leT, pu_leF, pu_ltT, pu_ltF, pu_eqT, pu_eqF, pu_x1, pu_x2, pu_x3, pu_x4, pu_x5, pu_x6, pu_x7, pu_x8, Nat.zero_add, pu_m31I, pu_m31, pu_shlI, eq_self, Bool.false_eq_true, Bool.true_eq_false]
      exact Wp.some ⟨w', by rw [pu_C_t e], hw'⟩
  · unfold f_X6_stuckSets_4b
    simp (disch := omega) only [pv_v, pv_b2, pv_b1, pv_x, pv_lit, pv_ofN, pu_chk, pu_cl, nI_add, pk_mul, nI_leI, nI_ltI, nI_eq, pu_nar0, pu_nar1, pu_narb, bI_0, bI_1, ↓reduceIte, pu_leT, pu_leF, pu_ltT, pu_ltF, pu_eqT, pu_eqF, pu_x1, pu_x2, pu_x3, pu_x4, pu_x5, pu_x6, pu_x7, pu_x8, Nat.zero_add, pu_m31I, pu_m31, pu_shlI, eq_self, Bool.false_eq_true, Bool.true_eq_false, hw.u]
    exact Wp.some ⟨rfl, hw⟩
theorem c_leastStuckSet (h : cW fd occ c U w0 w) (hU : U < 2 ^ (fd 0 0)) : Wp (f_X6_leastStuckSet w) (fun p => p.1 = nI (pu_ls (stk (pu_k fd c) occ ((fd 0 1) * (fd 0 2)) U) (U + 1)) ∧ cW fd occ c U w0 p.2) := by
  have h10 := h.F.1
  have hU10 := pu_k10 hU h10
  unfold f_X6_leastStuckSet f_X6_leastStuckSet_4
  refine Wp.for (fun i w => (nI (pu_ls (stk (pu_k fd c) occ ((fd 0 1) * (fd 0 2)) U) (i + 1)), nI (i + 1), w)) (fun _ w => cW fd occ c U w0 w) U (by omega) rfl h (fun i w hi hw => ?_) (fun w hw => ?_)
  · have hls := pu_ls_le (p := stk (pu_k fd c) occ ((fd 0 1) * (fd 0 2)) U) (i + 1)
    have c1 := cn_le (i + 1)
    have c2 := cn_le (pu_ls (stk (pu_k fd c) occ ((fd 0 1) * (fd 0 2)) U) (i + 1))
    have ex : ∀ w', cW fd occ c U w0 w' → ∀ x, x = pu_ls (stk (pu_k fd c) occ ((fd 0 1) * (fd 0 2)) U) (i + 1 + 1) → Wp (f_X6_leastStuckSet_50 (nI x) (nI (i + 1)) w') (Sum.elim (fun p => p.1 = nI (pu_ls (stk (pu_k fd c) occ ((fd 0 1) * (fd 0 2)) U) (U + 1)) ∧ cW fd occ c U w0 p.2) (fun s' => ∃ w', s' = (nI (pu_ls (stk (pu_k fd c) occ ((fd 0 1) * (fd 0 2)) U) (i + 1 + 1)), nI (i + 1 + 1), w') ∧ cW fd occ c U w0 w')) := by
      intro w' hw' x hx
      unfold f_X6_leastStuckSet_50
      simp (disch := omega) only [pv_v, pv_b2, pv_b1, pv_x, pv_lit, pv_ofN, pu_chk, pu_cl, nI_add, pk_mul, nI_leI, nI_ltI, nI_eq, pu_nar0, pu_nar1, pu_narb, bI_0, bI_1, ↓reduceIte, pu_leT, pu_leF, pu_ltT, pu_ltF, pu_eqT, pu_eqF, pu_x1, pu_x2, pu_x3, pu_x4, pu_x5, pu_x6, pu_x7, pu_x8, Nat.zero_add, pu_m31I, pu_m31, pu_shlI, eq_self, Bool.false_eq_true, Bool.true_eq_false]
      exact Wp.some ⟨w', by rw [hx], hw'⟩
    have go : (pu_ls (stk (pu_k fd c) occ ((fd 0 1) * (fd 0 2)) U) (i + 1) == 0 || decide (cn (i + 1) < cn (pu_ls (stk (pu_k fd c) occ ((fd 0 1) * (fd 0 2)) U) (i + 1)))) = true → Wp (f_X6_leastStuckSet_30 (nI (pu_ls (stk (pu_k fd c) occ ((fd 0 1) * (fd 0 2)) U) (i + 1))) (nI (i + 1)) w) (Sum.elim (fun p => p.1 = nI (pu_ls (stk (pu_k fd c) occ ((fd 0 1) * (fd 0 2)) U) (U + 1)) ∧ cW fd occ c U w0 p.2) (fun s' => ∃ w', s' = (nI (pu_ls (stk (pu_k fd c) occ ((fd 0 1) * (fd 0 2)) U) (i + 1 + 1)), nI (i + 1 + 1), w') ∧ cW fd occ c U w0 w')) := by
      intro hq
      unfold f_X6_leastStuckSet_30 f_X6_leastStuckSet_35
      rw [if_neg (by decide)]
      refine Wp.b2 ((c_isStuckSet hw hU (X := i + 1) (by omega)).mono ?_)
      rintro ⟨r, w'⟩ ⟨rfl, hw'⟩
      have hs := pu_ls_s (p := stk (pu_k fd c) occ ((fd 0 1) * (fd 0 2)) U) (i := i + 1)
      rw [hq, Bool.and_true] at hs
      cases e : stk (pu_k fd c) occ ((fd 0 1) * (fd 0 2)) U (i + 1)
      · exact ex w' hw' _ (by rw [hs, e]; rfl)
      · exact ex w' hw' _ (by rw [hs, e]; rfl)
    unfold f_X6_leastStuckSet_4b
    simp (disch := omega) only [pv_v, pv_b2, pv_b1, pv_x, pv_lit, pv_ofN, pu_chk, pu_cl, nI_add, pk_mul, nI_leI, nI_ltI, nI_eq, pu_nar0, pu_nar1, pu_narb, bI_0, bI_1, ↓reduceIte, pu_leT, pu_leF, pu_ltT, pu_ltF, pu_eqT, pu_eqF, pu_x1, pu_x2, pu_x3, pu_x4, pu_x5, pu_x6, pu_x7, pu_x8, Nat.zero_add, pu_m31I, pu_m31, pu_shlI, eq_self, Bool.false_eq_true, Bool.true_eq_false, hw.u, c_bitCount]
    by_cases e0 : pu_ls (stk (pu_k fd c) occ ((fd 0 1) * (fd 0 2)) U) (i + 1) = 0
    · rw [if_pos e0]
      exact go (by simp [e0])
    · rw [if_neg e0]
      by_cases e1 : cn (pu_ls (stk (pu_k fd c) occ ((fd 0 1) * (fd 0 2)) U) (i + 1)) ≤ cn (i + 1)
      · rw [if_pos e1]
        unfold f_X6_leastStuckSet_35
        simp (disch := omega) only [pv_v, pv_b2, pv_b1, pv_x, pv_lit, pv_ofN, pu_chk, pu_cl, nI_add, pk_mul, nI_leI, nI_ltI, nI_eq, pu_nar0, pu_nar1, pu_narb, bI_0, bI_1, ↓reduceIte, pu_leT, pu_leF, pu_ltT, pu_ltF, pu_eqT, pu_eqF, pu_x1, pu_x2, pu_x3, pu_x4, pu_x5, pu_x6, pu_x7, pu_x8, Nat.zero_add, pu_m31I, pu_m31, pu_shlI, eq_self, Bool.false_eq_true, Bool.true_eq_false]
        refine ex w hw _ ?_
        have hn : (stk (pu_k fd c) occ ((fd 0 1) * (fd 0 2)) U (i + 1) && (pu_ls (stk (pu_k fd c) occ ((fd 0 1) * (fd 0 2)) U) (i + 1) == 0 || decide (cn (i + 1) < cn (pu_ls (stk (pu_k fd c) occ ((fd 0 1) * (fd 0 2)) U) (i + 1))))) = false := by
          rw [bq_f e0, decide_eq_false (by omega), Bool.or_false, Bool.and_false]
        rw [pu_ls_s (i := i + 1), hn]
        rfl
      · rw [if_neg e1]
        exact go (by simp; omega)
  · unfold f_X6_leastStuckSet_4b
    simp (disch := omega) only [pv_v, pv_b2, pv_b1, pv_x, pv_lit, pv_ofN, pu_chk, pu_cl, nI_add, pk_mul, nI_leI, nI_ltI, nI_eq, pu_nar0, pu_nar1, pu_narb, bI_0, bI_1, ↓reduceIte, pu_leT, pu_leF, pu_ltT, pu_ltF, pu_eqT, pu_eqF, pu_x1, pu_x2, pu_x3, pu_x4, pu_x5, pu_x6, pu_x7, pu_x8, Nat.zero_add, pu_m31I, pu_m31, pu_shlI, eq_self, Bool.false_eq_true, Bool.true_eq_false, hw.u]
    exact Wp.some ⟨rfl, hw⟩
/-- who is left behind p places of a window of v FRAMES -/
def pu_wd (K occ : Nat → Nat) (T S v U : Nat) : Nat → Nat
  | 0 => U
  | p + 1 => sRR K occ (pu_sel (p * S) ((p + v) * S) 0) T (pu_wd K occ T S v U p)
theorem pu_wd_lt {K : Nat → Nat} {T S v n : Nat} (hK : kM K) (hU : U < 2 ^ n) : ∀ p, pu_wd K occ T S v U p < 2 ^ n
  | 0 => hU
  | p + 1 => sRR_lt hK (pu_wd_lt hK hU p)
theorem c_settleInWindow (h : cW fd occ c U w0 w) {X p v : Nat} (hX : X < 2 ^ (fd 0 0)) (hp : p + v ≤ (fd 0 2)) : Wp (f_X6_settleInWindow (nI X) (nI p) (nI v) w) (fun q => q.1 = nI (sRR (pu_k fd c) occ (pu_sel (p * (fd 0 1)) ((p + v) * (fd 0 1)) 0) ((fd 0 1) * (fd 0 2)) X) ∧ cW fd occ c U w0 q.2) := by
  unfold f_X6_settleInWindow
  simp (disch := omega) only [pv_v, pv_b2, pv_b1, pv_x, pv_lit, pv_ofN, pu_chk, pu_cl, nI_add, pk_mul, nI_leI, nI_ltI, nI_eq, pu_nar0, pu_nar1, pu_narb, bI_0, bI_1, ↓reduceIte, pu_leT, pu_leF, pu_ltT, pu_ltF, pu_eqT, pu_eqF, pu_x1, pu_x2, pu_x3, pu_x4, pu_x5, pu_x6, pu_x7, pu_x8, Nat.zero_add, pu_m31I, pu_m31, pu_shlI, eq_self, Bool.false_eq_true, Bool.true_eq_false, h.S, pu_litL0]
  refine Wp.b2 ((c_settle h hX (a := p * (fd 0 1)) (b := (p + v) * (fd 0 1)) (jm := 0) (Nat.mul_le_mul_right _ (by omega)) (by rw [Nat.mul_comm (fd 0 1)]; exact Nat.mul_le_mul_right _ hp) (by decide)).mono ?_)
  rintro ⟨r, w'⟩ ⟨rfl, hw'⟩
  exact Wp.some ⟨rfl, hw'⟩
theorem c_unknownBehindSlide (h : cW fd occ c U w0 w) (hU : U < 2 ^ (fd 0 0)) {v : Nat} (h1 : 1 ≤ v) (hv : v ≤ (fd 0 2)) : Wp (f_X6_unknownBehindSlide (nI v) w) (fun p => p.1 = nI (pu_wd (pu_k fd c) occ ((fd 0 1) * (fd 0 2)) (fd 0 1) v U ((fd 0 2) - v + 1)) ∧ cW fd occ c U w0 p.2) := by
  have h4 := h.F.2.2.1
  unfold f_X6_unknownBehindSlide
  rw [h.u, pu_v]
  unfold f_X6_unknownBehindSlide_10
  refine Wp.for (fun i w => (nI (pu_wd (pu_k fd c) occ ((fd 0 1) * (fd 0 2)) (fd 0 1) v U i), nI i, w)) (fun _ w => cW fd occ c U w0 w) ((fd 0 2) - v + 1) (by omega) rfl h (fun i w hi hw => ?_) (fun w hw => ?_)
  · unfold f_X6_unknownBehindSlide_10b
    simp (disch := omega) only [pv_v, pv_b2, pv_b1, pv_x, pv_lit, pv_ofN, pu_chk, pu_cl, nI_add, pk_mul, nI_leI, nI_ltI, nI_eq, pu_nar0, pu_nar1, pu_narb, bI_0, bI_1, ↓reduceIte, pu_leT, pu_leF, pu_ltT, pu_ltF, pu_eqT, pu_eqF, pu_x1, pu_x2, pu_x3, pu_x4, pu_x5, pu_x6, pu_x7, pu_x8, Nat.zero_add, pu_m31I, pu_m31, pu_shlI, eq_self, Bool.false_eq_true, Bool.true_eq_false, hw.Fr]
    refine Wp.b2 ((c_settleInWindow hw (pu_wd_lt hw.K hU i) (p := i) (v := v) (by omega)).mono ?_)
    rintro ⟨r, w'⟩ ⟨rfl, hw'⟩
    simp (disch := omega) only [pv_v, pv_b2, pv_b1, pv_x, pv_lit, pv_ofN, pu_chk, pu_cl, nI_add, pk_mul, nI_leI, nI_ltI, nI_eq, pu_nar0, pu_nar1, pu_narb, bI_0, bI_1, ↓reduceIte, pu_leT, pu_leF, pu_ltT, pu_ltF, pu_eqT, pu_eqF, pu_x1, pu_x2, pu_x3, pu_x4, pu_x5, pu_x6, pu_x7, pu_x8, Nat.zero_add, pu_m31I, pu_m31, pu_shlI, eq_self, Bool.false_eq_true, Bool.true_eq_false]
    exact Wp.some ⟨w', rfl, hw'⟩
  · unfold f_X6_unknownBehindSlide_10b
    simp (disch := omega) only [pv_v, pv_b2, pv_b1, pv_x, pv_lit, pv_ofN, pu_chk, pu_cl, nI_add, pk_mul, nI_leI, nI_ltI, nI_eq, pu_nar0, pu_nar1, pu_narb, bI_0, bI_1, ↓reduceIte, pu_leT, pu_leF, pu_ltT, pu_ltF, pu_eqT, pu_eqF, pu_x1, pu_x2, pu_x3, pu_x4, pu_x5, pu_x6, pu_x7, pu_x8, Nat.zero_add, pu_m31I, pu_m31, pu_shlI, eq_self, Bool.false_eq_true, Bool.true_eq_false, hw.Fr]
    exact Wp.some ⟨rfl, hw⟩
/-- in which place -/
def isO (f : Nat → Nat) (u N : Nat) (x : Int32) : Prop := (∃ p, p < N ∧ x = nI p ∧ (f (p + 1)).testBit u = false ∧ ∀ j, j < p → (f (j + 1)).testBit u = true) ∨ (x = -nI 1 ∧ ∀ j, j < N → (f (j + 1)).testBit u = true)
theorem isO.uq {f : Nat → Nat} {u N : Nat} {x y : Int32} (h : isO f u N x) (h2 : isO f u N y) : x = y := by
  rcases h with ⟨r, a1, a2, a3, a4⟩ | ⟨a1, a2⟩ <;> rcases h2 with ⟨r', b1, b2, b3, b4⟩ | ⟨b1, b2⟩
  · have : r = r' := by
      rcases Nat.lt_trichotomy r r' with q | q | q
      · have := b4 r q; rw [a3] at this; cases this
      · exact q
      · have := a4 r' q; rw [b3] at this; cases this
    rw [a2, b2, this]
  · have := b2 r a1; rw [a3] at this; cases this
  · have := a2 r' b1; rw [b3] at this; cases this
  · rw [a1, b1]
theorem c_placeOnSlide (h : cW fd occ c U w0 w) (hU : U < 2 ^ (fd 0 0)) {v u : Nat} (hu : u < 10) (h1 : 1 ≤ v) (hv : v ≤ (fd 0 2)) : Wp (f_X6_placeOnSlide (nI u) (nI v) w) (fun p => isO (pu_wd (pu_k fd c) occ ((fd 0 1) * (fd 0 2)) (fd 0 1) v U) u ((fd 0 2) - v + 1) p.1 ∧ cW fd occ c U w0 p.2) := by
  have h4 := h.F.2.2.1
  have h10 := h.F.1
  unfold f_X6_placeOnSlide
  rw [h.u, pu_v]
  unfold f_X6_placeOnSlide_11
  refine Wp.lp (fun i s => ∃ w, s = (nI (pu_wd (pu_k fd c) occ ((fd 0 1) * (fd 0 2)) (fd 0 1) v U i), nI i, w) ∧ cW fd occ c U w0 w ∧ ∀ j, j < i → (pu_wd (pu_k fd c) occ ((fd 0 1) * (fd 0 2)) (fd 0 1) v U (j + 1)).testBit u = true) ((fd 0 2) - v + 1) (by omega) ⟨w, rfl, h, fun j hj => absurd hj (by omega)⟩ ?_
  rintro i _ hi ⟨w, rfl, hw, hj⟩
  unfold f_X6_placeOnSlide_11b
  by_cases c1 : i = (fd 0 2) - v + 1
  · subst c1
    simp (disch := omega) only [pv_v, pv_b2, pv_b1, pv_x, pv_lit, pv_ofN, pu_chk, pu_cl, nI_add, pk_mul, nI_leI, nI_ltI, nI_eq, pu_nar0, pu_nar1, pu_narb, bI_0, bI_1, ↓reduceIte, pu_leT, pu_leF, pu_ltT, pu_ltF, pu_eqT, pu_eqF, pu_x1, pu_x2, pu_x3, pu_x4, pu_x5, pu_x6, pu_x7, pu_x8, Nat.zero_add, pu_m31I, pu_m31, pu_shlI, eq_self, Bool.false_eq_true, Bool.true_eq_false, hw.Fr]
    exact Wp.some ⟨.inr ⟨rfl, hj⟩, hw⟩
  · simp (disch := omega) only [pv_v, pv_b2, pv_b1, pv_x, pv_lit, pv_ofN, pu_chk, pu_cl, nI_add, pk_mul, nI_leI, nI_ltI, nI_eq, pu_nar0, pu_nar1, pu_narb, bI_0, bI_1, ↓reduceIte, pu_leT, pu_leF, pu_ltT, pu_ltF, pu_eqT, pu_eqF, pu_x1, pu_x2, pu_x3, pu_x4, pu_x5, pu_x6, pu_x7, pu_x8, Nat.zero_add, pu_m31I, pu_m31, pu_shlI, eq_self, Bool.false_eq_true, Bool.true_eq_false, hw.Fr]
    refine Wp.b2 ((c_settleInWindow hw (pu_wd_lt hw.K hU i) (p := i) (v := v) (by omega)).mono ?_)
    rintro ⟨r, w'⟩ ⟨hr, hw'⟩
    have hl := pu_k10 (pu_wd_lt (occ := occ) (T := (fd 0 1) * (fd 0 2)) (S := (fd 0 1)) (v := v) hw.K hU (i + 1)) h10
    have hr : r = nI (pu_wd (pu_k fd c) occ ((fd 0 1) * (fd 0 2)) (fd 0 1) v U (i + 1)) := hr
    subst hr
    simp (disch := omega) only [pv_v, pv_b2, pv_b1, pv_x, pv_lit, pv_ofN, pu_chk, pu_cl, nI_add, pk_mul, nI_leI, nI_ltI, nI_eq, pu_nar0, pu_nar1, pu_narb, bI_0, bI_1, ↓reduceIte, pu_leT, pu_leF, pu_ltT, pu_ltF, pu_eqT, pu_eqF, pu_x1, pu_x2, pu_x3, pu_x4, pu_x5, pu_x6, pu_x7, pu_x8, Nat.zero_add, pu_m31I, pu_m31, pu_shlI, eq_self, Bool.false_eq_true, Bool.true_eq_false, pu_shrI, pu_and, pu_bitN]
    cases e : (pu_wd (pu_k fd c) occ ((fd 0 1) * (fd 0 2)) (fd 0 1) v U (i + 1)).testBit u
    · simp (disch := omega) only [pv_v, pv_b2, pv_b1, pv_x, pv_lit, pv_ofN, pu_chk, pu_cl, nI_add, pk_mul, nI_leI, nI_ltI, nI_eq, pu_nar0, pu_nar1, pu_narb, bI_0, bI_1, ↓reduceIte, pu_leT, pu_leF, pu_ltT, pu_ltF, pu_eqT, pu_eqF, pu_x1, pu_x2, pu_x3, pu_x4, pu_x5, pu_x6, pu_x7, pu_x8, Nat.zero_add, pu_m31I, pu_m31, pu_shlI, eq_self, Bool.false_eq_true, Bool.true_eq_false]
      exact Wp.some ⟨.inl ⟨i, by omega, rfl, e, hj⟩, hw'⟩
    · simp (disch := omega) only [pv_v, pv_b2, pv_b1, pv_x, pv_lit, pv_ofN, pu_chk, pu_cl, nI_add, pk_mul, nI_leI, nI_ltI, nI_eq, pu_nar0, pu_nar1, pu_narb, bI_0, bI_1, ↓reduceIte, pu_leT, pu_leF, pu_ltT, pu_ltF, pu_eqT, pu_eqF, pu_x1, pu_x2, pu_x3, pu_x4, pu_x5, pu_x6, pu_x7, pu_x8, Nat.zero_add, pu_m31I, pu_m31, pu_shlI, eq_self, Bool.false_eq_true, Bool.true_eq_false]
      refine Wp.some ⟨.mk (by omega), w', rfl, hw', fun j hj1 => ?_⟩
      by_cases q : j = i
      · subst q; exact e
      · exact hj j (by omega)
end ASKB
