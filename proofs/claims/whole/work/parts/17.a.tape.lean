/-! pure part: reading the TAPE, both sides (wip/whole/pure/17.a.tape.src) -/
/-- behind blanks -/
def nBf (tp : Nat → Nat) : Nat → Nat → Nat
  | 0, i => i
  | f + 1, i => if tp i = 32 then nBf tp f (i + 1) else i
def nB (T : Nat) (tp : Nat → Nat) (i : Nat) : Nat := nBf tp (T - i) i
/-- the sign at a place; 0 at the end -/
def sg (T : Nat) (tp : Nat → Nat) (i : Nat) : Nat := if i < T then tp i else 0
def isDg (c : Nat) : Bool := decide (48 ≤ c) && decide (c ≤ 57)
/-- digits, so many at most -/
def ng (T : Nat) (tp : Nat → Nat) : Nat → Nat → Nat → Nat × Nat
  | 0, v, i => (v, i)
  | f + 1, v, i => if isDg (sg T tp i) then ng T tp f (10 * v + (tp i - 48)) (i + 1) else (v, i)
/-- a number between bounds: whether, where, which -/
def nMr (T : Nat) (tp : Nat → Nat) (lo hi : Nat) (p : Nat × Nat) : Bool × Nat × Nat := if isDg (sg T tp p.2) then (false, p.2, p.1) else if lo ≤ p.1 ∧ p.1 ≤ hi then (true, p.2, p.1) else (false, p.2 - 1, p.1)
def nM (T : Nat) (tp : Nat → Nat) (lo hi i : Nat) : Bool × Nat × Nat := if isDg (sg T tp (nB T tp i)) then nMr T tp lo hi (ng T tp 4 0 (nB T tp i)) else (false, nB T tp i, lo)
theorem nMr_1 {T : Nat} {tp : Nat → Nat} {lo hi v e : Nat} (h : isDg (sg T tp e) = true) : nMr T tp lo hi (v, e) = (false, e, v) := if_pos h
theorem nMr_2 {T : Nat} {tp : Nat → Nat} {lo hi v e : Nat} (h : isDg (sg T tp e) = false) (h2 : lo ≤ v ∧ v ≤ hi) : nMr T tp lo hi (v, e) = (true, e, v) := by
  unfold nMr
  rw [if_neg (by rw [h]; decide), if_pos h2]
theorem nMr_3 {T : Nat} {tp : Nat → Nat} {lo hi v e : Nat} (h : isDg (sg T tp e) = false) (h2 : ¬ (lo ≤ v ∧ v ≤ hi)) : nMr T tp lo hi (v, e) = (false, e - 1, v) := by
  unfold nMr
  rw [if_neg (by rw [h]; decide), if_neg h2]
def tW (T : Nat) (tp : Nat → Nat) : Prop := T ≤ 240 ∧ ∀ i, i < T → 0 < tp i ∧ tp i < 256
def cTp (T : Nat) (tp : Nat → Nat) (w : am_S) : Prop := w.1 1 1 = nI T ∧ ∀ i, i < T → w.1 2 i = nI (tp i)
def rTp (T : Nat) (tp : Nat → Nat) (w : am_S) : Prop := w.1 271 2 = nI T ∧ ∀ i, i < T → w.1 272 i = nI (tp i)
/-- a sign as the reference tells it -/
def sI (c : Nat) : Int32 := if c = 0 then -nI 1 else nI c
section TAPE
variable {T : Nat} {tp : Nat → Nat} {w w' : am_S} {i j : Nat}
theorem nB_is : ∀ {d i : Nat}, (∀ k, i ≤ k → k < i + d → tp k = 32) → i + d ≤ T → (i + d = T ∨ tp (i + d) ≠ 32) → nB T tp i = i + d := by
  intro d
  induction d with
  | zero =>
    intro i h1 h2 h3
    unfold nB
    rcases h3 with c | c
    · rw [show T - i = 0 by omega]; rfl
    · have c : tp i ≠ 32 := c
      cases e : T - i with
      | zero => rfl
      | succ f => rw [nBf, if_neg c]; rfl
  | succ d ih =>
    intro i h1 h2 h3
    have := ih (i := i + 1) (fun k k1 k2 => h1 k (by omega) (by omega)) (by omega) (by rw [show i + 1 + d = i + (d + 1) by omega]; exact h3)
    unfold nB at this ⊢
    rw [show T - i = (T - (i + 1)) + 1 by omega, nBf, if_pos (h1 i (by omega) (by omega)), this]
    omega
theorem nBf_le : ∀ {f i : Nat}, i ≤ nBf tp f i ∧ nBf tp f i ≤ i + f := by
  intro f
  induction f with
  | zero => intro i; exact ⟨Nat.le_refl _, Nat.le_refl _⟩
  | succ f ih =>
    intro i
    rw [nBf]
    split
    · have := ih (i := i + 1); omega
    · omega
theorem nB_le (h : i ≤ T) : i ≤ nB T tp i ∧ nB T tp i ≤ T := by
  have := nBf_le (tp := tp) (f := T - i) (i := i)
  unfold nB
  omega
theorem nBf_ne : ∀ {f i : Nat}, nBf tp f i < i + f → tp (nBf tp f i) ≠ 32 := by
  intro f
  induction f with
  | zero => intro i h; exact absurd h (by rw [nBf]; omega)
  | succ f ih =>
    intro i h
    rw [nBf] at h ⊢
    split
    · next c => rw [if_pos c] at h; exact ih (by omega)
    · next c => exact c
theorem nB_idem (h : i ≤ T) : nB T tp (nB T tp i) = nB T tp i := by
  have h1 := nB_le (tp := tp) h
  refine nB_is (d := 0) (fun k k1 k2 => absurd k2 (by omega)) (by omega) ?_
  rcases Nat.lt_or_ge (nB T tp i) T with c | c
  · right
    unfold nB at c ⊢
    exact nBf_ne (by omega)
  · left; omega
theorem sg_lt (h : tW T tp) : sg T tp i < 256 := by
  unfold sg
  split
  · next c => exact (h.2 i c).2
  · omega
theorem sg_0 (h : tW T tp) : sg T tp i = 0 ↔ T ≤ i := by
  unfold sg
  split
  · next c => have := (h.2 i c).1; omega
  · omega
theorem sg_in (h : i < T) : sg T tp i = tp i := if_pos h
theorem sg_d (h : isDg (sg T tp i) = true) : i < T ∧ 48 ≤ tp i ∧ tp i ≤ 57 := by
  unfold sg at h
  split at h
  · next c =>
    unfold isDg at h
    rw [Bool.and_eq_true, decide_eq_true_iff, decide_eq_true_iff] at h
    exact ⟨c, h.1, h.2⟩
  · cases h
theorem cTp.fr (h : cTp T tp w) (h1 : w'.1 1 1 = w.1 1 1) (h2 : w'.1 2 = w.1 2) : cTp T tp w' := ⟨by rw [h1]; exact h.1, fun i hi => by rw [h2]; exact h.2 i hi⟩
theorem rTp.fr (h : rTp T tp w) (h1 : w'.1 271 2 = w.1 271 2) (h2 : w'.1 272 = w.1 272) : rTp T tp w' := ⟨by rw [h1]; exact h.1, fun i hi => by rw [h2]; exact h.2 i hi⟩
/-- only where the TAPE is read has changed -/
def c1 (w w' : am_S) : Prop := w'.1 1 1 = w.1 1 1 ∧ eqx [1] w w'
theorem c1.on {w'' : am_S} (h : c1 w w') (h2 : c1 w' w'') : c1 w w'' := ⟨h2.1.trans h.1, h.2.on h2.2⟩
theorem c1.rf : c1 w w := ⟨rfl, eqx.rf⟩
theorem c1.pi {k : Nat} {v : Int32} (h : k ≠ 1) : c1 w (am_pi w 1 k v) := ⟨pi_k (by omega), eqx.pi (by simp)⟩
theorem c1.t (h : c1 w w') (ht : cTp T tp w) : cTp T tp w' := ht.fr h.1 (h.2.r (by decide))
theorem c_nextSign (hT : tW T tp) (h : cTp T tp w) (hi : i ≤ T) (ha : w.1 1 2 = nI i) : Wp (f_X10_nextSign w) (fun q => q.1 = nI (sg T tp (nB T tp i)) ∧ q.2.1 1 2 = nI (nB T tp i) ∧ q.2.1 1 3 = w.1 1 3 ∧ c1 w q.2) := by
  have hT1 := hT.1
  unfold f_X10_nextSign f_X10_nextSign_0
  refine Wp.loop (fun j s => s.1 1 2 = nI (i + j) ∧ i + j ≤ T ∧ (∀ k, i ≤ k → k < i + j → tp k = 32) ∧ s.1 1 3 = w.1 1 3 ∧ c1 w s) (T - i) (by omega) ⟨ha, hi, fun k k1 k2 => absurd k2 (by omega), rfl, c1.rf⟩ ?_
  rintro j s hj ⟨a1, a2, a3, a4, a5⟩
  have b1 := (a5.t h).1
  unfold f_X10_nextSign_0b f_X10_nextSign_38 f_X10_nextSign_62
  rcases Nat.lt_or_ge (i + j) T with c | c
  · have b2 := (a5.t h).2 (i + j) c
    have b3 := hT.2 (i + j) c
    by_cases e : tp (i + j) = 32
    · rw [e] at b2
      conv => arg 1; simp (disch := omega) only [pv_v, pv_b2, pv_b1, pv_x, pv_lit, pv_ofN, pu_chk, pu_cl, nI_add, pk_mul, nI_leI, nI_ltI, nI_eq, pu_nar0, pu_nar1, pu_narb, bI_0, bI_1, ↓reduceIte, pu_leT, pu_leF, pu_ltT, pu_ltF, pu_eqT, pu_eqF, pu_x1, pu_x2, pu_x3, pu_x4, pu_x5, pu_x6, pu_x7, pu_x8, Nat.zero_add, pu_m31I, pu_m31, pu_shlI, eq_self, Bool.false_eq_true, Bool.true_eq_false, a1, b1, b2]
      refine Wp.some ⟨by omega, by rw [pi_same, Nat.add_assoc], by omega, fun k k1 k2 => ?_, by rw [pi_k (by omega)]; exact a4, a5.on (c1.pi (by omega))⟩
      by_cases q : k = i + j
      · rw [q]; exact e
      · exact a3 k k1 (by omega)
    · have en := nB_is (T := T) (tp := tp) a3 a2 (.inr e)
      conv => arg 1; simp (disch := omega) only [pv_v, pv_b2, pv_b1, pv_x, pv_lit, pv_ofN, pu_chk, pu_cl, nI_add, pk_mul, nI_leI, nI_ltI, nI_eq, pu_nar0, pu_nar1, pu_narb, bI_0, bI_1, ↓reduceIte, pu_leT, pu_leF, pu_ltT, pu_ltF, pu_eqT, pu_eqF, pu_x1, pu_x2, pu_x3, pu_x4, pu_x5, pu_x6, pu_x7, pu_x8, Nat.zero_add, pu_m31I, pu_m31, pu_shlI, eq_self, Bool.false_eq_true, Bool.true_eq_false, a1, b1, b2, e, pu_narc]
      exact Wp.some ⟨by rw [en, sg_in c], by rw [en]; exact a1, a4, a5⟩
  · have et : i + j = T := by omega
    have en := nB_is (T := T) (tp := tp) a3 a2 (.inl et)
    have e0 : sg T tp (i + j) = 0 := (sg_0 hT).mpr (by omega)
    conv => arg 1; simp (disch := omega) only [pv_v, pv_b2, pv_b1, pv_x, pv_lit, pv_ofN, pu_chk, pu_cl, nI_add, pk_mul, nI_leI, nI_ltI, nI_eq, pu_nar0, pu_nar1, pu_narb, bI_0, bI_1, ↓reduceIte, pu_leT, pu_leF, pu_ltT, pu_ltF, pu_eqT, pu_eqF, pu_x1, pu_x2, pu_x3, pu_x4, pu_x5, pu_x6, pu_x7, pu_x8, Nat.zero_add, pu_m31I, pu_m31, pu_shlI, eq_self, Bool.false_eq_true, Bool.true_eq_false, a1, b1, pu_narc]
    exact Wp.some ⟨by rw [en, e0], by rw [en]; exact a1, a4, a5⟩
theorem c_isDigit (hT : tW T tp) (h : cTp T tp w) (hi : i ≤ T) (ha : w.1 1 2 = nI i) : f_X10_isDigitHere w = some (bI (isDg (sg T tp i)), w) := by
  have hT1 := hT.1
  unfold f_X10_isDigitHere f_X10_isDigitHere_43 f_X10_isDigitHere_44
  rcases Nat.lt_or_ge i T with c | c
  · have b2 := h.2 i c
    have b3 := hT.2 i c
    rw [sg_in c]
    unfold isDg
    by_cases e : 48 ≤ tp i
    · by_cases e2 : tp i ≤ 57
      · rw [decide_eq_true e, decide_eq_true e2]
        simp (disch := omega) only [pv_v, pv_b2, pv_b1, pv_x, pv_lit, pv_ofN, pu_chk, pu_cl, nI_add, pk_mul, nI_leI, nI_ltI, nI_eq, pu_nar0, pu_nar1, pu_narb, bI_0, bI_1, ↓reduceIte, pu_leT, pu_leF, pu_ltT, pu_ltF, pu_eqT, pu_eqF, pu_x1, pu_x2, pu_x3, pu_x4, pu_x5, pu_x6, pu_x7, pu_x8, Nat.zero_add, pu_m31I, pu_m31, pu_shlI, eq_self, Bool.false_eq_true, Bool.true_eq_false, ha, h.1, b2]
        rfl
      · rw [decide_eq_true e, decide_eq_false e2]
        simp (disch := omega) only [pv_v, pv_b2, pv_b1, pv_x, pv_lit, pv_ofN, pu_chk, pu_cl, nI_add, pk_mul, nI_leI, nI_ltI, nI_eq, pu_nar0, pu_nar1, pu_narb, bI_0, bI_1, ↓reduceIte, pu_leT, pu_leF, pu_ltT, pu_ltF, pu_eqT, pu_eqF, pu_x1, pu_x2, pu_x3, pu_x4, pu_x5, pu_x6, pu_x7, pu_x8, Nat.zero_add, pu_m31I, pu_m31, pu_shlI, eq_self, Bool.false_eq_true, Bool.true_eq_false, ha, h.1, b2]
        rfl
    · rw [decide_eq_false e]
      simp (disch := omega) only [pv_v, pv_b2, pv_b1, pv_x, pv_lit, pv_ofN, pu_chk, pu_cl, nI_add, pk_mul, nI_leI, nI_ltI, nI_eq, pu_nar0, pu_nar1, pu_narb, bI_0, bI_1, ↓reduceIte, pu_leT, pu_leF, pu_ltT, pu_ltF, pu_eqT, pu_eqF, pu_x1, pu_x2, pu_x3, pu_x4, pu_x5, pu_x6, pu_x7, pu_x8, Nat.zero_add, pu_m31I, pu_m31, pu_shlI, eq_self, Bool.false_eq_true, Bool.true_eq_false, ha, h.1, b2]
      rfl
  · have e0 : sg T tp i = 0 := (sg_0 hT).mpr c
    rw [e0]
    simp (disch := omega) only [pv_v, pv_b2, pv_b1, pv_x, pv_lit, pv_ofN, pu_chk, pu_cl, nI_add, pk_mul, nI_leI, nI_ltI, nI_eq, pu_nar0, pu_nar1, pu_narb, bI_0, bI_1, ↓reduceIte, pu_leT, pu_leF, pu_ltT, pu_ltF, pu_eqT, pu_eqF, pu_x1, pu_x2, pu_x3, pu_x4, pu_x5, pu_x6, pu_x7, pu_x8, Nat.zero_add, pu_m31I, pu_m31, pu_shlI, eq_self, Bool.false_eq_true, Bool.true_eq_false, ha, h.1]
    rfl
theorem ng_le : ∀ {f v i : Nat}, i ≤ T → i ≤ (ng T tp f v i).2 ∧ (ng T tp f v i).2 ≤ T ∧ (ng T tp f v i).2 ≤ i + f := by
  intro f
  induction f with
  | zero => intro v i h; exact ⟨Nat.le_refl _, h, Nat.le_refl _⟩
  | succ f ih =>
    intro v i h
    rw [ng]
    split
    · next c =>
      have := (sg_d c).1
      have := ih (v := 10 * v + (tp i - 48)) (i := i + 1) (by omega)
      omega
    · exact ⟨Nat.le_refl _, h, by omega⟩
theorem ng_v : ∀ {f v i : Nat}, (ng T tp f v i).1 < 10 ^ f * (v + 1) := by
  intro f
  induction f with
  | zero => intro v i; rw [ng]; omega
  | succ f ih =>
    intro v i
    rw [ng, Nat.pow_succ]
    split
    · next c =>
      have h1 := sg_d c
      have h2 := ih (v := 10 * v + (tp i - 48)) (i := i + 1)
      have h3 : 10 ^ f * (10 * v + (tp i - 48) + 1) ≤ 10 ^ f * (10 * (v + 1)) := Nat.mul_le_mul_left _ (by omega)
      rw [Nat.mul_assoc]
      omega
    · have h4 : 1 * (v + 1) ≤ (10 ^ f * 10) * (v + 1) := Nat.mul_le_mul_right _ (by have := Nat.pow_pos (n := f) (show 0 < 10 by decide); omega)
      omega
theorem c_readNumber (hT : tW T tp) (h : cTp T tp w) (hi : i ≤ T) (ha : w.1 1 2 = nI i) {lo hh : Nat} (hlo : lo < 2 ^ 30) (hhh : hh < 2 ^ 30) : Wp (f_X10_readNumber (nI lo) (nI hh) w) (fun q => q.1 = bI (nM T tp lo hh i).1 ∧ q.2.1 1 2 = nI (nM T tp lo hh i).2.1 ∧ ((nM T tp lo hh i).1 = true → q.2.1 1 3 = nI (nM T tp lo hh i).2.2) ∧ c1 w q.2) := by
  have hT1 := hT.1
  have hn := nB_le (tp := tp) hi
  unfold f_X10_readNumber
  obtain ⟨⟨r, w1⟩, t1, t2, t3, t4, t5⟩ := c_nextSign hT h hi ha
  have t3 : w1.1 1 2 = nI (nB T tp i) := t3
  have t5 : c1 w w1 := t5
  have d1 := c_isDigit hT (t5.t h) hn.2 t3
  unfold nM
  generalize nB T tp i = j at *
  cases e : isDg (sg T tp j) with
  | false =>
    rw [e] at d1
    rw [if_neg (by decide)]
    conv => arg 1; simp (disch := omega) only [pv_v, pv_b2, pv_b1, pv_x, pv_lit, pv_ofN, pu_chk, pu_cl, nI_add, pk_mul, nI_leI, nI_ltI, nI_eq, pu_nar0, pu_nar1, pu_narb, bI_0, bI_1, ↓reduceIte, pu_leT, pu_leF, pu_ltT, pu_ltF, pu_eqT, pu_eqF, pu_x1, pu_x2, pu_x3, pu_x4, pu_x5, pu_x6, pu_x7, pu_x8, Nat.zero_add, pu_m31I, pu_m31, pu_shlI, eq_self, Bool.false_eq_true, Bool.true_eq_false, t1, d1]
    exact Wp.some ⟨rfl, t3, (fun c => by cases c), t5⟩
  | true =>
    rw [e] at d1
    rw [if_pos rfl]
    conv => arg 1; simp (disch := omega) only [pv_v, pv_b2, pv_b1, pv_x, pv_lit, pv_ofN, pu_chk, pu_cl, nI_add, pk_mul, nI_leI, nI_ltI, nI_eq, pu_nar0, pu_nar1, pu_narb, bI_0, bI_1, ↓reduceIte, pu_leT, pu_leF, pu_ltT, pu_ltF, pu_eqT, pu_eqF, pu_x1, pu_x2, pu_x3, pu_x4, pu_x5, pu_x6, pu_x7, pu_x8, Nat.zero_add, pu_m31I, pu_m31, pu_shlI, eq_self, Bool.false_eq_true, Bool.true_eq_false, t1, d1]
    unfold f_X10_readNumber_21
    refine Wp.loop (fun k s => ∃ w' v, s = (nI k, w') ∧ k ≤ 4 ∧ j + k ≤ T ∧ w'.1 1 2 = nI (j + k) ∧ w'.1 1 3 = nI v ∧ v < 10 ^ k ∧ ng T tp (4 - k) v (j + k) = ng T tp 4 0 j ∧ c1 w w') 4 (by decide) ⟨am_pi w1 1 3 (nI 0), 0, rfl, by omega, hn.2, by rw [pi_k (by omega)]; exact t3, pi_same, by decide, rfl, t5.on (c1.pi (by omega))⟩ ?_
    rintro k s hk ⟨w', v, rfl, k4, a1, a2, a3, a4, a5, a6⟩
    have d2 := c_isDigit hT (a6.t h) a1 a2
    have hv4 : v < 10000 := Nat.lt_of_lt_of_le a4 (Nat.pow_le_pow_right (n := 10) (by decide) k4)
    unfold f_X10_readNumber_21b
    cases e2 : isDg (sg T tp (j + k)) with
    | false =>
      rw [e2] at d2
      have en : ng T tp 4 0 j = (v, j + k) := by
        rw [← a5]
        cases q : 4 - k with
        | zero => rfl
        | succ f => rw [ng, e2]; rfl
      rw [en]
      have hk0 : 0 < j + k := by
        rcases Nat.eq_zero_or_pos k with c | c
        · subst c
          rw [Nat.add_zero, e] at e2; cases e2
        · omega
      unfold f_X10_readNumber_80 f_X10_readNumber_96
      by_cases q1 : lo ≤ v
      · by_cases q2 : v ≤ hh
        · rw [nMr_2 e2 ⟨q1, q2⟩]
          conv => arg 1; simp (disch := omega) only [pv_v, pv_b2, pv_b1, pv_x, pv_lit, pv_ofN, pu_chk, pu_cl, nI_add, pk_mul, nI_leI, nI_ltI, nI_eq, pu_nar0, pu_nar1, pu_narb, bI_0, bI_1, ↓reduceIte, pu_leT, pu_leF, pu_ltT, pu_ltF, pu_eqT, pu_eqF, pu_x1, pu_x2, pu_x3, pu_x4, pu_x5, pu_x6, pu_x7, pu_x8, Nat.zero_add, pu_m31I, pu_m31, pu_shlI, eq_self, Bool.false_eq_true, Bool.true_eq_false, d2, a3]
          exact Wp.some ⟨rfl, a2, fun _ => a3, a6⟩
        · rw [nMr_3 e2 (fun q => q2 q.2)]
          conv => arg 1; simp (disch := omega) only [pv_v, pv_b2, pv_b1, pv_x, pv_lit, pv_ofN, pu_chk, pu_cl, nI_add, pk_mul, nI_leI, nI_ltI, nI_eq, pu_nar0, pu_nar1, pu_narb, bI_0, bI_1, ↓reduceIte, pu_leT, pu_leF, pu_ltT, pu_ltF, pu_eqT, pu_eqF, pu_x1, pu_x2, pu_x3, pu_x4, pu_x5, pu_x6, pu_x7, pu_x8, Nat.zero_add, pu_m31I, pu_m31, pu_shlI, eq_self, Bool.false_eq_true, Bool.true_eq_false, d2, a3, a2, pk_sub]
          exact Wp.some ⟨rfl, pi_same, (fun q => by cases q), a6.on (c1.pi (by omega))⟩
      · rw [nMr_3 e2 (fun q => q1 q.1)]
        conv => arg 1; simp (disch := omega) only [pv_v, pv_b2, pv_b1, pv_x, pv_lit, pv_ofN, pu_chk, pu_cl, nI_add, pk_mul, nI_leI, nI_ltI, nI_eq, pu_nar0, pu_nar1, pu_narb, bI_0, bI_1, ↓reduceIte, pu_leT, pu_leF, pu_ltT, pu_ltF, pu_eqT, pu_eqF, pu_x1, pu_x2, pu_x3, pu_x4, pu_x5, pu_x6, pu_x7, pu_x8, Nat.zero_add, pu_m31I, pu_m31, pu_shlI, eq_self, Bool.false_eq_true, Bool.true_eq_false, d2, a3, a2, pk_sub]
        exact Wp.some ⟨rfl, pi_same, (fun q => by cases q), a6.on (c1.pi (by omega))⟩
    | true =>
      rw [e2] at d2
      obtain ⟨s1, s2, s3⟩ := sg_d e2
      have b2 := (a6.t h).2 (j + k) s1
      by_cases k5 : k = 4
      · subst k5
        have en : ng T tp 4 0 j = (v, j + 4) := a5.symm
        rw [en, nMr_1 e2]
        conv => arg 1; simp (disch := omega) only [pv_v, pv_b2, pv_b1, pv_x, pv_lit, pv_ofN, pu_chk, pu_cl, nI_add, pk_mul, nI_leI, nI_ltI, nI_eq, pu_nar0, pu_nar1, pu_narb, bI_0, bI_1, ↓reduceIte, pu_leT, pu_leF, pu_ltT, pu_ltF, pu_eqT, pu_eqF, pu_x1, pu_x2, pu_x3, pu_x4, pu_x5, pu_x6, pu_x7, pu_x8, Nat.zero_add, pu_m31I, pu_m31, pu_shlI, eq_self, Bool.false_eq_true, Bool.true_eq_false, d2]
        exact Wp.some ⟨rfl, a2, (fun q => by cases q), a6⟩
      · rw [show 4 - k = (4 - (k + 1)) + 1 by omega, ng, e2, if_pos rfl] at a5
        have e3 : (am_pi w' 1 3 (nI (v * 10 + (tp (j + k) - 48)))).1 1 2 = nI (j + k) := by rw [pi_k (by omega)]; exact a2
        conv => arg 1; simp (disch := omega) only [pv_v, pv_b2, pv_b1, pv_x, pv_lit, pv_ofN, pu_chk, pu_cl, nI_add, pk_mul, nI_leI, nI_ltI, nI_eq, pu_nar0, pu_nar1, pu_narb, bI_0, bI_1, ↓reduceIte, pu_leT, pu_leF, pu_ltT, pu_ltF, pu_eqT, pu_eqF, pu_x1, pu_x2, pu_x3, pu_x4, pu_x5, pu_x6, pu_x7, pu_x8, Nat.zero_add, pu_m31I, pu_m31, pu_shlI, eq_self, Bool.false_eq_true, Bool.true_eq_false, d2, k5, a2, a3, b2, pk_sub, e3]
        refine Wp.some ⟨by omega, _, v * 10 + (tp (j + k) - 48), rfl, by omega, by omega, by rw [pi_same, Nat.add_assoc], by rw [pi_k (by omega), pi_same], ?_, ?_, (a6.on (c1.pi (by omega))).on (c1.pi (by omega))⟩
        · rw [Nat.pow_succ]; omega
        · rw [Nat.mul_comm v 10, ← Nat.add_assoc]; exact a5
end TAPE
