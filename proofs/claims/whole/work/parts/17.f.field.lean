/-! pure part: a FIELD is read, the class (wip/whole/pure/17.f.field.src) -/
/-- what is read so far: whether there are RULES, these, USERS, DEGREES -/
abbrev Pt := Bool × (Nat → Nat) × Nat × (Nat → Nat → Nat) × Nat × (Nat → Nat → Nat)
def p0 : Pt := (false, itus 0, 0, fun _ _ => 0, 0, fun _ _ => 0)
def kl (p : Pt) (c : Nat) : Nat := if c = 115 ∧ p.1 = false then 0 else if c = 117 ∧ p.2.2.1 < 10 then 1 else if c = 100 ∧ p.2.2.2.2.1 < 6 then 2 else 3
def upp (us : Nat → Nat → Nat) (n : Nat) (it : Nat → Nat) : Nat → Nat → Nat := fun u => if u = n then it else us u
def pA (p : Pt) (t : Nat) (it : Nat → Nat) : Pt := if t = 0 then (true, it, p.2.2.1, p.2.2.2.1, p.2.2.2.2.1, p.2.2.2.2.2) else if t = 1 then (p.1, p.2.1, p.2.2.1 + 1, upp p.2.2.2.1 p.2.2.1 it, p.2.2.2.2.1, p.2.2.2.2.2) else (p.1, p.2.1, p.2.2.1, p.2.2.2.1, p.2.2.2.2.1 + 1, upp p.2.2.2.2.2 p.2.2.2.2.1 it)
def itR (T : Nat) (tp : Nat → Nat) (t i : Nat) : Nat × Nat × (Nat → Nat) := itm T tp t (ln t + 1) 0 (itus t) i
/-- CLAUSES: where the FAULT is (none: there is none but in the whole), what is read -/
def cls (T : Nat) (tp : Nat → Nat) : Nat → Pt → Nat → Option Nat × Pt
  | 0, p, i => (some i, p)
  | f + 1, p, i =>
    if kl p (sg T tp (nB T tp i)) = 3 then (some (nB T tp i), p)
    else if (itR T tp (kl p (sg T tp (nB T tp i))) (nB T tp i + 1)).1 = 1 then
      (if sg T tp (itR T tp (kl p (sg T tp (nB T tp i))) (nB T tp i + 1)).2.1 = 0 then (none, pA p (kl p (sg T tp (nB T tp i))) (itR T tp (kl p (sg T tp (nB T tp i))) (nB T tp i + 1)).2.2)
       else cls T tp f (pA p (kl p (sg T tp (nB T tp i))) (itR T tp (kl p (sg T tp (nB T tp i))) (nB T tp i + 1)).2.2) ((itR T tp (kl p (sg T tp (nB T tp i))) (nB T tp i + 1)).2.1 + 1))
    else (some (itR T tp (kl p (sg T tp (nB T tp i))) (nB T tp i + 1)).2.1, p)
theorem cls_3 {T : Nat} {tp : Nat → Nat} {f i : Nat} {p : Pt} (h : kl p (sg T tp (nB T tp i)) = 3) : cls T tp (f + 1) p i = (some (nB T tp i), p) := by rw [cls, if_pos h]
theorem cls_f {T : Nat} {tp : Nat → Nat} {f i t : Nat} {p : Pt} (h : kl p (sg T tp (nB T tp i)) = t) (ht : t < 3) (h1 : (itR T tp t (nB T tp i + 1)).1 ≠ 1) : cls T tp (f + 1) p i = (some (itR T tp t (nB T tp i + 1)).2.1, p) := by rw [cls, h, if_neg (by omega), if_neg h1]
theorem cls_e {T : Nat} {tp : Nat → Nat} {f i t : Nat} {p : Pt} (h : kl p (sg T tp (nB T tp i)) = t) (ht : t < 3) (h1 : (itR T tp t (nB T tp i + 1)).1 = 1) (h2 : sg T tp (itR T tp t (nB T tp i + 1)).2.1 = 0) : cls T tp (f + 1) p i = (none, pA p t (itR T tp t (nB T tp i + 1)).2.2) := by rw [cls, h, if_neg (by omega), if_pos h1, if_pos h2]
theorem cls_g {T : Nat} {tp : Nat → Nat} {f i t : Nat} {p : Pt} (h : kl p (sg T tp (nB T tp i)) = t) (ht : t < 3) (h1 : (itR T tp t (nB T tp i + 1)).1 = 1) (h2 : sg T tp (itR T tp t (nB T tp i + 1)).2.1 ≠ 0) : cls T tp (f + 1) p i = cls T tp f (pA p t (itR T tp t (nB T tp i + 1)).2.2) ((itR T tp t (nB T tp i + 1)).2.1 + 1) := by rw [cls, h, if_neg (by omega), if_pos h1, if_neg h2]
/-- bounds -/
def pW (p : Pt) : Prop := p.2.2.1 ≤ 10 ∧ p.2.2.2.2.1 ≤ 6 ∧ (∀ k, k < 4 → itlo 0 k ≤ p.2.1 k ∧ p.2.1 k ≤ ithi 0 k) ∧ (∀ u, u < p.2.2.1 → ∀ k, k < 5 → itlo 1 k ≤ p.2.2.2.1 u k ∧ p.2.2.2.1 u k ≤ ithi 1 k) ∧ (∀ d, d < p.2.2.2.2.1 → ∀ k, k < 2 → itlo 2 k ≤ p.2.2.2.2.2 d k ∧ p.2.2.2.2.2 d k ≤ ithi 2 k)
/-- WEIGHTS -/
def pQ (p : Pt) (k : Nat) : Nat := pu_sum (fun d => if p.2.2.2.2.2 d 0 = k then p.2.2.2.2.2 d 1 else 0) p.2.2.2.2.1
def pQa (p : Pt) : Nat := pu_sum (fun d => p.2.2.2.2.2 d 1) p.2.2.2.2.1
def cPt (o : Nat) (p : Pt) (w : am_S) : Prop := w.1 o 7 = nI (p.2.1 0) ∧ w.1 o 8 = nI (p.2.1 1) ∧ w.1 o 9 = nI (p.2.1 2) ∧ w.1 o 10 = nI (p.2.1 3) ∧ w.1 o 11 = nI p.2.2.1 ∧ w.1 o 12 = nI p.2.2.2.2.1 ∧ w.1 o 13 = nI (pQa p) ∧ w.1 o 14 = bI p.1 ∧ (∀ u, u < p.2.2.1 → ∀ k, k < 5 → w.1 (o + 2 + k) u = nI (p.2.2.2.1 u k)) ∧ (∀ k, k < 7 → w.1 (o + 7) k = nI (pQ p k))
section FIELD
variable {T : Nat} {tp : Nat → Nat} {w w' : am_S} {i j o : Nat} {p : Pt}
theorem us_in : (∀ t, t < 3 → ∀ k, k < ln t → itlo t k ≤ itus t k ∧ itus t k ≤ ithi t k) := by decide
theorem itR_v {t k : Nat} (ht : t < 3) (hk : k < ln t) : itlo t k ≤ (itR T tp t i).2.2 k ∧ (itR T tp t i).2.2 k ≤ ithi t k := itm_v (us_in t ht) k hk
theorem pA_0 {it : Nat → Nat} : pA p 0 it = (true, it, p.2.2.1, p.2.2.2.1, p.2.2.2.2.1, p.2.2.2.2.2) := rfl
theorem pA_1 {it : Nat → Nat} : pA p 1 it = (p.1, p.2.1, p.2.2.1 + 1, upp p.2.2.2.1 p.2.2.1 it, p.2.2.2.2.1, p.2.2.2.2.2) := rfl
theorem pA_2 {it : Nat → Nat} : pA p 2 it = (p.1, p.2.1, p.2.2.1, p.2.2.2.1, p.2.2.2.2.1 + 1, upp p.2.2.2.2.2 p.2.2.2.2.1 it) := rfl
theorem kl_0 {c : Nat} (h : kl p c = 0) : c = 115 ∧ p.1 = false := by
  unfold kl at h
  split at h
  · next q => exact q
  · split at h
    · cases h
    · split at h <;> cases h
theorem kl_1 {c : Nat} (h : kl p c = 1) : c = 117 ∧ p.2.2.1 < 10 := by
  unfold kl at h
  split at h
  · cases h
  · split at h
    · next q => exact q
    · split at h <;> cases h
theorem kl_2 {c : Nat} (h : kl p c = 2) : c = 100 ∧ p.2.2.2.2.1 < 6 := by
  unfold kl at h
  split at h
  · cases h
  · split at h
    · cases h
    · split at h
      · next q => exact q
      · cases h
theorem kl_3 {c : Nat} (h : kl p c = 3) : ¬ (c = 115 ∧ p.1 = false) ∧ ¬ (c = 117 ∧ p.2.2.1 < 10) ∧ ¬ (c = 100 ∧ p.2.2.2.2.1 < 6) := by
  unfold kl at h
  split at h
  · cases h
  · next q1 =>
    split at h
    · cases h
    · next q2 =>
      split at h
      · cases h
      · next q3 => exact ⟨q1, q2, q3⟩
theorem kl_le {c : Nat} : kl p c ≤ 3 := by
  unfold kl
  split
  · omega
  · split
    · omega
    · split <;> omega
theorem kl_lt {c : Nat} (hT : tW T tp) (h : kl p (sg T tp j) ≠ 3) : j < T := by
  rcases Nat.lt_or_ge j T with q | q
  · exact q
  · have e0 := (sg_0 hT).mpr q
    exfalso
    apply h
    rw [e0]
    unfold kl
    rw [if_neg (by omega), if_neg (by omega), if_neg (by omega)]
theorem pW.A (h : pW p) {t c : Nat} (ht : kl p c = t) (ht3 : t < 3) : pW (pA p t (itR T tp t i).2.2) := by
  obtain ⟨h1, h2, h3, h4, h5⟩ := h
  have h' : t = 0 ∨ t = 1 ∨ t = 2 := by omega
  rcases h' with rfl | rfl | rfl
  · rw [pA_0]
    exact ⟨h1, h2, fun k hk => itR_v (by omega) hk, h4, h5⟩
  · rw [pA_1]
    have hu := (kl_1 ht).2
    refine ⟨show p.2.2.1 + 1 ≤ 10 by omega, h2, h3, fun u hu k hk => ?_, h5⟩
    have hu : u < p.2.2.1 + 1 := hu
    show itlo 1 k ≤ upp p.2.2.2.1 p.2.2.1 _ u k ∧ upp p.2.2.2.1 p.2.2.1 _ u k ≤ ithi 1 k
    unfold upp
    split
    · exact itR_v (by omega) hk
    · exact h4 u (by omega) k hk
  · rw [pA_2]
    have hu := (kl_2 ht).2
    refine ⟨h1, show p.2.2.2.2.1 + 1 ≤ 6 by omega, h3, h4, fun u hu k hk => ?_⟩
    have hu : u < p.2.2.2.2.1 + 1 := hu
    show itlo 2 k ≤ upp p.2.2.2.2.2 p.2.2.2.2.1 _ u k ∧ upp p.2.2.2.2.2 p.2.2.2.2.1 _ u k ≤ ithi 2 k
    unfold upp
    split
    · exact itR_v (by omega) hk
    · exact h5 u (by omega) k hk
theorem cPt.fr (h : cPt o p w) (h0 : w'.1 o = w.1 o) (hk : ∀ k, 2 ≤ k → k < 8 → w'.1 (o + k) = w.1 (o + k)) : cPt o p w' := by
  obtain ⟨h1, h2, h3, h4, h5, h6, h7, h8, h9, h10⟩ := h
  refine ⟨by rw [h0]; exact h1, by rw [h0]; exact h2, by rw [h0]; exact h3, by rw [h0]; exact h4, by rw [h0]; exact h5, by rw [h0]; exact h6, by rw [h0]; exact h7, by rw [h0]; exact h8, fun u hu k k5 => ?_, fun k k7 => ?_⟩
  · rw [show o + 2 + k = o + (2 + k) by omega, hk (2 + k) (by omega) (by omega)]
    rw [show o + (2 + k) = o + 2 + k by omega]; exact h9 u hu k k5
  · rw [hk 7 (by omega) (by omega)]; exact h10 k k7
theorem pi_g {w : am_S} {p k q j : Nat} {v : Int32} : (am_pi w p k v).1 q j = if q = p ∧ j = k then v else w.1 q j := rfl
/-- the places of a FIELD -/
def oL (o : Nat) : List Nat := [1, o, o + 1, o + 2, o + 3, o + 4, o + 5, o + 6, o + 7]
theorem c_keepRules (ho : 2 < o) (h : cPt o p w) {it : Nat → Nat} (hit : ∀ k, k < 4 → w.1 (o + 1) k = nI (it k)) : ∃ w', f_X1_keepRules o (o + 1) 5 w = some w' ∧ cPt o (pA p 0 it) (am_pi w' o 14 (nI 1)) ∧ w'.1 1 = w.1 1 ∧ eqx (oL o) w w' := by
  obtain ⟨h1, h2, h3, h4, h5, h6, h7, h8, h9, h10⟩ := h
  have e0 := hit 0 (by omega)
  have e1 := hit 1 (by omega)
  have e2 := hit 2 (by omega)
  have e3 := hit 3 (by omega)
  refine ⟨am_pi (am_pi (am_pi (am_pi w o 7 (nI (it 0))) o 8 (nI (it 1))) o 9 (nI (it 2))) o 10 (nI (it 3)), ?_, ?_, ?_, (((eqx.pi (by simp [oL])).on (eqx.pi (by simp [oL]))).on (eqx.pi (by simp [oL]))).on (eqx.pi (by simp [oL]))⟩
  · have f1 : (am_pi w o 7 (nI (it 0))).1 (o + 1) 1 = nI (it 1) := by rw [pi_p (by omega)]; exact e1
    have f2 : (am_pi (am_pi w o 7 (nI (it 0))) o 8 (nI (it 1))).1 (o + 1) 2 = nI (it 2) := by rw [pi_p (by omega), pi_p (by omega)]; exact e2
    have f3 : (am_pi (am_pi (am_pi w o 7 (nI (it 0))) o 8 (nI (it 1))) o 9 (nI (it 2))).1 (o + 1) 3 = nI (it 3) := by rw [pi_p (by omega), pi_p (by omega), pi_p (by omega)]; exact e3
    unfold f_X1_keepRules
    simp (disch := omega) only [pv_v, pv_b2, pv_b1, pv_x, pv_lit, pv_ofN, pu_chk, pu_cl, nI_add, pk_mul, nI_leI, nI_ltI, nI_eq, pu_nar0, pu_nar1, pu_narb, bI_0, bI_1, ↓reduceIte, pu_leT, pu_leF, pu_ltT, pu_ltF, pu_eqT, pu_eqF, pu_x1, pu_x2, pu_x3, pu_x4, pu_x5, pu_x6, pu_x7, pu_x8, Nat.zero_add, pu_m31I, pu_m31, pu_shlI, eq_self, Bool.false_eq_true, Bool.true_eq_false, e0, f1, f2, f3]
  · rw [pA_0]
    refine ⟨?_, ?_, ?_, ?_, ?_, ?_, ?_, pi_same, fun u hu k hk => ?_, fun k hk => ?_⟩
    · simp only [pi_g]; simp
    · simp only [pi_g]; simp
    · simp only [pi_g]; simp
    · simp only [pi_g]; simp
    · simp only [pi_g]; simp; exact h5
    · simp only [pi_g]; simp; exact h6
    · simp only [pi_g]; simp; exact h7
    · rw [pi_p (by omega), pi_p (by omega), pi_p (by omega), pi_p (by omega), pi_p (by omega)]; exact h9 u hu k hk
    · rw [pi_p (by omega), pi_p (by omega), pi_p (by omega), pi_p (by omega), pi_p (by omega)]; exact h10 k hk
  · rw [pi_p (by omega), pi_p (by omega), pi_p (by omega), pi_p (by omega)]
theorem c_keepUser (ho : 2 < o) (h : cPt o p w) (hu : p.2.2.1 < 10) {it : Nat → Nat} (hit : ∀ k, k < 5 → w.1 (o + 1) k = nI (it k)) : ∃ w', f_X1_keepUser o w = some w' ∧ cPt o (pA p 1 it) w' ∧ w'.1 1 = w.1 1 ∧ eqx (oL o) w w' := by
  obtain ⟨h1, h2, h3, h4, h5, h6, h7, h8, h9, h10⟩ := h
  generalize hn : p.2.2.1 = n at *
  have e0 := hit 0 (by omega)
  have e1 := hit 1 (by omega)
  have e2 := hit 2 (by omega)
  have e3 := hit 3 (by omega)
  have e4 := hit 4 (by omega)
  refine ⟨am_pi (am_pi (am_pi (am_pi (am_pi (am_pi w (o + 2) n (nI (it 0))) (o + 3) n (nI (it 1))) (o + 4) n (nI (it 2))) (o + 5) n (nI (it 3))) (o + 6) n (nI (it 4))) o 11 (nI (n + 1)), ?_, ?_, ?_, (((((eqx.pi (by simp [oL])).on (eqx.pi (by simp [oL]))).on (eqx.pi (by simp [oL]))).on (eqx.pi (by simp [oL]))).on (eqx.pi (by simp [oL]))).on (eqx.pi (by simp [oL]))⟩
  · have f1 : (am_pi w (o + 2) n (nI (it 0))).1 (o + 1) 1 = nI (it 1) := by rw [pi_p (by omega)]; exact e1
    have g1 : (am_pi w (o + 2) n (nI (it 0))).1 o 11 = nI n := by rw [pi_p (by omega)]; exact h5
    have f2 : (am_pi (am_pi w (o + 2) n (nI (it 0))) (o + 3) n (nI (it 1))).1 (o + 1) 2 = nI (it 2) := by rw [pi_p (by omega), pi_p (by omega)]; exact e2
    have g2 : (am_pi (am_pi w (o + 2) n (nI (it 0))) (o + 3) n (nI (it 1))).1 o 11 = nI n := by rw [pi_p (by omega), pi_p (by omega)]; exact h5
    have f3 : (am_pi (am_pi (am_pi w (o + 2) n (nI (it 0))) (o + 3) n (nI (it 1))) (o + 4) n (nI (it 2))).1 (o + 1) 3 = nI (it 3) := by rw [pi_p (by omega), pi_p (by omega), pi_p (by omega)]; exact e3
    have g3 : (am_pi (am_pi (am_pi w (o + 2) n (nI (it 0))) (o + 3) n (nI (it 1))) (o + 4) n (nI (it 2))).1 o 11 = nI n := by rw [pi_p (by omega), pi_p (by omega), pi_p (by omega)]; exact h5
    have f4 : (am_pi (am_pi (am_pi (am_pi w (o + 2) n (nI (it 0))) (o + 3) n (nI (it 1))) (o + 4) n (nI (it 2))) (o + 5) n (nI (it 3))).1 (o + 1) 4 = nI (it 4) := by rw [pi_p (by omega), pi_p (by omega), pi_p (by omega), pi_p (by omega)]; exact e4
    have g4 : (am_pi (am_pi (am_pi (am_pi w (o + 2) n (nI (it 0))) (o + 3) n (nI (it 1))) (o + 4) n (nI (it 2))) (o + 5) n (nI (it 3))).1 o 11 = nI n := by rw [pi_p (by omega), pi_p (by omega), pi_p (by omega), pi_p (by omega)]; exact h5
    have g5 : (am_pi (am_pi (am_pi (am_pi (am_pi w (o + 2) n (nI (it 0))) (o + 3) n (nI (it 1))) (o + 4) n (nI (it 2))) (o + 5) n (nI (it 3))) (o + 6) n (nI (it 4))).1 o 11 = nI n := by rw [pi_p (by omega), pi_p (by omega), pi_p (by omega), pi_p (by omega), pi_p (by omega)]; exact h5
    unfold f_X1_keepUser
    simp (disch := omega) only [pv_v, pv_b2, pv_b1, pv_x, pv_lit, pv_ofN, pu_chk, pu_cl, nI_add, pk_mul, nI_leI, nI_ltI, nI_eq, pu_nar0, pu_nar1, pu_narb, bI_0, bI_1, ↓reduceIte, pu_leT, pu_leF, pu_ltT, pu_ltF, pu_eqT, pu_eqF, pu_x1, pu_x2, pu_x3, pu_x4, pu_x5, pu_x6, pu_x7, pu_x8, Nat.zero_add, pu_m31I, pu_m31, pu_shlI, eq_self, Bool.false_eq_true, Bool.true_eq_false, h5, e0, f1, g1, f2, g2, f3, g3, f4, g4, g5]
  · rw [pA_1, hn]
    refine ⟨?_, ?_, ?_, ?_, pi_same, ?_, ?_, ?_, fun u hu k hk => ?_, fun k hk => ?_⟩
    · simp only [pi_g]; simp; exact h1
    · simp only [pi_g]; simp; exact h2
    · simp only [pi_g]; simp; exact h3
    · simp only [pi_g]; simp; exact h4
    · simp only [pi_g]; simp; exact h6
    · simp only [pi_g]; simp; exact h7
    · simp only [pi_g]; simp; exact h8
    · have hu : u < n + 1 := hu
      show _ = nI (upp p.2.2.2.1 n it u k)
      unfold upp
      rw [pi_p (by omega)]
      have hk' : k = 0 ∨ k = 1 ∨ k = 2 ∨ k = 3 ∨ k = 4 := by omega
      by_cases c : u = n
      · rw [if_pos c, c]
        rcases hk' with rfl | rfl | rfl | rfl | rfl <;> simp only [pi_g] <;> simp
      · rw [if_neg c]
        have := h9 u (by omega) k hk
        rcases hk' with rfl | rfl | rfl | rfl | rfl <;> simp only [pi_g] <;> simp [c] <;> exact this
    · rw [pi_p (by omega), pi_p (by omega), pi_p (by omega), pi_p (by omega), pi_p (by omega), pi_p (by omega)]; exact h10 k hk
  · rw [pi_p (by omega), pi_p (by omega), pi_p (by omega), pi_p (by omega), pi_p (by omega), pi_p (by omega)]
theorem pu_sum_up {f g : Nat → Nat} {n : Nat} (h : ∀ d, d < n → f d = g d) : pu_sum f n = pu_sum g n := by
  induction n with
  | zero => rfl
  | succ n ih => rw [pu_sum, pu_sum, ih (fun d hd => h d (by omega)), h n (by omega)]
theorem pQ_A {it : Nat → Nat} {k : Nat} : pQ (pA p 2 it) k = pQ p k + (if it 0 = k then it 1 else 0) := by
  rw [pA_2]
  show pu_sum (fun d => if upp p.2.2.2.2.2 p.2.2.2.2.1 it d 0 = k then upp p.2.2.2.2.2 p.2.2.2.2.1 it d 1 else 0) (p.2.2.2.2.1 + 1) = _
  rw [pu_sum]
  have e : upp p.2.2.2.2.2 p.2.2.2.2.1 it p.2.2.2.2.1 = it := if_pos rfl
  rw [e]
  congr 1
  unfold pQ
  exact pu_sum_up (fun d hd => by rw [show upp p.2.2.2.2.2 p.2.2.2.2.1 it d = p.2.2.2.2.2 d from if_neg (by omega)])
theorem pQa_A {it : Nat → Nat} : pQa (pA p 2 it) = pQa p + it 1 := by
  rw [pA_2]
  show pu_sum (fun d => upp p.2.2.2.2.2 p.2.2.2.2.1 it d 1) (p.2.2.2.2.1 + 1) = _
  rw [pu_sum]
  have e : upp p.2.2.2.2.2 p.2.2.2.2.1 it p.2.2.2.2.1 = it := if_pos rfl
  rw [e]
  congr 1
  unfold pQa
  exact pu_sum_up (fun d hd => by rw [show upp p.2.2.2.2.2 p.2.2.2.2.1 it d = p.2.2.2.2.2 d from if_neg (by omega)])
theorem c_keepDegree (ho : 2 < o) (h : cPt o p w) {it : Nat → Nat} (hit : ∀ k, k < 2 → w.1 (o + 1) k = nI (it k)) (h7 : it 0 < 7) : ∃ w', f_X1_keepDegree o w = some w' ∧ cPt o (pA p 2 it) w' ∧ w'.1 1 = w.1 1 ∧ eqx (oL o) w w' := by
  obtain ⟨h1, h2, h3, h4, h5, h6, h7', h8, h9, h10⟩ := h
  have e0 := hit 0 (by omega)
  have e1 := hit 1 (by omega)
  have e7 := h10 (it 0) h7
  refine ⟨am_pi (am_pi (am_pi w (o + 7) (it 0) (nI (pQ p (it 0) + it 1))) o 13 (nI (pQa p + it 1))) o 12 (nI (p.2.2.2.2.1 + 1)), ?_, ?_, ?_, ((eqx.pi (by simp [oL])).on (eqx.pi (by simp [oL]))).on (eqx.pi (by simp [oL]))⟩
  · have f1 : (am_pi w (o + 7) (it 0) (nI (pQ p (it 0) + it 1))).1 (o + 1) 1 = nI (it 1) := by rw [pi_p (by omega)]; exact e1
    have f2 : (am_pi w (o + 7) (it 0) (nI (pQ p (it 0) + it 1))).1 o 13 = nI (pQa p) := by rw [pi_p (by omega)]; exact h7'
    have f3 : (am_pi (am_pi w (o + 7) (it 0) (nI (pQ p (it 0) + it 1))) o 13 (nI (pQa p + it 1))).1 o 12 = nI p.2.2.2.2.1 := by rw [pi_k (by omega), pi_p (by omega)]; exact h6
    unfold f_X1_keepDegree
    simp (disch := omega) only [pv_v, pv_b2, pv_b1, pv_x, pv_lit, pv_ofN, pu_chk, pu_cl, nI_add, pk_mul, nI_leI, nI_ltI, nI_eq, pu_nar0, pu_nar1, pu_narb, bI_0, bI_1, ↓reduceIte, pu_leT, pu_leF, pu_ltT, pu_ltF, pu_eqT, pu_eqF, pu_x1, pu_x2, pu_x3, pu_x4, pu_x5, pu_x6, pu_x7, pu_x8, Nat.zero_add, pu_m31I, pu_m31, pu_shlI, eq_self, Bool.false_eq_true, Bool.true_eq_false, e0, e1, e7, f1, f2, f3]
  · unfold cPt
    rw [pQa_A]
    refine ⟨?_, ?_, ?_, ?_, ?_, pi_same, ?_, ?_, fun u hu k hk => ?_, fun k hk => ?_⟩
    · simp only [pi_g]; simp; exact h1
    · simp only [pi_g]; simp; exact h2
    · simp only [pi_g]; simp; exact h3
    · simp only [pi_g]; simp; exact h4
    · simp only [pi_g]; simp; exact h5
    · simp only [pi_g]; simp
    · simp only [pi_g]; simp; exact h8
    · rw [pi_p (by omega), pi_p (by omega), pi_p (by omega)]; exact h9 u hu k hk
    · rw [pQ_A, pi_p (by omega), pi_p (by omega), pi_ite]
      by_cases c : k = it 0
      · rw [if_pos c, if_pos c.symm, c]
      · rw [if_neg c, if_neg (fun q => c q.symm), Nat.add_zero]; exact h10 k hk
  · rw [pi_p (by omega), pi_p (by omega), pi_p (by omega)]
end FIELD
