/-! pure part: the journal (wip/whole/pure/15.a.log.src) -/
/-- the log: entry n has the three numbers lg n 0, 1, 2; L entries so far. The class's rows, the reference's row -/
def cJ (lg : Nat → Nat → Int32) (L q : Nat) (w : am_S) : Prop := w.1 q 3 = nI L ∧ ∀ n t, t < 3 → n < L → L ≤ n + 100 → w.1 (q + 1 + t) (n % 100) = lg n t
def rJ (lg : Nat → Nat → Int32) (L : Nat) (g : Nat → Int32) : Prop := g 64 = nI (min L 60) ∧ ∀ n t, t < 3 → n < L → L ≤ n + 60 → g (65 + 3 * (n - (L - min L 60)) + t) = lg n t
/-- an entry more -/
def upl (lg : Nat → Nat → Int32) (L : Nat) (a b c : Int32) : Nat → Nat → Int32 := fun n t => if n = L then (if t = 0 then a else if t = 1 then b else c) else lg n t
section LOG
variable {lg : Nat → Nat → Int32} {L q : Nat} {w : am_S} {g : Nat → Int32}
theorem upl_ne {a b c : Int32} {n t : Nat} (h : n ≠ L) : upl lg L a b c n t = lg n t := if_neg h
theorem upl_L {a b c : Int32} {t : Nat} : upl lg L a b c L t = if t = 0 then a else if t = 1 then b else c := if_pos rfl
theorem c_note (h : cJ lg L q w) (hL : L < 2 ^ 30) {a b c : Int32} : ∃ w', f_X4_note q a b c w = some w' ∧ cJ (upl lg L a b c) (L + 1) q w' ∧ eqx [q, q + 1, q + 2, q + 3] w w' := by
  have hm : L % 100 < 100 := Nat.mod_lt _ (by decide)
  refine ⟨am_pi (am_pi (am_pi (am_pi w (q + 1) (L % 100) a) (q + 2) (L % 100) b) (q + 3) (L % 100) c) q 3 (nI (L + 1)), ?_, ⟨pi_same, fun n t ht hn hn2 => ?_⟩, (((eqx.pi (by simp)).on (eqx.pi (by simp))).on (eqx.pi (by simp))).on (eqx.pi (by simp))⟩
  · have e : (am_pi (am_pi (am_pi w (q + 1) (L % 100) a) (q + 2) (L % 100) b) (q + 3) (L % 100) c).1 q 3 = nI L := by
      rw [pi_p (by omega), pi_p (by omega), pi_p (by omega)]
      exact h.1
    unfold f_X4_note
    simp (disch := omega) only [pv_v, pv_b2, pv_b1, pv_x, pv_lit, pv_ofN, pu_chk, pu_cl, nI_add, pk_mul, nI_leI, nI_ltI, nI_eq, pu_nar0, pu_nar1, pu_narb, bI_0, bI_1, ↓reduceIte, pu_leT, pu_leF, pu_ltT, pu_ltF, pu_eqT, pu_eqF, pu_x1, pu_x2, pu_x3, pu_x4, pu_x5, pu_x6, pu_x7, pu_x8, Nat.zero_add, pu_m31I, pu_m31, pu_shlI, eq_self, Bool.false_eq_true, Bool.true_eq_false, h.1, pk_rem, e]
  · rw [pi_p (by omega)]
    have ht' : t = 0 ∨ t = 1 ∨ t = 2 := by omega
    by_cases e : n = L
    · subst e
      rw [upl_L]
      rcases ht' with rfl | rfl | rfl
      · rw [pi_p (by omega), pi_p (by omega)]; exact pi_same
      · rw [pi_p (by omega)]; exact pi_same
      · exact pi_same
    · rw [upl_ne e]
      have hne : n % 100 ≠ L % 100 := by omega
      have ho := h.2 n t ht (by omega) (by omega)
      rcases ht' with rfl | rfl | rfl
      · rw [pi_p (by omega), pi_p (by omega), pi_k hne]; exact ho
      · rw [pi_p (by omega), pi_k hne, pi_p (by omega)]; exact ho
      · rw [pi_k hne, pi_p (by omega), pi_p (by omega)]; exact ho
theorem c_seen (h : cJ lg L q w) (hL : L < 2 ^ 30) : f_X4_seen q w = some (nI (min L 60), w) := by
  have hm := c_min (w := w) (a := L) (b := 60) (by omega) (by omega)
  unfold f_X4_seen
  simp (disch := omega) only [pv_v, pv_b2, pv_b1, pv_x, pv_lit, pv_ofN, pu_chk, pu_cl, nI_add, pk_mul, nI_leI, nI_ltI, nI_eq, pu_nar0, pu_nar1, pu_narb, bI_0, bI_1, ↓reduceIte, pu_leT, pu_leF, pu_ltT, pu_ltF, pu_eqT, pu_eqF, pu_x1, pu_x2, pu_x3, pu_x4, pu_x5, pu_x6, pu_x7, pu_x8, Nat.zero_add, pu_m31I, pu_m31, pu_shlI, eq_self, Bool.false_eq_true, Bool.true_eq_false, h.1, hm]
end LOG
