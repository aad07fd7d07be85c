/-! pure part: the journal (wip/whole/pure/15.a.log.src) -/
/-- the log: entry n has the three numbers lg n 0, 1, 2; L entries so far. The class's rows, the reference's row -/
def cJ (lg : Nat → Nat → Int32) (L B q : Nat) (w : am_S) : Prop := w.1 q 3 = nI L ∧ ∀ n t, t < 3 → n < L → B ≤ n → w.1 (q + 1 + t) (n % 100) = lg n t
def rJ (lg : Nat → Nat → Int32) (L : Nat) (g : Nat → Int32) : Prop := g 64 = nI (min L 60) ∧ ∀ n t, t < 3 → n < L → L ≤ n + 60 → g (65 + 3 * (n - (L - min L 60)) + t) = lg n t
/-- an entry more -/
def upl (lg : Nat → Nat → Int32) (L : Nat) (a b c : Int32) : Nat → Nat → Int32 := fun n t => if n = L then (if t = 0 then a else if t = 1 then b else c) else lg n t
section LOG
variable {lg : Nat → Nat → Int32} {L B q : Nat} {w : am_S} {g : Nat → Int32}
theorem upl_ne {a b c : Int32} {n t : Nat} (h : n ≠ L) : upl lg L a b c n t = lg n t := if_neg h
theorem upl_L {a b c : Int32} {t : Nat} : upl lg L a b c L t = if t = 0 then a else if t = 1 then b else c := if_pos rfl
theorem c_note (h : cJ lg L B q w) (hL : L < 2 ^ 30) (hB : L < B + 100) {a b c : Int32} : ∃ w', f_X4_note q a b c w = some w' ∧ cJ (upl lg L a b c) (L + 1) B q w' ∧ eqx [q, q + 1, q + 2, q + 3] w w' := by
  have hm : L % 100 < 100 := Nat.mod_lt _ (by decide)
  refine ⟨am_pi (am_pi (am_pi (am_pi w (q + 1) (L % 100) a) (q + 2) (L % 100) b) (q + 3) (L % 100) c) q 3 (nI (L + 1)), ?_, ⟨pi_same, fun n t ht hn hn2 => ?_⟩, (((eqx.pi (by simp)).on (eqx.pi (by simp))).on (eqx.pi (by simp))).on (eqx.pi (by simp))⟩
  · have e : (am_pi (am_pi (am_pi w (q + 1) (L % 100) a) (q + 2) (L % 100) b) (q + 3) (L % 100) c).1 q 3 = nI L := by
      rw [pi_p (by omega), pi_p (by omega), pi_p (by omega)]
      exact h.1
    unfold f_X4_note
    simp (disch := omega) only [pv_v, pv_b2, pv_b1, pv_x, pv_lit, pv_ofN, pu_chk, pu_cl, nI_add, pk_mul, nI_leI, nI_ltI, nI_eq, pu_nar0, pu_nar1, pu_narb, bI_0, bI_1, ↓reduceIte, pu_leT, pu_leF, pu_ltT, pu_ltF, pu_eqT, pu_eqF, pu_x1, pu_x2, pu_x3, pu_x4, pu_x5, pu_x6, pu_x7, pu_x8, Nat.zero_add, pu_m31I, pu_m31, pu_shlI, eq_self, Bool.false_eq_true, Bool.true_eq_false, h.1, pk_rem, e]
  · rw [pi_p (by omega)]
    have ht' : t = 0 ∨ t = 1 ∨ t = 2 := by omega
    by_cases e : n = L
    · subst e
      rw [upl_L]
      rcases ht' with rfl | rfl | rfl
      · rw [pi_p (by omega), pi_p (by omega)]; exact pi_same
      · rw [pi_p (by omega)]; exact pi_same
      · exact pi_same
    · rw [upl_ne e]
      have hne : n % 100 ≠ L % 100 := by omega
      have ho := h.2 n t ht (by omega) (by omega)
      rcases ht' with rfl | rfl | rfl
      · rw [pi_p (by omega), pi_p (by omega), pi_k hne]; exact ho
      · rw [pi_p (by omega), pi_k hne, pi_p (by omega)]; exact ho
      · rw [pi_k hne, pi_p (by omega), pi_p (by omega)]; exact ho
theorem c_seen (h : cJ lg L B q w) (hL : L < 2 ^ 30) : f_X4_seen q w = some (nI (min L 60), w) := by
  have hm := c_min (w := w) (a := L) (b := 60) (by omega) (by omega)
  unfold f_X4_seen
  simp (disch := omega) only [pv_v, pv_b2, pv_b1, pv_x, pv_lit, pv_ofN, pu_chk, pu_cl, nI_add, pk_mul, nI_leI, nI_ltI, nI_eq, pu_nar0, pu_nar1, pu_narb, bI_0, bI_1, ↓reduceIte, pu_leT, pu_leF, pu_ltT, pu_ltF, pu_eqT, pu_eqF, pu_x1, pu_x2, pu_x3, pu_x4, pu_x5, pu_x6, pu_x7, pu_x8, Nat.zero_add, pu_m31I, pu_m31, pu_shlI, eq_self, Bool.false_eq_true, Bool.true_eq_false, h.1, hm]
theorem cJ.up {B' : Nat} (h : cJ lg L B q w) (hB : B ≤ B') : cJ lg L B' q w := ⟨h.1, fun n t ht hn hb => h.2 n t ht hn (by omega)⟩
theorem cJ.fr {w' : am_S} (h : cJ lg L B q w) (h0 : w'.1 q = w.1 q) (h1 : w'.1 (q + 1) = w.1 (q + 1)) (h2 : w'.1 (q + 2) = w.1 (q + 2)) (h3 : w'.1 (q + 3) = w.1 (q + 3)) : cJ lg L B q w' := by
  refine ⟨by rw [h0]; exact h.1, fun n t ht hn hb => ?_⟩
  have e := h.2 n t ht hn hb
  have ht' : t = 0 ∨ t = 1 ∨ t = 2 := by omega
  rcases ht' with rfl | rfl | rfl
  · rw [h1]; exact e
  · rw [h2]; exact e
  · rw [h3]; exact e
theorem c_entry (h : cJ lg L B q w) (hL : L < 2 ^ 30) {i t : Nat} (hi : i < L) (hB : B ≤ L - 1 - i) (ht : t < 3) : f_X4_entry q (nI i) (nI t) w = some (lg (L - 1 - i) t, w) := by
  have hm : (L - 1 - i) % 100 < 100 := Nat.mod_lt _ (by decide)
  have e := h.2 (L - 1 - i) t ht (by omega) hB
  have hx : (L - 1 - i) ^^^ 100 < 2 ^ 31 := Nat.xor_lt_two_pow (by omega) (by omega)
  have hf : f_J9_floorMod_7cf53 (nI (L - 1 - i)) (nI 100) w = some (nI ((L - 1 - i) % 100), w) := by
    unfold f_J9_floorMod_7cf53 f_J9_floorMod_7cf53_18
    simp (disch := omega) only [pv_v, pv_b2, pv_b1, pv_x, pv_lit, pv_ofN, pu_chk, pu_cl, nI_add, pk_mul, nI_leI, nI_ltI, nI_eq, pu_nar0, pu_nar1, pu_narb, bI_0, bI_1, ↓reduceIte, pu_leT, pu_leF, pu_ltT, pu_ltF, pu_eqT, pu_eqF, pu_x1, pu_x2, pu_x3, pu_x4, pu_x5, pu_x6, pu_x7, pu_x8, Nat.zero_add, pu_m31I, pu_m31, pu_shlI, eq_self, Bool.false_eq_true, Bool.true_eq_false, pu_nz, pk_rem, pu_xor]
  unfold f_X4_entry f_X4_entry_45
  have ht' : t = 0 ∨ t = 1 ∨ t = 2 := by omega
  rcases ht' with rfl | rfl | rfl
  · have e : w.1 (q + 1) ((L - 1 - i) % 100) = lg (L - 1 - i) 0 := e
    simp (disch := omega) only [pv_v, pv_b2, pv_b1, pv_x, pv_lit, pv_ofN, pu_chk, pu_cl, nI_add, pk_mul, nI_leI, nI_ltI, nI_eq, pu_nar0, pu_nar1, pu_narb, bI_0, bI_1, ↓reduceIte, pu_leT, pu_leF, pu_ltT, pu_ltF, pu_eqT, pu_eqF, pu_x1, pu_x2, pu_x3, pu_x4, pu_x5, pu_x6, pu_x7, pu_x8, Nat.zero_add, pu_m31I, pu_m31, pu_shlI, eq_self, Bool.false_eq_true, Bool.true_eq_false, h.1, pk_sub, hf, e]
  · have e : w.1 (q + 2) ((L - 1 - i) % 100) = lg (L - 1 - i) 1 := e
    simp (disch := omega) only [pv_v, pv_b2, pv_b1, pv_x, pv_lit, pv_ofN, pu_chk, pu_cl, nI_add, pk_mul, nI_leI, nI_ltI, nI_eq, pu_nar0, pu_nar1, pu_narb, bI_0, bI_1, ↓reduceIte, pu_leT, pu_leF, pu_ltT, pu_ltF, pu_eqT, pu_eqF, pu_x1, pu_x2, pu_x3, pu_x4, pu_x5, pu_x6, pu_x7, pu_x8, Nat.zero_add, pu_m31I, pu_m31, pu_shlI, eq_self, Bool.false_eq_true, Bool.true_eq_false, h.1, pk_sub, hf, e]
  · have e : w.1 (q + 3) ((L - 1 - i) % 100) = lg (L - 1 - i) 2 := e
    simp (disch := omega) only [pv_v, pv_b2, pv_b1, pv_x, pv_lit, pv_ofN, pu_chk, pu_cl, nI_add, pk_mul, nI_leI, nI_ltI, nI_eq, pu_nar0, pu_nar1, pu_narb, bI_0, bI_1, ↓reduceIte, pu_leT, pu_leF, pu_ltT, pu_ltF, pu_eqT, pu_eqF, pu_x1, pu_x2, pu_x3, pu_x4, pu_x5, pu_x6, pu_x7, pu_x8, Nat.zero_add, pu_m31I, pu_m31, pu_shlI, eq_self, Bool.false_eq_true, Bool.true_eq_false, h.1, pk_sub, hf, e]
/-- what LOG answers -/
def lV (lg : Nat → Nat → Int32) (L : Nat) (a b : Int32) : Int32 := match ix (min L 60) a with
  | none => -1000000
  | some i => match ix 3 b with
    | none => -1000000
    | some t => lg (L - 1 - i) t
theorem ix_nn {n : Nat} {a : Int32} (hn : n < 2 ^ 31) (h : ix n a = none) : a < nI 0 ∨ (¬ a < nI 0 ∧ nI n ≤ a ∧ ¬ a < nI n ∧ ∀ m, m < n → ¬ a ≤ nI m ∧ nI m < a ∧ a ≠ nI m) := by
  have z0 : (nI 0).toInt = 0 := by decide
  rcases ix_n h with c | c
  · left
    rw [lt_ti, z0]; exact c
  · right
    refine ⟨?_, ?_, ?_, fun m hm => ⟨?_, ?_, ?_⟩⟩
    · rw [lt_ti, z0]; omega
    · rw [le_ti, nI_toInt hn]; omega
    · rw [lt_ti, nI_toInt hn]; omega
    · rw [le_ti, nI_toInt (by omega)]; omega
    · rw [lt_ti, nI_toInt (by omega)]; omega
    · rw [Ne, eq_ti, nI_toInt (by omega)]; omega
theorem r_log (hJ : rJ lg L (w.1 281)) (a b : Int32) : f_X12_log a b w = some (lV lg L a b, w) := by
  have h1 := hJ.1
  unfold f_X12_log f_X12_log_52 f_X12_log_55 lV
  cases e1 : ix (min L 60) a with
  | none => simp (disch := omega) only [pv_v, pv_b2, pv_b1, pv_x, pv_lit, pv_ofN, pu_chk, pu_cl, nI_add, pk_mul, nI_leI, nI_ltI, nI_eq, pu_nar0, pu_nar1, pu_narb, bI_0, bI_1, ↓reduceIte, pu_leT, pu_leF, pu_ltT, pu_ltF, pu_eqT, pu_eqF, pu_x1, pu_x2, pu_x3, pu_x4, pu_x5, pu_x6, pu_x7, pu_x8, Nat.zero_add, pu_m31I, pu_m31, pu_shlI, eq_self, Bool.false_eq_true, Bool.true_eq_false, h1, in_ix, e1, Option.isSome_none]
  | some i =>
    obtain ⟨q1, rfl, q3⟩ := ix_s e1
    cases e2 : ix 3 b with
    | none => simp (disch := omega) only [pv_v, pv_b2, pv_b1, pv_x, pv_lit, pv_ofN, pu_chk, pu_cl, nI_add, pk_mul, nI_leI, nI_ltI, nI_eq, pu_nar0, pu_nar1, pu_narb, bI_0, bI_1, ↓reduceIte, pu_leT, pu_leF, pu_ltT, pu_ltF, pu_eqT, pu_eqF, pu_x1, pu_x2, pu_x3, pu_x4, pu_x5, pu_x6, pu_x7, pu_x8, Nat.zero_add, pu_m31I, pu_m31, pu_shlI, eq_self, Bool.false_eq_true, Bool.true_eq_false, h1, in_ix, in_ix2, e1, e2, Option.isSome_none, Option.isSome_some]
    | some t =>
      obtain ⟨s1, rfl, s3⟩ := ix_s e2
      have e := hJ.2 (L - 1 - i) t s1 (by omega) (by omega)
      rw [show 65 + 3 * (L - 1 - i - (L - min L 60)) + t = 65 + 3 * (min L 60 - 1 - i) + t by omega] at e
      simp (disch := omega) only [pv_v, pv_b2, pv_b1, pv_x, pv_lit, pv_ofN, pu_chk, pu_cl, nI_add, pk_mul, nI_leI, nI_ltI, nI_eq, pu_nar0, pu_nar1, pu_narb, bI_0, bI_1, ↓reduceIte, pu_leT, pu_leF, pu_ltT, pu_ltF, pu_eqT, pu_eqF, pu_x1, pu_x2, pu_x3, pu_x4, pu_x5, pu_x6, pu_x7, pu_x8, Nat.zero_add, pu_m31I, pu_m31, pu_shlI, eq_self, Bool.false_eq_true, Bool.true_eq_false, h1, in_ix, in_ix2, e1, e2, Option.isSome_some]
      simp (disch := omega) only [pv_v, pv_b2, pv_b1, pv_x, pv_lit, pv_ofN, pu_chk, pu_cl, nI_add, pk_mul, nI_leI, nI_ltI, nI_eq, pu_nar0, pu_nar1, pu_narb, bI_0, bI_1, ↓reduceIte, pu_leT, pu_leF, pu_ltT, pu_ltF, pu_eqT, pu_eqF, pu_x1, pu_x2, pu_x3, pu_x4, pu_x5, pu_x6, pu_x7, pu_x8, Nat.zero_add, pu_m31I, pu_m31, pu_shlI, eq_self, Bool.false_eq_true, Bool.true_eq_false, pk_sub, e]
theorem c_log (h : cJ lg L B 38 w) (hL : L < 2 ^ 30) (hB : B ≤ L - 60) (a b : Int32) : f_X11_log a b w = some (lV lg L a b, w) := by
  unfold f_X11_log f_X11_log_24 lV
  have hs := c_seen h hL
  cases e1 : ix (min L 60) a with
  | none =>
    rcases ix_nn (by omega) e1 with c | ⟨c1, c2, c3, c4⟩
    · simp (disch := omega) only [pv_v, pv_b2, pv_b1, pv_x, pv_lit, pv_ofN, pu_chk, pu_cl, nI_add, pk_mul, nI_leI, nI_ltI, nI_eq, pu_nar0, pu_nar1, pu_narb, bI_0, bI_1, ↓reduceIte, pu_leT, pu_leF, pu_ltT, pu_ltF, pu_eqT, pu_eqF, pu_x1, pu_x2, pu_x3, pu_x4, pu_x5, pu_x6, pu_x7, pu_x8, Nat.zero_add, pu_m31I, pu_m31, pu_shlI, eq_self, Bool.false_eq_true, Bool.true_eq_false, c]
    · simp (disch := omega) only [pv_v, pv_b2, pv_b1, pv_x, pv_lit, pv_ofN, pu_chk, pu_cl, nI_add, pk_mul, nI_leI, nI_ltI, nI_eq, pu_nar0, pu_nar1, pu_narb, bI_0, bI_1, ↓reduceIte, pu_leT, pu_leF, pu_ltT, pu_ltF, pu_eqT, pu_eqF, pu_x1, pu_x2, pu_x3, pu_x4, pu_x5, pu_x6, pu_x7, pu_x8, Nat.zero_add, pu_m31I, pu_m31, pu_shlI, eq_self, Bool.false_eq_true, Bool.true_eq_false, c1, hs, c2]
  | some i =>
    obtain ⟨q1, rfl, q3⟩ := ix_s e1
    cases e2 : ix 3 b with
    | none =>
      rcases ix_nn (by omega) e2 with c | ⟨c1, c2, c3, c4⟩
      · simp (disch := omega) only [pv_v, pv_b2, pv_b1, pv_x, pv_lit, pv_ofN, pu_chk, pu_cl, nI_add, pk_mul, nI_leI, nI_ltI, nI_eq, pu_nar0, pu_nar1, pu_narb, bI_0, bI_1, ↓reduceIte, pu_leT, pu_leF, pu_ltT, pu_ltF, pu_eqT, pu_eqF, pu_x1, pu_x2, pu_x3, pu_x4, pu_x5, pu_x6, pu_x7, pu_x8, Nat.zero_add, pu_m31I, pu_m31, pu_shlI, eq_self, Bool.false_eq_true, Bool.true_eq_false, hs, c]
      · simp (disch := omega) only [pv_v, pv_b2, pv_b1, pv_x, pv_lit, pv_ofN, pu_chk, pu_cl, nI_add, pk_mul, nI_leI, nI_ltI, nI_eq, pu_nar0, pu_nar1, pu_narb, bI_0, bI_1, ↓reduceIte, pu_leT, pu_leF, pu_ltT, pu_ltF, pu_eqT, pu_eqF, pu_x1, pu_x2, pu_x3, pu_x4, pu_x5, pu_x6, pu_x7, pu_x8, Nat.zero_add, pu_m31I, pu_m31, pu_shlI, eq_self, Bool.false_eq_true, Bool.true_eq_false, hs, c1, (c4 2 (by omega)).1]
    | some t =>
      obtain ⟨s1, rfl, s3⟩ := ix_s e2
      have e := c_entry h hL (i := i) (t := t) (by omega) (by omega) s1
      simp (disch := omega) only [pv_v, pv_b2, pv_b1, pv_x, pv_lit, pv_ofN, pu_chk, pu_cl, nI_add, pk_mul, nI_leI, nI_ltI, nI_eq, pu_nar0, pu_nar1, pu_narb, bI_0, bI_1, ↓reduceIte, pu_leT, pu_leF, pu_ltT, pu_ltF, pu_eqT, pu_eqF, pu_x1, pu_x2, pu_x3, pu_x4, pu_x5, pu_x6, pu_x7, pu_x8, Nat.zero_add, pu_m31I, pu_m31, pu_shlI, eq_self, Bool.false_eq_true, Bool.true_eq_false, hs, e]
end LOG
