/-! pure part: ACTS as calls (wip/whole/pure/20.e.act.src) -/
section ACTS
variable {fd : Nat → Nat → Nat} {z z' : Zt} {o o' : Ot} {w w' w'' : am_S} {j : Nat}
/-- below, above, or between -/
theorem rng (a : Int32) (lo hi : Nat) (h : hi < 2 ^ 30) (hl : lo ≤ hi + 1) : (∃ t, lo ≤ t ∧ t ≤ hi ∧ a = nI t) ∨ ((a < nI lo) = True ∧ (nI lo ≤ a) = False ∧ ∀ m, lo ≤ m → m ≤ hi → (a = nI m) = False) ∨ ((a < nI lo) = False ∧ (nI lo ≤ a) = True ∧ (a ≤ nI hi) = False ∧ (nI hi < a) = True ∧ (a < nI (hi + 1)) = False ∧ (nI (hi + 1) ≤ a) = True ∧ ∀ m, lo ≤ m → m ≤ hi → (a = nI m) = False) := by
  have e1 : (nI lo).toInt = lo := nI_toInt (by omega)
  have e2 : (nI hi).toInt = hi := nI_toInt (by omega)
  have e3 : (nI (hi + 1)).toInt = ((hi + 1 : Nat) : Int) := nI_toInt (by omega)
  have e4 : ∀ m, lo ≤ m → m ≤ hi → (nI m).toInt = m := fun m h1 h2 => nI_toInt (by omega)
  by_cases c1 : a.toInt < lo
  · right; left
    refine ⟨eq_true (by rw [lt_ti, e1]; exact c1), eq_false (by rw [le_ti, e1]; omega), fun m h1 h2 => eq_false (fun e => ?_)⟩
    rw [e, e4 m h1 h2] at c1; omega
  · by_cases c2 : a.toInt ≤ hi
    · left
      refine ⟨a.toInt.toNat, by omega, by omega, ?_⟩
      rw [eq_ti, nI_toInt (by omega)]; omega
    · right; right
      refine ⟨eq_false (by rw [lt_ti, e1]; omega), eq_true (by rw [le_ti, e1]; omega), eq_false (by rw [le_ti, e2]; omega), eq_true (by rw [lt_ti, e2]; omega), eq_false (by rw [lt_ti, e3]; omega), eq_true (by rw [le_ti, e3]; omega), fun m h1 h2 => eq_false (fun e => ?_)⟩
      rw [e, e4 m h1 h2] at c2; omega
theorem r_inL {a l h : Int32} (h1 : (a < l) = True) : f_X12_in a l h w = some (nI 0, w) := by
  unfold f_X12_in f_X12_in_14 f_X12_in_15
  simp (disch := omega) only [pv_v, pv_b2, pv_b1, pv_x, pv_lit, pv_ofN, pu_chk, pu_cl, nI_add, pk_mul, nI_leI, nI_ltI, nI_eq, pu_nar0, pu_nar1, pu_narb, bI_0, bI_1, ↓reduceIte, pu_leT, pu_leF, pu_ltT, pu_ltF, pu_eqT, pu_eqF, pu_x1, pu_x2, pu_x3, pu_x4, pu_x5, pu_x6, pu_x7, pu_x8, Nat.zero_add, pu_m31I, pu_m31, pu_shlI, eq_self, Bool.false_eq_true, Bool.true_eq_false, h1]
theorem r_inH {a l h : Int32} (h1 : (a < l) = False) (h2 : (h < a) = True) : f_X12_in a l h w = some (nI 0, w) := by
  unfold f_X12_in f_X12_in_14 f_X12_in_15
  simp (disch := omega) only [pv_v, pv_b2, pv_b1, pv_x, pv_lit, pv_ofN, pu_chk, pu_cl, nI_add, pk_mul, nI_leI, nI_ltI, nI_eq, pu_nar0, pu_nar1, pu_narb, bI_0, bI_1, ↓reduceIte, pu_leT, pu_leF, pu_ltT, pu_ltF, pu_eqT, pu_eqF, pu_x1, pu_x2, pu_x3, pu_x4, pu_x5, pu_x6, pu_x7, pu_x8, Nat.zero_add, pu_m31I, pu_m31, pu_shlI, eq_self, Bool.false_eq_true, Bool.true_eq_false, h1, h2]
theorem r_inY {a l h : Nat} (h1 : l ≤ a) (h2 : a ≤ h) (h3 : h < 2 ^ 31) : f_X12_in (nI a) (nI l) (nI h) w = some (nI 1, w) := by
  rw [r_in2 (by omega) (by omega) h3]
  have : decide (l ≤ a ∧ a ≤ h) = true := by simp [h1, h2]
  rw [this]; rfl
theorem CI.act (h : CI fd z o w) (hz : cZ fd z' w') (hx : eqC w w') : CI fd z' o w' ∧ fC w w' := ⟨⟨hz, h.2.fr (fun q hq => hx.1 q (by omega)) (hx.2.1 35 (by omega))⟩, hx.C⟩
theorem CI.actD (h : CI fd z o w) (hz : cZ fd z' w') (hx : eqD w w') : CI fd z' o w' ∧ fC w w' := ⟨⟨hz, h.2.fr (fun q hq => hx.1 q (by omega)) (hx.2.1 35 (by omega))⟩, hx.C⟩
theorem RI.act (h : RI fd z o w) (hz : rZ fd z' w') (hx : eqR w w') : RI fd z' o w' ∧ fR w w' := ⟨⟨hz, h.2.fr (fun k hk => hx.2.1 k (by omega)) (fun q hq => hx.1 q (by simp only [List.mem_cons, List.not_mem_nil, or_false]; omega))⟩, hx.R⟩
theorem both_act (hj : j < 1000) {k : Nat} (hk : k ≤ 8) {a b a' b' : Int32} (x : Int64) (h1 : k ≤ 1 ∨ a = a') (h2 : k ≤ 3 ∨ k = 5 ∨ k = 6 ∨ b = b') : Both j fd z o (fun a b => a = b) (f_X11_act (nI k) a b x) (f_X12_hand (nI k) a' b' x) := by
  intro w hc hr hb hnf
  have hL : z.2.2.2.1 < 2 ^ 30 := by have := hb.1; omega
  cases e : aW fd z.1 k a' b' with
  | none =>
    have e' : aW fd z.1 k a b = none := by rw [aW_e h1 h2]; exact e
    refine Both.mk (j := j) (fd := fd) (z := z) (o := o) (· = nI (aR fd z.1 k (aN a') (aN b') x)) (fun a b h1 h2 => by rw [h1, h2]) fd (zA fd z k a' b' x) o (fun h => ⟨?_, h.up.2⟩) (fun w h => ?_) (fun w h => ?_) (fun _ h0 => absurd e (by unfold aW; rw [if_pos h0]; exact fun h => by cases h)) w hc hr hb hnf
    · show z.2.2.2.1 + 1 ≤ _
      have := h.1; omega
    · obtain ⟨q, e1, q1, q2, q3⟩ := c_act_n h.1 hL hk (x := x) e'
      rw [zA_e h1 h2] at q2
      refine ⟨q, e1, ?_, h.act q2 q3⟩
      rw [q1, aR_e (h1.imp id (fun h => by rw [h])) (h2.imp id (Or.imp id (Or.imp id (fun h => by rw [h]))))]
    · obtain ⟨q, e1, q1, q2, q3, _⟩ := r_hand_n h.1 hk (x := x) e
      exact ⟨q, e1, q1, h.act q2 q3⟩
  | some r =>
    have e' : aW fd z.1 k a b = some r := by rw [aW_e h1 h2]; exact e
    have hr4 := aW_lt e
    refine Both.mk (j := j) (fd := fd) (z := z) (o := o) (· = -nI 1) (fun a b h1 h2 => by rw [h1, h2]) fd z (o.1, o.2.1, o.2.2.1, upi o.2.2.2 r (o.2.2.2 r + nI 1)) (fun h => ⟨h.up.1, h.up.2⟩) (fun w h => ?_) (fun w h => ?_) (fun h => h) w hc hr hb hnf
    · obtain ⟨⟨q, w'⟩, e1, q1, w1, q2, q3, q4⟩ := c_act_s h.1 hk (x := x) e'
      have q4 : w' = am_pi w1 248 r (w.1 248 r + nI 1) := q4
      subst q4
      obtain ⟨hI, hf⟩ := h.act q2 q3
      refine ⟨_, e1, q1, ⟨hI.1.fr (fun q hq => pi_p (by omega)) (fun _ _ => rfl) rfl rfl, ⟨hI.2.1.1, hI.2.1.2.fr (by rw [pi_p (by omega)]) (pi_p (by omega))⟩, hI.2.2.1.fr (by rw [pi_p (by omega)]) (fun q hq => pi_p (by omega)) rfl, ⟨hI.2.2.2.1.1, by rw [pi_p (by omega)]; exact hI.2.2.2.1.2.1, fun n hn => ⟨(hI.2.2.2.1.2.2 n hn).1, (hI.2.2.2.1.2.2 n hn).2.fr (pi_p (by omega)) (pi_p (by omega)) (pi_p (by omega))⟩⟩, fun i hi => ?_⟩, hf.on (fun q hq => ⟨pi_p (by omega), rfl, rfl⟩)⟩
      show _ = upi o.2.2.2 r (o.2.2.2 r + nI 1) i
      rw [pi_ite]
      unfold upi
      by_cases c : i = r
      · rw [if_pos c, if_pos c, h.2.2.2.2 r hr4]
      · rw [if_neg c, if_neg c]; exact hI.2.2.2.2 i hi
    · have e1 := r_hand_s h.1 hk (x := x) e
      refine ⟨_, e1, rfl, ⟨h.1.fr (by rw [pi_p (by omega)]) (by rw [pi_p (by omega)]) (fun q hq => pi_p (by omega)) rfl rfl, ⟨h.2.1.1, h.2.1.2.fr (by rw [pi_p (by omega)]) (pi_p (by omega))⟩, h.2.2.1.fr (by rw [pi_p (by omega)]) (pi_p (by omega)), ⟨h.2.2.2.1.1, by rw [pi_p (by omega)]; exact h.2.2.2.1.2.1, fun n hn => ⟨(h.2.2.2.1.2.2 n hn).1, (h.2.2.2.1.2.2 n hn).2.fr (pi_p (by omega)) (pi_p (by omega))⟩⟩, fun i hi => ?_⟩, fun q hq => ⟨pi_p (by omega), rfl, rfl⟩⟩
      show _ = upi o.2.2.2 r (o.2.2.2 r + nI 1) i
      rw [pi_ite]
      unfold upi
      by_cases c : i = r
      · rw [if_pos c, if_pos c, h.2.2.2.2 r hr4]
      · rw [if_neg c, if_neg c]; exact h.2.2.2.2 i hi
theorem Both.fun {α : Type} {E : α → α → Prop} [DecidableRel E] {F G F' G' : am_S → Option (α × am_S)} (h : Both j fd z o E F G) (hF : ∀ w, F' w = F w) (hG : ∀ w, G' w = G w) : Both j fd z o E F' G' := by
  intro w hc hr hb hnf
  obtain ⟨ww, e, hI⟩ := h w hc hr hb hnf
  refine ⟨ww, ?_, hI⟩
  have : G' = G := funext hG
  rw [hF w, this]; exact e
theorem b2_id {α β : Type} (t : Option (α × β)) : am_b2 t (fun r w => some (r, w)) = t := by
  cases t with
  | none => rfl
  | some p => rfl
theorem both_peel (hj : j < 1000) : Both j fd z o (fun a b => a = b) f_X11_peel f_X12_peel := (both_act hj (k := 0) (by omega) (lN 0) (.inl (by omega)) (.inl (by omega))).fun (fun w => b2_id _) (fun w => b2_id _)
theorem both_round (hj : j < 1000) : Both j fd z o (fun a b => a = b) f_X11_round f_X12_round := (both_act hj (k := 1) (by omega) (lN 0) (.inl (by omega)) (.inl (by omega))).fun (fun w => b2_id _) (fun w => b2_id _)
theorem both_tell (hj : j < 1000) (a : Int32) : Both j fd z o (fun a b => a = b) (f_X11_tell a) (f_X12_tell a) := (both_act hj (k := 2) (by omega) (lN 0) (.inr rfl) (.inl (by omega))).fun (fun w => b2_id _) (fun w => b2_id _)
theorem both_forget (hj : j < 1000) (a : Int32) : Both j fd z o (fun a b => a = b) (f_X11_forget a) (f_X12_forget a) := (both_act hj (k := 3) (by omega) (lN 0) (.inr rfl) (.inl (by omega))).fun (fun w => b2_id _) (fun w => b2_id _)
theorem both_turn (hj : j < 1000) (a b : Int32) : Both j fd z o (fun a b => a = b) (f_X11_turn a b) (f_X12_turn a b) := (both_act hj (k := 4) (by omega) (lN 0) (.inr rfl) (.inr (.inr (.inr rfl)))).fun (fun w => b2_id _) (fun w => b2_id _)
theorem both_capture (hj : j < 1000) (a : Int32) : Both j fd z o (fun a b => a = b) (f_X11_capture a) (f_X12_capture a) := (both_act hj (k := 5) (by omega) (lN 0) (.inr rfl) (.inr (.inl rfl))).fun (fun w => b2_id _) (fun w => b2_id _)
theorem both_draw (hj : j < 1000) (a : Int32) (x : Int64) : Both j fd z o (fun a b => a = b) (f_X11_draw a x) (f_X12_draw_ a x) := (both_act hj (k := 6) (by omega) x (.inr rfl) (.inr (.inr (.inl rfl)))).fun (fun w => b2_id _) (fun w => b2_id _)
theorem both_file (hj : j < 1000) (a b : Int32) : Both j fd z o (fun a b => a = b) (f_X11_file a b) (f_X12_file a b) := (both_act hj (k := 7) (by omega) (lN 0) (.inr rfl) (.inr (.inr (.inr rfl)))).fun (fun w => b2_id _) (fun w => b2_id _)
theorem both_swap (hj : j < 1000) (a b : Int32) : Both j fd z o (fun a b => a = b) (f_X11_swap a b) (f_X12_swap a b) := (both_act hj (k := 8) (by omega) (lN 0) (.inr rfl) (.inr (.inr (.inr rfl)))).fun (fun w => b2_id _) (fun w => b2_id _)
end ACTS
