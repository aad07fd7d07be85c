/-! pure part: YEARS, both sides (wip/whole/pure/15.g.years.src) -/
section YEARS
variable {fd st : Nat → Nat → Nat} {z : Zt} {w w' w'' : am_S} {p : Nat}
theorem aW_e {k : Nat} {a b a' b' : Int32} (h1 : k ≤ 1 ∨ a = a') (h2 : k ≤ 3 ∨ k = 5 ∨ k = 6 ∨ b = b') : aW fd st k a b = aW fd st k a' b' := by
  unfold aW
  by_cases c0 : (fd 0 0) = 0
  · rw [if_pos c0, if_pos c0]
  · rw [if_neg c0, if_neg c0]
    by_cases c1 : k ≤ 1
    · rw [if_pos c1, if_pos c1]
    · rw [if_neg c1, if_neg c1]
      have ea : a = a' := h1.resolve_left c1
      subst ea
      by_cases c5 : k = 5
      · rw [if_pos c5, if_pos c5]
      · rw [if_neg c5, if_neg c5]
        by_cases c2 : k = 2 ∨ k = 3 ∨ k = 6
        · rw [if_neg (show ¬ k = 7 by omega), if_neg (show ¬ k = 7 by omega)]
          rcases c2 with rfl | rfl | rfl <;> simp
        · have eb : b = b' := by
            rcases h2 with c | c | c | c
            · omega
            · omega
            · omega
            · exact c
          subst eb
          rfl
theorem aS_e {k : Nat} {a b a' b' : Nat} {x : Int64} (h1 : k ≤ 1 ∨ a = a') (h2 : k ≤ 3 ∨ k = 5 ∨ k = 6 ∨ b = b') : aS fd st k a b x = aS fd st k a' b' x := by
  have hk' : k = 0 ∨ k = 1 ∨ k = 2 ∨ k = 3 ∨ k = 5 ∨ k = 6 ∨ (1 < k ∧ b = b') := by omega
  rcases hk' with c | c | c | c | c | c | ⟨c, rfl⟩
  · rw [aS_st.1 c, aS_st.1 c]
  · rw [aS_st.2.1 c, aS_st.2.1 c]
  · obtain rfl : a = a' := by omega
    rw [aS_st.2.2.1 c, aS_st.2.2.1 c]
  · obtain rfl : a = a' := by omega
    rw [aS_st.2.2.2.1 c, aS_st.2.2.2.1 c]
  · obtain rfl : a = a' := by omega
    rw [aS_st.2.2.2.2.2.1 c, aS_st.2.2.2.2.2.1 c]
  · obtain rfl : a = a' := by omega
    rw [aS_st.2.2.2.2.2.2.1 c, aS_st.2.2.2.2.2.2.1 c]
  · obtain rfl : a = a' := by omega
    rfl
theorem aR_e {k : Nat} {a b a' b' : Nat} {x : Int64} (h1 : k ≤ 1 ∨ a = a') (h2 : k ≤ 3 ∨ k = 5 ∨ k = 6 ∨ b = b') : aR fd st k a b x = aR fd st k a' b' x := by
  have hk' : k = 0 ∨ k = 1 ∨ k = 2 ∨ k = 3 ∨ k = 5 ∨ k = 6 ∨ (1 < k ∧ b = b') := by omega
  rcases hk' with c | c | c | c | c | c | ⟨c, rfl⟩
  · rw [aR_st.1 c, aR_st.1 c]
  · rw [aR_st.2.1 c, aR_st.2.1 c]
  · obtain rfl : a = a' := by omega
    rw [aR_st.2.2.1 c, aR_st.2.2.1 c]
  · obtain rfl : a = a' := by omega
    rw [aR_st.2.2.2.1 c, aR_st.2.2.2.1 c]
  · obtain rfl : a = a' := by omega
    rw [aR_st.2.2.2.2.1 c, aR_st.2.2.2.2.1 c]
  · obtain rfl : a = a' := by omega
    rw [aR_st.2.2.2.2.2.2 (.inr (.inl c)), aR_st.2.2.2.2.2.2 (.inr (.inl c)), aS_e (.inr rfl) h2]
  · obtain rfl : a = a' := by omega
    rfl
theorem lu_e {k : Nat} {a b a' b' r : Int32} (h1 : k ≤ 1 ∨ a = a') (h2 : k ≤ 3 ∨ k = 5 ∨ k = 6 ∨ b = b') : lu k a b r = lu k a' b' r := by
  unfold lu
  by_cases c0 : k = 0
  · rw [if_pos c0, if_pos c0]
  · rw [if_neg c0, if_neg c0]
    by_cases c1 : k = 1 ∨ k = 5
    · rw [if_pos c1, if_pos c1]
    · rw [if_neg c1, if_neg c1]
      by_cases c7 : k = 7
      · rw [if_pos c7, if_pos c7]
        rcases h2 with c | c | c | c
        · omega
        · omega
        · omega
        · exact c
      · rw [if_neg c7, if_neg c7]
        rcases h1 with c | c
        · omega
        · exact c
theorem zA_e {k : Nat} {a b a' b' : Int32} {x : Int64} (h1 : k ≤ 1 ∨ a = a') (h2 : k ≤ 3 ∨ k = 5 ∨ k = 6 ∨ b = b') : zA fd z k a b x = zA fd z k a' b' x := by
  have h1' : k ≤ 1 ∨ aN a = aN a' := h1.imp id (fun e => by rw [e])
  have h2' : k ≤ 3 ∨ k = 5 ∨ k = 6 ∨ aN b = aN b' := by
    rcases h2 with c | c | c | c
    · exact .inl c
    · exact .inr (.inl c)
    · exact .inr (.inr (.inl c))
    · exact .inr (.inr (.inr (by rw [c])))
  unfold zA
  rw [aS_e h1' h2', aR_e h1' h2', lu_e h1 h2]
theorem zT_e {k : Nat} {a b a' b' : Int32} {x : Int64} (h1 : k ≤ 1 ∨ a = a') (h2 : k ≤ 3 ∨ k = 5 ∨ k = 6 ∨ b = b') : zT fd z k a b x = zT fd z k a' b' x := by
  unfold zT
  rw [aW_e h1 h2, zA_e h1 h2]
theorem zT_L {k : Nat} {a b : Int32} {x : Int64} : (zT fd z k a b x).2.2.2.1 ≤ z.2.2.2.1 + 1 := by
  unfold zT
  split
  · exact Nat.le_refl _
  · omega
/-- a year -/
def yO (fd : Nat → Nat → Nat) (x : Int64) (z : Zt) : Int64 × Zt :=
  if dv (dn x) 8 < 2 then (dn x, zT fd z 0 (nI 0) (nI 0) (lN 0))
  else if dv (dn x) 8 = 2 then (dn x, zT fd z 1 (nI 0) (nI 0) (lN 0))
  else if dv (dn x) 8 = 7 then (dn (dn x), zT fd z 5 (nI (dv (dn (dn x)) 30)) (nI 0) (lN 0))
  else if dv (dn x) 8 = 3 then (dn (dn x), zT fd z 2 (nI (dv (dn (dn x)) (fd 0 0))) (nI 0) (lN 0))
  else if dv (dn x) 8 = 4 then (dn (dn x), zT fd z 3 (nI (dv (dn (dn x)) (fd 0 0))) (nI 0) (lN 0))
  else (dn (dn (dn x)), zT fd z 4 (nI (dv (dn (dn x)) (fd 0 0))) (nI (pu_lo fd (dv (dn (dn x)) (fd 0 0)) + dv (dn (dn (dn x))) (pu_up fd (dv (dn (dn x)) (fd 0 0)) - pu_lo fd (dv (dn (dn x)) (fd 0 0))))) (lN 0))
def yN (fd : Nat → Nat → Nat) (x : Int64) (z : Zt) : Nat → Int64 × Zt
  | 0 => (x, z)
  | i + 1 => yO fd (yN fd x z i).1 (yN fd x z i).2
theorem yO_L {x : Int64} : (yO fd x z).2.2.2.2.1 ≤ z.2.2.2.1 + 1 := by
  unfold yO
  split
  · exact zT_L
  · split
    · exact zT_L
    · split
      · exact zT_L
      · split
        · exact zT_L
        · split
          · exact zT_L
          · exact zT_L
/-- as eqC, but for the dice -/
def eqD (w w' : am_S) : Prop := (∀ q, (q < 23 ∨ (27 < q ∧ q < 38) ∨ (41 < q ∧ q < 46) ∨ q = 248 ∨ q = 249 ∨ 254 < q) → w'.1 q = w.1 q) ∧ (∀ q, (q < 23 ∨ (27 < q ∧ q < 46) ∨ q = 248 ∨ 256 < q) → w'.2.1 q = w.2.1 q) ∧ w'.2.2 = w.2.2
theorem eqC.D (h : eqC w w') : eqD w w' := ⟨h.1, fun q hq => h.2.1 q (by omega), h.2.2⟩
theorem eqD.on (h : eqD w w') (h2 : eqD w' w'') : eqD w w'' := ⟨fun q hq => (h2.1 q hq).trans (h.1 q hq), fun q hq => (h2.2.1 q hq).trans (h.2.1 q hq), h2.2.2.trans h.2.2⟩
theorem eqD.rf : eqD w w := ⟨fun _ _ => rfl, fun _ _ => rfl, rfl⟩
theorem eqD.pl {y : Int64} : eqD w (am_pl w 249 0 y) := ⟨fun _ _ => rfl, fun q hq => pl_p (by omega), rfl⟩
theorem cZ.pl {y : Int64} {k : Nat} (h : cZ fd z w) : cZ fd z (am_pl w 249 k y) := h.fr (fun _ _ => rfl) (fun q hq => pl_p (by omega)) rfl rfl
theorem c_cast249 {x : Int64} {m : Nat} (hx : w.2.1 249 0 = x) (h : 0 < m) (hm : m < 2 ^ 31) : f_X0_cast 249 (nI m) w = some (nI (dv (dn x) m), am_pl w 249 0 (dn x)) := by
  have := c_cast (w := w) (p := 249) h hm
  rwa [hx] at this
theorem c_try (h : cZ fd z w) (hL : z.2.2.2.1 < 2 ^ 30) {k : Nat} (hk : k ≤ 8) (a b a' b' : Int32) (x : Int64) {y : Int64} (hy : w.2.1 249 0 = y) (h1 : k ≤ 1 ∨ a = a') (h2 : k ≤ 3 ∨ k = 5 ∨ k = 6 ∨ b = b') : Wp (f_X11_attempt (nI k) a b x w) (fun q => cZ fd (zT fd z k a' b' x) q.2 ∧ q.2.2.1 249 0 = y ∧ eqD w q.2) := by
  refine (c_attempt h hL hk a b x).mono (fun q hq => ⟨?_, ?_, hq.2.1.D⟩)
  · rw [← zT_e h1 h2]; exact hq.1
  · rw [hq.2.1.2.1 249 (by omega)]; exact hy
theorem c_year (h : cZ fd z w) (hL : z.2.2.2.1 < 2 ^ 30) (hn : 0 < (fd 0 0)) {x : Int64} (hx : w.2.1 249 0 = x) : Wp (f_X11_liveOneYear w) (fun w' => cZ fd (yO fd x z).2 w' ∧ w'.2.1 249 0 = (yO fd x z).1 ∧ eqD w w') := by
  have hF := h.2.1.1
  have h10 := hF.1
  have e8 := c_cast249 hx (m := 8) (by omega) (by omega)
  have hv : dv (dn x) 8 < 8 := dv_lt (by omega)
  have b1 : (am_pl w 249 0 (dn x)).2.1 249 0 = dn x := pl_same
  have c1 : cZ fd z (am_pl w 249 0 (dn x)) := h.pl
  have b2 : (am_pl (am_pl w 249 0 (dn x)) 249 0 (dn (dn x))).2.1 249 0 = dn (dn x) := pl_same
  have c2 : cZ fd z (am_pl (am_pl w 249 0 (dn x)) 249 0 (dn (dn x))) := c1.pl
  have d1 : eqD w (am_pl w 249 0 (dn x)) := eqD.pl
  have d2 : eqD w (am_pl (am_pl w 249 0 (dn x)) 249 0 (dn (dn x))) := d1.on eqD.pl
  unfold f_X11_liveOneYear f_X11_liveOneYear_101 f_X11_liveOneYear_147
  unfold yO
  rw [pu_litL0]
  by_cases v2 : dv (dn x) 8 < 2
  · rw [if_pos v2]
    obtain ⟨⟨r, w3⟩, t1, t2, t3, t4⟩ := c_try c1 hL (k := 0) (by omega) (-nI 1) (-nI 1) (nI 0) (nI 0) (lN 0) b1 (by omega) (by omega)
    simp (disch := omega) only [pv_v, pv_b2, pv_b1, pv_x, pv_lit, pv_ofN, pu_chk, pu_cl, nI_add, pk_mul, nI_leI, nI_ltI, nI_eq, pu_nar0, pu_nar1, pu_narb, bI_0, bI_1, ↓reduceIte, pu_leT, pu_leF, pu_ltT, pu_ltF, pu_eqT, pu_eqF, pu_x1, pu_x2, pu_x3, pu_x4, pu_x5, pu_x6, pu_x7, pu_x8, Nat.zero_add, pu_m31I, pu_m31, pu_shlI, eq_self, Bool.false_eq_true, Bool.true_eq_false, e8, t1]
    exact Wp.some ⟨t2, t3, d1.on t4⟩
  · rw [if_neg v2]
    by_cases v3 : dv (dn x) 8 = 2
    · rw [if_pos v3]
      obtain ⟨⟨r, w3⟩, t1, t2, t3, t4⟩ := c_try c1 hL (k := 1) (by omega) (-nI 1) (-nI 1) (nI 0) (nI 0) (lN 0) b1 (by omega) (by omega)
      simp (disch := omega) only [pv_v, pv_b2, pv_b1, pv_x, pv_lit, pv_ofN, pu_chk, pu_cl, nI_add, pk_mul, nI_leI, nI_ltI, nI_eq, pu_nar0, pu_nar1, pu_narb, bI_0, bI_1, ↓reduceIte, pu_leT, pu_leF, pu_ltT, pu_ltF, pu_eqT, pu_eqF, pu_x1, pu_x2, pu_x3, pu_x4, pu_x5, pu_x6, pu_x7, pu_x8, Nat.zero_add, pu_m31I, pu_m31, pu_shlI, eq_self, Bool.false_eq_true, Bool.true_eq_false, e8, t1]
      exact Wp.some ⟨t2, t3, d1.on t4⟩
    · rw [if_neg v3]
      by_cases v7 : dv (dn x) 8 = 7
      · rw [if_pos v7]
        have e30 := c_cast249 b1 (m := 30) (by omega) (by omega)
        obtain ⟨⟨r, w3⟩, t1, t2, t3, t4⟩ := c_try c2 hL (k := 5) (by omega) (nI (dv (dn (dn x)) 30)) (-nI 1) (nI (dv (dn (dn x)) 30)) (nI 0) (lN 0) b2 (.inr rfl) (by simp)
        simp (disch := omega) only [pv_v, pv_b2, pv_b1, pv_x, pv_lit, pv_ofN, pu_chk, pu_cl, nI_add, pk_mul, nI_leI, nI_ltI, nI_eq, pu_nar0, pu_nar1, pu_narb, bI_0, bI_1, ↓reduceIte, pu_leT, pu_leF, pu_ltT, pu_ltF, pu_eqT, pu_eqF, pu_x1, pu_x2, pu_x3, pu_x4, pu_x5, pu_x6, pu_x7, pu_x8, Nat.zero_add, pu_m31I, pu_m31, pu_shlI, eq_self, Bool.false_eq_true, Bool.true_eq_false, e8, e30, t1]
        exact Wp.some ⟨t2, t3, d2.on t4⟩
      · rw [if_neg v7]
        have en := c_cast249 b1 (m := (fd 0 0)) hn (by omega)
        have e11 : (am_pl w 249 0 (dn x)).1 11 11 = nI (fd 0 0) := h.2.1.2.2.1.1
        have hu : dv (dn (dn x)) (fd 0 0) < (fd 0 0) := dv_lt hn
        by_cases va : dv (dn x) 8 = 3
        · rw [if_pos va]
          obtain ⟨⟨r, w3⟩, t1, t2, t3, t4⟩ := c_try c2 hL (k := 2) (by omega) (nI (dv (dn (dn x)) (fd 0 0))) (-nI 1) (nI (dv (dn (dn x)) (fd 0 0))) (nI 0) (lN 0) b2 (.inr rfl) (by simp)
          simp (disch := omega) only [pv_v, pv_b2, pv_b1, pv_x, pv_lit, pv_ofN, pu_chk, pu_cl, nI_add, pk_mul, nI_leI, nI_ltI, nI_eq, pu_nar0, pu_nar1, pu_narb, bI_0, bI_1, ↓reduceIte, pu_leT, pu_leF, pu_ltT, pu_ltF, pu_eqT, pu_eqF, pu_x1, pu_x2, pu_x3, pu_x4, pu_x5, pu_x6, pu_x7, pu_x8, Nat.zero_add, pu_m31I, pu_m31, pu_shlI, eq_self, Bool.false_eq_true, Bool.true_eq_false, e8, e11, en, t1]
          exact Wp.some ⟨t2, t3, d2.on t4⟩
        · rw [if_neg va]
          by_cases vb : dv (dn x) 8 = 4
          · rw [if_pos vb]
            obtain ⟨⟨r, w3⟩, t1, t2, t3, t4⟩ := c_try c2 hL (k := 3) (by omega) (nI (dv (dn (dn x)) (fd 0 0))) (-nI 1) (nI (dv (dn (dn x)) (fd 0 0))) (nI 0) (lN 0) b2 (.inr rfl) (by simp)
            simp (disch := omega) only [pv_v, pv_b2, pv_b1, pv_x, pv_lit, pv_ofN, pu_chk, pu_cl, nI_add, pk_mul, nI_leI, nI_ltI, nI_eq, pu_nar0, pu_nar1, pu_narb, bI_0, bI_1, ↓reduceIte, pu_leT, pu_leF, pu_ltT, pu_ltF, pu_eqT, pu_eqF, pu_x1, pu_x2, pu_x3, pu_x4, pu_x5, pu_x6, pu_x7, pu_x8, Nat.zero_add, pu_m31I, pu_m31, pu_shlI, eq_self, Bool.false_eq_true, Bool.true_eq_false, e8, e11, en, t1]
            exact Wp.some ⟨t2, t3, d2.on t4⟩
          · rw [if_neg vb]
            have v5 : 5 ≤ dv (dn x) 8 := by omega
            generalize dv (dn x) 8 = v at *
            generalize dv (dn (dn x)) (fd 0 0) = u at *
            obtain ⟨l1, l2, l3, l4⟩ := pu_lo_up hF hu
            have hT := pu_T48 hF
            have r1 := c_reachFrom hF c2.2.1.2.2.1 hu
            have r2 := c_reachTo hF c2.2.1.2.2.1 hu
            have em := c_cast249 b2 (m := pu_up fd u - pu_lo fd u) (by omega) (by omega)
            have hm : dv (dn (dn (dn x))) (pu_up fd u - pu_lo fd u) < pu_up fd u - pu_lo fd u := dv_lt (by omega)
            have c3 : cZ fd z (am_pl (am_pl (am_pl w 249 0 (dn x)) 249 0 (dn (dn x))) 249 0 (dn (dn (dn x)))) := c2.pl
            obtain ⟨⟨r, w3⟩, t1, t2, t3, t4⟩ := c_try c3 hL (k := 4) (by omega) (nI u) (nI (pu_lo fd u + dv (dn (dn (dn x))) (pu_up fd u - pu_lo fd u))) (nI u) (nI (pu_lo fd u + dv (dn (dn (dn x))) (pu_up fd u - pu_lo fd u))) (lN 0) (pl_same) (.inr rfl) (by simp)
            simp (disch := omega) only [pv_v, pv_b2, pv_b1, pv_x, pv_lit, pv_ofN, pu_chk, pu_cl, nI_add, pk_mul, nI_leI, nI_ltI, nI_eq, pu_nar0, pu_nar1, pu_narb, bI_0, bI_1, ↓reduceIte, pu_leT, pu_leF, pu_ltT, pu_ltF, pu_eqT, pu_eqF, pu_x1, pu_x2, pu_x3, pu_x4, pu_x5, pu_x6, pu_x7, pu_x8, Nat.zero_add, pu_m31I, pu_m31, pu_shlI, eq_self, Bool.false_eq_true, Bool.true_eq_false, e8, e11, en, r1, r2, pk_sub, em, t1]
            exact Wp.some ⟨t2, t3, (d2.on eqD.pl).on t4⟩
theorem c_years (h : cZ fd z w) (hL : z.2.2.2.1 + 40 < 2 ^ 30) (hn : 0 < (fd 0 0)) {N : Nat} (hN : 1 ≤ N ∧ N ≤ 40) (x : Int64) : Wp (f_X11_years (nI N) x w) (fun q => q.1 = nI (kc (yN fd x z N).2.1) ∧ cZ fd (yN fd x z N).2 q.2 ∧ eqD w q.2) := by
  have hF := h.2.1.1
  have h10 := hF.1
  have e1 := c_noField (w := w) h.2.1.2.2.1.1 h10
  rw [decide_eq_false (show ¬ (fd 0 0) = 0 by omega)] at e1
  have e2 : f_X0_begin 249 x w = some (am_pl w 249 0 x) := rfl
  unfold f_X11_years
  simp (disch := omega) only [pv_v, pv_b2, pv_b1, pv_x, pv_lit, pv_ofN, pu_chk, pu_cl, nI_add, pk_mul, nI_leI, nI_ltI, nI_eq, pu_nar0, pu_nar1, pu_narb, bI_0, bI_1, ↓reduceIte, pu_leT, pu_leF, pu_ltT, pu_ltF, pu_eqT, pu_eqF, pu_x1, pu_x2, pu_x3, pu_x4, pu_x5, pu_x6, pu_x7, pu_x8, Nat.zero_add, pu_m31I, pu_m31, pu_shlI, eq_self, Bool.false_eq_true, Bool.true_eq_false, e1, e2]
  unfold f_X11_years_31
  refine Wp.for (fun i w => (nI i, w)) (fun i w' => cZ fd (yN fd x z i).2 w' ∧ w'.2.1 249 0 = (yN fd x z i).1 ∧ eqD w w' ∧ (yN fd x z i).2.2.2.2.1 ≤ z.2.2.2.1 + i) N (by omega) (w := am_pl w 249 0 x) rfl ⟨h.pl, pl_same, eqD.pl, Nat.le_refl _⟩ (fun i w' hi hI => ?_) (fun w' hI => ?_)
  · obtain ⟨i1, i2, i3, i4⟩ := hI
    obtain ⟨w2, t1, t2, t3, t4⟩ := c_year i1 (by omega) hn i2
    unfold f_X11_years_31b
    simp (disch := omega) only [pv_v, pv_b2, pv_b1, pv_x, pv_lit, pv_ofN, pu_chk, pu_cl, nI_add, pk_mul, nI_leI, nI_ltI, nI_eq, pu_nar0, pu_nar1, pu_narb, bI_0, bI_1, ↓reduceIte, pu_leT, pu_leF, pu_ltT, pu_ltF, pu_eqT, pu_eqF, pu_x1, pu_x2, pu_x3, pu_x4, pu_x5, pu_x6, pu_x7, pu_x8, Nat.zero_add, pu_m31I, pu_m31, pu_shlI, eq_self, Bool.false_eq_true, Bool.true_eq_false, t1]
    refine Wp.some ⟨_, rfl, t2, t3, i3.on t4, ?_⟩
    have : (yN fd x z (i + 1)).2.2.2.2.1 ≤ (yN fd x z i).2.2.2.2.1 + 1 := yO_L
    omega
  · obtain ⟨i1, i2, i3, i4⟩ := hI
    have hkc := c_knownCount (p := 23) i1.2.1.2.1 i1.2.1.2.2.2.2.1
    unfold f_X11_years_31b
    simp (disch := omega) only [pv_v, pv_b2, pv_b1, pv_x, pv_lit, pv_ofN, pu_chk, pu_cl, nI_add, pk_mul, nI_leI, nI_ltI, nI_eq, pu_nar0, pu_nar1, pu_narb, bI_0, bI_1, ↓reduceIte, pu_leT, pu_leF, pu_ltT, pu_ltF, pu_eqT, pu_eqF, pu_x1, pu_x2, pu_x3, pu_x4, pu_x5, pu_x6, pu_x7, pu_x8, Nat.zero_add, pu_m31I, pu_m31, pu_shlI, eq_self, Bool.false_eq_true, Bool.true_eq_false, hkc]
    exact Wp.some ⟨rfl, i1, i3⟩
end YEARS
