/-! pure part: what the class foretells (wip/whole/pure/12.a.ask.src) -/
def Lt (a b : Nat) : Prop := a < b
theorem Lt.mk {a b : Nat} (h : a < b) : Lt a b := h
theorem Wp.lp {σ β : Type} {B : σ → Option (β ⊕ σ)} {Q : β → Prop} (I : Nat → σ → Prop) (N : Nat) (hN : N < 1000000) {s : σ} (h0 : I 0 s) (h : ∀ i s, i ≤ N → I i s → Wp (B s) (Sum.elim Q (fun s' => Lt i N ∧ I (i + 1) s'))) : Wp (am_loop B am_fuel s) Q := Wp.loop I N hN h0 h
section ASK
variable {fd : Nat → Nat → Nat} {occ : Nat → Nat} {c U : Nat} {w w0 : am_S}
theorem cW.F (h : cW fd occ c U w0 w) : wF fd := h.1.1
theorem cW.np (h : cW fd occ c U w0 w) : 0 < (fd 0 0) := h.1.2.1
theorem cW.cc (h : cW fd occ c U w0 w) : c ≤ 99 := h.1.2.2.1
theorem cW.ol (h : cW fd occ c U w0 w) : ∀ s, s < (fd 0 1) * (fd 0 2) → occ s < 2 ^ (fd 0 0) := h.1.2.2.2.1
theorem cW.n (h : cW fd occ c U w0 w) : w.1 11 11 = nI (fd 0 0) := h.1.2.2.2.2.1
theorem cW.S (h : cW fd occ c U w0 w) : w.1 11 7 = nI (fd 0 1) := h.1.2.2.2.2.2.1
theorem cW.Fr (h : cW fd occ c U w0 w) : w.1 11 8 = nI (fd 0 2) := h.1.2.2.2.2.2.2.1
theorem cW.st (h : cW fd occ c U w0 w) : ∀ u, u < (fd 0 0) → w.2.2 251 u = pu_f fd u := h.1.2.2.2.2.2.2.2.2.1
theorem cW.di (h : cW fd occ c U w0 w) : ∀ m, m < 2 ^ (fd 0 0) → w.2.2 252 m = pu_d fd m (fd 0 0) := h.1.2.2.2.2.2.2.2.2.2.1
theorem cW.o (h : cW fd occ c U w0 w) : ∀ s, s < (fd 0 1) * (fd 0 2) → w.1 254 s = nI (occ s) := h.1.2.2.2.2.2.2.2.2.2.2.2
theorem cW.u (h : cW fd occ c U w0 w) : w.1 250 6 = nI U := h.2.1
theorem cW.K (h : cW fd occ c U w0 w) : kM (pu_k fd c) := pu_k_M h.F h.cc
theorem cW.all (h : cW fd occ c U w0 w) : f_X1_allSlots 11 w = some (nI ((fd 0 1) * (fd 0 2)), w) := c_allSlots h.S h.Fr
/-- HASTE; behind how many ROUNDS none is CLEAR -/
def isH (K occ : Nat → Nat) (sel : Nat → Bool) (T U u : Nat) (x : Int32) : Prop := (∃ r, r ≤ 10 ∧ x = nI r ∧ (sR K occ sel T U r).testBit u = false ∧ ∀ j, j < r → (sR K occ sel T U j).testBit u = true) ∨ (x = -nI 1 ∧ ∀ j, j ≤ 10 → (sR K occ sel T U j).testBit u = true)
theorem isH.uq {K occ : Nat → Nat} {sel : Nat → Bool} {T U u : Nat} {x y : Int32} (h : isH K occ sel T U u x) (h2 : isH K occ sel T U u y) : x = y := by
  rcases h with ⟨r, a1, a2, a3, a4⟩ | ⟨a1, a2⟩ <;> rcases h2 with ⟨r', b1, b2, b3, b4⟩ | ⟨b1, b2⟩
  · have : r = r' := by
      rcases Nat.lt_trichotomy r r' with q | q | q
      · have := b4 r q; rw [a3] at this; cases this
      · exact q
      · have := a4 r' q; rw [b3] at this; cases this
    rw [a2, b2, this]
  · have := b2 r a1; rw [a3] at this; cases this
  · have := a2 r' b1; rw [b3] at this; cases this
  · rw [a1, b1]
def isN (K occ : Nat → Nat) (sel : Nat → Bool) (T U r : Nat) : Prop := sA K occ sel (sR K occ sel T U r) T = 0 ∧ ∀ j, j < r → sA K occ sel (sR K occ sel T U j) T ≠ 0
theorem isN.uq {K occ : Nat → Nat} {sel : Nat → Bool} {T U r r' : Nat} (h : isN K occ sel T U r) (h2 : isN K occ sel T U r') : r = r' := by
  rcases Nat.lt_trichotomy r r' with q | q | q
  · exact absurd h.1 (h2.2 r q)
  · exact q
  · exact absurd h2.1 (h.2 r' q)
theorem c_haste (h : cW fd occ c U w0 w) (hU : U < 2 ^ (fd 0 0)) {u : Nat} (hu : u < 10) : Wp (f_X6_haste (nI u) w) (fun p => isH (pu_k fd c) occ (fun _ => true) ((fd 0 1) * (fd 0 2)) U u p.1 ∧ cW fd occ c U w0 p.2) := by
  have h10 := h.F.1
  have hl : ∀ i, sR (pu_k fd c) occ (fun _ => true) ((fd 0 1) * (fd 0 2)) U i < 2 ^ (fd 0 0) := fun i => sb_lt (sR_P h.K i).1 hU
  unfold f_X6_haste
  rw [h.u, pu_v]
  unfold f_X6_haste_10
  refine Wp.lp (fun i s => ∃ w, s = (nI (sR (pu_k fd c) occ (fun _ => true) ((fd 0 1) * (fd 0 2)) U i), nI i, w) ∧ cW fd occ c U w0 w ∧ ∀ j, j < i → (sR (pu_k fd c) occ (fun _ => true) ((fd 0 1) * (fd 0 2)) U j).testBit u = true) 11 (by decide) ⟨w, rfl, h, fun j hj => absurd hj (by omega)⟩ ?_
  rintro i _ hi ⟨w, rfl, hw, hj⟩
  have hl31 := pu_k10 (hl i) h10
  unfold f_X6_haste_10b
  by_cases c1 : i = 11
  · subst c1
    simp (disch := omega) only [pv_v, pv_b2, pv_b1, pv_x, pv_lit, pv_ofN, pu_chk, pu_cl, nI_add, pk_mul, nI_leI, nI_ltI, nI_eq, pu_nar0, pu_nar1, pu_narb, bI_0, bI_1, ↓reduceIte, pu_leT, pu_leF, pu_ltT, pu_ltF, pu_eqT, pu_eqF, pu_x1, pu_x2, pu_x3, pu_x4, pu_x5, pu_x6, pu_x7, pu_x8, Nat.zero_add, pu_m31I, pu_m31, pu_shlI, eq_self, Bool.false_eq_true, Bool.true_eq_false]
    exact Wp.some ⟨.inr ⟨rfl, fun j hj1 => hj j (by omega)⟩, hw⟩
  · simp (disch := omega) only [pv_v, pv_b2, pv_b1, pv_x, pv_lit, pv_ofN, pu_chk, pu_cl, nI_add, pk_mul, nI_leI, nI_ltI, nI_eq, pu_nar0, pu_nar1, pu_narb, bI_0, bI_1, ↓reduceIte, pu_leT, pu_leF, pu_ltT, pu_ltF, pu_eqT, pu_eqF, pu_x1, pu_x2, pu_x3, pu_x4, pu_x5, pu_x6, pu_x7, pu_x8, Nat.zero_add, pu_m31I, pu_m31, pu_shlI, eq_self, Bool.false_eq_true, Bool.true_eq_false, pu_shrI, pu_and, pu_bitN]
    cases e : (sR (pu_k fd c) occ (fun _ => true) ((fd 0 1) * (fd 0 2)) U i).testBit u
    · simp (disch := omega) only [pv_v, pv_b2, pv_b1, pv_x, pv_lit, pv_ofN, pu_chk, pu_cl, nI_add, pk_mul, nI_leI, nI_ltI, nI_eq, pu_nar0, pu_nar1, pu_narb, bI_0, bI_1, ↓reduceIte, pu_leT, pu_leF, pu_ltT, pu_ltF, pu_eqT, pu_eqF, pu_x1, pu_x2, pu_x3, pu_x4, pu_x5, pu_x6, pu_x7, pu_x8, Nat.zero_add, pu_m31I, pu_m31, pu_shlI, eq_self, Bool.false_eq_true, Bool.true_eq_false]
      exact Wp.some ⟨.inl ⟨i, by omega, rfl, e, hj⟩, hw⟩
    · simp (disch := omega) only [pv_v, pv_b2, pv_b1, pv_x, pv_lit, pv_ofN, pu_chk, pu_cl, nI_add, pk_mul, nI_leI, nI_ltI, nI_eq, pu_nar0, pu_nar1, pu_narb, bI_0, bI_1, ↓reduceIte, pu_leT, pu_leF, pu_ltT, pu_ltF, pu_eqT, pu_eqF, pu_x1, pu_x2, pu_x3, pu_x4, pu_x5, pu_x6, pu_x7, pu_x8, Nat.zero_add, pu_m31I, pu_m31, pu_shlI, eq_self, Bool.false_eq_true, Bool.true_eq_false]
      refine Wp.b2 ((c_clearAnywhere hw (hl i)).mono ?_)
      rintro ⟨r, w'⟩ ⟨rfl, hw'⟩
      simp (disch := omega) only [pv_v, pv_b2, pv_b1, pv_x, pv_lit, pv_ofN, pu_chk, pu_cl, nI_add, pk_mul, nI_leI, nI_ltI, nI_eq, pu_nar0, pu_nar1, pu_narb, bI_0, bI_1, ↓reduceIte, pu_leT, pu_leF, pu_ltT, pu_ltF, pu_eqT, pu_eqF, pu_x1, pu_x2, pu_x3, pu_x4, pu_x5, pu_x6, pu_x7, pu_x8, Nat.zero_add, pu_m31I, pu_m31, pu_shlI, eq_self, Bool.false_eq_true, Bool.true_eq_false, pu_andn]
      refine Wp.some ⟨.mk (by omega), w', rfl, hw', fun j hj1 => ?_⟩
      by_cases q : j = i
      · subst q; exact e
      · exact hj j (by omega)
theorem c_roundsTillStuck (h : cW fd occ c U w0 w) (hU : U < 2 ^ (fd 0 0)) : Wp (f_X6_roundsTillStuck w) (fun p => (∃ r, p.1 = nI r ∧ isN (pu_k fd c) occ (fun _ => true) ((fd 0 1) * (fd 0 2)) U r) ∧ cW fd occ c U w0 p.2) := by
  have h10 := h.F.1
  have hl : ∀ i, sR (pu_k fd c) occ (fun _ => true) ((fd 0 1) * (fd 0 2)) U i < 2 ^ (fd 0 0) := fun i => sb_lt (sR_P h.K i).1 hU
  have ha : ∀ i, sA (pu_k fd c) occ (fun _ => true) (sR (pu_k fd c) occ (fun _ => true) ((fd 0 1) * (fd 0 2)) U i) ((fd 0 1) * (fd 0 2)) < 2 ^ (fd 0 0) := fun i => sb_lt (sA_sb h.K) (hl i)
  unfold f_X6_roundsTillStuck
  rw [h.u, pu_v]
  unfold f_X6_roundsTillStuck_10
  refine Wp.lp (fun i s => ∃ w, s = (nI (sR (pu_k fd c) occ (fun _ => true) ((fd 0 1) * (fd 0 2)) U i), nI i, w) ∧ cW fd occ c U w0 w ∧ ∀ j, j < i → sA (pu_k fd c) occ (fun _ => true) (sR (pu_k fd c) occ (fun _ => true) ((fd 0 1) * (fd 0 2)) U j) ((fd 0 1) * (fd 0 2)) ≠ 0) 10 (by decide) ⟨w, rfl, h, fun j hj => absurd hj (by omega)⟩ ?_
  rintro i _ hi ⟨w, rfl, hw, hj⟩
  unfold f_X6_roundsTillStuck_10b
  simp (disch := omega) only [pv_v, pv_b2, pv_b1, pv_x, pv_lit, pv_ofN, pu_chk, pu_cl, nI_add, pk_mul, nI_leI, nI_ltI, nI_eq, pu_nar0, pu_nar1, pu_narb, bI_0, bI_1, ↓reduceIte, pu_leT, pu_leF, pu_ltT, pu_ltF, pu_eqT, pu_eqF, pu_x1, pu_x2, pu_x3, pu_x4, pu_x5, pu_x6, pu_x7, pu_x8, Nat.zero_add, pu_m31I, pu_m31, pu_shlI, eq_self, Bool.false_eq_true, Bool.true_eq_false]
  refine Wp.b2 ((c_clearAnywhere hw (hl i)).mono ?_)
  rintro ⟨r, w'⟩ ⟨rfl, hw'⟩
  have ha10 := pu_k10 (ha i) h10
  by_cases e : sA (pu_k fd c) occ (fun _ => true) (sR (pu_k fd c) occ (fun _ => true) ((fd 0 1) * (fd 0 2)) U i) ((fd 0 1) * (fd 0 2)) = 0
  · simp (disch := omega) only [pv_v, pv_b2, pv_b1, pv_x, pv_lit, pv_ofN, pu_chk, pu_cl, nI_add, pk_mul, nI_leI, nI_ltI, nI_eq, pu_nar0, pu_nar1, pu_narb, bI_0, bI_1, ↓reduceIte, pu_leT, pu_leF, pu_ltT, pu_ltF, pu_eqT, pu_eqF, pu_x1, pu_x2, pu_x3, pu_x4, pu_x5, pu_x6, pu_x7, pu_x8, Nat.zero_add, pu_m31I, pu_m31, pu_shlI, eq_self, Bool.false_eq_true, Bool.true_eq_false, e]
    exact Wp.some ⟨⟨i, rfl, e, hj⟩, hw'⟩
  · simp (disch := omega) only [pv_v, pv_b2, pv_b1, pv_x, pv_lit, pv_ofN, pu_chk, pu_cl, nI_add, pk_mul, nI_leI, nI_ltI, nI_eq, pu_nar0, pu_nar1, pu_narb, bI_0, bI_1, ↓reduceIte, pu_leT, pu_leF, pu_ltT, pu_ltF, pu_eqT, pu_eqF, pu_x1, pu_x2, pu_x3, pu_x4, pu_x5, pu_x6, pu_x7, pu_x8, Nat.zero_add, pu_m31I, pu_m31, pu_shlI, eq_self, Bool.false_eq_true, Bool.true_eq_false, e, pu_andn]
    refine Wp.some ⟨.mk ?_, w', rfl, hw', fun j hj1 => ?_⟩
    · rcases sR_cn (occ := occ) (sel := fun _ => true) (T := (fd 0 1) * (fd 0 2)) h.K (pu_k10 hU h10) i with q | q
      · exact absurd q e
      · have : cn (sR (pu_k fd c) occ (fun _ => true) ((fd 0 1) * (fd 0 2)) U i) ≠ 0 := fun q0 => e (by rw [cn_0 (pu_k10 (hl _) h10) q0]; exact sA_0 h.K)
        omega
    · by_cases q : j = i
      · subst q; exact e
      · exact hj j (by omega)
theorem c_unknownBehind (h : cW fd occ c U w0 w) (hU : U < 2 ^ (fd 0 0)) {n : Nat} (hn : n ≤ 20) : Wp (f_X6_unknownBehind (nI n) w) (fun p => p.1 = nI (sR (pu_k fd c) occ (fun _ => true) ((fd 0 1) * (fd 0 2)) U n) ∧ cW fd occ c U w0 p.2) := by
  have hl : ∀ i, sR (pu_k fd c) occ (fun _ => true) ((fd 0 1) * (fd 0 2)) U i < 2 ^ (fd 0 0) := fun i => sb_lt (sR_P h.K i).1 hU
  unfold f_X6_unknownBehind
  rw [h.u, pu_v]
  unfold f_X6_unknownBehind_10
  refine Wp.for (fun i w => (nI (sR (pu_k fd c) occ (fun _ => true) ((fd 0 1) * (fd 0 2)) U i), nI i, w)) (fun _ w => cW fd occ c U w0 w) n (by omega) rfl h (fun i w hi hw => ?_) (fun w hw => ?_)
  · unfold f_X6_unknownBehind_10b
    simp (disch := omega) only [pv_v, pv_b2, pv_b1, pv_x, pv_lit, pv_ofN, pu_chk, pu_cl, nI_add, pk_mul, nI_leI, nI_ltI, nI_eq, pu_nar0, pu_nar1, pu_narb, bI_0, bI_1, ↓reduceIte, pu_leT, pu_leF, pu_ltT, pu_ltF, pu_eqT, pu_eqF, pu_x1, pu_x2, pu_x3, pu_x4, pu_x5, pu_x6, pu_x7, pu_x8, Nat.zero_add, pu_m31I, pu_m31, pu_shlI, eq_self, Bool.false_eq_true, Bool.true_eq_false]
    refine Wp.b2 ((c_clearAnywhere hw (hl i)).mono ?_)
    rintro ⟨r, w'⟩ ⟨rfl, hw'⟩
    simp (disch := omega) only [pv_v, pv_b2, pv_b1, pv_x, pv_lit, pv_ofN, pu_chk, pu_cl, nI_add, pk_mul, nI_leI, nI_ltI, nI_eq, pu_nar0, pu_nar1, pu_narb, bI_0, bI_1, ↓reduceIte, pu_leT, pu_leF, pu_ltT, pu_ltF, pu_eqT, pu_eqF, pu_x1, pu_x2, pu_x3, pu_x4, pu_x5, pu_x6, pu_x7, pu_x8, Nat.zero_add, pu_m31I, pu_m31, pu_shlI, eq_self, Bool.false_eq_true, Bool.true_eq_false, pu_andn]
    exact Wp.some ⟨w', rfl, hw'⟩
  · unfold f_X6_unknownBehind_10b
    simp (disch := omega) only [pv_v, pv_b2, pv_b1, pv_x, pv_lit, pv_ofN, pu_chk, pu_cl, nI_add, pk_mul, nI_leI, nI_ltI, nI_eq, pu_nar0, pu_nar1, pu_narb, bI_0, bI_1, ↓reduceIte, pu_leT, pu_leF, pu_ltT, pu_ltF, pu_eqT, pu_eqF, pu_x1, pu_x2, pu_x3, pu_x4, pu_x5, pu_x6, pu_x7, pu_x8, Nat.zero_add, pu_m31I, pu_m31, pu_shlI, eq_self, Bool.false_eq_true, Bool.true_eq_false]
    exact Wp.some ⟨rfl, hw⟩
/-- the best of a search for the least: fewest, then lowest -/
def isM (P : Nat → Prop) (m : Nat) : Prop := P m ∧ ∀ m', P m' → cn m < cn m' ∨ (cn m = cn m' ∧ m ≤ m')
theorem isM.uq {P : Nat → Prop} {m m' : Nat} (h : isM P m) (h2 : isM P m') : m = m' := by
  have a := h.2 m' h2.1
  have b := h2.2 m h.1
  omega
theorem c_fewestHelpers (h : cW fd occ c U w0 w) (hU : U < 2 ^ (fd 0 0)) : Wp (f_X6_fewestHelpers w) (fun p => (∃ m, p.1 = nI m ∧ isM (fun m => sb m (sRR (pu_k fd c) occ (fun _ => true) ((fd 0 1) * (fd 0 2)) U) ∧ sRR (pu_k fd c) occ (fun _ => true) ((fd 0 1) * (fd 0 2)) (pu_sd (sRR (pu_k fd c) occ (fun _ => true) ((fd 0 1) * (fd 0 2)) U) m) = 0) m) ∧ cW fd occ c U w0 p.2) := by
  have h10 := h.F.1
  have hK := h.K
  unfold f_X6_fewestHelpers
  rw [h.u]
  refine Wp.b2 ((c_stuckOf h hU).mono ?_)
  rintro ⟨r, w1⟩ ⟨rfl, hw1⟩
  have hR : sRR (pu_k fd c) occ (fun _ => true) ((fd 0 1) * (fd 0 2)) U < 2 ^ (fd 0 0) := sRR_lt hK hU
  generalize hRe : sRR (pu_k fd c) occ (fun _ => true) ((fd 0 1) * (fd 0 2)) U = R at *
  have hR10 := pu_k10 hR h10
  have good0 : ∀ m, sRR (pu_k fd c) occ (fun _ => true) ((fd 0 1) * (fd 0 2)) (pu_sd R m) < 1024 := fun m => pu_k10 (sRR_lt hK (pu_sd_lt hR)) h10
  show Wp (f_X6_fewestHelpers_19 (nI R) (nI R) (0 : Int32) w1) _
  unfold f_X6_fewestHelpers_19
  refine Wp.lp (fun i s => ∃ b w, s = (nI b, nI i, w) ∧ cW fd occ c U w0 w ∧ (sb b R ∧ sRR (pu_k fd c) occ (fun _ => true) ((fd 0 1) * (fd 0 2)) (pu_sd R b) = 0) ∧ (b = R ∨ b < i) ∧ b < 1024 ∧ ∀ j, j < i → sb j R → sRR (pu_k fd c) occ (fun _ => true) ((fd 0 1) * (fd 0 2)) (pu_sd R j) = 0 → cn b < cn j ∨ (cn b = cn j ∧ b ≤ j)) R (by omega) ⟨R, w1, rfl, hw1, ⟨sb.rf, by rw [pu_sd0.mpr sb.rf, sRR_0 hK]⟩, .inl rfl, hR10, fun j hj => absurd hj (by omega)⟩ ?_
  rintro i _ hi ⟨b, w, rfl, hw, hb, hbi, hb10, hj⟩
  have c1 := cn_le i
  have c2 := cn_le b
  unfold f_X6_fewestHelpers_19b
  by_cases hiR : i = R
  · subst hiR
    simp (disch := omega) only [pv_v, pv_b2, pv_b1, pv_x, pv_lit, pv_ofN, pu_chk, pu_cl, nI_add, pk_mul, nI_leI, nI_ltI, nI_eq, pu_nar0, pu_nar1, pu_narb, bI_0, bI_1, ↓reduceIte, pu_leT, pu_leF, pu_ltT, pu_ltF, pu_eqT, pu_eqF, pu_x1, pu_x2, pu_x3, pu_x4, pu_x5, pu_x6, pu_x7, pu_x8, Nat.zero_add, pu_m31I, pu_m31, pu_shlI, eq_self, Bool.false_eq_true, Bool.true_eq_false]
    refine Wp.some ⟨⟨b, rfl, hb, fun m' hm' => ?_⟩, hw⟩
    have hle : m' ≤ i := by
      have := sb.rf (a := i)
      exact Nat.le_of_not_lt (fun hlt => by
        obtain ⟨q, hq1, hq2⟩ : ∃ q, m'.testBit q = true ∧ i.testBit q = false := by
          apply Classical.byContradiction
          intro hn
          have hs : sb m' i := hm'.1
          have := Nat.and_le_right (n := m') (m := i)
          have he : m' &&& i = m' := Nat.eq_of_testBit_eq (fun q => by
            rw [Nat.testBit_and]
            cases e : m'.testBit q
            · rfl
            · rw [hs q e]; rfl)
          omega
        have := hm'.1 q hq1
        rw [hq2] at this
        cases this)
    rcases Nat.lt_or_ge m' i with q | q
    · exact hj m' q hm'.1 hm'.2
    · have : m' = i := by omega
      subst this
      have hcn := cn_sb hb.1
      rcases hbi with rfl | hbi
      · right; exact ⟨rfl, Nat.le_refl _⟩
      · omega
  · have hm10 : i < 1024 := by omega
    have h31 : pu_sd i R < 2 ^ 31 := by have := sb_lt (n := 10) (sb_sd (a := i) (b := R)) hm10; omega
    have keep : ∀ w, cW fd occ c U w0 w → (sb i R → sRR (pu_k fd c) occ (fun _ => true) ((fd 0 1) * (fd 0 2)) (pu_sd R i) = 0 → cn b ≤ cn i) → Wp (f_X6_fewestHelpers_72 (nI R) (nI b) (nI i) w) (Sum.elim (fun p => (∃ m, p.1 = nI m ∧ isM (fun m => sb m R ∧ sRR (pu_k fd c) occ (fun _ => true) ((fd 0 1) * (fd 0 2)) (pu_sd R m) = 0) m) ∧ cW fd occ c U w0 p.2) (fun s' => Lt i R ∧ ∃ b w, s' = (nI b, nI (i + 1), w) ∧ cW fd occ c U w0 w ∧ (sb b R ∧ sRR (pu_k fd c) occ (fun _ => true) ((fd 0 1) * (fd 0 2)) (pu_sd R b) = 0) ∧ (b = R ∨ b < i + 1) ∧ b < 1024 ∧ ∀ j, j < i + 1 → sb j R → sRR (pu_k fd c) occ (fun _ => true) ((fd 0 1) * (fd 0 2)) (pu_sd R j) = 0 → cn b < cn j ∨ (cn b = cn j ∧ b ≤ j))) := by
      intro w hw hge
      unfold f_X6_fewestHelpers_72
      simp (disch := omega) only [pv_v, pv_b2, pv_b1, pv_x, pv_lit, pv_ofN, pu_chk, pu_cl, nI_add, pk_mul, nI_leI, nI_ltI, nI_eq, pu_nar0, pu_nar1, pu_narb, bI_0, bI_1, ↓reduceIte, pu_leT, pu_leF, pu_ltT, pu_ltF, pu_eqT, pu_eqF, pu_x1, pu_x2, pu_x3, pu_x4, pu_x5, pu_x6, pu_x7, pu_x8, Nat.zero_add, pu_m31I, pu_m31, pu_shlI, eq_self, Bool.false_eq_true, Bool.true_eq_false]
      refine Wp.some ⟨.mk (by omega), b, w, rfl, hw, hb, by omega, hb10, fun j hj1 hs hg => ?_⟩
      by_cases q : j = i
      · subst q
        have := hge hs hg
        rcases hbi with rfl | hbi
        · have hne := cn_lt hs hR10 (by omega)
          omega
        · omega
      · exact hj j (by omega) hs hg
    simp (disch := omega) only [pv_v, pv_b2, pv_b1, pv_x, pv_lit, pv_ofN, pu_chk, pu_cl, nI_add, pk_mul, nI_leI, nI_ltI, nI_eq, pu_nar0, pu_nar1, pu_narb, bI_0, bI_1, ↓reduceIte, pu_leT, pu_leF, pu_ltT, pu_ltF, pu_eqT, pu_eqF, pu_x1, pu_x2, pu_x3, pu_x4, pu_x5, pu_x6, pu_x7, pu_x8, Nat.zero_add, pu_m31I, pu_m31, pu_shlI, eq_self, Bool.false_eq_true, Bool.true_eq_false, c_bitCount, pu_andn]
    unfold f_X6_fewestHelpers_40
    by_cases hc : cn b ≤ cn i
    · simp (disch := omega) only [pv_v, pv_b2, pv_b1, pv_x, pv_lit, pv_ofN, pu_chk, pu_cl, nI_add, pk_mul, nI_leI, nI_ltI, nI_eq, pu_nar0, pu_nar1, pu_narb, bI_0, bI_1, ↓reduceIte, pu_leT, pu_leF, pu_ltT, pu_ltF, pu_eqT, pu_eqF, pu_x1, pu_x2, pu_x3, pu_x4, pu_x5, pu_x6, pu_x7, pu_x8, Nat.zero_add, pu_m31I, pu_m31, pu_shlI, eq_self, Bool.false_eq_true, Bool.true_eq_false, hc, pu_andn, ite_self]
      exact keep w hw (fun _ _ => hc)
    · simp (disch := omega) only [pv_v, pv_b2, pv_b1, pv_x, pv_lit, pv_ofN, pu_chk, pu_cl, nI_add, pk_mul, nI_leI, nI_ltI, nI_eq, pu_nar0, pu_nar1, pu_narb, bI_0, bI_1, ↓reduceIte, pu_leT, pu_leF, pu_ltT, pu_ltF, pu_eqT, pu_eqF, pu_x1, pu_x2, pu_x3, pu_x4, pu_x5, pu_x6, pu_x7, pu_x8, Nat.zero_add, pu_m31I, pu_m31, pu_shlI, eq_self, Bool.false_eq_true, Bool.true_eq_false, hc, pu_andn]
      by_cases hs0 : pu_sd i R = 0
      · have hs := pu_sd0.mp hs0
        simp (disch := omega) only [pv_v, pv_b2, pv_b1, pv_x, pv_lit, pv_ofN, pu_chk, pu_cl, nI_add, pk_mul, nI_leI, nI_ltI, nI_eq, pu_nar0, pu_nar1, pu_narb, bI_0, bI_1, ↓reduceIte, pu_leT, pu_leF, pu_ltT, pu_ltF, pu_eqT, pu_eqF, pu_x1, pu_x2, pu_x3, pu_x4, pu_x5, pu_x6, pu_x7, pu_x8, Nat.zero_add, pu_m31I, pu_m31, pu_shlI, eq_self, Bool.false_eq_true, Bool.true_eq_false, hs0]
        refine Wp.b2 ((c_stuckOf hw (pu_sd_lt hR)).mono ?_)
        rintro ⟨r, w'⟩ ⟨rfl, hw'⟩
        have g10 := good0 i
        by_cases hg : sRR (pu_k fd c) occ (fun _ => true) ((fd 0 1) * (fd 0 2)) (pu_sd R i) = 0
        · simp (disch := omega) only [pv_v, pv_b2, pv_b1, pv_x, pv_lit, pv_ofN, pu_chk, pu_cl, nI_add, pk_mul, nI_leI, nI_ltI, nI_eq, pu_nar0, pu_nar1, pu_narb, bI_0, bI_1, ↓reduceIte, pu_leT, pu_leF, pu_ltT, pu_ltF, pu_eqT, pu_eqF, pu_x1, pu_x2, pu_x3, pu_x4, pu_x5, pu_x6, pu_x7, pu_x8, Nat.zero_add, pu_m31I, pu_m31, pu_shlI, eq_self, Bool.false_eq_true, Bool.true_eq_false, hg]
          unfold f_X6_fewestHelpers_72
          simp (disch := omega) only [pv_v, pv_b2, pv_b1, pv_x, pv_lit, pv_ofN, pu_chk, pu_cl, nI_add, pk_mul, nI_leI, nI_ltI, nI_eq, pu_nar0, pu_nar1, pu_narb, bI_0, bI_1, ↓reduceIte, pu_leT, pu_leF, pu_ltT, pu_ltF, pu_eqT, pu_eqF, pu_x1, pu_x2, pu_x3, pu_x4, pu_x5, pu_x6, pu_x7, pu_x8, Nat.zero_add, pu_m31I, pu_m31, pu_shlI, eq_self, Bool.false_eq_true, Bool.true_eq_false]
          refine Wp.some ⟨.mk (by omega), i, w', rfl, hw', ⟨hs, hg⟩, by omega, hm10, fun j hj1 hs' hg' => ?_⟩
          by_cases q : j = i
          · subst q; right; exact ⟨rfl, Nat.le_refl _⟩
          · have := hj j (by omega) hs' hg'
            omega
        · simp (disch := omega) only [pv_v, pv_b2, pv_b1, pv_x, pv_lit, pv_ofN, pu_chk, pu_cl, nI_add, pk_mul, nI_leI, nI_ltI, nI_eq, pu_nar0, pu_nar1, pu_narb, bI_0, bI_1, ↓reduceIte, pu_leT, pu_leF, pu_ltT, pu_ltF, pu_eqT, pu_eqF, pu_x1, pu_x2, pu_x3, pu_x4, pu_x5, pu_x6, pu_x7, pu_x8, Nat.zero_add, pu_m31I, pu_m31, pu_shlI, eq_self, Bool.false_eq_true, Bool.true_eq_false, hg]
          exact keep w' hw' (fun _ hg' => absurd hg' hg)
      · simp (disch := omega) only [pv_v, pv_b2, pv_b1, pv_x, pv_lit, pv_ofN, pu_chk, pu_cl, nI_add, pk_mul, nI_leI, nI_ltI, nI_eq, pu_nar0, pu_nar1, pu_narb, bI_0, bI_1, ↓reduceIte, pu_leT, pu_leF, pu_ltT, pu_ltF, pu_eqT, pu_eqF, pu_x1, pu_x2, pu_x3, pu_x4, pu_x5, pu_x6, pu_x7, pu_x8, Nat.zero_add, pu_m31I, pu_m31, pu_shlI, eq_self, Bool.false_eq_true, Bool.true_eq_false, hs0]
        exact keep w hw (fun hs' _ => absurd (pu_sd0.mpr hs') hs0)
end ASK
