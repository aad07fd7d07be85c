/-! pure part: ACTS, and how the class does them (wip/whole/pure/14.d.do.src) -/
def pu_fz (f : Nat → Nat) : Nat → Nat → Nat
  | a, 0 => a
  | a, l + 1 => if f a ≠ 0 then a else pu_fz f (a + 1) l
theorem pu_fz_is {f : Nat → Nat} {s : Nat} : ∀ {l a : Nat}, a ≤ s → s < a + l → f s ≠ 0 → (∀ j, a ≤ j → j < s → f j = 0) → pu_fz f a l = s
  | 0, a, h1, h2, _, _ => by omega
  | l + 1, a, h1, h2, h3, h4 => by
    show (if f a ≠ 0 then a else pu_fz f (a + 1) l) = s
    by_cases e : a = s
    · subst e; rw [if_pos h3]
    · rw [if_neg (by rw [h4 a (Nat.le_refl _) (by omega)]; decide)]
      exact pu_fz_is (by omega) (by omega) h3 (fun j hj => h4 j (by omega))
def pu_l1 (m : Nat) : Nat := pu_fz (fun u => if m.testBit u then 1 else 0) 0 10
theorem pu_l1_is {m u : Nat} (h : isL m u) (hu : u < 10) : pu_l1 m = u := pu_fz_is (Nat.zero_le _) (by omega) (by rw [h.1]; decide) (fun j _ hj => by rw [h.2 j hj]; rfl)
/-- COPIES otherwise; FILED; SWAPPED -/
def upk (st : Nat → Nat → Nat) (u x : Nat) : Nat → Nat → Nat := fun a b => if a = 1 ∧ b = u then x else st a b
def upf (st : Nat → Nat → Nat) (j u : Nat) : Nat → Nat → Nat := fun a b => if a = 3 ∧ b = j then st 3 j + 1 else if a = 4 ∧ b = 10 * j + st 3 j then u else st a b
/-- the state behind an ACT, and its answer -/
def aS (fd st : Nat → Nat → Nat) (k a b : Nat) (x : Int64) : Nat → Nat → Nat :=
  if k = 0 then upw st (pu_l1 (pu_K fd st 0 (pu_fz (pu_K fd st 0) 0 ((fd 0 1) * (fd 0 2))))) (pu_wy fd st (pu_fz (pu_K fd st 0) 0 ((fd 0 1) * (fd 0 2))) (pu_l1 (pu_K fd st 0 (pu_fz (pu_K fd st 0) 0 ((fd 0 1) * (fd 0 2))))))
  else if k = 1 then pu_rd fd st 0
  else if k = 2 then upw st a 3
  else if k = 3 then upw st a 0
  else if k = 4 then upk st a (st 1 a ^^^ 2 ^ b)
  else if k = 5 then upc st a
  else if k = 6 then upk st a (pu_dw fd a x * 2 ^ pu_lo fd a)
  else if k = 7 then upf st a b
  else upk (upk st a (st 1 b)) b (st 1 a)
def kc (st : Nat → Nat → Nat) : Nat := pu_C (fun u => !(st 0 u == 0)) 10
def aR (fd st : Nat → Nat → Nat) (k a b : Nat) (x : Int64) : Nat :=
  if k = 0 then pu_l1 (pu_K fd st 0 (pu_fz (pu_K fd st 0) 0 ((fd 0 1) * (fd 0 2))))
  else if k = 1 then cn (pu_A fd st 0)
  else if k = 2 then kc (upw st a 3)
  else if k = 3 then st 0 a
  else if k = 5 then (st 2 0)
  else if k = 7 then st 3 a
  else cL (aS fd st k a b x 1 a)
def aN (x : Int32) : Nat := x.toInt.toNat
theorem aN_nI {j : Nat} (h : j < 2 ^ 31) : aN (nI j) = j := by
  unfold aN
  rw [nI_toInt h]
  rfl
theorem aN_m1 : aN (-nI 1) = 0 := by decide
theorem aR_le {fd st : Nat → Nat → Nat} (hS : wS fd st) {k a b : Nat} {x : Int64} : aR fd st k a b x < 100 := by
  unfold aR
  have h1 : ∀ m, pu_l1 m ≤ 10 := fun m => by
    have : ∀ (f : Nat → Nat) (l a : Nat), pu_fz f a l ≤ a + l := by
      intro f l
      induction l with
      | zero => intro a; exact Nat.le_refl _
      | succ l ih =>
        intro a
        show (if f a ≠ 0 then a else pu_fz f (a + 1) l) ≤ _
        split
        · omega
        · have := ih (a + 1); omega
    exact this _ 10 0
  have h2 : ∀ st : Nat → Nat → Nat, kc st ≤ 10 := fun st => pu_C_le _ 10
  have h3 := hS.1
  have h4 : st 0 a ≤ 3 := hS.2.1 a
  have h5 : st 3 a ≤ 10 := hS.2.2.2.2 a
  have h6 := h1 (pu_K fd st 0 (pu_fz (pu_K fd st 0) 0 ((fd 0 1) * (fd 0 2))))
  have h7 := h2 (upw st a 3)
  have h8 := cn_le (pu_A fd st 0)
  have h9 := cL_le (aS fd st k a b x 1 a)
  split
  · omega
  split
  · omega
  split
  · omega
  split
  · omega
  split
  · omega
  split <;> omega
section DO
variable {fd st : Nat → Nat → Nat} {w : am_S} {p : Nat}
theorem upk_same {u x : Nat} : upk st u x 1 u = x := by simp [upk]
theorem upk_ne {u x a b : Nat} (h : b ≠ u) : upk st u x a b = st a b := by simp [upk, h]
theorem upk_a {u x a b : Nat} (h : a ≠ 1) : upk st u x a b = st a b := by simp [upk, h]
theorem upk_w (hS : wS fd st) {u x : Nat} (hu : u < (fd 0 0)) (hx : ∀ s, x.testBit s = true → pu_lo fd u ≤ s ∧ s < pu_up fd u) : wS fd (upk st u x) := by
  refine ⟨hS.1, hS.2.1, fun v hv => ⟨(hS.2.2.1 v hv).1, ?_⟩, fun v s hs => ?_, hS.2.2.2.2⟩
  · rw [upk_ne (by omega)]; exact (hS.2.2.1 v hv).2
  · by_cases e : v = u
    · subst e; rw [upk_same] at hs; exact ⟨hu, hx s hs⟩
    · rw [upk_ne e] at hs; exact hS.2.2.2.1 v s hs
theorem upf_w (hS : wS fd st) {j u : Nat} (hj : st 3 j ≠ 10) : wS fd (upf st j u) := by
  refine ⟨?_, fun v => ?_, fun v hv => ?_, fun v s hs => ?_, fun i => ?_⟩
  · simp [upf]; exact hS.1
  · simp [upf]; exact hS.2.1 v
  · simp [upf]; exact hS.2.2.1 v hv
  · simp [upf] at hs; exact hS.2.2.2.1 v s hs
  · have := hS.2.2.2.2 i
    have h2 := hS.2.2.2.2 j
    unfold upf
    by_cases e : i = j
    · subst e; simp; omega
    · simp [e]; exact this
theorem cS.way (h : cS st p w) {u v : Nat} : cS (upw st u v) p (am_pi w (p + 1) u (nI v)) := by
  obtain ⟨s1, s2, s3, s4, s5⟩ := h
  refine ⟨fun x hx => ?_, s2, ?_, fun j hj => ?_, fun j i hj hi => ?_⟩
  · by_cases e : x = u
    · subst e; rw [pi_same, upw_same]
    · rw [pi_k e, upw_ne e]; exact s1 x hx
  · rw [pi_p (by omega)]; exact s3
  · rw [pi_p (by omega)]; exact s4 j hj
  · rw [pi_p (by omega)]; exact s5 j i hj hi
theorem cS.cop (h : cS st p w) {u x : Nat} : cS (upk st u x) p (am_pl w (p + 2) u (lN x)) := by
  obtain ⟨s1, s2, s3, s4, s5⟩ := h
  refine ⟨s1, fun v hv => ?_, s3, s4, s5⟩
  by_cases e : v = u
  · subst e; rw [pl_same, upk_same]
  · rw [pl_k e, upk_ne e]; exact s2 v hv
theorem cS.cap (h : cS st p w) {c : Nat} : cS (upc st c) p (am_pi w p 4 (nI c)) := by
  obtain ⟨s1, s2, s3, s4, s5⟩ := h
  refine ⟨fun x hx => ?_, s2, ?_, fun j hj => ?_, fun j i hj hi => ?_⟩
  · rw [pi_p (by omega)]; exact s1 x hx
  · rw [pi_same, upc_c]
  · rw [pi_p (by omega)]; exact s4 j hj
  · rw [pi_p (by omega)]; exact s5 j i hj hi
theorem cF.y {w w' : am_S} {A B : List Nat} (h : cF fd w) (hx : eqy A B w w') (hA : ∀ q ∈ [11, 13, 14, 15, 18], q ∉ A) : cF fd w' := by
  unfold cF
  rw [hx.1 11 (hA 11 (by simp)), hx.1 13 (hA 13 (by simp)), hx.1 14 (hA 14 (by simp)), hx.1 15 (hA 15 (by simp)), hx.1 18 (hA 18 (by simp))]
  exact h
theorem cT.y {w w' : am_S} {A B : List Nat} (h : cT fd w) (hx : eqy A B w w') (hA : ∀ q ∈ [250, 253], q ∉ A) : cT fd w' := by
  unfold cT
  rw [hx.1 250 (hA 250 (by simp)), hx.1 253 (hA 253 (by simp)), hx.2.2]
  exact h
theorem cX.mk' {st' : Nat → Nat → Nat} {w' : am_S} {A B : List Nat} (h : cX fd st p w) (hS : wS fd st') (hx : eqy A B w w') (hA : ∀ q ∈ [11, 13, 14, 15, 18, 250, 253], q ∉ A) (hs : cS st' p w') : cX fd st' p w' :=
  ⟨h.1, hS, h.2.2.1.y hx (fun q hq => hA q (by revert hq; simp; omega)), h.2.2.2.1.y hx (fun q hq => hA q (by revert hq; simp; omega)), hs⟩
theorem cW.pi {occ : Nat → Nat} {c U : Nat} {w0 : am_S} (h : cW fd occ c U w0 w) {q k : Nat} {v : Int32} (hq : q ∉ [11, 250, 253, 254]) : cW fd occ c U (am_pi w0 q k v) (am_pi w q k v) := by
  obtain ⟨⟨a1, a2, a3, a4, a5, a6, a7, a8, a9, a10, a11, a12⟩, b, d⟩ := h
  simp only [List.mem_cons, List.not_mem_nil, or_false] at hq
  have e : ∀ x, x ≠ q → (am_pi w q k v).1 x = w.1 x := fun x hx => pi_p hx
  refine ⟨⟨a1, a2, a3, a4, ?_, ?_, ?_, ?_, a9, a10, ?_, ?_⟩, ?_, ⟨d.1, fun x hx => ?_⟩⟩
  · rw [e 11 (by omega)]; exact a5
  · rw [e 11 (by omega)]; exact a6
  · rw [e 11 (by omega)]; exact a7
  · rw [e 250 (by omega)]; exact a8
  · rw [e 253 (by omega)]; exact a11
  · rw [e 254 (by omega)]; exact a12
  · rw [e 250 (by omega)]; exact b
  · funext j
    show (if x = q ∧ j = k then v else w.1 x j) = if x = q ∧ j = k then v else w0.1 x j
    rw [d.2 x hx]
theorem cn_1 {m u : Nat} (hm : m < 1024) (h : m.testBit u = true) : cn m = 1 ↔ m = 2 ^ u := by
  have hu := bit_n (n := 10) hm h
  constructor
  · intro e
    exact (sb_cn (sb_p h) hm (by rw [cn_p hu, e]; exact Nat.le_refl _)).symm
  · intro e; rw [e, cn_p hu]
theorem c_wayIn {occ : Nat → Nat} {c U : Nat} {w0 : am_S} (h : cW fd occ c U w0 w) {s : Nat} (hs : s < (fd 0 1) * (fd 0 2)) (hU : U < 2 ^ (fd 0 0)) : f_X2_wayIn (nI s) w = some (nI (if cn (occ s &&& U) = 1 then 1 else 2), w) := by
  have hT := pu_T48 h.F
  have hm := pu_k10 (Nat.lt_of_le_of_lt Nat.and_le_right hU : occ s &&& U < 2 ^ (fd 0 0)) h.F.1
  have hc := cn_le (occ s &&& U)
  unfold f_X2_wayIn f_X2_wayIn_29
  simp (disch := omega) only [pv_v, pv_b2, pv_b1, pv_x, pv_lit, pv_ofN, pu_chk, pu_cl, nI_add, pk_mul, nI_leI, nI_ltI, nI_eq, pu_nar0, pu_nar1, pu_narb, bI_0, bI_1, ↓reduceIte, pu_leT, pu_leF, pu_ltT, pu_ltF, pu_eqT, pu_eqF, pu_x1, pu_x2, pu_x3, pu_x4, pu_x5, pu_x6, pu_x7, pu_x8, Nat.zero_add, pu_m31I, pu_m31, pu_shlI, eq_self, Bool.false_eq_true, Bool.true_eq_false, h.o s hs, h.u, pu_and, c_bitCount]
  split <;> rfl
theorem c_stepOn (h : cX fd st p w) (hp : p + 4 < 250) (hp2 : 18 < p) (hn : 0 < (fd 0 0)) (hA : pu_A fd st 0 ≠ 0) : Wp (f_X2_stepOn p w) (fun q => q.1 = nI (aR fd st 0 0 0 0) ∧ cX fd (aS fd st 0 0 0 0) p q.2 ∧ eqx [p + 1, 250, 253, 254] w q.2) := by
  have hF := h.1
  have hS := h.2.1
  have h10 := hF.1
  have hT := pu_T48 hF
  have hU := pu_u_lt (fd := fd) (st := st)
  unfold f_X2_stepOn
  refine Wp.b1 ((h.look hp hp2 hn).mono ?_)
  intro w1 hw1
  unfold f_X2_stepOn_10
  refine Wp.lp (fun i s => ∃ w2, s = (nI i, w2) ∧ cW fd (pu_o fd st) (st 2 0) (pu_u fd st) w w2 ∧ ∀ j, j < i → pu_K fd st 0 j = 0) ((fd 0 1) * (fd 0 2)) (by omega) ⟨w1, rfl, hw1, fun j hj => absurd hj (by omega)⟩ ?_
  rintro i _ hi ⟨w2, rfl, hw2, hj⟩
  unfold f_X2_stepOn_10b
  by_cases e : i = (fd 0 1) * (fd 0 2)
  · exact absurd ((pu_A_K hF hS).mpr (fun s hs => hj s (by omega))) hA
  · rw [hw2.all, pu_b2, if_neg (nI_ge (by omega) (by omega)), hw2.u]
    refine Wp.b2 ((c_clearIn hw2 (s := i) (by omega) hU).mono ?_)
    rintro ⟨r, w3⟩ ⟨hr, hw3⟩
    have hr : r = nI (pu_K fd st 0 i) := by rw [pu_K_0]; exact hr
    subst hr
    have hk10 := pu_k10 (pu_K_lt (fd := fd) (st := st) (jm := 0) (s := i)) h10
    by_cases z : pu_K fd st 0 i = 0
    · simp (disch := omega) only [pv_v, pv_b2, pv_b1, pv_x, pv_lit, pv_ofN, pu_chk, pu_cl, nI_add, pk_mul, nI_leI, nI_ltI, nI_eq, pu_nar0, pu_nar1, pu_narb, bI_0, bI_1, ↓reduceIte, pu_leT, pu_leF, pu_ltT, pu_ltF, pu_eqT, pu_eqF, pu_x1, pu_x2, pu_x3, pu_x4, pu_x5, pu_x6, pu_x7, pu_x8, Nat.zero_add, pu_m31I, pu_m31, pu_shlI, eq_self, Bool.false_eq_true, Bool.true_eq_false, z]
      refine Wp.some ⟨.mk (by omega), w3, rfl, hw3, fun j hj1 => ?_⟩
      by_cases q : j = i
      · subst q; exact z
      · exact hj j (by omega)
    · obtain ⟨u, hu, hlu, hlo⟩ := c_lowest w3 hk10 z
      have hun := bit_n (pu_K_lt (fd := fd) (st := st) (jm := 0) (s := i)) hlu.1
      have hcr : (pu_o fd st i &&& pu_u fd st).testBit u = true := by
        have := hlu.1
        rw [pu_K_0] at this
        exact (pu_k_bit.mp this).2.1
      have hcm := pu_k10 (Nat.lt_of_le_of_lt Nat.and_le_right hU : pu_o fd st i &&& pu_u fd st < 2 ^ (fd 0 0)) h10
      have hwy : (if cn (pu_o fd st i &&& pu_u fd st) = 1 then 1 else 2) = pu_wy fd st i u := by
        unfold pu_wy
        by_cases q : pu_o fd st i &&& pu_u fd st = 2 ^ u
        · rw [if_pos q, if_pos ((cn_1 hcm hcr).mpr q)]
        · rw [if_neg q, if_neg (fun q2 => q ((cn_1 hcm hcr).mp q2))]
      have hwi := c_wayIn hw3 (s := i) (by omega) hU
      rw [hwy] at hwi
      simp (disch := omega) only [pv_v, pv_b2, pv_b1, pv_x, pv_lit, pv_ofN, pu_chk, pu_cl, nI_add, pk_mul, nI_leI, nI_ltI, nI_eq, pu_nar0, pu_nar1, pu_narb, bI_0, bI_1, ↓reduceIte, pu_leT, pu_leF, pu_ltT, pu_ltF, pu_eqT, pu_eqF, pu_x1, pu_x2, pu_x3, pu_x4, pu_x5, pu_x6, pu_x7, pu_x8, Nat.zero_add, pu_m31I, pu_m31, pu_shlI, eq_self, Bool.false_eq_true, Bool.true_eq_false, z, hlo, hwi]
      have hfz : pu_fz (pu_K fd st 0) 0 ((fd 0 1) * (fd 0 2)) = i := pu_fz_is (Nat.zero_le _) (by omega) z (fun j _ hj1 => hj j hj1)
      have hl1 : pu_l1 (pu_K fd st 0 i) = u := pu_l1_is hlu hu
      have hwy2 := pu_wy_le (fd := fd) (st := st) (s := i) (u := u)
      have eS : aS fd st 0 0 0 0 = upw st u (pu_wy fd st i u) := by
        unfold aS
        rw [if_pos rfl, hfz, hl1]
      refine Wp.some ⟨?_, ?_, (hw3.2.2.up (by simp)).on (eqx.pi (by simp))⟩
      · unfold aR
        rw [if_pos rfl, hfz, hl1]
      · rw [eS]
        have hx3 := h.ex hp hw3.2.2 hw3.1.T
        refine hx3.mk' (A := [p + 1]) (B := []) (upw_w hS hun (by omega)) (eqy.pi (by simp)) (fun q hq => ?_) hx3.2.2.2.2.way
        simp only [List.mem_cons, List.not_mem_nil, or_false] at hq ⊢
        omega
end DO
