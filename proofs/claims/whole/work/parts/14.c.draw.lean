/-! pure part: draws (wip/whole/pure/14.c.draw.src) -/
/-- ints are as they were but at places A, longs but at places B -/
def eqy (A B : List Nat) (w w' : am_S) : Prop := (∀ q, q ∉ A → w'.1 q = w.1 q) ∧ (∀ q, q ∉ B → w'.2.1 q = w.2.1 q) ∧ w'.2.2 = w.2.2
theorem eqy.rf {A B : List Nat} {w : am_S} : eqy A B w w := ⟨fun _ _ => rfl, fun _ _ => rfl, rfl⟩
theorem eqy.on {A B : List Nat} {w w' w'' : am_S} (h : eqy A B w w') (h2 : eqy A B w' w'') : eqy A B w w'' := ⟨fun q hq => (h2.1 q hq).trans (h.1 q hq), fun q hq => (h2.2.1 q hq).trans (h.2.1 q hq), h2.2.2.trans h.2.2⟩
theorem eqy.up {A B A' B' : List Nat} {w w' : am_S} (h : eqy A B w w') (hA : ∀ q ∈ A, q ∈ A') (hB : ∀ q ∈ B, q ∈ B') : eqy A' B' w w' := ⟨fun q hq => h.1 q (fun e => hq (hA q e)), fun q hq => h.2.1 q (fun e => hq (hB q e)), h.2.2⟩
theorem eqx.y {A B : List Nat} {w w' : am_S} (h : eqx A w w') : eqy A B w w' := ⟨h.2, fun q _ => by rw [h.l], h.f⟩
theorem eqy.pi {A B : List Nat} {w : am_S} {p k : Nat} {v : Int32} (h : p ∈ A) : eqy A B w (am_pi w p k v) := (eqx.pi h).y
theorem eqy.pl {A B : List Nat} {w : am_S} {p k : Nat} {v : Int64} (h : p ∈ B) : eqy A B w (am_pl w p k v) := ⟨fun _ _ => rfl, fun q hq => pl_p (fun e => hq (e ▸ h)), rfl⟩
theorem eqy.t {A B : List Nat} {w w' : am_S} (h : eqy A B w w') {q k : Nat} {v : Int32} (hb : w.1 q k = v) (hq : q ∉ A) : w'.1 q k = v := by rw [h.1 q hq]; exact hb
theorem eqy.tl {A B : List Nat} {w w' : am_S} (h : eqy A B w w') {q k : Nat} {v : Int64} (hb : w.2.1 q k = v) (hq : q ∉ B) : w'.2.1 q k = v := by rw [h.2.1 q hq]; exact hb
def dn (x : Int64) : Int64 := x * 6364136223846793005 + 1442695040888963407
/-- a draw of m -/
def dv (x : Int64) (m : Nat) : Nat := x.toBitVec.toNat / 2 ^ 33 % m
theorem dv_lt {x : Int64} {m : Nat} (h : 0 < m) : dv x m < m := Nat.mod_lt _ h
theorem dv_e (x : Int64) {m : Nat} (h : 0 < m) (hm : m < 2 ^ 31) : (am_lushr x (nI 33) - am_lushr x (nI 33) / lN m * lN m).toInt32 = nI (dv x m) := by
  obtain ⟨X, hX, rfl⟩ := wb_of x
  rw [lu_N hX (by decide), pk_lRem (by omega) h (by omega), lN_i]
  unfold dv
  rw [wb_tn hX]
theorem c_cast {w : am_S} {p m : Nat} (h : 0 < m) (hm : m < 2 ^ 31) : f_X0_cast p (nI m) w = some (nI (dv (dn (w.2.1 p 0)) m), am_pl w p 0 (dn (w.2.1 p 0))) := by
  unfold f_X0_cast f_X0_cast_35
  have e : (am_pl w p 0 (w.2.1 p 0 * 6364136223846793005 + 1442695040888963407)).2.1 p 0 = dn (w.2.1 p 0) := pl_same
  have hz : ¬ lN m = 0 := fun q => by
    rw [show (0 : Int64) = lN 0 from rfl, pk_lEQ (by omega) (by decide)] at q
    omega
  have hne : ∀ {α : Type} (k : Option α), am_nzl (lN m) k = k := fun k => by unfold am_nzl; rw [if_neg hz]
  rw [pu_v, e, nI_l hm, hne, show (33 : Int32) = nI 33 from rfl, dv_e _ h hm, show (0 : Int32) = nI 0 from rfl, if_pos (nI_lt h hm)]
  rfl
theorem r_draw {w : am_S} {m : Nat} (h : 0 < m) (hm : m < 2 ^ 31) : f_X12_draw (nI m) w = some (nI (dv (dn (w.2.1 271 24)) m), am_pl w 271 24 (dn (w.2.1 271 24))) := by
  unfold f_X12_draw
  have e : (am_pl w 271 24 (w.2.1 271 24 * 6364136223846793005 + 1442695040888963407)).2.1 271 24 = dn (w.2.1 271 24) := pl_same
  have hz : ¬ lN m = 0 := fun q => by
    rw [show (0 : Int64) = lN 0 from rfl, pk_lEQ (by omega) (by decide)] at q
    omega
  have hne : ∀ {α : Type} (k : Option α), am_nzl (lN m) k = k := fun k => by unfold am_nzl; rw [if_neg hz]
  rw [pu_v, e, nI_l hm, hne, show (33 : Int32) = nI 33 from rfl, dv_e _ h hm]
  rfl
/-- which DEGREE has a number -/
def dgr (fd : Nat → Nat → Nat) : Nat → Nat → Nat → Nat
  | 0, _, k => k
  | f + 1, lot, k => if lot < fd 4 k then k else dgr fd f (lot - fd 4 k) (k + 1)
theorem dgr_s {fd : Nat → Nat → Nat} {f lot k : Nat} : dgr fd (f + 1) lot k = if lot < fd 4 k then k else dgr fd f (lot - fd 4 k) (k + 1) := rfl
def pu_dg (fd : Nat → Nat → Nat) (lot : Nat) : Nat := dgr fd 6 lot 1
section DRAW
variable {fd st : Nat → Nat → Nat} {w : am_S}
theorem dg_spec (hF : wF fd) {lot : Nat} (h : lot < pu_W fd) : ∃ k, k < 6 ∧ pu_sum (fun i => fd 4 (i + 1)) k ≤ lot ∧ lot < pu_sum (fun i => fd 4 (i + 1)) (k + 1) ∧ pu_dg fd lot = k + 1 := by
  have hW : pu_W fd = pu_sum (fun i => fd 4 (i + 1)) 6 := by
    unfold pu_W pu_sum pu_sum pu_sum pu_sum pu_sum pu_sum pu_sum
    rw [Nat.zero_add]
  have key : ∀ (f k lot' : Nat), f + k = 6 → pu_sum (fun i => fd 4 (i + 1)) k + lot' = lot → ∃ j, k ≤ j ∧ j < 6 ∧ pu_sum (fun i => fd 4 (i + 1)) j ≤ lot ∧ lot < pu_sum (fun i => fd 4 (i + 1)) (j + 1) ∧ dgr fd f lot' (k + 1) = j + 1 := by
    intro f
    induction f with
    | zero =>
      intro k lot' h1 h2
      have : k = 6 := by omega
      subst this
      omega
    | succ f ih =>
      intro k lot' h1 h2
      have hs : pu_sum (fun i => fd 4 (i + 1)) (k + 1) = pu_sum (fun i => fd 4 (i + 1)) k + fd 4 (k + 1) := rfl
      rw [dgr_s]
      by_cases c : lot' < fd 4 (k + 1)
      · rw [if_pos c]
        exact ⟨k, Nat.le_refl _, by omega, by omega, by omega, rfl⟩
      · rw [if_neg c]
        obtain ⟨j, j1, j2, j3, j4, j5⟩ := ih (k + 1) (lot' - fd 4 (k + 1)) (by omega) (by omega)
        exact ⟨j, by omega, j2, j3, j4, j5⟩
  obtain ⟨j, -, j2, j3, j4, j5⟩ := key 6 0 lot rfl (by show 0 + lot = lot; omega)
  exact ⟨j, j2, j3, j4, j5⟩
theorem dg_le (hF : wF fd) {lot : Nat} (h : lot < pu_W fd) : 1 ≤ pu_dg fd lot ∧ pu_dg fd lot ≤ 6 := by
  obtain ⟨k, h1, -, -, h4⟩ := dg_spec hF h
  omega
theorem sum_mono {f : Nat → Nat} : ∀ {a d : Nat}, pu_sum f a ≤ pu_sum f (a + d)
  | a, 0 => Nat.le_refl _
  | a, d + 1 => Nat.le_trans (sum_mono (a := a) (d := d)) (by show _ ≤ pu_sum f (a + d) + f (a + d); omega)
theorem c_degree (hF : wF fd) (h7 : ∀ k, 1 ≤ k → k ≤ 6 → w.1 18 k = nI (fd 4 k)) {p lot : Nat} (h : lot < pu_W fd) : f_X0_castDegree_11 p 11 (nI lot) (nI 1) w = some (nI (pu_dg fd lot), w) := by
  obtain ⟨k, h1, h2, h3, h4⟩ := dg_spec hF h
  have hw : ∀ k, fd 4 k ≤ 594 := hF.2.2.2.2.2.2.1
  have hW : pu_W fd ≤ 594 := hF.2.2.2.2.2.2.2.2
  unfold f_X0_castDegree_11
  refine pu_tr (fun i => (nI (lot - pu_sum (fun i => fd 4 (i + 1)) i), nI (i + 1), w)) k rfl (by omega) (fun i hi => ?_) ?_
  · have hm := sum_mono (f := fun i => fd 4 (i + 1)) (a := i + 1) (d := k - (i + 1))
    rw [show i + 1 + (k - (i + 1)) = k by omega] at hm
    have hs : pu_sum (fun i => fd 4 (i + 1)) (i + 1) = pu_sum (fun i => fd 4 (i + 1)) i + fd 4 (i + 1) := rfl
    have hwi := hw (i + 1)
    have hr : w.1 (11 + 7) (i + 1) = nI (fd 4 (i + 1)) := h7 (i + 1) (by omega) (by omega)
    unfold f_X0_castDegree_11b
    simp (disch := omega) only [pv_v, pv_b2, pv_b1, pv_x, pv_lit, pv_ofN, pu_chk, pu_cl, nI_add, pk_mul, nI_leI, nI_ltI, nI_eq, pu_nar0, pu_nar1, pu_narb, bI_0, bI_1, ↓reduceIte, pu_leT, pu_leF, pu_ltT, pu_ltF, pu_eqT, pu_eqF, pu_x1, pu_x2, pu_x3, pu_x4, pu_x5, pu_x6, pu_x7, pu_x8, Nat.zero_add, pu_m31I, pu_m31, pu_shlI, eq_self, Bool.false_eq_true, Bool.true_eq_false, hr, pk_sub]
    rw [hs, Nat.sub_sub]
  · have hs : pu_sum (fun i => fd 4 (i + 1)) (k + 1) = pu_sum (fun i => fd 4 (i + 1)) k + fd 4 (k + 1) := rfl
    have hwi := hw (k + 1)
    have hr : w.1 (11 + 7) (k + 1) = nI (fd 4 (k + 1)) := h7 (k + 1) (by omega) (by omega)
    unfold f_X0_castDegree_11b
    simp (disch := omega) only [pv_v, pv_b2, pv_b1, pv_x, pv_lit, pv_ofN, pu_chk, pu_cl, nI_add, pk_mul, nI_leI, nI_ltI, nI_eq, pu_nar0, pu_nar1, pu_narb, bI_0, bI_1, ↓reduceIte, pu_leT, pu_leF, pu_ltT, pu_ltF, pu_eqT, pu_eqF, pu_x1, pu_x2, pu_x3, pu_x4, pu_x5, pu_x6, pu_x7, pu_x8, Nat.zero_add, pu_m31I, pu_m31, pu_shlI, eq_self, Bool.false_eq_true, Bool.true_eq_false, hr]
    rw [h4]
theorem r_degree (hF : wF fd) (h7 : ∀ k, 1 ≤ k → k ≤ 6 → w.1 278 k = nI (fd 4 k)) {lot : Nat} (h : lot < pu_W fd) : f_X12_drawDegree_11 (nI lot) (nI 1) w = some (nI (pu_dg fd lot), w) := by
  obtain ⟨k, h1, h2, h3, h4⟩ := dg_spec hF h
  have hw : ∀ k, fd 4 k ≤ 594 := hF.2.2.2.2.2.2.1
  have hW : pu_W fd ≤ 594 := hF.2.2.2.2.2.2.2.2
  unfold f_X12_drawDegree_11
  refine pu_tr (fun i => (nI (lot - pu_sum (fun i => fd 4 (i + 1)) i), nI (i + 1), w)) k rfl (by omega) (fun i hi => ?_) ?_
  · have hm := sum_mono (f := fun i => fd 4 (i + 1)) (a := i + 1) (d := k - (i + 1))
    rw [show i + 1 + (k - (i + 1)) = k by omega] at hm
    have hs : pu_sum (fun i => fd 4 (i + 1)) (i + 1) = pu_sum (fun i => fd 4 (i + 1)) i + fd 4 (i + 1) := rfl
    have hwi := hw (i + 1)
    unfold f_X12_drawDegree_11b
    simp (disch := omega) only [pv_v, pv_b2, pv_b1, pv_x, pv_lit, pv_ofN, pu_chk, pu_cl, nI_add, pk_mul, nI_leI, nI_ltI, nI_eq, pu_nar0, pu_nar1, pu_narb, bI_0, bI_1, ↓reduceIte, pu_leT, pu_leF, pu_ltT, pu_ltF, pu_eqT, pu_eqF, pu_x1, pu_x2, pu_x3, pu_x4, pu_x5, pu_x6, pu_x7, pu_x8, Nat.zero_add, pu_m31I, pu_m31, pu_shlI, eq_self, Bool.false_eq_true, Bool.true_eq_false, h7 (i + 1) (by omega) (by omega), pk_sub]
    rw [hs, Nat.sub_sub]
  · have hs : pu_sum (fun i => fd 4 (i + 1)) (k + 1) = pu_sum (fun i => fd 4 (i + 1)) k + fd 4 (k + 1) := rfl
    have hwi := hw (k + 1)
    unfold f_X12_drawDegree_11b
    simp (disch := omega) only [pv_v, pv_b2, pv_b1, pv_x, pv_lit, pv_ofN, pu_chk, pu_cl, nI_add, pk_mul, nI_leI, nI_ltI, nI_eq, pu_nar0, pu_nar1, pu_narb, bI_0, bI_1, ↓reduceIte, pu_leT, pu_leF, pu_ltT, pu_ltF, pu_eqT, pu_eqF, pu_x1, pu_x2, pu_x3, pu_x4, pu_x5, pu_x6, pu_x7, pu_x8, Nat.zero_add, pu_m31I, pu_m31, pu_shlI, eq_self, Bool.false_eq_true, Bool.true_eq_false, h7 (k + 1) (by omega) (by omega)]
    rw [h4]
theorem c_castDegree (hF : wF fd) (h13 : w.1 11 13 = nI (pu_W fd)) (h7 : ∀ k, 1 ≤ k → k ≤ 6 → w.1 18 k = nI (fd 4 k)) (h0 : pu_W fd ≠ 0) {p : Nat} : f_X0_castDegree p 11 w = some (nI (pu_dg fd (dv (dn (w.2.1 p 0)) (pu_W fd))), am_pl w p 0 (dn (w.2.1 p 0))) := by
  have hW : pu_W fd ≤ 594 := hF.2.2.2.2.2.2.2.2
  unfold f_X0_castDegree
  rw [h13, c_cast (by omega) (by omega), pu_b2]
  exact c_degree (w := am_pl w p 0 (dn (w.2.1 p 0))) hF h7 (dv_lt (by omega))
theorem r_drawDegree (hF : wF fd) (h : rF fd w) (h0 : pu_W fd ≠ 0) : f_X12_drawDegree w = some (nI (pu_dg fd (dv (dn (w.2.1 271 24)) (pu_W fd))), am_pl w 271 24 (dn (w.2.1 271 24))) := by
  have hW : pu_W fd ≤ 594 := hF.2.2.2.2.2.2.2.2
  unfold f_X12_drawDegree
  rw [r_degreesOfAll hF h, pu_b2, r_draw (by omega) (by omega), pu_b2]
  exact r_degree (w := am_pl w 271 24 (dn (w.2.1 271 24))) hF h.2.2.2.2.2.1 (dv_lt (by omega))
/-- the place with a number among those that aren't taken -/
def isF (t num pl : Nat) : Prop := t.testBit pl = false ∧ pu_C (fun i => !t.testBit i) pl = num
theorem isF.uq {t num a b : Nat} (h : isF t num a) (h2 : isF t num b) : a = b := by
  have key : ∀ a b, a < b → isF t num a → isF t num b → False := fun a b hab h h2 => by
    have e1 : pu_C (fun i => !t.testBit i) (a + 1) = num + 1 := by
      rw [pu_C_t (p := fun i => !t.testBit i) (by rw [h.1]; rfl), h.2]
    have e2 : pu_C (fun i => !t.testBit i) (a + 1) ≤ pu_C (fun i => !t.testBit i) b := by
      have := pu_C_add (fun i => !t.testBit i) (a + 1) (b - (a + 1))
      rw [show a + 1 + (b - (a + 1)) = b by omega] at this
      omega
    have := h2.2
    omega
  rcases Nat.lt_trichotomy a b with c | c | c
  · exact (key a b c h h2).elim
  · exact c
  · exact (key b a c h2 h).elim
theorem isF_ex {t num room : Nat} (h : num < pu_C (fun i => !t.testBit i) room) : ∃ pl, pl < room ∧ isF t num pl := by
  induction room with
  | zero => exact absurd h (by show ¬ num < 0; omega)
  | succ r ih =>
    cases e : t.testBit r
    · rw [pu_C_t (p := fun i => !t.testBit i) (by rw [e]; rfl)] at h
      by_cases q : num = pu_C (fun i => !t.testBit i) r
      · exact ⟨r, by omega, e, q.symm⟩
      · obtain ⟨pl, h1, h2⟩ := ih (by omega)
        exact ⟨pl, by omega, h2⟩
    · rw [pu_C_f (p := fun i => !t.testBit i) (by rw [e]; rfl)] at h
      obtain ⟨pl, h1, h2⟩ := ih h
      exact ⟨pl, by omega, h2⟩
def fpl (t num : Nat) : Nat → Nat
  | 0 => 0
  | r + 1 => if t.testBit r = false ∧ pu_C (fun i => !t.testBit i) r = num then r else fpl t num r
theorem fpl_is {t num : Nat} : ∀ {room pl : Nat}, pl < room → isF t num pl → fpl t num room = pl
  | 0, pl, h, _ => by omega
  | r + 1, pl, h, h2 => by
    show (if t.testBit r = false ∧ pu_C (fun i => !t.testBit i) r = num then r else fpl t num r) = pl
    by_cases q : t.testBit r = false ∧ pu_C (fun i => !t.testBit i) r = num
    · rw [if_pos q]; exact isF.uq q h2
    · rw [if_neg q]
      have : pl ≠ r := fun e => q (e ▸ h2)
      exact fpl_is (by omega) h2
theorem pu_C_m {p : Nat → Bool} {a b : Nat} (h : a ≤ b) : pu_C p a ≤ pu_C p b := by
  have := pu_C_add p a (b - a)
  rw [show a + (b - a) = b by omega] at this
  omega
theorem c_freePlace {t room num : Nat} (ht : t < 2 ^ 62) (hr : room ≤ 24) (h : num < pu_C (fun i => !t.testBit i) room) : f_X2_freePlace (lN t) (nI room) (nI num) w = some (nI (fpl t num room), w) := by
  obtain ⟨pl, h1, h2⟩ := isF_ex h
  rw [fpl_is h1 h2]
  unfold f_X2_freePlace f_X2_freePlace_6
  have hle : ∀ i, i ≤ pl → pu_C (fun i => !t.testBit i) i ≤ num := fun i hi => by rw [← h2.2]; exact pu_C_m hi
  have hnum : num ≤ 24 := by have := pu_C_le (fun i => !t.testBit i) room; omega
  refine pu_tr (fun i => (nI (num - pu_C (fun i => !t.testBit i) i), nI i, w)) pl rfl (by omega) (fun i hi => ?_) ?_
  · have hl := hle i (by omega)
    have hl1 := hle (i + 1) (by omega)
    unfold f_X2_freePlace_6b f_X2_freePlace_34
    cases e : t.testBit i
    · rw [pu_C_t (p := fun i => !t.testBit i) (by rw [e]; rfl)] at hl1 ⊢
      simp (disch := omega) only [pv_v, pv_b2, pv_b1, pv_x, pv_lit, pv_ofN, pu_chk, pu_cl, nI_add, pk_mul, nI_leI, nI_ltI, nI_eq, pu_nar0, pu_nar1, pu_narb, bI_0, bI_1, ↓reduceIte, pu_leT, pu_leF, pu_ltT, pu_ltF, pu_eqT, pu_eqF, pu_x1, pu_x2, pu_x3, pu_x4, pu_x5, pu_x6, pu_x7, pu_x8, Nat.zero_add, pu_m31I, pu_m31, pu_shlI, eq_self, Bool.false_eq_true, Bool.true_eq_false, pu_litL0, pu_litL1, lr_0, e]
      rw [show nI (num - pu_C (fun i => !t.testBit i) i) + -nI 1 = nI (num - (pu_C (fun i => !t.testBit i) i + 1)) by rw [← Int32.sub_eq_add_neg, pk_sub (by omega), Nat.sub_sub]]
    · rw [pu_C_f (p := fun i => !t.testBit i) (by rw [e]; rfl)] at hl1 ⊢
      simp (disch := omega) only [pv_v, pv_b2, pv_b1, pv_x, pv_lit, pv_ofN, pu_chk, pu_cl, nI_add, pk_mul, nI_leI, nI_ltI, nI_eq, pu_nar0, pu_nar1, pu_narb, bI_0, bI_1, ↓reduceIte, pu_leT, pu_leF, pu_ltT, pu_ltF, pu_eqT, pu_eqF, pu_x1, pu_x2, pu_x3, pu_x4, pu_x5, pu_x6, pu_x7, pu_x8, Nat.zero_add, pu_m31I, pu_m31, pu_shlI, eq_self, Bool.false_eq_true, Bool.true_eq_false, pu_litL0, pu_litL1, lr_0, e]
  · have e := h2.1
    have e2 := h2.2
    unfold f_X2_freePlace_6b
    rw [e2, Nat.sub_self]
    simp (disch := omega) only [pv_v, pv_b2, pv_b1, pv_x, pv_lit, pv_ofN, pu_chk, pu_cl, nI_add, pk_mul, nI_leI, nI_ltI, nI_eq, pu_nar0, pu_nar1, pu_narb, bI_0, bI_1, ↓reduceIte, pu_leT, pu_leF, pu_ltT, pu_ltF, pu_eqT, pu_eqF, pu_x1, pu_x2, pu_x3, pu_x4, pu_x5, pu_x6, pu_x7, pu_x8, Nat.zero_add, pu_m31I, pu_m31, pu_shlI, eq_self, Bool.false_eq_true, Bool.true_eq_false, pu_litL0, pu_litL1, lr_0, e]
/-- the draws of a USER: how far, and what is drawn -/
def dq (fd : Nat → Nat → Nat) (u : Nat) (x : Int64) : Nat → Int64 × Nat
  | 0 => (dn x, 0)
  | h + 1 => (dn (dq fd u x h).1, (dq fd u x h).2 ||| 2 ^ fpl (dq fd u x h).2 (dv (dn (dq fd u x h).1) (pu_up fd u - pu_lo fd u - h)) (pu_up fd u - pu_lo fd u))
theorem dq_s {u h : Nat} {x : Int64} : dq fd u x (h + 1) = (dn (dq fd u x h).1, (dq fd u x h).2 ||| 2 ^ fpl (dq fd u x h).2 (dv (dn (dq fd u x h).1) (pu_up fd u - pu_lo fd u - h)) (pu_up fd u - pu_lo fd u)) := rfl
def pu_many (fd : Nat → Nat → Nat) (u : Nat) (x : Int64) : Nat := min (pu_dg fd (dv (dn x) (pu_W fd))) (pu_up fd u - pu_lo fd u)
/-- what is drawn -/
def dqs (fd : Nat → Nat → Nat) (u : Nat) (x : Int64) (h : Nat) : Nat := (dq fd u x h).2
theorem dqs_e {u h : Nat} {x : Int64} : dqs fd u x h = (dq fd u x h).2 := rfl
def pu_dw (fd : Nat → Nat → Nat) (u : Nat) (x : Int64) : Nat := dqs fd u x (pu_many fd u x)
theorem dw_e {u : Nat} {x : Int64} {h : Nat} (hh : pu_many fd u x = h) : pu_dw fd u x = (dq fd u x h).2 := by
  unfold pu_dw
  rw [hh]
  exact dqs_e
theorem C_not {t n : Nat} : pu_C (fun i => !t.testBit i) n + pu_C (fun i => t.testBit i) n = n := by
  induction n with
  | zero => rfl
  | succ n ih =>
    rw [pu_C_succ, pu_C_succ]
    cases t.testBit n
    · simp; omega
    · simp; omega
theorem dq_ok {u : Nat} {x : Int64} {W : Nat} (hW : W = pu_up fd u - pu_lo fd u) : ∀ {h : Nat}, h ≤ W → (dq fd u x h).2 < 2 ^ W ∧ pu_C (fun i => (dq fd u x h).2.testBit i) W = h
  | 0, _ => ⟨Nat.two_pow_pos _, pu_C_zero (fun u _ => Nat.zero_testBit u)⟩
  | h + 1, hh => by
    obtain ⟨i1, i2⟩ := dq_ok (x := x) hW (h := h) (by omega)
    have hn := C_not (t := (dq fd u x h).2) (n := W)
    have hd := dv_lt (x := dn (dq fd u x h).1) (m := W - h) (by omega)
    obtain ⟨pl, p1, p2⟩ := isF_ex (t := (dq fd u x h).2) (num := dv (dn (dq fd u x h).1) (W - h)) (room := W) (by omega)
    rw [dq_s, ← hW, fpl_is p1 p2]
    refine ⟨Nat.or_lt_two_pow i1 (pu_p2 p1), ?_⟩
    have key : ∀ n, pu_C (fun i => ((dq fd u x h).2 ||| 2 ^ pl).testBit i) n = pu_C (fun i => (dq fd u x h).2.testBit i) n + if pl < n then 1 else 0 := by
      intro n
      induction n with
      | zero => rfl
      | succ n ihn =>
        rw [pu_C_succ, pu_C_succ, ihn, Nat.testBit_or, pu_p_bit]
        by_cases e : pl = n
        · subst e
          rw [p2.1, if_neg (Nat.lt_irrefl _), if_pos (Nat.lt_succ_self _)]; simp
        · rw [decide_eq_false e, Bool.or_false]
          by_cases q : pl < n
          · rw [if_pos q, if_pos (show pl < n + 1 by omega)]; omega
          · rw [if_neg q, if_neg (show ¬ pl < n + 1 by omega)]; omega
    rw [key W, if_pos p1, i2]
end DRAW
