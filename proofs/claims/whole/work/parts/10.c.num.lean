/-! pure part: counts of bits, lowest and highest ones (wip/whole/pure/10.c.num.src) -/
def bc_e (a : Int32) : Int32 := ((f_J6_bitCount_0f7a4 a am_w0).getD (0, am_w0)).1
theorem bc_f (a : Int32) (w : am_S) : f_J6_bitCount_0f7a4 a w = some (bc_e a, w) := rfl
theorem bc_all : ∀ a, a < 1024 → bc_e (nI a) = nI (cn a) := by decide +kernel
theorem c_bitCount {a : Nat} (w : am_S) (h : a < 1024) : f_J6_bitCount_0f7a4 (nI a) w = some (nI (cn a), w) := by rw [bc_f, bc_all a h]
def tz_e (a : Int32) : Int32 := ((f_J6_numberOfTrailingZeros_0f7a4 a am_w0).getD (0, am_w0)).1
theorem tz_f (a : Int32) (w : am_S) : f_J6_numberOfTrailingZeros_0f7a4 a w = some (tz_e a, w) := by
  unfold tz_e f_J6_numberOfTrailingZeros_0f7a4 f_J6_numberOfTrailingZeros_0f7a4_34 f_J6_numberOfTrailingZeros_0f7a4_49 f_J6_numberOfTrailingZeros_0f7a4_62 f_J6_numberOfTrailingZeros_0f7a4_74
  simp only [pu_v]
  repeat' split
  all_goals rfl
/-- the lowest of a set -/
def isL (m u : Nat) : Prop := m.testBit u = true ∧ ∀ j, j < u → m.testBit j = false
theorem isL.uq {m u v : Nat} (h : isL m u) (h2 : isL m v) : u = v := by
  rcases Nat.lt_trichotomy u v with c | c | c
  · have := h2.2 u c; rw [h.1] at this; cases this
  · exact c
  · have := h.2 v c; rw [h2.1] at this; cases this
theorem tz_all : ∀ a, a < 1024 → a ≠ 0 → ∃ u, u < 10 ∧ tz_e (nI a) = nI u ∧ a.testBit u = true ∧ ∀ j, j < u → a.testBit j = false := by decide +kernel
theorem c_lowest {a : Nat} (w : am_S) (h : a < 1024) (h0 : a ≠ 0) : ∃ u, u < 10 ∧ isL a u ∧ f_J6_numberOfTrailingZeros_0f7a4 (nI a) w = some (nI u, w) := by
  obtain ⟨u, h1, h2, h3, h4⟩ := tz_all a h h0
  exact ⟨u, h1, ⟨h3, h4⟩, by rw [tz_f, h2]⟩
def lz_e (a : Int32) : Int32 := ((f_J6_numberOfLeadingZeros_0f7a4 a am_w0).getD (0, am_w0)).1
theorem lz_f (a : Int32) (w : am_S) : f_J6_numberOfLeadingZeros_0f7a4 a w = some (lz_e a, w) := by
  unfold lz_e f_J6_numberOfLeadingZeros_0f7a4 f_J6_numberOfLeadingZeros_0f7a4_14 f_J6_numberOfLeadingZeros_0f7a4_33 f_J6_numberOfLeadingZeros_0f7a4_48 f_J6_numberOfLeadingZeros_0f7a4_61 f_J6_numberOfLeadingZeros_0f7a4_73
  simp only [pu_v]
  repeat' split
  all_goals rfl
theorem lz_all : ∀ a, a < 1024 → a ≠ 0 → ∃ u, u < 10 ∧ lz_e (nI a) = nI (31 - u) ∧ a.testBit u = true ∧ ∀ j, j < 10 → u < j → a.testBit j = false := by decide +kernel
/-! the count of bits of a long -/
theorem by_bit {l h c M : Nat} (hl : l < 256) (hc : c < 256) : (256 * h + l) &&& (256 * M + c) = 256 * (h &&& M) + (l &&& c) := by
  have hlc : l &&& c < 2 ^ 8 := Nat.lt_of_le_of_lt Nat.and_le_left hl
  apply Nat.eq_of_testBit_eq
  intro j
  have e1 := Nat.testBit_two_pow_mul_add h (b := l) (i := 8) hl j
  have e2 := Nat.testBit_two_pow_mul_add M (b := c) (i := 8) hc j
  have e3 := Nat.testBit_two_pow_mul_add (h &&& M) (b := l &&& c) (i := 8) hlc j
  rw [show (2 : Nat) ^ 8 = 256 by decide] at e1 e2 e3
  rw [Nat.testBit_and, e1, e2, e3]
  split
  · rw [Nat.testBit_and]
  · rw [Nat.testBit_and]
/-- a number out of its bytes; a mask of k bytes -/
def by_v : List Nat → Nat
  | [] => 0
  | b :: t => 256 * by_v t + b
def by_m (c : Nat) : Nat → Nat
  | 0 => 0
  | k + 1 => 256 * by_m c k + c
def by_ok (bs : List Nat) : Prop := ∀ b ∈ bs, b < 256
theorem by_a1_all : ∀ y, y < 2 → ∀ b, b < 256 → (128 * y + b / 2) &&& 85 = (b / 2) &&& 85 := by decide +kernel
theorem by_a2_all : ∀ y, y < 4 → ∀ b, b < 256 → (64 * y + b / 4) &&& 51 = (b / 4) &&& 51 := by decide +kernel
def by_1 (b : Nat) : Nat := b - ((b / 2) &&& 85)
def by_2 (b : Nat) : Nat := (b &&& 51) + ((b / 4) &&& 51)
def by_3 (b : Nat) : Nat := (b + b / 16) % 16
theorem by_s1 : ∀ (bs : List Nat), by_ok bs → (by_v bs / 2) &&& by_m 85 bs.length ≤ by_v bs ∧ by_v bs - ((by_v bs / 2) &&& by_m 85 bs.length) = by_v (bs.map by_1)
  | [], _ => by decide
  | b :: t, h => by
    have hb : b < 256 := h b (by simp)
    obtain ⟨i1, i2⟩ := by_s1 t (fun x hx => h x (by simp [hx]))
    have e : (256 * by_v t + b) / 2 = 256 * (by_v t / 2) + (128 * (by_v t % 2) + b / 2) := by omega
    have k1 : ((256 * by_v t + b) / 2) &&& (256 * by_m 85 t.length + 85) = 256 * ((by_v t / 2) &&& by_m 85 t.length) + ((b / 2) &&& 85) := by
      rw [e, by_bit (by omega) (by decide), by_a1_all _ (by omega) b hb]
    have k2 : (b / 2) &&& 85 ≤ b := Nat.le_trans Nat.and_le_left (by omega)
    show ((256 * by_v t + b) / 2) &&& (256 * by_m 85 t.length + 85) ≤ 256 * by_v t + b ∧ 256 * by_v t + b - (((256 * by_v t + b) / 2) &&& (256 * by_m 85 t.length + 85)) = 256 * by_v (t.map by_1) + by_1 b
    rw [k1, ← i2]
    unfold by_1
    omega
theorem by_s2 : ∀ (bs : List Nat), by_ok bs → (by_v bs &&& by_m 51 bs.length) + ((by_v bs / 4) &&& by_m 51 bs.length) = by_v (bs.map by_2)
  | [], _ => by decide
  | b :: t, h => by
    have hb : b < 256 := h b (by simp)
    have i2 := by_s2 t (fun x hx => h x (by simp [hx]))
    have e : (256 * by_v t + b) / 4 = 256 * (by_v t / 4) + (64 * (by_v t % 4) + b / 4) := by omega
    show ((256 * by_v t + b) &&& (256 * by_m 51 t.length + 51)) + (((256 * by_v t + b) / 4) &&& (256 * by_m 51 t.length + 51)) = 256 * by_v (t.map by_2) + by_2 b
    rw [e, by_bit hb (by decide), by_bit (by omega) (by decide), by_a2_all _ (by omega) b hb, ← i2]
    unfold by_2
    omega
theorem by_n : ∀ (bs : List Nat), (∀ b ∈ bs, b % 16 ≤ 4) → by_v bs % 16 ≤ 4
  | [], _ => by decide
  | b :: t, h => by
    have := h b (by simp)
    show (256 * by_v t + b) % 16 ≤ 4
    omega
theorem by_s3 : ∀ (bs : List Nat), (∀ b ∈ bs, b % 16 ≤ 4 ∧ b / 16 ≤ 4) → (by_v bs + by_v bs / 16) &&& by_m 15 bs.length = by_v (bs.map by_3)
  | [], _ => by decide
  | b :: t, h => by
    have hb := h b (by simp)
    have i2 := by_s3 t (fun x hx => h x (by simp [hx]))
    have hn := by_n t (fun x hx => (h x (by simp [hx])).1)
    have e : 256 * by_v t + b + (256 * by_v t + b) / 16 = 256 * (by_v t + by_v t / 16) + (16 * (by_v t % 16) + b + b / 16) := by omega
    show (256 * by_v t + b + (256 * by_v t + b) / 16) &&& (256 * by_m 15 t.length + 15) = 256 * by_v (t.map by_3) + by_3 b
    have k := Nat.and_two_pow_sub_one_eq_mod (16 * (by_v t % 16) + b + b / 16) 4
    rw [show (2 : Nat) ^ 4 - 1 = 15 by decide] at k
    rw [e, by_bit (by omega) (by decide), i2, k]
    unfold by_3
    omega
theorem by_pc : ∀ b, b < 256 → by_1 b < 256 ∧ by_2 (by_1 b) % 16 ≤ 4 ∧ by_2 (by_1 b) / 16 ≤ 4 ∧ by_3 (by_2 (by_1 b)) = pu_C (fun u => b.testBit u) 8 := by decide +kernel
theorem by_list (x : Nat) (hx : x < 2 ^ 48) : ∃ b0 b1 b2 b3 b4 b5, b0 < 256 ∧ b1 < 256 ∧ b2 < 256 ∧ b3 < 256 ∧ b4 < 256 ∧ b5 < 256 ∧ x = by_v [b0, b1, b2, b3, b4, b5, 0, 0] ∧ b0 = x % 256 ∧ b1 = x / 2 ^ 8 % 256 ∧ b2 = x / 2 ^ 16 % 256 ∧ b3 = x / 2 ^ 24 % 256 ∧ b4 = x / 2 ^ 32 % 256 ∧ b5 = x / 2 ^ 40 % 256 := by
  refine ⟨_, _, _, _, _, _, ?_, ?_, ?_, ?_, ?_, ?_, ?_, rfl, rfl, rfl, rfl, rfl, rfl⟩
  all_goals try simp only [by_v]
  all_goals omega
theorem pu_C8 {x k : Nat} : pu_C (fun u => (x / 2 ^ k % 256).testBit u) 8 = pu_C (fun u => x.testBit (k + u)) 8 := pu_C_cong (fun u hu => by
  rw [show 256 = 2 ^ 8 by decide, Nat.testBit_mod_two_pow, decide_eq_true hu, Bool.true_and, Nat.testBit_div_two_pow, Nat.add_comm])
/-- how many of the first 48 -/
def cL (x : Nat) : Nat := pu_C (fun u => x.testBit u) 48
theorem cL_6 (x : Nat) : cL x = pu_C (fun u => (x % 256).testBit u) 8 + pu_C (fun u => (x / 2 ^ 8 % 256).testBit u) 8 + pu_C (fun u => (x / 2 ^ 16 % 256).testBit u) 8 + pu_C (fun u => (x / 2 ^ 24 % 256).testBit u) 8 + pu_C (fun u => (x / 2 ^ 32 % 256).testBit u) 8 + pu_C (fun u => (x / 2 ^ 40 % 256).testBit u) 8 := by
  have h0 : pu_C (fun u => (x % 256).testBit u) 8 = pu_C (fun u => x.testBit u) 8 := by
    have := pu_C8 (x := x) (k := 0)
    rw [Nat.pow_zero, Nat.div_one] at this
    rw [this]
    exact pu_C_cong (fun u _ => by rw [Nat.zero_add])
  rw [h0, pu_C8, pu_C8, pu_C8, pu_C8, pu_C8]
  unfold cL
  rw [show 48 = 8 + (8 + (8 + (8 + (8 + 8)))) by decide, pu_C_add, pu_C_add, pu_C_add, pu_C_add, pu_C_add]
  have e2 : ∀ k, pu_C (fun u => x.testBit (8 + (8 + u))) k = pu_C (fun u => x.testBit (16 + u)) k := fun k => pu_C_cong (fun u _ => by congr 1; omega)
  have e3 : ∀ k, pu_C (fun u => x.testBit (8 + (8 + (8 + u)))) k = pu_C (fun u => x.testBit (24 + u)) k := fun k => pu_C_cong (fun u _ => by congr 1; omega)
  have e4 : ∀ k, pu_C (fun u => x.testBit (8 + (8 + (8 + (8 + u))))) k = pu_C (fun u => x.testBit (32 + u)) k := fun k => pu_C_cong (fun u _ => by congr 1; omega)
  have e5 : ∀ k, pu_C (fun u => x.testBit (8 + (8 + (8 + (8 + (8 + u)))))) k = pu_C (fun u => x.testBit (40 + u)) k := fun k => pu_C_cong (fun u _ => by congr 1; omega)
  rw [e2, e3, e4, e5]
  omega
theorem lN_ofInt64 (n : Nat) : (OfNat.ofNat n : Int64) = lN n := rfl
theorem lu_N {a k : Nat} (ha : a < 2 ^ 64) (hk : k < 64) : am_lushr (lN a) (nI k) = lN (a / 2 ^ k) := wb_shr ha hk
theorem pu_C8_le (b : Nat) : pu_C (fun u => b.testBit u) 8 ≤ 8 := pu_C_le _ 8
theorem c_bitCountL {x : Nat} (w : am_S) (hx : x < 2 ^ 48) : f_J13_bitCount_95d88 (lN x) w = some (nI (cL x), w) := by
  obtain ⟨b0, b1, b2, b3, b4, b5, h0, h1, h2, h3, h4, h5, hv, g0, g1, g2, g3, g4, g5⟩ := by_list x hx
  have hok : by_ok [b0, b1, b2, b3, b4, b5, 0, 0] := by
    intro b hb
    simp only [List.mem_cons, List.not_mem_nil, or_false] at hb
    omega
  have m1 : by_m 85 [b0, b1, b2, b3, b4, b5, 0, 0].length = 6148914691236517205 := by show by_m 85 8 = _; decide +kernel
  have m2 : by_m 51 [by_1 b0, by_1 b1, by_1 b2, by_1 b3, by_1 b4, by_1 b5, by_1 0, by_1 0].length = 3689348814741910323 := by show by_m 51 8 = _; decide +kernel
  have m3 : by_m 15 [by_2 (by_1 b0), by_2 (by_1 b1), by_2 (by_1 b2), by_2 (by_1 b3), by_2 (by_1 b4), by_2 (by_1 b5), by_2 (by_1 0), by_2 (by_1 0)].length = 1085102592571150095 := by show by_m 15 8 = _; decide +kernel
  have p0 := by_pc b0 h0
  have p1 := by_pc b1 h1
  have p2 := by_pc b2 h2
  have p3 := by_pc b3 h3
  have p4 := by_pc b4 h4
  have p5 := by_pc b5 h5
  have pz := by_pc 0 (by decide)
  obtain ⟨s1a, s1⟩ := by_s1 _ hok
  rw [m1, ← hv] at s1 s1a
  have s2 := by_s2 ([b0, b1, b2, b3, b4, b5, 0, 0].map by_1) (by
    intro b hb
    simp only [List.map_cons, List.map_nil, List.mem_cons, List.not_mem_nil, or_false] at hb
    omega)
  have s3 := by_s3 (([b0, b1, b2, b3, b4, b5, 0, 0].map by_1).map by_2) (by
    intro b hb
    simp only [List.map_cons, List.map_nil, List.mem_cons, List.not_mem_nil, or_false] at hb
    rcases hb with rfl | rfl | rfl | rfl | rfl | rfl | rfl | rfl
    · exact ⟨p0.2.1, p0.2.2.1⟩
    · exact ⟨p1.2.1, p1.2.2.1⟩
    · exact ⟨p2.2.1, p2.2.2.1⟩
    · exact ⟨p3.2.1, p3.2.2.1⟩
    · exact ⟨p4.2.1, p4.2.2.1⟩
    · exact ⟨p5.2.1, p5.2.2.1⟩
    · exact ⟨pz.2.1, pz.2.2.1⟩
    · exact ⟨pz.2.1, pz.2.2.1⟩)
  have hc := cL_6 x
  rw [← g0, ← g1, ← g2, ← g3, ← g4, ← g5, ← p0.2.2.2, ← p1.2.2.2, ← p2.2.2.2, ← p3.2.2.2, ← p4.2.2.2, ← p5.2.2.2] at hc
  have q0 := pu_C8_le b0
  have q1 := pu_C8_le b1
  have q2 := pu_C8_le b2
  have q3 := pu_C8_le b3
  have q4 := pu_C8_le b4
  have q5 := pu_C8_le b5
  rw [← p0.2.2.2] at q0
  rw [← p1.2.2.2] at q1
  rw [← p2.2.2.2] at q2
  rw [← p3.2.2.2] at q3
  rw [← p4.2.2.2] at q4
  rw [← p5.2.2.2] at q5
  simp only [List.map_cons, List.map_nil] at s2 s3 s1
  rw [m2] at s2
  rw [m3] at s3
  have z3 : by_3 (by_2 (by_1 0)) = 0 := by decide
  generalize hA : by_v [by_1 b0, by_1 b1, by_1 b2, by_1 b3, by_1 b4, by_1 b5, by_1 0, by_1 0] = A at *
  generalize hB : by_v [by_2 (by_1 b0), by_2 (by_1 b1), by_2 (by_1 b2), by_2 (by_1 b3), by_2 (by_1 b4), by_2 (by_1 b5), by_2 (by_1 0), by_2 (by_1 0)] = B at *
  have hA2 : A < 2 ^ 64 := by omega
  have hB2 : B < 2 ^ 63 := by
    rw [← hB]
    have z2 : by_2 (by_1 0) = 0 := by decide
    have y0 := p0.2
    have y1 := p1.2
    have y2 := p2.2
    have y3 := p3.2
    have y4 := p4.2
    have y5 := p5.2
    simp only [by_v, z2]
    omega
  rw [z3] at s3
  generalize by_3 (by_2 (by_1 b0)) = c0 at *
  generalize by_3 (by_2 (by_1 b1)) = c1 at *
  generalize by_3 (by_2 (by_1 b2)) = c2 at *
  generalize by_3 (by_2 (by_1 b3)) = c3 at *
  generalize by_3 (by_2 (by_1 b4)) = c4 at *
  generalize by_3 (by_2 (by_1 b5)) = c5 at *
  unfold f_J13_bitCount_95d88
  simp only [pu_v, pu_lit, lN_ofInt64]
  rw [lu_N (by omega) (by decide), fb_andL, Nat.pow_one, lN_sub s1a, s1, lu_N hA2 (by decide), fb_andL, fb_andL, lN_add, show (2 : Nat) ^ 2 = 4 by decide, s2, lu_N (by omega) (by decide), lN_add, fb_andL, show (2 : Nat) ^ 4 = 16 by decide, s3]
  simp only [by_v]
  generalize hC : 256 * (256 * (256 * (256 * (256 * (256 * (256 * (256 * 0 + 0) + 0) + c5) + c4) + c3) + c2) + c1) + c0 = C
  have hC2 : C / 2 ^ 8 = 256 * (256 * (256 * (256 * c5 + c4) + c3) + c2) + c1 := by omega
  rw [lu_N (by omega) (by decide), lN_add, hC2]
  generalize hD : C + (256 * (256 * (256 * (256 * c5 + c4) + c3) + c2) + c1) = D
  have hD2 : D / 2 ^ 16 = 256 * (256 * (256 * c5 + (c5 + c4)) + (c4 + c3)) + (c3 + c2) := by omega
  rw [lu_N (by omega) (by decide), lN_add, hD2]
  generalize hE : D + (256 * (256 * (256 * c5 + (c5 + c4)) + (c4 + c3)) + (c3 + c2)) = E
  have hE2 : E / 2 ^ 32 = 256 * (c5) + (c5 + c4) := by omega
  rw [lu_N (by omega) (by decide), lN_add, lN_i, pu_and, hc]
  have k := Nat.and_two_pow_sub_one_eq_mod (E + E / 2 ^ 32) 7
  rw [show (2 : Nat) ^ 7 - 1 = 127 by decide] at k
  rw [k, hE2]
  congr 3
  omega
theorem cL_le (x : Nat) : cL x ≤ 48 := pu_C_le _ 48
