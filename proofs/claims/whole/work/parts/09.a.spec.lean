/-! pure part: the abstract FIELD (fd) and state (st); both sides' views of them (wip/whole/pure/09.a.spec.src)
fd 0: USERS, SLOTS, FRAMES, NOISE; 1 POWER, 2 FAR, 3 FRAME of a USER, 4 WEIGHT of k. st 0 how a USER is known, 1 its COPIES as bits, 2 0 CAPTURE, 3 how many on a SHELF, 4 who lies at 10 * SHELF + place -/
def wF (fd : Nat → Nat → Nat) : Prop := (fd 0 0) ≤ 10 ∧ (fd 0 1) ≤ 12 ∧ (fd 0 2) ≤ 4 ∧ (0 < (fd 0 0) → 2 ≤ (fd 0 1) ∧ 1 ≤ (fd 0 2)) ∧ (fd 0 3) ≤ 99 ∧ (∀ u, u < (fd 0 0) → 1 ≤ fd 1 u ∧ fd 1 u ≤ 99 ∧ 1 ≤ fd 2 u ∧ fd 2 u ≤ 9 ∧ fd 3 u < (fd 0 2)) ∧ (∀ k, fd 4 k ≤ 594) ∧ ((fd 0 0) = 0 → ∀ k, fd 4 k = 0)
/-- where SLOTS of a USER begin, and end -/
def pu_lo (fd : Nat → Nat → Nat) (u : Nat) : Nat := fd 3 u * (fd 0 1)
def pu_up (fd : Nat → Nat → Nat) (u : Nat) : Nat := (if fd 3 u + 1 < (fd 0 2) then fd 3 u + 2 else (fd 0 2)) * (fd 0 1)
def wS (fd st : Nat → Nat → Nat) : Prop := (st 2 0) ≤ 99 ∧ (∀ u, st 0 u ≤ 3) ∧ (∀ u, (fd 0 0) ≤ u → st 0 u = 0 ∧ st 1 u = 0) ∧ (∀ u s, (st 1 u).testBit s = true → u < (fd 0 0) ∧ pu_lo fd u ≤ s ∧ s < pu_up fd u) ∧ (∀ j, st 3 j ≤ 10)
/-- STRENGTH -/
def pu_f (fd : Nat → Nat → Nat) (u : Nat) : UInt32 := FP.fdiv (FP.fdiv (FP.fdiv (FP.i2f (nI (fd 1 u))) (1092616192 : UInt32)) (FP.i2f (nI (fd 2 u)))) (FP.i2f (nI (fd 2 u)))
/-- a number of tenths -/
def pu_t (c : Nat) : UInt32 := FP.fdiv (FP.i2f (nI c)) (1092616192 : UInt32)
/-- DIN of a set, of its USERS below i -/
def pu_d (fd : Nat → Nat → Nat) (m : Nat) : Nat → UInt32
  | 0 => pu_t (fd 0 3)
  | i + 1 => if m.testBit i then FP.fadd (pu_d fd m i) (pu_f fd i) else pu_d fd m i
/-- whether one is CLEAR by CAPTURE c, others o UNKNOWN in its SLOT -/
def pu_q (fd : Nat → Nat → Nat) (c o u : Nat) : Bool := if c = 0 then o == 0 else !(decide (Op.cmpValue (FP.fcmp (pu_f fd u) (FP.fmul (pu_t c) (pu_d fd o (fd 0 0)))) .l < 0))
/-- who is CLEAR in a SLOT with this crowd -/
def pu_k (fd : Nat → Nat → Nat) (c m : Nat) : Nat := pu_S (fun u => m.testBit u && pu_q fd c (pu_sd m (2 ^ u)) u) (fd 0 0)
/-- who has a COPY in a SLOT; who is UNKNOWN -/
def pu_o (fd st : Nat → Nat → Nat) (s : Nat) : Nat := pu_S (fun u => (st 1 u).testBit s) (fd 0 0)
def pu_u (fd st : Nat → Nat → Nat) : Nat := pu_S (fun u => st 0 u == 0) (fd 0 0)
def rS (st : Nat → Nat → Nat) (g : Nat → Int32) : Prop := (∀ u, u < 10 → g u = nI (st 0 u)) ∧ (∀ u, u < 10 → g (10 + u) = nI (st 1 u % 16777216)) ∧ (∀ u, u < 10 → g (20 + u) = nI (st 1 u / 16777216)) ∧ g 30 = nI (st 2 0) ∧ (∀ j, j < 3 → g (31 + 11 * j) = nI (st 3 j)) ∧ (∀ j i, j < 3 → i < st 3 j → g (32 + 11 * j + i) = nI (st 4 (10 * j + i)))
def rF (fd : Nat → Nat → Nat) (w : am_S) : Prop := w.1 271 13 = nI (fd 0 0) ∧ w.1 276 0 = nI (fd 0 1) ∧ w.1 276 1 = nI (fd 0 2) ∧ w.1 276 3 = nI (fd 0 3) ∧ (∀ u, u < (fd 0 0) → w.1 277 (5 * u) = nI (fd 1 u) ∧ w.1 277 (5 * u + 1) = nI (fd 2 u) ∧ w.1 277 (5 * u + 2) = nI (fd 3 u)) ∧ (∀ k, 1 ≤ k → k ≤ 6 → w.1 278 k = nI (fd 4 k)) ∧ (∀ u, u < (fd 0 0) → w.2.2 283 u = pu_f fd u)
/-- the reference's side of FIELD and state; jm: the JAMMED SLOTS -/
def rQ (fd st : Nat → Nat → Nat) (jm : Nat) (w : am_S) : Prop := wF fd ∧ wS fd st ∧ rF fd w ∧ rS st (w.1 281) ∧ w.2.1 271 20 = lN jm ∧ jm < 2 ^ 48
/-- all but some places is as it was -/
def eqx (A : List Nat) (w w' : am_S) : Prop := ∀ q, q ∉ A → w'.1 q = w.1 q ∧ w'.2.1 q = w.2.1 q ∧ w'.2.2 q = w.2.2 q
theorem eqx.rf {A : List Nat} {w : am_S} : eqx A w w := fun _ _ => ⟨rfl, rfl, rfl⟩
theorem eqx.tr {A B C : List Nat} {w w' w'' : am_S} (h : eqx A w w') (h2 : eqx B w' w'') (hA : ∀ q, q ∉ C → q ∉ A ∧ q ∉ B) : eqx C w w'' := fun q hq => by
  obtain ⟨a1, a2⟩ := hA q hq
  obtain ⟨b1, b2, b3⟩ := h q a1
  obtain ⟨c1, c2, c3⟩ := h2 q a2
  exact ⟨c1.trans b1, c2.trans b2, c3.trans b3⟩
theorem eqx.on {A : List Nat} {w w' w'' : am_S} (h : eqx A w w') (h2 : eqx A w' w'') : eqx A w w'' := h.tr h2 (fun _ h => ⟨h, h⟩)
theorem eqx.up {A B : List Nat} {w w' : am_S} (h : eqx A w w') (hA : ∀ q, q ∉ B → q ∉ A) : eqx B w w' := fun q hq => h q (hA q hq)
theorem eqx.pi {A : List Nat} {w : am_S} {p k : Nat} {v : Int32} (h : p ∈ A) : eqx A w (am_pi w p k v) := fun q hq => am_pi_oth q (fun e => hq (e ▸ h))
theorem eqx.pl {A : List Nat} {w : am_S} {p k : Nat} {v : Int64} (h : p ∈ A) : eqx A w (am_pl w p k v) := fun q hq => am_pl_oth q (fun e => hq (e ▸ h))
theorem eqx.pf {A : List Nat} {w : am_S} {p k : Nat} {v : UInt32} (h : p ∈ A) : eqx A w (am_pf w p k v) := fun q hq => am_pf_oth q (fun e => hq (e ▸ h))
theorem am_pi_same {w : am_S} {p k : Nat} {v : Int32} : (am_pi w p k v).1 p k = v := by simp [am_pi]
theorem am_pi_ne {w : am_S} {p k q j : Nat} {v : Int32} (h : ¬ (q = p ∧ j = k)) : (am_pi w p k v).1 q j = w.1 q j := by
  show (if q = p ∧ j = k then v else w.1 q j) = _
  rw [if_neg h]
/-- an argument that is one of the first n numbers -/
def pu_in (x : Int32) (n : Nat) : Bool := decide (0 ≤ x.toInt ∧ x.toInt < n)
theorem pu_in_t {x : Int32} {n : Nat} (h : pu_in x n = true) : ∃ j, j < n ∧ j < 2 ^ 31 ∧ x = nI j := by
  obtain ⟨h1, h2⟩ := of_decide_eq_true h
  have hx := Int32.toInt_lt x
  refine ⟨x.toInt.toNat, by omega, by omega, Int32.toInt_inj.mp ?_⟩
  rw [nI_toInt (by omega)]
  omega
theorem pu_in_n {j n : Nat} (h : j < n) (h2 : j < 2 ^ 31) : pu_in (nI j) n = true := decide_eq_true (by rw [nI_toInt h2]; omega)
theorem pu_bit_ne {m u : Nat} (h : m.testBit u = true) : m ≠ 0 := by
  intro e
  rw [e, Nat.zero_testBit] at h
  cases h
theorem pu_ne_bit {m : Nat} (h : m ≠ 0) : ∃ u, m.testBit u = true := by
  rcases Nat.eq_zero_or_pos m with z | z
  · exact absurd z h
  · exact Nat.exists_testBit_of_ne_zero h
theorem pu_zero_bit {m : Nat} (h : ∀ u, m.testBit u = false) : m = 0 := Nat.eq_of_testBit_eq (fun i => by rw [h i, Nat.zero_testBit])
theorem pu_p_bit (u i : Nat) : (2 ^ u).testBit i = decide (u = i) := Nat.testBit_two_pow
