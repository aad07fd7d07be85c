/-! pure part: loops, tests, numbers (wip/whole/pure/08.a.base.src) -/
theorem pu_trace {σ β : Type} {B : σ → Option (β ⊕ σ)} (st : Nat → σ) (N : Nat) {b : β} (hs : ∀ i, i < N → B (st i) = some (.inr (st (i + 1)))) (he : B (st N) = some (.inl b)) {n : Nat} (hn : N < n) : am_loop B n (st 0) = some b := by
  have key : ∀ (d k n : Nat), k + d = N → d < n → am_loop B n (st k) = some b := by
    intro d
    induction d with
    | zero =>
      intro k n hk hn
      obtain ⟨n, rfl⟩ : ∃ m, n = m + 1 := ⟨n - 1, by omega⟩
      have : k = N := by omega
      subst this
      unfold am_loop
      rw [he]
    | succ d ih =>
      intro k n hk hn
      obtain ⟨n, rfl⟩ : ∃ m, n = m + 1 := ⟨n - 1, by omega⟩
      unfold am_loop
      rw [hs k (by omega)]
      exact ih (k + 1) n (by omega) (by omega)
  exact key N 0 n (by omega) hn
/-- a loop whose states are told one by one -/
theorem pu_tr {σ β : Type} {B : σ → Option (β ⊕ σ)} {s0 : σ} (st : Nat → σ) (N : Nat) {b : β} (h0 : s0 = st 0) (hN : N < 1000000) (hs : ∀ i, i < N → B (st i) = some (.inr (st (i + 1)))) (he : B (st N) = some (.inl b)) : am_loop B am_fuel s0 = some b := by
  rw [h0]
  exact pu_trace st N hs he hN
/-- any loop: a measure falls, an invariant is kept -/
theorem pu_inv {σ β : Type} {B : σ → Option (β ⊕ σ)} (I : Nat → σ → Prop) (Q : β → Prop) (h : ∀ m s, I m s → (∃ b, B s = some (.inl b) ∧ Q b) ∨ (∃ s' m', B s = some (.inr s') ∧ m' < m ∧ I m' s')) {m : Nat} {s : σ} (hm : m < 1000000) (hI : I m s) : ∃ b, am_loop B am_fuel s = some b ∧ Q b := by
  have key : ∀ (n m : Nat) (s : σ), m < n → I m s → ∃ b, am_loop B n s = some b ∧ Q b := by
    intro n
    induction n with
    | zero => intro m s h; omega
    | succ n ih =>
      intro m s hmn hI
      unfold am_loop
      rcases h m s hI with ⟨b, hb, hq⟩ | ⟨s', m', hs, hm', hI'⟩
      · rw [hb]; exact ⟨b, rfl, hq⟩
      · rw [hs]; exact ih m' s' (by omega) hI'
  exact key am_fuel m s hm hI
/-- a loop that is left by what its end says or inside; one turn told -/
theorem pu_once {σ β : Type} {B : σ → Option (β ⊕ σ)} {s : σ} {b : β} (h : B s = some (.inl b)) : am_loop B am_fuel s = some b := pu_tr (fun _ => s) 0 rfl (by decide) (fun i hi => absurd hi (Nat.not_lt_zero i)) h
theorem pu_b2 {α β γ : Type} (a : α) (b : β) (k : α → β → Option γ) : am_b2 (some (a, b)) k = k a b := rfl
theorem pu_b1 {α β : Type} (a : α) (k : α → Option β) : am_b1 (some a) k = k a := rfl
theorem pu_v {α β : Type} (a : α) (k : α → Option β) : am_v a k = k a := rfl
theorem pu_x {β σ : Type} (b : β) : (am_x (some b) : Option (β ⊕ σ)) = some (.inl b) := rfl
theorem pu_lit (n : Nat) : (OfNat.ofNat n : Int32) = nI n := rfl
theorem pu_litL (n : Nat) : (OfNat.ofNat n : Int64) = lN n := rfl
theorem pu_ofN (n : Nat) : Int32.ofNat n = nI n := rfl
theorem pu_chk {α : Type} {i n : Nat} (k : Option α) (h : i < n) (hn : n < 2 ^ 31) : am_chk (nI i) n k = k := if_neg (nI_in h hn)
theorem pu_nz {α : Type} {i : Nat} (k : Option α) (h : 0 < i) (hn : i < 2 ^ 31) : am_nz (nI i) k = k := if_neg (nI_ne0 h hn)
theorem pu_cl {n : Nat} (h : n < 2 ^ 31) : (nI n).toNatClampNeg = n := nI_clamp h
theorem pu_sub {a b : Nat} (h : b ≤ a) : nI a - nI b = nI (a - b) := pk_sub h
/-- an int that says whether -/
def bI (b : Bool) : Int32 := if b then nI 1 else nI 0
theorem bI_t : bI true = nI 1 := rfl
theorem bI_f : bI false = nI 0 := rfl
theorem bI_0 (b : Bool) : (bI b = nI 0) = (b = false) := by cases b <;> decide
theorem bI_1 (b : Bool) : (bI b = nI 1) = (b = true) := by cases b <;> decide
theorem pu_nar0 {α : Type} (k : Option α) : am_nar .boolean (nI 0) k = k := if_pos (by decide)
theorem pu_nar1 {α : Type} (k : Option α) : am_nar .boolean (nI 1) k = k := if_pos (by decide)
theorem pu_narb {α : Type} (b : Bool) (k : Option α) : am_nar .boolean (bI b) k = k := by cases b <;> exact if_pos (by decide)
theorem pu_narc {α : Type} {n : Nat} (h : n < 65536) (k : Option α) : am_nar .char (nI n) k = k := if_pos (pk_charN h)
theorem pu_if {α : Type} (b : Bool) (x y : α) : (if b = true then x else y) = bif b then x else y := by cases b <;> rfl
theorem pu_m1 : (-nI 1 : Int32) = nI 4294967295 := by decide
theorem pu_ne1 {a : Nat} (h : a < 2 ^ 31) : ¬ nI a = -nI 1 := by
  intro e
  have := congrArg Int32.toInt e
  rw [nI_toInt h, show (-nI 1 : Int32).toInt = -1 by decide] at this
  omega
theorem pu_neg0 {a : Nat} (h : a < 2 ^ 31) : ¬ nI a < nI 0 := nI_pos h
/-! sets of bits -/
def pu_sd (a b : Nat) : Nat := a ^^^ (a &&& b)
theorem pu_sd_bit (a b i : Nat) : (pu_sd a b).testBit i = (a.testBit i && !b.testBit i) := by
  unfold pu_sd
  rw [Nat.testBit_xor, Nat.testBit_and]
  cases a.testBit i <;> cases b.testBit i <;> rfl
theorem pu_sd_lt {a b k : Nat} (h : a < 2 ^ k) : pu_sd a b < 2 ^ k := Nat.xor_lt_two_pow h (Nat.lt_of_le_of_lt Nat.and_le_left h)
theorem pu_and (a b : Nat) : nI a &&& nI b = nI (a &&& b) := by
  apply Int32.toBitVec_inj.1
  show BitVec.ofNat 32 a &&& BitVec.ofNat 32 b = BitVec.ofNat 32 (a &&& b)
  apply BitVec.eq_of_getLsbD_eq
  intro i hi
  simp [hi]
theorem pu_or (a b : Nat) : nI a ||| nI b = nI (a ||| b) := by
  apply Int32.toBitVec_inj.1
  show BitVec.ofNat 32 a ||| BitVec.ofNat 32 b = BitVec.ofNat 32 (a ||| b)
  apply BitVec.eq_of_getLsbD_eq
  intro i hi
  simp [hi]
theorem pu_xor (a b : Nat) : nI a ^^^ nI b = nI (a ^^^ b) := by
  apply Int32.toBitVec_inj.1
  show BitVec.ofNat 32 a ^^^ BitVec.ofNat 32 b = BitVec.ofNat 32 (a ^^^ b)
  apply BitVec.eq_of_getLsbD_eq
  intro i hi
  simp [hi]
theorem pu_andn (a b : Nat) : nI a &&& (nI b ^^^ -nI 1) = nI (pu_sd a b) := by
  apply Int32.toBitVec_inj.1
  show BitVec.ofNat 32 a &&& (BitVec.ofNat 32 b ^^^ BitVec.allOnes 32) = BitVec.ofNat 32 (pu_sd a b)
  apply BitVec.eq_of_getLsbD_eq
  intro i hi
  rw [BitVec.getLsbD_and, BitVec.getLsbD_xor, BitVec.getLsbD_allOnes, BitVec.getLsbD_ofNat, BitVec.getLsbD_ofNat, BitVec.getLsbD_ofNat, pu_sd_bit, decide_eq_true hi]
  cases a.testBit i <;> cases b.testBit i <;> rfl
theorem pu_shl {u : Nat} (h : u < 32) : nI 1 <<< (nI u &&& nI 31) = nI (2 ^ u) := by
  have : ∀ u, u < 32 → nI 1 <<< (nI u &&& nI 31) = nI (2 ^ u) := by decide +kernel
  exact this u h
theorem pu_p2 {u k : Nat} (h : u < k) : 2 ^ u < 2 ^ k := Nat.pow_lt_pow_right (by decide) h
theorem pu_p31 {u : Nat} (h : u < 31) : 2 ^ u < 2 ^ 31 := pu_p2 h
theorem pu_sl : ∀ n, n < 32 → ((nI n &&& nI 31).toBitVec.smod 32).toNat = n := by decide +kernel
theorem pu_shr {a u : Nat} (ha : a < 2 ^ 31) (h : u < 32) : nI a >>> (nI u &&& nI 31) = nI (a / 2 ^ u) := pk_shrN ha _ u (pu_sl u h)
theorem pu_tb (a u : Nat) : a / 2 ^ u % 2 = (a.testBit u).toNat := by
  rw [Nat.testBit_eq_decide_div_mod_eq]
  rcases Nat.mod_two_eq_zero_or_one (a / 2 ^ u) with h | h <;> simp [h]
theorem pu_bit {a u : Nat} (ha : a < 2 ^ 31) (h : u < 32) : (nI a >>> (nI u &&& nI 31)) &&& nI 1 = bI (a.testBit u) := by
  rw [pu_shr ha h, pu_and, Nat.and_one_is_mod, pu_tb]
  cases a.testBit u <;> rfl
/-- the set of those below n of which p holds -/
def pu_S (p : Nat → Bool) : Nat → Nat
  | 0 => 0
  | i + 1 => pu_S p i ||| (if p i then 2 ^ i else 0)
theorem pu_S_succ (p : Nat → Bool) (i : Nat) : pu_S p (i + 1) = pu_S p i ||| (if p i then 2 ^ i else 0) := rfl
theorem pu_S_t {p : Nat → Bool} {i : Nat} (h : p i = true) : pu_S p (i + 1) = pu_S p i ||| 2 ^ i := by rw [pu_S_succ, if_pos h]
theorem pu_S_f {p : Nat → Bool} {i : Nat} (h : p i = false) : pu_S p (i + 1) = pu_S p i := by rw [pu_S_succ, if_neg (by rw [h]; decide), Nat.or_zero]
theorem pu_S_bit (p : Nat → Bool) (n u : Nat) : (pu_S p n).testBit u = (decide (u < n) && p u) := by
  induction n with
  | zero => simp [pu_S]
  | succ n ih =>
    rw [pu_S_succ, Nat.testBit_or, ih]
    by_cases h : u = n
    · subst h
      cases hp : p u <;> simp
    · cases hp : p n
      · rw [if_neg (by decide), Nat.zero_testBit, Bool.or_false]
        congr 1
        exact decide_eq_decide.mpr (by omega)
      · rw [if_pos rfl, Nat.testBit_two_pow_of_ne (Ne.symm h), Bool.or_false]
        congr 1
        exact decide_eq_decide.mpr (by omega)
theorem pu_S_lt (p : Nat → Bool) (n : Nat) : pu_S p n < 2 ^ n := by
  apply Nat.lt_pow_two_of_testBit
  intro i hi
  rw [pu_S_bit, decide_eq_false (by omega), Bool.false_and]
theorem pu_S_cong {p q : Nat → Bool} {n : Nat} (h : ∀ u, u < n → p u = q u) : pu_S p n = pu_S q n := by
  apply Nat.eq_of_testBit_eq
  intro i
  rw [pu_S_bit, pu_S_bit]
  by_cases hi : i < n
  · rw [h i hi]
  · rw [decide_eq_false hi, Bool.false_and, Bool.false_and]
theorem pu_S_self {a n : Nat} (h : a < 2 ^ n) : pu_S (fun u => a.testBit u) n = a := by
  apply Nat.eq_of_testBit_eq
  intro i
  rw [pu_S_bit]
  by_cases hi : i < n
  · rw [decide_eq_true hi, Bool.true_and]
  · rw [decide_eq_false hi, Bool.false_and]
    exact (Nat.testBit_lt_two_pow (Nat.lt_of_lt_of_le h (Nat.pow_le_pow_right (by decide) (by omega)))).symm
theorem pu_lt_ext {a b n : Nat} (ha : a < 2 ^ n) (hb : b < 2 ^ n) (h : ∀ u, u < n → a.testBit u = b.testBit u) : a = b := by
  rw [← pu_S_self ha, ← pu_S_self hb]
  exact pu_S_cong h
theorem pu_S_n10 (p : Nat → Bool) {n : Nat} (h : n ≤ 10) : pu_S p n < 1024 := Nat.lt_of_lt_of_le (pu_S_lt p n) (Nat.pow_le_pow_right (by decide) h)
theorem pu_hi {a n u : Nat} (h : a < 2 ^ n) (hu : n ≤ u) : a.testBit u = false := Nat.testBit_lt_two_pow (Nat.lt_of_lt_of_le h (Nat.pow_le_pow_right (by decide) hu))
/-- how many -/
def pu_C (p : Nat → Bool) : Nat → Nat
  | 0 => 0
  | i + 1 => pu_C p i + (if p i then 1 else 0)
theorem pu_C_succ (p : Nat → Bool) (i : Nat) : pu_C p (i + 1) = pu_C p i + (if p i then 1 else 0) := rfl
theorem pu_C_t {p : Nat → Bool} {i : Nat} (h : p i = true) : pu_C p (i + 1) = pu_C p i + 1 := by rw [pu_C_succ, if_pos h]
theorem pu_C_f {p : Nat → Bool} {i : Nat} (h : p i = false) : pu_C p (i + 1) = pu_C p i := by rw [pu_C_succ, if_neg (by rw [h]; decide)]; rfl
theorem pu_C_le (p : Nat → Bool) : ∀ n, pu_C p n ≤ n
  | 0 => Nat.le_refl 0
  | n + 1 => by
    have h := pu_C_le p n
    rw [pu_C_succ]
    split <;> omega
theorem pu_C_cong {p q : Nat → Bool} : ∀ {n : Nat}, (∀ u, u < n → p u = q u) → pu_C p n = pu_C q n
  | 0, _ => rfl
  | n + 1, h => by rw [pu_C_succ, pu_C_succ, pu_C_cong (fun u hu => h u (by omega)), h n (by omega)]
theorem pu_C_ext {p : Nat → Bool} {n m : Nat} (h : n ≤ m) (hp : ∀ u, n ≤ u → u < m → p u = false) : pu_C p m = pu_C p n := by
  obtain ⟨d, rfl⟩ : ∃ d, m = n + d := ⟨m - n, by omega⟩
  clear h
  induction d with
  | zero => rfl
  | succ d ih => rw [← Nat.add_assoc, pu_C_f (hp (n + d) (by omega) (by omega)), ih (fun u h1 h2 => hp u h1 (by omega))]
theorem pu_C_add (p : Nat → Bool) (m : Nat) : ∀ n, pu_C p (m + n) = pu_C p m + pu_C (fun k => p (m + k)) n
  | 0 => rfl
  | n + 1 => by rw [← Nat.add_assoc, pu_C_succ, pu_C_succ, pu_C_add p m n]; omega
theorem pu_C_sub {p q : Nat → Bool} : ∀ {n : Nat}, (∀ u, u < n → p u = true → q u = true) → pu_C p n ≤ pu_C q n
  | 0, _ => Nat.le_refl _
  | n + 1, h => by
    have h1 := pu_C_sub (n := n) (fun u hu => h u (by omega))
    have h2 := h n (by omega)
    rw [pu_C_succ, pu_C_succ]
    cases hp : p n
    · simp; omega
    · rw [h2 hp]; simp; omega
theorem pu_C_lt {p q : Nat → Bool} {n i : Nat} (h : ∀ u, u < n → p u = true → q u = true) (hi : i < n) (h1 : p i = false) (h2 : q i = true) : pu_C p n < pu_C q n := by
  induction n with
  | zero => omega
  | succ n ih =>
    rw [pu_C_succ, pu_C_succ]
    by_cases e : i = n
    · subst e
      have h3 := pu_C_sub (n := i) (fun u hu => h u (by omega))
      rw [h1, h2]; simp; omega
    · have h3 := ih (fun u hu => h u (by omega)) (by omega)
      have h4 := h n (by omega)
      cases hp : p n
      · simp; omega
      · rw [h4 hp]; simp; omega
theorem pu_C_zero {p : Nat → Bool} {n : Nat} (h : ∀ u, u < n → p u = false) : pu_C p n = 0 := by
  rw [pu_C_ext (Nat.zero_le n) (fun u _ hu => h u hu)]; rfl
theorem pu_C_pos {p : Nat → Bool} {n : Nat} (h : 0 < pu_C p n) : ∃ u, u < n ∧ p u = true := by
  induction n with
  | zero => exact absurd h (Nat.lt_irrefl 0)
  | succ n ih =>
    cases hp : p n
    · rw [pu_C_f hp] at h
      obtain ⟨u, hu, h1⟩ := ih h
      exact ⟨u, by omega, h1⟩
    · exact ⟨n, by omega, hp⟩
/-- bits of a set: below 24 of them -/
def pu_B (a : Nat) : Nat := pu_C (fun u => a.testBit u) 24
theorem pu_B_of {a n : Nat} (h : a < 2 ^ n) (hn : n ≤ 24) : pu_B a = pu_C (fun u => a.testBit u) n := pu_C_ext hn (fun u h1 _ => pu_hi h h1)
theorem pu_B_S {p : Nat → Bool} {n : Nat} (hn : n ≤ 24) : pu_B (pu_S p n) = pu_C p n := by
  rw [pu_B_of (pu_S_lt p n) hn]
  exact pu_C_cong (fun u hu => by rw [pu_S_bit, decide_eq_true hu, Bool.true_and])
