/-! pure part: each call of the law keeps what holds between calls (by wip/whole/pure/mk22.py) -/
section LAW
variable {j Ls : Nat} {xs : Nat → Int32} {x4 : Int32} {w : am_S}
theorem x4_t (h0 : 0 ≤ x4.toInt) (h1 : x4.toInt + 6 ≤ (Ls : Int)) (hL : Ls ≤ 3072) : ∃ t, x4 = nI t ∧ t + 6 ≤ Ls := ⟨x4.toInt.toNat, by rw [eq_ti, nI_toInt (by omega)]; omega, by omega⟩
theorem ck_l {t : Nat} (ht : t + 6 ≤ Ls) (hL : Ls ≤ 3072) {c : Nat} (hc : c ≤ 5) {α : Type} (k : Option α) : am_chk (nI t + nI c) Ls k = k := by
  rw [nI_add, pu_chk _ (by omega) (by omega)]
theorem law_0 (hj : j < 1000) {t : Nat} (ht : t + 6 ≤ Ls) (hL : Ls ≤ 3072) (h : Inv j w) : ∃ ww, f_law_0 Ls xs (nI t) w = some ww ∧ Inv (j + 1) ww := by
  obtain ⟨fd, z, o, hc, hr, hb, hn⟩ := h
  have k1 : ∀ {α : Type} (k : Option α), am_chk (nI t + (1 : Int32)) Ls k = k := ck_l (c := 1) ht hL (by omega)
  have k2 : ∀ {α : Type} (k : Option α), am_chk (nI t + (2 : Int32)) Ls k = k := ck_l (c := 2) ht hL (by omega)
  have k3 : ∀ {α : Type} (k : Option α), am_chk (nI t + (3 : Int32)) Ls k = k := ck_l (c := 3) ht hL (by omega)
  have k4 : ∀ {α : Type} (k : Option α), am_chk (nI t + (4 : Int32)) Ls k = k := ck_l (c := 4) ht hL (by omega)
  have k5 : ∀ {α : Type} (k : Option α), am_chk (nI t + (5 : Int32)) Ls k = k := ck_l (c := 5) ht hL (by omega)
  unfold f_law_0
  simp only [k1, k2, k3, k4, k5]
  exact both_feed _ _ _ _ _ w hc hr hb hn
theorem law_1 (hj : j < 1000) {t : Nat} (ht : t + 6 ≤ Ls) (hL : Ls ≤ 3072) (h : Inv j w) : ∃ ww, f_law_1 Ls xs (nI t) w = some ww ∧ Inv (j + 1) ww := by
  obtain ⟨fd, z, o, hc, hr, hb, hn⟩ := h
  have k1 : ∀ {α : Type} (k : Option α), am_chk (nI t + (1 : Int32)) Ls k = k := ck_l (c := 1) ht hL (by omega)
  unfold f_law_1
  simp only [k1]
  exact both_end _ w hc hr hb hn
theorem law_2 (hj : j < 1000) {t : Nat} (ht : t + 6 ≤ Ls) (hL : Ls ≤ 3072) (h : Inv j w) : ∃ ww, f_law_2 Ls xs (nI t) w = some ww ∧ Inv (j + 1) ww := by
  obtain ⟨fd, z, o, hc, hr, hb, hn⟩ := h
  have k1 : ∀ {α : Type} (k : Option α), am_chk (nI t + (1 : Int32)) Ls k = k := ck_l (c := 1) ht hL (by omega)
  unfold f_law_2
  simp only [k1]
  exact both_fault _ w hc hr hb hn
theorem law_3 (hj : j < 1000) {t : Nat} (ht : t + 6 ≤ Ls) (hL : Ls ≤ 3072) (h : Inv j w) : ∃ ww, f_law_3 Ls xs (nI t) w = some ww ∧ Inv (j + 1) ww := by
  obtain ⟨fd, z, o, hc, hr, hb, hn⟩ := h
  have k1 : ∀ {α : Type} (k : Option α), am_chk (nI t + (1 : Int32)) Ls k = k := ck_l (c := 1) ht hL (by omega)
  unfold f_law_3
  simp only [k1]
  exact both_text _ w hc hr hb hn
theorem law_4 (hj : j < 1000) {t : Nat} (ht : t + 6 ≤ Ls) (hL : Ls ≤ 3072) (h : Inv j w) : ∃ ww, f_law_4 Ls xs (nI t) w = some ww ∧ Inv (j + 1) ww := by
  obtain ⟨fd, z, o, hc, hr, hb, hn⟩ := h
  have k1 : ∀ {α : Type} (k : Option α), am_chk (nI t + (1 : Int32)) Ls k = k := ck_l (c := 1) ht hL (by omega)
  unfold f_law_4
  simp only [k1]
  exact both_rule _ w hc hr hb hn
theorem law_5 (hj : j < 1000) {t : Nat} (ht : t + 6 ≤ Ls) (hL : Ls ≤ 3072) (h : Inv j w) : ∃ ww, f_law_5 Ls xs (nI t) w = some ww ∧ Inv (j + 1) ww := by
  obtain ⟨fd, z, o, hc, hr, hb, hn⟩ := h
  have k1 : ∀ {α : Type} (k : Option α), am_chk (nI t + (1 : Int32)) Ls k = k := ck_l (c := 1) ht hL (by omega)
  unfold f_law_5
  simp only [k1]
  exact both_weight _ w hc hr hb hn
theorem law_6 (hj : j < 1000) {t : Nat} (ht : t + 6 ≤ Ls) (hL : Ls ≤ 3072) (h : Inv j w) : ∃ ww, f_law_6 Ls xs (nI t) w = some ww ∧ Inv (j + 1) ww := by
  obtain ⟨fd, z, o, hc, hr, hb, hn⟩ := h
  have k1 : ∀ {α : Type} (k : Option α), am_chk (nI t + (1 : Int32)) Ls k = k := ck_l (c := 1) ht hL (by omega)
  have k2 : ∀ {α : Type} (k : Option α), am_chk (nI t + (2 : Int32)) Ls k = k := ck_l (c := 2) ht hL (by omega)
  unfold f_law_6
  simp only [k1, k2]
  exact both_user _ _ hc hr hb hn
theorem law_7 (hj : j < 1000) {t : Nat} (ht : t + 6 ≤ Ls) (hL : Ls ≤ 3072) (h : Inv j w) : ∃ ww, f_law_7 Ls xs (nI t) w = some ww ∧ Inv (j + 1) ww := by
  obtain ⟨fd, z, o, hc, hr, hb, hn⟩ := h
  have k1 : ∀ {α : Type} (k : Option α), am_chk (nI t + (1 : Int32)) Ls k = k := ck_l (c := 1) ht hL (by omega)
  unfold f_law_7
  simp only [k1]
  exact both_copies _ w hc hr hb hn
theorem law_8 (hj : j < 1000) {t : Nat} (ht : t + 6 ≤ Ls) (hL : Ls ≤ 3072) (h : Inv j w) : ∃ ww, f_law_8 Ls xs (nI t) w = some ww ∧ Inv (j + 1) ww := by
  obtain ⟨fd, z, o, hc, hr, hb, hn⟩ := h
  have k1 : ∀ {α : Type} (k : Option α), am_chk (nI t + (1 : Int32)) Ls k = k := ck_l (c := 1) ht hL (by omega)
  unfold f_law_8
  simp only [k1]
  exact both_strength _ w hc hr hb hn
theorem law_9 (hj : j < 1000) {t : Nat} (ht : t + 6 ≤ Ls) (hL : Ls ≤ 3072) (h : Inv j w) : ∃ ww, f_law_9 Ls xs (nI t) w = some ww ∧ Inv (j + 1) ww := by
  obtain ⟨fd, z, o, hc, hr, hb, hn⟩ := h
  have k1 : ∀ {α : Type} (k : Option α), am_chk (nI t + (1 : Int32)) Ls k = k := ck_l (c := 1) ht hL (by omega)
  have k2 : ∀ {α : Type} (k : Option α), am_chk (nI t + (2 : Int32)) Ls k = k := ck_l (c := 2) ht hL (by omega)
  unfold f_law_9
  simp only [k1, k2]
  exact both_din _ _ w hc hr hb hn
theorem law_10 (hj : j < 1000) {t : Nat} (ht : t + 6 ≤ Ls) (hL : Ls ≤ 3072) (h : Inv j w) : ∃ ww, f_law_10 Ls xs (nI t) w = some ww ∧ Inv (j + 1) ww := by
  obtain ⟨fd, z, o, hc, hr, hb, hn⟩ := h
  have k1 : ∀ {α : Type} (k : Option α), am_chk (nI t + (1 : Int32)) Ls k = k := ck_l (c := 1) ht hL (by omega)
  have k2 : ∀ {α : Type} (k : Option α), am_chk (nI t + (2 : Int32)) Ls k = k := ck_l (c := 2) ht hL (by omega)
  unfold f_law_10
  simp only [k1, k2]
  exact both_margin _ _ w hc hr hb hn
theorem law_11 (hj : j < 1000) {t : Nat} (ht : t + 6 ≤ Ls) (hL : Ls ≤ 3072) (h : Inv j w) : ∃ ww, f_law_11 Ls xs (nI t) w = some ww ∧ Inv (j + 1) ww := by
  obtain ⟨fd, z, o, hc, hr, hb, hn⟩ := h
  have k1 : ∀ {α : Type} (k : Option α), am_chk (nI t + (1 : Int32)) Ls k = k := ck_l (c := 1) ht hL (by omega)
  have k2 : ∀ {α : Type} (k : Option α), am_chk (nI t + (2 : Int32)) Ls k = k := ck_l (c := 2) ht hL (by omega)
  unfold f_law_11
  simp only [k1, k2]
  exact both_clear _ _ w hc hr hb hn
theorem law_12 (hj : j < 1000) {t : Nat} (ht : t + 6 ≤ Ls) (hL : Ls ≤ 3072) (h : Inv j w) : ∃ ww, f_law_12 Ls xs (nI t) w = some ww ∧ Inv (j + 1) ww := by
  obtain ⟨fd, z, o, hc, hr, hb, hn⟩ := h
  have k1 : ∀ {α : Type} (k : Option α), am_chk (nI t + (1 : Int32)) Ls k = k := ck_l (c := 1) ht hL (by omega)
  have k2 : ∀ {α : Type} (k : Option α), am_chk (nI t + (2 : Int32)) Ls k = k := ck_l (c := 2) ht hL (by omega)
  unfold f_law_12
  simp only [k1, k2]
  exact both_slot _ _ w hc hr hb hn
theorem law_13 (hj : j < 1000) {t : Nat} (ht : t + 6 ≤ Ls) (hL : Ls ≤ 3072) (h : Inv j w) : ∃ ww, f_law_13 Ls xs (nI t) w = some ww ∧ Inv (j + 1) ww := by
  obtain ⟨fd, z, o, hc, hr, hb, hn⟩ := h
  unfold f_law_13
  exact both_peel hj w hc hr hb hn
theorem law_14 (hj : j < 1000) {t : Nat} (ht : t + 6 ≤ Ls) (hL : Ls ≤ 3072) (h : Inv j w) : ∃ ww, f_law_14 Ls xs (nI t) w = some ww ∧ Inv (j + 1) ww := by
  obtain ⟨fd, z, o, hc, hr, hb, hn⟩ := h
  unfold f_law_14
  exact both_round hj w hc hr hb hn
theorem law_15 (hj : j < 1000) {t : Nat} (ht : t + 6 ≤ Ls) (hL : Ls ≤ 3072) (h : Inv j w) : ∃ ww, f_law_15 Ls xs (nI t) w = some ww ∧ Inv (j + 1) ww := by
  obtain ⟨fd, z, o, hc, hr, hb, hn⟩ := h
  have k1 : ∀ {α : Type} (k : Option α), am_chk (nI t + (1 : Int32)) Ls k = k := ck_l (c := 1) ht hL (by omega)
  unfold f_law_15
  simp only [k1]
  exact both_tell hj _ w hc hr hb hn
theorem law_16 (hj : j < 1000) {t : Nat} (ht : t + 6 ≤ Ls) (hL : Ls ≤ 3072) (h : Inv j w) : ∃ ww, f_law_16 Ls xs (nI t) w = some ww ∧ Inv (j + 1) ww := by
  obtain ⟨fd, z, o, hc, hr, hb, hn⟩ := h
  have k1 : ∀ {α : Type} (k : Option α), am_chk (nI t + (1 : Int32)) Ls k = k := ck_l (c := 1) ht hL (by omega)
  unfold f_law_16
  simp only [k1]
  exact both_forget hj _ w hc hr hb hn
theorem law_17 (hj : j < 1000) {t : Nat} (ht : t + 6 ≤ Ls) (hL : Ls ≤ 3072) (h : Inv j w) : ∃ ww, f_law_17 Ls xs (nI t) w = some ww ∧ Inv (j + 1) ww := by
  obtain ⟨fd, z, o, hc, hr, hb, hn⟩ := h
  have k1 : ∀ {α : Type} (k : Option α), am_chk (nI t + (1 : Int32)) Ls k = k := ck_l (c := 1) ht hL (by omega)
  have k2 : ∀ {α : Type} (k : Option α), am_chk (nI t + (2 : Int32)) Ls k = k := ck_l (c := 2) ht hL (by omega)
  unfold f_law_17
  simp only [k1, k2]
  exact both_turn hj _ _ w hc hr hb hn
theorem law_18 (hj : j < 1000) {t : Nat} (ht : t + 6 ≤ Ls) (hL : Ls ≤ 3072) (h : Inv j w) : ∃ ww, f_law_18 Ls xs (nI t) w = some ww ∧ Inv (j + 1) ww := by
  obtain ⟨fd, z, o, hc, hr, hb, hn⟩ := h
  have k1 : ∀ {α : Type} (k : Option α), am_chk (nI t + (1 : Int32)) Ls k = k := ck_l (c := 1) ht hL (by omega)
  unfold f_law_18
  simp only [k1]
  exact both_capture hj _ w hc hr hb hn
theorem law_19 (hj : j < 1000) {t : Nat} (ht : t + 6 ≤ Ls) (hL : Ls ≤ 3072) (h : Inv j w) : ∃ ww, f_law_19 Ls xs (nI t) w = some ww ∧ Inv (j + 1) ww := by
  obtain ⟨fd, z, o, hc, hr, hb, hn⟩ := h
  have k1 : ∀ {α : Type} (k : Option α), am_chk (nI t + (1 : Int32)) Ls k = k := ck_l (c := 1) ht hL (by omega)
  have k2 : ∀ {α : Type} (k : Option α), am_chk (nI t + (2 : Int32)) Ls k = k := ck_l (c := 2) ht hL (by omega)
  have k3 : ∀ {α : Type} (k : Option α), am_chk (nI t + (3 : Int32)) Ls k = k := ck_l (c := 3) ht hL (by omega)
  unfold f_law_19
  simp only [k1, k2, k3]
  exact both_draw hj _ _ w hc hr hb hn
theorem law_20 (hj : j < 1000) {t : Nat} (ht : t + 6 ≤ Ls) (hL : Ls ≤ 3072) (h : Inv j w) : ∃ ww, f_law_20 Ls xs (nI t) w = some ww ∧ Inv (j + 1) ww := by
  obtain ⟨fd, z, o, hc, hr, hb, hn⟩ := h
  have k1 : ∀ {α : Type} (k : Option α), am_chk (nI t + (1 : Int32)) Ls k = k := ck_l (c := 1) ht hL (by omega)
  have k2 : ∀ {α : Type} (k : Option α), am_chk (nI t + (2 : Int32)) Ls k = k := ck_l (c := 2) ht hL (by omega)
  unfold f_law_20
  simp only [k1, k2]
  exact both_swap hj _ _ w hc hr hb hn
theorem law_21 (hj : j < 1000) {t : Nat} (ht : t + 6 ≤ Ls) (hL : Ls ≤ 3072) (h : Inv j w) : ∃ ww, f_law_21 Ls xs (nI t) w = some ww ∧ Inv (j + 1) ww := by
  obtain ⟨fd, z, o, hc, hr, hb, hn⟩ := h
  have k1 : ∀ {α : Type} (k : Option α), am_chk (nI t + (1 : Int32)) Ls k = k := ck_l (c := 1) ht hL (by omega)
  have k2 : ∀ {α : Type} (k : Option α), am_chk (nI t + (2 : Int32)) Ls k = k := ck_l (c := 2) ht hL (by omega)
  unfold f_law_21
  simp only [k1, k2]
  exact both_file hj _ _ w hc hr hb hn
theorem law_22 (hj : j < 1000) {t : Nat} (ht : t + 6 ≤ Ls) (hL : Ls ≤ 3072) (h : Inv j w) : ∃ ww, f_law_22 Ls xs (nI t) w = some ww ∧ Inv (j + 1) ww := by
  obtain ⟨fd, z, o, hc, hr, hb, hn⟩ := h
  have k1 : ∀ {α : Type} (k : Option α), am_chk (nI t + (1 : Int32)) Ls k = k := ck_l (c := 1) ht hL (by omega)
  have k2 : ∀ {α : Type} (k : Option α), am_chk (nI t + (2 : Int32)) Ls k = k := ck_l (c := 2) ht hL (by omega)
  unfold f_law_22
  simp only [k1, k2]
  exact both_shelf _ _ w hc hr hb hn
theorem law_23 (hj : j < 1000) {t : Nat} (ht : t + 6 ≤ Ls) (hL : Ls ≤ 3072) (h : Inv j w) : ∃ ww, f_law_23 Ls xs (nI t) w = some ww ∧ Inv (j + 1) ww := by
  obtain ⟨fd, z, o, hc, hr, hb, hn⟩ := h
  have k1 : ∀ {α : Type} (k : Option α), am_chk (nI t + (1 : Int32)) Ls k = k := ck_l (c := 1) ht hL (by omega)
  have k2 : ∀ {α : Type} (k : Option α), am_chk (nI t + (2 : Int32)) Ls k = k := ck_l (c := 2) ht hL (by omega)
  have k3 : ∀ {α : Type} (k : Option α), am_chk (nI t + (3 : Int32)) Ls k = k := ck_l (c := 3) ht hL (by omega)
  unfold f_law_23
  simp only [k1, k2, k3]
  exact both_years hj _ _ w hc hr hb hn
theorem law_24 (hj : j < 1000) {t : Nat} (ht : t + 6 ≤ Ls) (hL : Ls ≤ 3072) (h : Inv j w) : ∃ ww, f_law_24 Ls xs (nI t) w = some ww ∧ Inv (j + 1) ww := by
  obtain ⟨fd, z, o, hc, hr, hb, hn⟩ := h
  have k1 : ∀ {α : Type} (k : Option α), am_chk (nI t + (1 : Int32)) Ls k = k := ck_l (c := 1) ht hL (by omega)
  unfold f_law_24
  simp only [k1]
  exact both_status _ w hc hr hb hn
theorem law_25 (hj : j < 1000) {t : Nat} (ht : t + 6 ≤ Ls) (hL : Ls ≤ 3072) (h : Inv j w) : ∃ ww, f_law_25 Ls xs (nI t) w = some ww ∧ Inv (j + 1) ww := by
  obtain ⟨fd, z, o, hc, hr, hb, hn⟩ := h
  unfold f_law_25
  exact both_undo hj w hc hr hb hn
theorem law_26 (hj : j < 1000) {t : Nat} (ht : t + 6 ≤ Ls) (hL : Ls ≤ 3072) (h : Inv j w) : ∃ ww, f_law_26 Ls xs (nI t) w = some ww ∧ Inv (j + 1) ww := by
  obtain ⟨fd, z, o, hc, hr, hb, hn⟩ := h
  have k1 : ∀ {α : Type} (k : Option α), am_chk (nI t + (1 : Int32)) Ls k = k := ck_l (c := 1) ht hL (by omega)
  have k2 : ∀ {α : Type} (k : Option α), am_chk (nI t + (2 : Int32)) Ls k = k := ck_l (c := 2) ht hL (by omega)
  unfold f_law_26
  simp only [k1, k2]
  exact both_log hj _ _ w hc hr hb hn
theorem law_27 (hj : j < 1000) {t : Nat} (ht : t + 6 ≤ Ls) (hL : Ls ≤ 3072) (h : Inv j w) : ∃ ww, f_law_27 Ls xs (nI t) w = some ww ∧ Inv (j + 1) ww := by
  obtain ⟨fd, z, o, hc, hr, hb, hn⟩ := h
  have k1 : ∀ {α : Type} (k : Option α), am_chk (nI t + (1 : Int32)) Ls k = k := ck_l (c := 1) ht hL (by omega)
  unfold f_law_27
  simp only [k1]
  exact both_solved _ w hc hr hb hn
theorem law_28 (hj : j < 1000) {t : Nat} (ht : t + 6 ≤ Ls) (hL : Ls ≤ 3072) (h : Inv j w) : ∃ ww, f_law_28 Ls xs (nI t) w = some ww ∧ Inv (j + 1) ww := by
  obtain ⟨fd, z, o, hc, hr, hb, hn⟩ := h
  have k1 : ∀ {α : Type} (k : Option α), am_chk (nI t + (1 : Int32)) Ls k = k := ck_l (c := 1) ht hL (by omega)
  unfold f_law_28
  simp only [k1]
  exact both_ahead _ w hc hr hb hn
theorem law_29 (hj : j < 1000) {t : Nat} (ht : t + 6 ≤ Ls) (hL : Ls ≤ 3072) (h : Inv j w) : ∃ ww, f_law_29 Ls xs (nI t) w = some ww ∧ Inv (j + 1) ww := by
  obtain ⟨fd, z, o, hc, hr, hb, hn⟩ := h
  have k1 : ∀ {α : Type} (k : Option α), am_chk (nI t + (1 : Int32)) Ls k = k := ck_l (c := 1) ht hL (by omega)
  have k2 : ∀ {α : Type} (k : Option α), am_chk (nI t + (2 : Int32)) Ls k = k := ck_l (c := 2) ht hL (by omega)
  unfold f_law_29
  simp only [k1, k2]
  exact both_fewest _ _ w hc hr hb hn
theorem law_30 (hj : j < 1000) {t : Nat} (ht : t + 6 ≤ Ls) (hL : Ls ≤ 3072) (h : Inv j w) : ∃ ww, f_law_30 Ls xs (nI t) w = some ww ∧ Inv (j + 1) ww := by
  obtain ⟨fd, z, o, hc, hr, hb, hn⟩ := h
  unfold f_law_30
  exact both_tight w hc hr hb hn
theorem law_31 (hj : j < 1000) {t : Nat} (ht : t + 6 ≤ Ls) (hL : Ls ≤ 3072) (h : Inv j w) : ∃ ww, f_law_31 Ls xs (nI t) w = some ww ∧ Inv (j + 1) ww := by
  obtain ⟨fd, z, o, hc, hr, hb, hn⟩ := h
  have k1 : ∀ {α : Type} (k : Option α), am_chk (nI t + (1 : Int32)) Ls k = k := ck_l (c := 1) ht hL (by omega)
  have k2 : ∀ {α : Type} (k : Option α), am_chk (nI t + (2 : Int32)) Ls k = k := ck_l (c := 2) ht hL (by omega)
  unfold f_law_31
  simp only [k1, k2]
  exact both_touch _ _ w hc hr hb hn
theorem law_32 (hj : j < 1000) {t : Nat} (ht : t + 6 ≤ Ls) (hL : Ls ≤ 3072) (h : Inv j w) : ∃ ww, f_law_32 Ls xs (nI t) w = some ww ∧ Inv (j + 1) ww := by
  obtain ⟨fd, z, o, hc, hr, hb, hn⟩ := h
  have k1 : ∀ {α : Type} (k : Option α), am_chk (nI t + (1 : Int32)) Ls k = k := ck_l (c := 1) ht hL (by omega)
  have k2 : ∀ {α : Type} (k : Option α), am_chk (nI t + (2 : Int32)) Ls k = k := ck_l (c := 2) ht hL (by omega)
  unfold f_law_32
  simp only [k1, k2]
  exact both_frame _ _ w hc hr hb hn
theorem law_33 (hj : j < 1000) {t : Nat} (ht : t + 6 ≤ Ls) (hL : Ls ≤ 3072) (h : Inv j w) : ∃ ww, f_law_33 Ls xs (nI t) w = some ww ∧ Inv (j + 1) ww := by
  obtain ⟨fd, z, o, hc, hr, hb, hn⟩ := h
  have k1 : ∀ {α : Type} (k : Option α), am_chk (nI t + (1 : Int32)) Ls k = k := ck_l (c := 1) ht hL (by omega)
  unfold f_law_33
  simp only [k1]
  exact both_stuck _ w hc hr hb hn
theorem law_34 (hj : j < 1000) {t : Nat} (ht : t + 6 ≤ Ls) (hL : Ls ≤ 3072) (h : Inv j w) : ∃ ww, f_law_34 Ls xs (nI t) w = some ww ∧ Inv (j + 1) ww := by
  obtain ⟨fd, z, o, hc, hr, hb, hn⟩ := h
  have k1 : ∀ {α : Type} (k : Option α), am_chk (nI t + (1 : Int32)) Ls k = k := ck_l (c := 1) ht hL (by omega)
  unfold f_law_34
  simp only [k1]
  exact both_slid _ w hc hr hb hn
theorem law_35 (hj : j < 1000) {t : Nat} (ht : t + 6 ≤ Ls) (hL : Ls ≤ 3072) (h : Inv j w) : ∃ ww, f_law_35 Ls xs (nI t) w = some ww ∧ Inv (j + 1) ww := by
  obtain ⟨fd, z, o, hc, hr, hb, hn⟩ := h
  have k1 : ∀ {α : Type} (k : Option α), am_chk (nI t + (1 : Int32)) Ls k = k := ck_l (c := 1) ht hL (by omega)
  have k2 : ∀ {α : Type} (k : Option α), am_chk (nI t + (2 : Int32)) Ls k = k := ck_l (c := 2) ht hL (by omega)
  unfold f_law_35
  simp only [k1, k2]
  exact both_slidAt _ _ w hc hr hb hn
theorem law_36 (hj : j < 1000) {t : Nat} (ht : t + 6 ≤ Ls) (hL : Ls ≤ 3072) (h : Inv j w) : ∃ ww, f_law_36 Ls xs (nI t) w = some ww ∧ Inv (j + 1) ww := by
  obtain ⟨fd, z, o, hc, hr, hb, hn⟩ := h
  have k1 : ∀ {α : Type} (k : Option α), am_chk (nI t + (1 : Int32)) Ls k = k := ck_l (c := 1) ht hL (by omega)
  unfold f_law_36
  simp only [k1]
  exact both_blame _ w hc hr hb hn
theorem law_37 (hj : j < 1000) {t : Nat} (ht : t + 6 ≤ Ls) (hL : Ls ≤ 3072) (h : Inv j w) : ∃ ww, f_law_37 Ls xs (nI t) w = some ww ∧ Inv (j + 1) ww := by
  obtain ⟨fd, z, o, hc, hr, hb, hn⟩ := h
  have k1 : ∀ {α : Type} (k : Option α), am_chk (nI t + (1 : Int32)) Ls k = k := ck_l (c := 1) ht hL (by omega)
  unfold f_law_37
  simp only [k1]
  exact both_senders _ w hc hr hb hn
theorem law_38 (hj : j < 1000) {t : Nat} (ht : t + 6 ≤ Ls) (hL : Ls ≤ 3072) (h : Inv j w) : ∃ ww, f_law_38 Ls xs (nI t) w = some ww ∧ Inv (j + 1) ww := by
  obtain ⟨fd, z, o, hc, hr, hb, hn⟩ := h
  have k1 : ∀ {α : Type} (k : Option α), am_chk (nI t + (1 : Int32)) Ls k = k := ck_l (c := 1) ht hL (by omega)
  unfold f_law_38
  simp only [k1]
  exact both_less _ w hc hr hb hn
theorem law_39 (hj : j < 1000) {t : Nat} (ht : t + 6 ≤ Ls) (hL : Ls ≤ 3072) (h : Inv j w) : ∃ ww, f_law_39 Ls xs (nI t) w = some ww ∧ Inv (j + 1) ww := by
  obtain ⟨fd, z, o, hc, hr, hb, hn⟩ := h
  have k1 : ∀ {α : Type} (k : Option α), am_chk (nI t + (1 : Int32)) Ls k = k := ck_l (c := 1) ht hL (by omega)
  unfold f_law_39
  simp only [k1]
  exact both_key _ w hc hr hb hn
theorem law_40 (hj : j < 1000) {t : Nat} (ht : t + 6 ≤ Ls) (hL : Ls ≤ 3072) (h : Inv j w) : ∃ ww, f_law_40 Ls xs (nI t) w = some ww ∧ Inv (j + 1) ww := by
  obtain ⟨fd, z, o, hc, hr, hb, hn⟩ := h
  have k1 : ∀ {α : Type} (k : Option α), am_chk (nI t + (1 : Int32)) Ls k = k := ck_l (c := 1) ht hL (by omega)
  have k2 : ∀ {α : Type} (k : Option α), am_chk (nI t + (2 : Int32)) Ls k = k := ck_l (c := 2) ht hL (by omega)
  unfold f_law_40
  simp only [k1, k2]
  exact both_more _ _ w hc hr hb hn
theorem law_41 (hj : j < 1000) {t : Nat} (ht : t + 6 ≤ Ls) (hL : Ls ≤ 3072) (h : Inv j w) : ∃ ww, f_law_41 Ls xs (nI t) w = some ww ∧ Inv (j + 1) ww := by
  obtain ⟨fd, z, o, hc, hr, hb, hn⟩ := h
  have k1 : ∀ {α : Type} (k : Option α), am_chk (nI t + (1 : Int32)) Ls k = k := ck_l (c := 1) ht hL (by omega)
  have k2 : ∀ {α : Type} (k : Option α), am_chk (nI t + (2 : Int32)) Ls k = k := ck_l (c := 2) ht hL (by omega)
  have k3 : ∀ {α : Type} (k : Option α), am_chk (nI t + (3 : Int32)) Ls k = k := ck_l (c := 3) ht hL (by omega)
  unfold f_law_41
  simp only [k1, k2, k3]
  exact both_jam _ _ _ w hc hr hb hn
theorem law_42 (hj : j < 1000) {t : Nat} (ht : t + 6 ≤ Ls) (hL : Ls ≤ 3072) (h : Inv j w) : ∃ ww, f_law_42 Ls xs (nI t) w = some ww ∧ Inv (j + 1) ww := by
  obtain ⟨fd, z, o, hc, hr, hb, hn⟩ := h
  have k1 : ∀ {α : Type} (k : Option α), am_chk (nI t + (1 : Int32)) Ls k = k := ck_l (c := 1) ht hL (by omega)
  have k2 : ∀ {α : Type} (k : Option α), am_chk (nI t + (2 : Int32)) Ls k = k := ck_l (c := 2) ht hL (by omega)
  unfold f_law_42
  simp only [k1, k2]
  exact both_share _ _ w hc hr hb hn
theorem law_43 (hj : j < 1000) {t : Nat} (ht : t + 6 ≤ Ls) (hL : Ls ≤ 3072) (h : Inv j w) : ∃ ww, f_law_43 Ls xs (nI t) w = some ww ∧ Inv (j + 1) ww := by
  obtain ⟨fd, z, o, hc, hr, hb, hn⟩ := h
  unfold f_law_43
  exact both_limit w hc hr hb hn
theorem law_44 (hj : j < 1000) {t : Nat} (ht : t + 6 ≤ Ls) (hL : Ls ≤ 3072) (h : Inv j w) : ∃ ww, f_law_44 Ls xs (nI t) w = some ww ∧ Inv (j + 1) ww := by
  obtain ⟨fd, z, o, hc, hr, hb, hn⟩ := h
  have k1 : ∀ {α : Type} (k : Option α), am_chk (nI t + (1 : Int32)) Ls k = k := ck_l (c := 1) ht hL (by omega)
  have k2 : ∀ {α : Type} (k : Option α), am_chk (nI t + (2 : Int32)) Ls k = k := ck_l (c := 2) ht hL (by omega)
  unfold f_law_44
  simp only [k1, k2]
  exact both_sample _ w hc hr hb hn
theorem law_45 (hj : j < 1000) {t : Nat} (ht : t + 6 ≤ Ls) (hL : Ls ≤ 3072) (h : Inv j w) : ∃ ww, f_law_45 Ls xs (nI t) w = some ww ∧ Inv (j + 1) ww := by
  obtain ⟨fd, z, o, hc, hr, hb, hn⟩ := h
  have k1 : ∀ {α : Type} (k : Option α), am_chk (nI t + (1 : Int32)) Ls k = k := ck_l (c := 1) ht hL (by omega)
  unfold f_law_45
  simp only [k1]
  exact both_load _ w hc hr hb hn
theorem law_46 (hj : j < 1000) {t : Nat} (ht : t + 6 ≤ Ls) (hL : Ls ≤ 3072) (h : Inv j w) : ∃ ww, f_law_46 Ls xs (nI t) w = some ww ∧ Inv (j + 1) ww := by
  obtain ⟨fd, z, o, hc, hr, hb, hn⟩ := h
  have k1 : ∀ {α : Type} (k : Option α), am_chk (nI t + (1 : Int32)) Ls k = k := ck_l (c := 1) ht hL (by omega)
  have k2 : ∀ {α : Type} (k : Option α), am_chk (nI t + (2 : Int32)) Ls k = k := ck_l (c := 2) ht hL (by omega)
  have k3 : ∀ {α : Type} (k : Option α), am_chk (nI t + (3 : Int32)) Ls k = k := ck_l (c := 3) ht hL (by omega)
  unfold f_law_46
  simp only [k1, k2, k3]
  exact both_step _ _ _ w hc hr hb hn
theorem law_47 (hj : j < 1000) {t : Nat} (ht : t + 6 ≤ Ls) (hL : Ls ≤ 3072) (h : Inv j w) : ∃ ww, f_law_47 Ls xs (nI t) w = some ww ∧ Inv (j + 1) ww := by
  obtain ⟨fd, z, o, hc, hr, hb, hn⟩ := h
  have k1 : ∀ {α : Type} (k : Option α), am_chk (nI t + (1 : Int32)) Ls k = k := ck_l (c := 1) ht hL (by omega)
  have k2 : ∀ {α : Type} (k : Option α), am_chk (nI t + (2 : Int32)) Ls k = k := ck_l (c := 2) ht hL (by omega)
  unfold f_law_47
  simp only [k1, k2]
  exact both_run _ _ w hc hr hb hn
theorem law_48 (hj : j < 1000) {t : Nat} (ht : t + 6 ≤ Ls) (hL : Ls ≤ 3072) (h : Inv j w) : ∃ ww, f_law_48 Ls xs (nI t) w = some ww ∧ Inv (j + 1) ww := by
  obtain ⟨fd, z, o, hc, hr, hb, hn⟩ := h
  have k1 : ∀ {α : Type} (k : Option α), am_chk (nI t + (1 : Int32)) Ls k = k := ck_l (c := 1) ht hL (by omega)
  unfold f_law_48
  simp only [k1]
  exact both_perform hj _ w hc hr hb hn
theorem law_49 (hj : j < 1000) {t : Nat} (ht : t + 6 ≤ Ls) (hL : Ls ≤ 3072) (h : Inv j w) : ∃ ww, f_law_49 Ls xs (nI t) w = some ww ∧ Inv (j + 1) ww := by
  obtain ⟨fd, z, o, hc, hr, hb, hn⟩ := h
  have k1 : ∀ {α : Type} (k : Option α), am_chk (nI t + (1 : Int32)) Ls k = k := ck_l (c := 1) ht hL (by omega)
  unfold f_law_49
  simp only [k1]
  exact both_most _ w hc hr hb hn
theorem law_50 (hj : j < 1000) {t : Nat} (ht : t + 6 ≤ Ls) (hL : Ls ≤ 3072) (h : Inv j w) : ∃ ww, f_law_50 Ls xs (nI t) w = some ww ∧ Inv (j + 1) ww := by
  obtain ⟨fd, z, o, hc, hr, hb, hn⟩ := h
  unfold f_law_50
  exact both_image w hc hr hb hn
theorem law_51 (hj : j < 1000) {t : Nat} (ht : t + 6 ≤ Ls) (hL : Ls ≤ 3072) (h : Inv j w) : ∃ ww, f_law_51 Ls xs (nI t) w = some ww ∧ Inv (j + 1) ww := by
  obtain ⟨fd, z, o, hc, hr, hb, hn⟩ := h
  unfold f_law_51
  exact both_back w hc hr hb hn
theorem law_52 (hj : j < 1000) {t : Nat} (ht : t + 6 ≤ Ls) (hL : Ls ≤ 3072) (h : Inv j w) : ∃ ww, f_law_52 Ls xs (nI t) w = some ww ∧ Inv (j + 1) ww := by
  obtain ⟨fd, z, o, hc, hr, hb, hn⟩ := h
  have k1 : ∀ {α : Type} (k : Option α), am_chk (nI t + (1 : Int32)) Ls k = k := ck_l (c := 1) ht hL (by omega)
  unfold f_law_52
  simp only [k1]
  exact both_count hj _ w hc hr hb hn
theorem law_all : ∀ k, k < 53 → j < 1000 → ∀ {t : Nat}, t + 6 ≤ Ls → Ls ≤ 3072 → Inv j w → ∃ ww, am_fl k Ls xs (nI t) w = some ww ∧ Inv (j + 1) ww
  | 0, _, hj, _, ht, hL, h => law_0 (xs := xs) hj ht hL h
  | 1, _, hj, _, ht, hL, h => law_1 (xs := xs) hj ht hL h
  | 2, _, hj, _, ht, hL, h => law_2 (xs := xs) hj ht hL h
  | 3, _, hj, _, ht, hL, h => law_3 (xs := xs) hj ht hL h
  | 4, _, hj, _, ht, hL, h => law_4 (xs := xs) hj ht hL h
  | 5, _, hj, _, ht, hL, h => law_5 (xs := xs) hj ht hL h
  | 6, _, hj, _, ht, hL, h => law_6 (xs := xs) hj ht hL h
  | 7, _, hj, _, ht, hL, h => law_7 (xs := xs) hj ht hL h
  | 8, _, hj, _, ht, hL, h => law_8 (xs := xs) hj ht hL h
  | 9, _, hj, _, ht, hL, h => law_9 (xs := xs) hj ht hL h
  | 10, _, hj, _, ht, hL, h => law_10 (xs := xs) hj ht hL h
  | 11, _, hj, _, ht, hL, h => law_11 (xs := xs) hj ht hL h
  | 12, _, hj, _, ht, hL, h => law_12 (xs := xs) hj ht hL h
  | 13, _, hj, _, ht, hL, h => law_13 (xs := xs) hj ht hL h
  | 14, _, hj, _, ht, hL, h => law_14 (xs := xs) hj ht hL h
  | 15, _, hj, _, ht, hL, h => law_15 (xs := xs) hj ht hL h
  | 16, _, hj, _, ht, hL, h => law_16 (xs := xs) hj ht hL h
  | 17, _, hj, _, ht, hL, h => law_17 (xs := xs) hj ht hL h
  | 18, _, hj, _, ht, hL, h => law_18 (xs := xs) hj ht hL h
  | 19, _, hj, _, ht, hL, h => law_19 (xs := xs) hj ht hL h
  | 20, _, hj, _, ht, hL, h => law_20 (xs := xs) hj ht hL h
  | 21, _, hj, _, ht, hL, h => law_21 (xs := xs) hj ht hL h
  | 22, _, hj, _, ht, hL, h => law_22 (xs := xs) hj ht hL h
  | 23, _, hj, _, ht, hL, h => law_23 (xs := xs) hj ht hL h
  | 24, _, hj, _, ht, hL, h => law_24 (xs := xs) hj ht hL h
  | 25, _, hj, _, ht, hL, h => law_25 (xs := xs) hj ht hL h
  | 26, _, hj, _, ht, hL, h => law_26 (xs := xs) hj ht hL h
  | 27, _, hj, _, ht, hL, h => law_27 (xs := xs) hj ht hL h
  | 28, _, hj, _, ht, hL, h => law_28 (xs := xs) hj ht hL h
  | 29, _, hj, _, ht, hL, h => law_29 (xs := xs) hj ht hL h
  | 30, _, hj, _, ht, hL, h => law_30 (xs := xs) hj ht hL h
  | 31, _, hj, _, ht, hL, h => law_31 (xs := xs) hj ht hL h
  | 32, _, hj, _, ht, hL, h => law_32 (xs := xs) hj ht hL h
  | 33, _, hj, _, ht, hL, h => law_33 (xs := xs) hj ht hL h
  | 34, _, hj, _, ht, hL, h => law_34 (xs := xs) hj ht hL h
  | 35, _, hj, _, ht, hL, h => law_35 (xs := xs) hj ht hL h
  | 36, _, hj, _, ht, hL, h => law_36 (xs := xs) hj ht hL h
  | 37, _, hj, _, ht, hL, h => law_37 (xs := xs) hj ht hL h
  | 38, _, hj, _, ht, hL, h => law_38 (xs := xs) hj ht hL h
  | 39, _, hj, _, ht, hL, h => law_39 (xs := xs) hj ht hL h
  | 40, _, hj, _, ht, hL, h => law_40 (xs := xs) hj ht hL h
  | 41, _, hj, _, ht, hL, h => law_41 (xs := xs) hj ht hL h
  | 42, _, hj, _, ht, hL, h => law_42 (xs := xs) hj ht hL h
  | 43, _, hj, _, ht, hL, h => law_43 (xs := xs) hj ht hL h
  | 44, _, hj, _, ht, hL, h => law_44 (xs := xs) hj ht hL h
  | 45, _, hj, _, ht, hL, h => law_45 (xs := xs) hj ht hL h
  | 46, _, hj, _, ht, hL, h => law_46 (xs := xs) hj ht hL h
  | 47, _, hj, _, ht, hL, h => law_47 (xs := xs) hj ht hL h
  | 48, _, hj, _, ht, hL, h => law_48 (xs := xs) hj ht hL h
  | 49, _, hj, _, ht, hL, h => law_49 (xs := xs) hj ht hL h
  | 50, _, hj, _, ht, hL, h => law_50 (xs := xs) hj ht hL h
  | 51, _, hj, _, ht, hL, h => law_51 (xs := xs) hj ht hL h
  | 52, _, hj, _, ht, hL, h => law_52 (xs := xs) hj ht hL h
  | n + 53, h, _, _, _, _, _ => absurd h (by omega)
end LAW
section START
def fd0 : Nat → Nat → Nat := fun _ _ => 0
def z0 : Zt := (fun _ _ => 0, fun _ _ _ => 0, fun _ _ => nI 0, 0, 0)
def o0 : Ot := ((0, fun _ => 0), none, (0, fun _ => (0, fun _ => 0, fun _ => nI 0)), fun _ => nI 0)
theorem wF_0 : wF fd0 := ⟨Nat.zero_le _, Nat.zero_le _, Nat.zero_le _, fun h => absurd h (Nat.not_lt_zero _), Nat.zero_le _, fun u hu => absurd hu (Nat.not_lt_zero _), fun _ => Nat.zero_le _, fun _ => ⟨rfl, rfl, fun _ => rfl⟩, Nat.zero_le _⟩
theorem wS_0 : wS fd0 z0.1 := by
  refine ⟨Nat.zero_le _, fun _ => Nat.zero_le _, fun _ _ => ⟨rfl, rfl⟩, fun u s h => ?_, fun _ => Nat.zero_le _⟩
  have h : Nat.testBit 0 s = true := h
  rw [Nat.zero_testBit] at h
  cases h
theorem wZ_0 : wZ fd0 z0 := ⟨Nat.zero_le _, Nat.zero_le _, fun d h1 h2 => by
  have h2 : d ≤ 0 := h2
  omega⟩
theorem pd_0 {m : Nat} : pu_d fd0 m 0 = 0 := by
  show pu_t 0 = 0
  decide +kernel
theorem cZ_0 : cZ fd0 z0 am_w0 := by
  refine ⟨wZ_0, ⟨wF_0, wS_0, ⟨rfl, rfl, rfl, rfl, rfl, fun u hu => absurd hu (Nat.not_lt_zero _), fun _ _ _ => rfl⟩, ⟨fun u hu => absurd hu (Nat.not_lt_zero _), fun m hm => ?_, .inr ⟨0, by omega, rfl, fun m hm => .inr ?_⟩⟩, fun _ _ => rfl, fun _ _ => rfl, rfl, fun _ _ => rfl, fun j i _ hi => absurd hi (Nat.not_lt_zero _)⟩, ⟨0, by omega, rfl, rfl, fun d h1 h2 => ?_⟩, rfl, fun n t ht hn => absurd hn (Nat.not_lt_zero _)⟩
  · exact pd_0.symm
  · rfl
  · have h2 : d ≤ 0 := h2
    omega
theorem rS_0 : rS z0.1 (am_w0.1 281) := ⟨fun _ _ => rfl, fun _ _ => (show (0 : Int32) = nI (0 % 2 ^ 24) by decide), fun _ _ => (show (0 : Int32) = nI (0 / 2 ^ 24) by decide), rfl, fun _ _ => rfl, fun j i _ hi => absurd hi (Nat.not_lt_zero _)⟩
theorem rZ_0 : rZ fd0 z0 am_w0 := by
  refine ⟨wZ_0, ⟨wF_0, wS_0, ⟨rfl, rfl, rfl, rfl, fun u hu => absurd hu (Nat.not_lt_zero _), fun _ _ _ => rfl, fun u hu => absurd hu (Nat.not_lt_zero _)⟩, rS_0, rfl, by decide⟩, ⟨rfl, fun d h1 h2 => ?_⟩, rfl, fun n t ht hn => absurd hn (Nat.not_lt_zero _)⟩
  have h2 : d ≤ 0 := h2
  omega
theorem Inv_0 : Inv 0 am_w0 := ⟨fd0, z0, o0, ⟨cZ_0, ⟨⟨Nat.zero_le _, fun i hi => absurd hi (Nat.not_lt_zero _)⟩, rfl, fun i hi => absurd hi (Nat.not_lt_zero _)⟩, ⟨rfl, fun a ha => by cases ha⟩, ⟨Nat.zero_le _, rfl, fun n hn => absurd hn (Nat.not_lt_zero _)⟩, fun _ _ => rfl⟩, ⟨rZ_0, ⟨⟨Nat.zero_le _, fun i hi => absurd hi (Nat.not_lt_zero _)⟩, rfl, fun i hi => absurd hi (Nat.not_lt_zero _)⟩, ⟨rfl, fun a ha => by cases ha⟩, ⟨Nat.zero_le _, rfl, fun n hn => absurd hn (Nat.not_lt_zero _)⟩, fun _ _ => rfl⟩, ⟨Nat.zero_le _, fun a ha => by cases ha⟩, fun _ => ⟨fun _ => rfl, rfl, rfl⟩⟩
theorem Keeps_Inv : am_Keeps Inv := by
  refine ⟨Inv_0, fun j w h => ?_, fun j k Ls xs x4 w hj hk hL h0 h1 h => ?_⟩
  · obtain ⟨fd, z, o, hc, hr, hb, hn⟩ := h
    exact ⟨fd, z, o, hc, hr, hb.up, hn⟩
  · obtain ⟨t, rfl, ht⟩ := x4_t h0 h1 hL
    exact law_all k hk (by omega) ht hL h
end START
