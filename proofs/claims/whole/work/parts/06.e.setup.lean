/-! String constants at the start, and all together -/
section AMSET2
variable {s : State} {args : Array Value}
def am_tm (i : Nat) : Term := match i with
  | 0 => .string "BurstPeeler$Field" 89
  | 1 => .string "BurstPeeler$Field" 101
  | 2 => .string "BurstPeeler$Field" 115
  | _ => .string "BurstPeeler$Script" 38
theorem am_i4 {P : Nat → Prop} (h0 : P 0) (h1 : P 1) (h2 : P 2) (h3 : P 3) : ∀ i : Nat, i < 4 → P i := by
  intro i hi
  rcases (show i = 0 ∨ i = 1 ∨ i = 2 ∨ i = 3 by omega) with rfl | rfl | rfl | rfl
  · exact h0
  · exact h1
  · exact h2
  · exact h3
set_option maxRecDepth 100000 in
theorem am_str (hs : ∀ c ∈ flatC (Jvm.Cond.and given_1 narrow_1), c.before args s = true) : ∃ adK adV : Nat → Nat, vk_S 4 am_tl am_tb adK adV (am_A0 s) s s.heap ∧ ∀ i : Nat, i < 4 → (am_tm i).eval args s none [] s = some (.ref (adK i)) := by
  refine vk_Sof (tm := am_tm) (len := am_tl) (byt := am_tb) (am_i4 (by decide) (by decide) (by decide) (by decide)) (am_i4 (hs (Cond.exactly (.string "BurstPeeler$Field" 89) "java/lang/String") (by decide +kernel)) (hs (Cond.exactly (.string "BurstPeeler$Field" 101) "java/lang/String") (by decide +kernel)) (hs (Cond.exactly (.string "BurstPeeler$Field" 115) "java/lang/String") (by decide +kernel)) (hs (Cond.exactly (.string "BurstPeeler$Script" 38) "java/lang/String") (by decide +kernel))) (am_i4 (hs (Cond.eq (.field (.string "BurstPeeler$Field" 89) "java/lang/String" "coder" "B") (.int 0)) (by decide +kernel)) (hs (Cond.eq (.field (.string "BurstPeeler$Field" 101) "java/lang/String" "coder" "B") (.int 0)) (by decide +kernel)) (hs (Cond.eq (.field (.string "BurstPeeler$Field" 115) "java/lang/String" "coder" "B") (.int 0)) (by decide +kernel)) (hs (Cond.eq (.field (.string "BurstPeeler$Script" 38) "java/lang/String" "coder" "B") (.int 0)) (by decide +kernel))) (am_i4 (hs (Cond.arrayOf (.field (.string "BurstPeeler$Field" 89) "java/lang/String" "value" "[B") .byte) (by decide +kernel)) (hs (Cond.arrayOf (.field (.string "BurstPeeler$Field" 101) "java/lang/String" "value" "[B") .byte) (by decide +kernel)) (hs (Cond.arrayOf (.field (.string "BurstPeeler$Field" 115) "java/lang/String" "value" "[B") .byte) (by decide +kernel)) (hs (Cond.arrayOf (.field (.string "BurstPeeler$Script" 38) "java/lang/String" "value" "[B") .byte) (by decide +kernel))) (am_i4 (hs (Cond.eq (.length (.field (.string "BurstPeeler$Field" 89) "java/lang/String" "value" "[B")) (.int 4)) (by decide +kernel)) (hs (Cond.eq (.length (.field (.string "BurstPeeler$Field" 101) "java/lang/String" "value" "[B")) (.int 5)) (by decide +kernel)) (hs (Cond.eq (.length (.field (.string "BurstPeeler$Field" 115) "java/lang/String" "value" "[B")) (.int 2)) (by decide +kernel)) (hs (Cond.eq (.length (.field (.string "BurstPeeler$Script" 38) "java/lang/String" "value" "[B")) (.int 6)) (by decide +kernel))) (fun i hi => ?_) ?_ am_A0_out
  · rcases (show i = 0 ∨ i = 1 ∨ i = 2 ∨ i = 3 by omega) with rfl | rfl | rfl | rfl
    · intro j hj
      have hj : j < 4 := hj
      rcases (show j = 0 ∨ j = 1 ∨ j = 2 ∨ j = 3 by omega) with rfl | rfl | rfl | rfl
      · exact hs (Cond.eq (.elem (.field (.string "BurstPeeler$Field" 89) "java/lang/String" "value" "[B") (.int 0)) (.int 110)) (by decide +kernel)
      · exact hs (Cond.eq (.elem (.field (.string "BurstPeeler$Field" 89) "java/lang/String" "value" "[B") (.int 1)) (.int 102)) (by decide +kernel)
      · exact hs (Cond.eq (.elem (.field (.string "BurstPeeler$Field" 89) "java/lang/String" "value" "[B") (.int 2)) (.int 99)) (by decide +kernel)
      · exact hs (Cond.eq (.elem (.field (.string "BurstPeeler$Field" 89) "java/lang/String" "value" "[B") (.int 3)) (.int 122)) (by decide +kernel)
    · intro j hj
      have hj : j < 5 := hj
      rcases (show j = 0 ∨ j = 1 ∨ j = 2 ∨ j = 3 ∨ j = 4 by omega) with rfl | rfl | rfl | rfl | rfl
      · exact hs (Cond.eq (.elem (.field (.string "BurstPeeler$Field" 101) "java/lang/String" "value" "[B") (.int 0)) (.int 112)) (by decide +kernel)
      · exact hs (Cond.eq (.elem (.field (.string "BurstPeeler$Field" 101) "java/lang/String" "value" "[B") (.int 1)) (.int 103)) (by decide +kernel)
      · exact hs (Cond.eq (.elem (.field (.string "BurstPeeler$Field" 101) "java/lang/String" "value" "[B") (.int 2)) (.int 116)) (by decide +kernel)
      · exact hs (Cond.eq (.elem (.field (.string "BurstPeeler$Field" 101) "java/lang/String" "value" "[B") (.int 3)) (.int 97)) (by decide +kernel)
      · exact hs (Cond.eq (.elem (.field (.string "BurstPeeler$Field" 101) "java/lang/String" "value" "[B") (.int 4)) (.int 98)) (by decide +kernel)
    · intro j hj
      have hj : j < 2 := hj
      rcases (show j = 0 ∨ j = 1 by omega) with rfl | rfl
      · exact hs (Cond.eq (.elem (.field (.string "BurstPeeler$Field" 115) "java/lang/String" "value" "[B") (.int 0)) (.int 107)) (by decide +kernel)
      · exact hs (Cond.eq (.elem (.field (.string "BurstPeeler$Field" 115) "java/lang/String" "value" "[B") (.int 1)) (.int 113)) (by decide +kernel)
    · intro j hj
      have hj : j < 6 := hj
      rcases (show j = 0 ∨ j = 1 ∨ j = 2 ∨ j = 3 ∨ j = 4 ∨ j = 5 by omega) with rfl | rfl | rfl | rfl | rfl | rfl
      · exact hs (Cond.eq (.elem (.field (.string "BurstPeeler$Script" 38) "java/lang/String" "value" "[B") (.int 0)) (.int 112)) (by decide +kernel)
      · exact hs (Cond.eq (.elem (.field (.string "BurstPeeler$Script" 38) "java/lang/String" "value" "[B") (.int 1)) (.int 114)) (by decide +kernel)
      · exact hs (Cond.eq (.elem (.field (.string "BurstPeeler$Script" 38) "java/lang/String" "value" "[B") (.int 2)) (.int 116)) (by decide +kernel)
      · exact hs (Cond.eq (.elem (.field (.string "BurstPeeler$Script" 38) "java/lang/String" "value" "[B") (.int 3)) (.int 102)) (by decide +kernel)
      · exact hs (Cond.eq (.elem (.field (.string "BurstPeeler$Script" 38) "java/lang/String" "value" "[B") (.int 4)) (.int 120)) (by decide +kernel)
      · exact hs (Cond.eq (.elem (.field (.string "BurstPeeler$Script" 38) "java/lang/String" "value" "[B") (.int 5)) (.int 99)) (by decide +kernel)
  · intro i j hi hj hij
    rcases (show i = 0 ∨ i = 1 ∨ i = 2 ∨ i = 3 by omega) with rfl | rfl | rfl | rfl <;> rcases (show j = 0 ∨ j = 1 ∨ j = 2 ∨ j = 3 by omega) with rfl | rfl | rfl | rfl
    · exact absurd rfl hij
    · exact Or.inl (hs (Cond.not (Cond.eq (.string "BurstPeeler$Field" 89) (.string "BurstPeeler$Field" 101))) (by decide +kernel))
    · exact Or.inl (hs (Cond.not (Cond.eq (.string "BurstPeeler$Field" 89) (.string "BurstPeeler$Field" 115))) (by decide +kernel))
    · exact Or.inl (hs (Cond.not (Cond.eq (.string "BurstPeeler$Field" 89) (.string "BurstPeeler$Script" 38))) (by decide +kernel))
    · exact Or.inr (hs (Cond.not (Cond.eq (.string "BurstPeeler$Field" 89) (.string "BurstPeeler$Field" 101))) (by decide +kernel))
    · exact absurd rfl hij
    · exact Or.inl (hs (Cond.not (Cond.eq (.string "BurstPeeler$Field" 101) (.string "BurstPeeler$Field" 115))) (by decide +kernel))
    · exact Or.inl (hs (Cond.not (Cond.eq (.string "BurstPeeler$Field" 101) (.string "BurstPeeler$Script" 38))) (by decide +kernel))
    · exact Or.inr (hs (Cond.not (Cond.eq (.string "BurstPeeler$Field" 89) (.string "BurstPeeler$Field" 115))) (by decide +kernel))
    · exact Or.inr (hs (Cond.not (Cond.eq (.string "BurstPeeler$Field" 101) (.string "BurstPeeler$Field" 115))) (by decide +kernel))
    · exact absurd rfl hij
    · exact Or.inl (hs (Cond.not (Cond.eq (.string "BurstPeeler$Field" 115) (.string "BurstPeeler$Script" 38))) (by decide +kernel))
    · exact Or.inr (hs (Cond.not (Cond.eq (.string "BurstPeeler$Field" 89) (.string "BurstPeeler$Script" 38))) (by decide +kernel))
    · exact Or.inr (hs (Cond.not (Cond.eq (.string "BurstPeeler$Field" 101) (.string "BurstPeeler$Script" 38))) (by decide +kernel))
    · exact Or.inr (hs (Cond.not (Cond.eq (.string "BurstPeeler$Field" 115) (.string "BurstPeeler$Script" 38))) (by decide +kernel))
    · exact absurd rfl hij
end AMSET2
theorem am_setup {s : State} {args : Array Value} (hts : ∀ w ∈ lw_tbl, w.before args s = true) (hg : (Jvm.Cond.and given_1 narrow_1).before args s = true) : ∃ G : am_G, G.1 = s.heap.size ∧ va_K G.2.2.1 vwCl (am_tys G) s ∧ am_E G s s.heap ∧ am_XW s := by
  have hs := flat_of_before _ hg
  obtain ⟨D, hD⟩ := am_classes hts
  obtain ⟨cy, hcy⟩ := am_arrs hts
  obtain ⟨adK, adV, hS, hR⟩ := am_str hs
  obtain ⟨t0, hz0, ht0⟩ := am_sa0 hts hs
  obtain ⟨t1, hz1, ht1⟩ := am_sa1 hts hs
  obtain ⟨t2, hz2, ht2⟩ := am_sa2 hts hs
  obtain ⟨t3, hz3, ht3⟩ := am_sa3 hts hs
  obtain ⟨t4, hz4, ht4⟩ := am_sa4 hts hs
  obtain ⟨t5, hz5, ht5⟩ := am_sa5 hts hs
  obtain ⟨t6, hz6, ht6⟩ := am_sa6 hts hs
  obtain ⟨t7, hz7, ht7⟩ := am_sa7 hts hs
  obtain ⟨t8, hz8, ht8⟩ := am_sa8 hts hs
  obtain ⟨t9, hz9, ht9⟩ := am_sa9 hts hs
  refine ⟨(s.heap.size, cy, D, (fun j => match j with | 0 => t0 | 1 => t1 | 2 => t2 | 3 => t3 | 4 => t4 | 5 => t5 | 6 => t6 | 7 => t7 | 8 => t8 | _ => t9), adK, adV), rfl, ⟨hD, hcy⟩, ⟨fun j q hq => ?_, hS, fun j q hq => ?_, ?_, ?_⟩, ⟨fun w hw => ?_, ?_, ?_⟩⟩
  · match j, hq with
    | 0, hq => cases hq; exact ⟨hz0, ht0⟩
    | 1, hq => cases hq; exact ⟨hz1, ht1⟩
    | 2, hq => cases hq; exact ⟨hz2, ht2⟩
    | 3, hq => cases hq; exact ⟨hz3, ht3⟩
    | 4, hq => cases hq; exact ⟨hz4, ht4⟩
    | 5, hq => cases hq; exact ⟨hz5, ht5⟩
    | 6, hq => cases hq; exact ⟨hz6, ht6⟩
    | 7, hq => cases hq; exact ⟨hz7, ht7⟩
    | 8, hq => cases hq; exact ⟨hz8, ht8⟩
    | 9, hq => cases hq; exact ⟨hz9, ht9⟩
    | j + 10, hq => simp [am_st] at hq
  · match j, hq with
    | 0, hq => cases hq; exact vk_R.of (hts (Cond.stringRef "BurstPeeler$Field" 89 "nfcz") (List.mem_append_right _ (List.mem_of_getElem? (i := 433) (by decide +kernel)))) (hR 0 (by decide))
    | 1, hq => cases hq; exact vk_R.of (hts (Cond.stringRef "BurstPeeler$Field" 101 "pgtab") (List.mem_append_right _ (List.mem_of_getElem? (i := 541) (by decide +kernel)))) (hR 1 (by decide))
    | 2, hq => cases hq; exact vk_R.of (hts (Cond.stringRef "BurstPeeler$Field" 115 "kq") (List.mem_append_right _ (List.mem_of_getElem? (i := 552) (by decide +kernel)))) (hR 2 (by decide))
    | 3, hq => cases hq; exact vk_R.of (hts (Cond.stringRef "BurstPeeler$Script" 38 "prtfxc") (List.mem_append_right _ (List.mem_of_getElem? (i := 576) (by decide +kernel)))) (hR 3 (by decide))
    | j + 4, hq => simp [am_tx] at hq
  · exact va_Zof (hts (Cond.laysStatic "java/lang/String" "COMPACT_STRINGS" "Z") (List.mem_append_right _ (List.mem_of_getElem? (i := 454) (by decide +kernel)))) (hts (Cond.initialized "java/lang/String") (List.mem_append_right _ (List.mem_of_getElem? (i := 16) (by decide +kernel)))) (va_eqi (hs (Cond.eq (.static "java/lang/String" "COMPACT_STRINGS" "Z") (.int 1)) (by decide +kernel))) am_A0_out
  · exact va_Zof (hts (Cond.laysStatic "java/lang/Math" "negativeZeroDoubleBits" "J") (List.mem_append_right _ (List.mem_of_getElem? (i := 1924) (by decide +kernel)))) (hts (Cond.initialized "java/lang/Math") (List.mem_append_right _ (List.mem_of_getElem? (i := 18) (by decide +kernel)))) (va_eql (hs (Cond.eq (.static "java/lang/Math" "negativeZeroDoubleBits" "J") (.long (-9223372036854775808))) (by decide +kernel))) am_A0_out
  · simp only [am_xw, List.mem_cons, List.not_mem_nil, or_false] at hw
    rcases hw with rfl | rfl | rfl | rfl | rfl | rfl | rfl | rfl
    · exact va_Nw.of rfl (hts (Cond.methodLinkNest RX11 11 yX10_init RX11) (List.mem_append_right _ (List.mem_of_getElem? (i := 41) (by decide +kernel))))
    · exact va_Nw.of rfl (hts (Cond.methodLinkNest RX11 18 yX1_init RX11) (List.mem_append_right _ (List.mem_of_getElem? (i := 67) (by decide +kernel))))
    · exact va_Nw.of rfl (hts (Cond.methodLinkNest RX11 28 yX8_init RX11) (List.mem_append_right _ (List.mem_of_getElem? (i := 149) (by decide +kernel))))
    · exact va_Nw.of rfl (hts (Cond.methodLinkNest RX11 39 yX9_init RX11) (List.mem_append_right _ (List.mem_of_getElem? (i := 169) (by decide +kernel))))
    · exact va_Nw.of rfl (hts (Cond.methodLinkNest RX11 52 yX4_init RX11) (List.mem_append_right _ (List.mem_of_getElem? (i := 205) (by decide +kernel))))
    · exact va_Nw.of rfl (hts (Cond.methodLinkNest RX11 73 yX0_init RX11) (List.mem_append_right _ (List.mem_of_getElem? (i := 245) (by decide +kernel))))
    · exact va_Nw.of rfl (hts (Cond.methodLinkNest RX3 15 yX9_init RX11) (List.mem_append_right _ (List.mem_of_getElem? (i := 231) (by decide +kernel))))
    · exact va_Nw.of rfl (hts (Cond.methodLinkNest RX2 11 yX0_init RX11) (List.mem_append_right _ (List.mem_of_getElem? (i := 297) (by decide +kernel))))
  · exact va_AO.of (hts (Cond.arrayOver (.object "BurstPeeler$Script")) (List.mem_append_right _ (List.mem_of_getElem? (i := 166) (by decide +kernel))))
  · exact va_AO.of (hts (Cond.arrayOver (.object "BurstPeeler$State")) (List.mem_append_right _ (List.mem_of_getElem? (i := 230) (by decide +kernel))))
