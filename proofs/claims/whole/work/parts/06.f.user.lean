theorem am_q1248 : Cond.classLink RX11 182 "java/util/NoSuchElementException" ∈ am_T := am_in 1248 (by decide +kernel) (by decide +kernel)
theorem am_q27 : Cond.initialized "java/util/NoSuchElementException" ∈ am_T := am_in 27 (by decide +kernel) (by decide +kernel)
/-! BurstPeeler.user where it throws -/
def am_xu : List Cond := [Cond.castable "java/util/NoSuchElementException" "java/util/NoSuchElementException", Cond.declares ⟨"java/lang/RuntimeException", "<init>", "()V"⟩, Cond.declares ⟨"java/lang/Exception", "<init>", "()V"⟩, Cond.declares ⟨"java/lang/Throwable", "<init>", "()V"⟩]
def am_XU (G : am_G) (U : State) (H : Heap) : Prop := (∀ w ∈ am_xu, va_Nw w U) ∧ vx_Zq Bundle.tN "UNASSIGNED_STACK" Bundle.steD (am_A G) U H ∧ vx_Zq Bundle.tN "SUPPRESSED_SENTINEL" Bundle.listD (am_A G) U H
def am_BX (G : am_G) (w : am_S) (U : State) : Prop := am_B G w U ∧ am_XU G U U.heap
theorem am_XU.warm {G : am_G} {s U : State} {H : Heap} (hW : s.WarmedH U.vm) (h : am_XU G s H) : am_XU G U H := ⟨fun w hw => (by
  have h1 := h.1 w hw
  simp only [am_xu, List.mem_cons, List.not_mem_nil, or_false] at hw
  rcases hw with rfl | rfl | rfl | rfl
  · exact va_Nw.warmC hW h1
  · exact va_Nw.warmD hW h1
  · exact va_Nw.warmD hW h1
  · exact va_Nw.warmD hW h1), vx_Zq.moved hW.alike h.2.1, vx_Zq.moved hW.alike h.2.2⟩
theorem am_XU.kept {G : am_G} {U : State} {H H1 : Heap} (h : am_XU G U H) (hq : ∀ a : Nat, a < H.size → ¬ G.1 ≤ a → H1[a]? = H[a]?) : am_XU G U H1 := ⟨h.1, h.2.1.kept hq, h.2.2.kept hq⟩
theorem am_XU.same {G : am_G} {s U : State} {H : Heap} (hv : s.vm = U.vm) (h : am_XU G s H) : am_XU G U H := ⟨fun w hw => (by
  have h1 := h.1 w hw
  simp only [am_xu, List.mem_cons, List.not_mem_nil, or_false] at hw
  rcases hw with rfl | rfl | rfl | rfl <;> exact va_Nw.same rfl hv h1), vx_Zq.moved (by rw [hv]; exact Vm.Alike.refl _) h.2.1, vx_Zq.moved (by rw [hv]; exact Vm.Alike.refl _) h.2.2⟩
theorem am_blindX {G : am_G} {av : List Value} {w : am_S} : FrameBlind (va_Pc av (am_BX G w)) := by
  intro a U g mk h
  obtain ⟨h1, h2, h3⟩ := h
  have hb := am_blind (G := G) (av := av) (w := w) a U g mk ⟨h1, h2⟩
  exact ⟨hb.1, hb.2, am_XU.same (s := U) rfl h3⟩
def fx_user (a1 a2 : Int32) (w : am_S) : Option am_S := am_b2 (f_X11_noUser a1 w) fun r w1 => if r = 0 then (if a2 < 0 then some w1 else if a2 ≤ 5 then none else some w1) else some w1
theorem am_xat : ∀ w ∈ vx_at0 RX11 184 "java/util/NoSuchElementException" ["java/lang/RuntimeException", "java/lang/Exception"], w ∈ am_T ∨ w ∈ am_xu := by decide +kernel
theorem am_xgood : ∀ w ∈ Cond.classLink RX11 182 "java/util/NoSuchElementException" :: Cond.initialized "java/util/NoSuchElementException" :: vx_at0 RX11 184 "java/util/NoSuchElementException" ["java/lang/RuntimeException", "java/lang/Exception"], vx_ot w = true := by decide +kernel

set_option maxRecDepth 100000 in
set_option maxHeartbeats 4000000 in
theorem kx_user {G : am_G} {l : Launch} {a1 a2 : Int32} {w ww : am_S} (hlt : l.stackTraces = false) (hf : fx_user a1 a2 w = some ww) : vx_Met l yX11_user (Cond.code yX11_user cX11_user 3 (some .int) :: am_T) { frames := 8, cells := 1, slots := 6, locals := 512 } (va_Pc [.ref (G.1 + 0), .int a1, .int a2] (am_BX G w)) (va_Qi (fun (_ : Int32) (_ : am_S) => False) (am_U G) (am_A G)) (vx_X (fun (u : am_S) => u = ww) (fun E u t => E = "java/util/NoSuchElementException" ∧ am_U G u t) (am_A G)) 1 6 (am_A G) := by
  refine vx_ofW (cc := cX11_user) (maxL := 3) (ret := some .int) (by decide) rfl ?_
  intro p e s m args below meth c s₁ B hml htab hv
  obtain ⟨h1, hB, hXU⟩ := hv
  obtain ⟨rfl, hx, hb, hr, hts, hown, hlocks, hK, hE, hH⟩ := am_begin B ⟨h1, hB⟩
  have hown : s.vm.findClass RX11 = some m.cls := hown
  have hat : ∀ w ∈ vx_at0 RX11 184 "java/util/NoSuchElementException" ["java/lang/RuntimeException", "java/lang/Exception"], w.before [.ref (G.1 + 0), .int a1, .int a2].toArray s = true := fun w hw => (am_xat w hw).elim (fun h => hts w h) (fun h => va_Nw.use (by
    simp only [am_xu, List.mem_cons, List.not_mem_nil, or_false] at h
    rcases h with rfl | rfl | rfl | rfl <;> rfl) (hXU.1 w h))
  have P17 : ∀ (H : Heap) (locs : List Loc) (ls : Array Slot), am_H G ww s H locs → ls.size = 3 → W p l e { frames := 8, cells := 1, slots := 6, locals := 512 } s m [.ref (G.1 + 0), .int a1, .int a2].toArray below meth c H locs 0 0 (vx_MQ below (va_Qi (fun (_ : Int32) (_ : am_S) => False) (am_U G) (am_A G)) (vx_X (fun (u : am_S) => u = ww) (fun E u t => E = "java/util/NoSuchElementException" ∧ am_U G u t) (am_A G)) [.ref (G.1 + 0), .int a1, .int a2].toArray s 1 6 (am_A G)) (F0 m 17 ls []) := by
    intro H locs ls hH hls
    refine vx_throw0 (own := RX11) (cls := "java/util/NoSuchElementException") (names := ["java/lang/RuntimeException", "java/lang/Exception"]) (ik := 182) (ic := 184) hx hb hlt hown (by decide +kernel) (by decide +kernel) (hts _ am_q1248) (hts _ am_q27) hat am_xgood hXU.2.1 hXU.2.2 hH.2 (by rw [hls, hml]) dX11_user_17 dX11_user_20 dX11_user_21 dX11_user_24 (fun x h => (htab x h).elim) (by decide) (by decide) (by decide) (by decide) hlocks (fun t hvm hz hq => ⟨ww, rfl, ⟨rfl, hH.1.kept fun k x hx => hq x.1 (hH.1 k x hx).lt⟩, ?_⟩) hH.2.2.2 (by decide) (by decide)
    exact ⟨Nat.le_trans hH.2.1 hz, fun q h1 h2 => (hq q (Nat.lt_of_lt_of_le h1 hH.2.1)).trans (hH.2.2.1 q h1 h2)⟩
  show W p l e { frames := 8, cells := 1, slots := 6, locals := 512 } s m _ below meth c s.heap [] 0 0 _ _
  refine am_enter (lv := [(0, .ref (G.1 + 0)), (1, .int a1), (2, .int a2)]) (Nat.le_of_ble_eq_true rfl) rfl (fun ls hl => ?_)
  refine am_start hH (fun H locs hH => ?_)
  unfold fx_user at hf
  refine lv_aload_n hx hb dX11_user_0 rfl (lv_at hl 0 rfl) ?_
  refine lv_iload_n hx hb dX11_user_1 rfl (lv_at hl 1 rfl) ?_
  obtain ⟨r1, w1, hq, hf⟩ := am_b2_some hf
  refine am_calli (r := r1) (w' := w1) (am_runV (n := 1) (As := [.int a1]) (rest := []) ⟨hx, hb, hml, hown, hts⟩ hK hE hH (k_X11_noUser hq) (am_gV am_q641 am_q643 am_qs12 am_q1 am_q644) (am_o11 (p := 0) (by decide +kernel)) rfl ⟨rfl, rfl⟩ (by decide +kernel) ⟨Nat.le_of_ble_eq_true rfl, Nat.le_of_ble_eq_true rfl⟩ rfl hl.1 rfl (Nat.le_of_ble_eq_true rfl) ⟨Nat.zero_le _, Nat.zero_le _⟩ dX11_user_2) hH (fun H locs hH => ?_)
  refine lv_if_ne (tgt := 17) hx hb dX11_user_5 (by decide) (fun hc => ?_) (fun hc => ?_)
  · have hf := (if_neg hc).symm.trans hf
    obtain rfl := Option.some.inj hf
    exact P17 H locs ls hH hl.1
  · have hf := (if_pos hc).symm.trans hf
    refine lv_iload_n hx hb dX11_user_8 rfl (lv_at hl 2 rfl) ?_
    refine lv_if_lt (tgt := 17) hx hb dX11_user_9 (by decide) (fun hc => ?_) (fun hc => ?_)
    · have hf := (if_pos hc).symm.trans hf
      obtain rfl := Option.some.inj hf
      exact P17 H locs ls hH hl.1
    · have hf := (if_neg hc).symm.trans hf
      refine lv_iload_n hx hb dX11_user_12 rfl (lv_at hl 2 rfl) ?_
      refine lv_iconst (v := 5) hx hb dX11_user_13 (by decide) ?_
      refine lv_icmp_le (tgt := 25) hx hb dX11_user_14 (by decide) (fun hc => ?_) (fun hc => ?_)
      · have hf := (if_pos hc).symm.trans hf
        cases hf
      · have hf := (if_neg hc).symm.trans hf
        obtain rfl := Option.some.inj hf
        exact P17 H locs ls hH hl.1
