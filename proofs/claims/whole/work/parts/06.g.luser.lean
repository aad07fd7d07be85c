theorem am_q1243 : Cond.classLink RL 13 "java/util/NoSuchElementException" ∈ am_T := am_in 1243 (by decide +kernel) (by decide +kernel)
theorem am_q1247 : Cond.code yX11_user cX11_user 3 (some .int) ∈ am_T := am_in 1247 (by decide +kernel) (by decide +kernel)
theorem am_q1245 : Cond.instanceMethod yX11_user ∈ am_T := am_in 1245 (by decide +kernel) (by decide +kernel)
theorem am_q1244 : Cond.methodLink RL 7 yX11_user ∈ am_T := am_in 1244 (by decide +kernel) (by decide +kernel)
theorem am_q1246 : Cond.selects RX11 yX11_user yX11_user ∈ am_T := am_in 1246 (by decide +kernel) (by decide +kernel)
/-! the law's own user: it catches -/
section AMW
variable {p : Program} {l : Launch} {e : Env} {R : Room} {s : State} {m : MethodId} {args : Array Value} {below : List Frame} {meth : Method} {c : Code} {H : Heap} {locs : List Loc} {cells slots : Nat} {Q : State → Prop} {cc : ByteArray} {pc : Nat} {ls : Array Slot} {G : am_G} {w : am_S}
theorem am_beginW {y : MethodName} {bytes : ByteArray} {maxL : Nat} {ret : Option FieldType} {hh : List (Nat × Nat × Nat × Nat)} {rm : Room} {s₁ : State} {av : List Value} (B : BodyLoose p l y (headSpec (Cond.codeWith y bytes maxL ret hh :: am_T) rm) bytes maxL ret e s m args below meth c s₁) (hv : am_Pc G av w args s) :
    args = av.toArray ∧ p.tables.exec = Jvm.exec ∧ c.code = bytes ∧ meth.sig.returnType = ret ∧ (∀ w ∈ am_T, w.before args s = true) ∧ s.vm.findClass y.cls = some m.cls ∧ meth.locks = false ∧ va_K G.2.2.1 vwCl (am_tys G) s ∧ am_E G s s.heap ∧ am_H G w s s.heap [] ∧ c.exceptionTable.toList = tableOf hh := by
  obtain ⟨h1, h2, h3, h4⟩ := hv
  exact ⟨h1, B.exec, B.bytes, B.returns, fun w hw => atoms_spec (ws := Cond.codeWith y bytes maxL ret hh :: am_T) B.pre w (List.mem_cons_of_mem _ hw), findClass_of_methodNamed B.named, B.notSynchronized, h3, h4, ⟨h2, va_S.rf⟩, vx_table (x := y) B (atoms_spec (ws := Cond.codeWith y bytes maxL ret hh :: am_T) B.pre _ List.mem_cons_self)⟩
theorem am_retiX {r r' : Int32} {w' : am_S} (hx : p.tables.exec = Jvm.exec) (hb : c.code = cc) (hr : meth.sig.returnType = some .int) (hlocks : meth.locks = false) (hH : am_H G w s H locs) (hf : some (r, w) = some (r', w')) (hdg : decode cc pc = .ok (.ireturn, 1)) : W p l e R s m args below meth c H locs cells slots (MQ below (va_Qi (fun (x : Int32) (u : am_S) => x = r' ∧ u = w') (am_U G) (am_A G)) args s cells slots (am_A G)) (F0 m pc ls [.int r]) := by
  obtain ⟨rfl, rfl⟩ := am_pair hf
  exact W.iret hx hb hr (fun t ht _ => ⟨⟨r, w, rfl, ⟨rfl, rfl⟩, by unfold am_U; rw [ht]; exact hH.1⟩, hH.2.F ht⟩) hH.2.2.2 hdg hlocks
end AMW
/-- returns 0 and lays the answer into out, or returns 1 where the class has thrown -/
def f_L_user (a1 a2 : Int32) (w : am_S) : Option (Int32 × am_S) := match fx_user a1 a2 w with
  | some w1 => some (1, w1)
  | none => am_b2 (f_X11_user a1 a2 w) fun r w1 => some (0, am_pl w1 290 0 r.toInt64)
set_option maxRecDepth 100000 in
set_option maxHeartbeats 4000000 in
theorem k_L_user {G : am_G} {l : Launch} {a1 a2 : Int32} {w : am_S} {rr : Int32} {ww : am_S} (hlt : l.stackTraces = false) (hf : f_L_user a1 a2 w = some (rr, ww)) : Met l yL_user (Cond.codeWith yL_user cL_user 5 (some .int) [(0, 10, 13, 13)] :: am_T) { frames := 40, cells := 1, slots := 6, locals := 2560 } (va_Pc [.ref (G.1 + 0), .int a1, .int a2, .ref (G.1 + 290)] (am_BX G w)) (va_Qi (fun (x : Int32) (u : am_S) => x = rr ∧ u = ww) (am_U G) (am_A G)) 1 6 (am_A G) := by
  refine va_MetW (cc := cL_user) (maxL := 5) (ret := some .int) (hh := [(0, 10, 13, 13)]) (by decide) rfl ?_
  intro p e s m args below meth c s₁ B hml hv
  obtain ⟨h1, hB, hXU⟩ := hv
  obtain ⟨rfl, hx, hb, hr, hts, hown, hlocks, hK, hE, hH, htab⟩ := am_beginW B ⟨h1, hB⟩
  have hown : s.vm.findClass RL = some m.cls := hown
  show W p l e { frames := 40, cells := 1, slots := 6, locals := 2560 } s m _ below meth c s.heap [] 0 0 _ _
  refine am_enter (lv := [(0, .ref (G.1 + 0)), (1, .int a1), (2, .int a2), (3, .ref (G.1 + 290))]) (Nat.le_of_ble_eq_true rfl) rfl (fun ls hl => ?_)
  refine am_start hH (fun H locs hH => ?_)
  unfold f_L_user at hf
  refine lv_aload_n hx hb dL_user_0 rfl (lv_at hl 3 rfl) ?_
  refine lv_iconst (v := 0) hx hb dL_user_1 (by decide) ?_
  refine lv_aload_n hx hb dL_user_2 rfl (lv_at hl 0 rfl) ?_
  refine lv_iload_n hx hb dL_user_3 rfl (lv_at hl 1 rfl) ?_
  refine lv_iload_n hx hb dL_user_4 rfl (lv_at hl 2 rfl) ?_
  cases hfx : fx_user a1 a2 w with
  | none =>
    rw [hfx] at hf
    obtain ⟨r1, w1, hq, hf⟩ := am_b2_some hf
    refine am_calli (r := r1) (w' := w1) (am_runV (n := 2) (As := [.int a1, .int a2]) (rest := [.int 0, .ref (G.1 + 290)]) ⟨hx, hb, hml, hown, hts⟩ hK hE hH (k_X11_user hq) (am_gV am_q1244 am_q1245 am_q1246 am_q1 am_q1247) (am_o11 (p := 0) (by decide +kernel)) rfl ⟨rfl, rfl⟩ (by decide +kernel) ⟨Nat.le_of_ble_eq_true rfl, Nat.le_of_ble_eq_true rfl⟩ rfl hl.1 rfl (Nat.le_of_ble_eq_true rfl) ⟨Nat.zero_le _, Nat.zero_le _⟩ dL_user_5) hH (fun H locs hH => ?_)
    refine lv_i2l hx hb dL_user_8 rfl ?_
    refine am_last (o := 290) (N := 1) hx hb hK hH (am_al_of (by decide +kernel)) (by unfold vp_in; decide) dL_user_9 (fun H locs hH => ?_)
    refine lv_goto (tgt := 17) hx hb dL_user_10 (by decide) ?_
    refine lv_iconst (v := 0) hx hb dL_user_17 (by decide) ?_
    refine W.widen (k := 1) (n := 6) (by decide) (by decide) ?_
    exact am_retiX hx hb hr hlocks hH hf dL_user_18
  | some w1 =>
    rw [hfx] at hf
    refine vx_calli (vx_runV (n := 2) (As := [.int a1, .int a2]) (rest := [.int 0, .ref (G.1 + 290)]) ⟨hx, hb, hml, hown, hts⟩ (kx_user (G := G) hlt hfx) (cwV 2 hts (am_gV am_q1244 am_q1245 am_q1246 am_q1 am_q1247) rfl rfl rfl (by decide +kernel) ⟨Nat.le_of_ble_eq_true rfl, Nat.le_of_ble_eq_true rfl⟩) ⟨am_blindX, am_recv hK hH (am_o11 (p := 0) (by decide +kernel)) rfl, fun U hU hW => ⟨rfl, (am_B_at hH hK hE (av := [.ref (G.1 + 0), .int a1, .int a2]) U hU hW).2, by rw [hU]; exact am_XU.warm hW (hXU.kept hH.2.2.1)⟩⟩ rfl rfl hl.1 rfl (lv_room (Nat.le_of_ble_eq_true rfl)) dL_user_5 ⟨Nat.le_of_ble_eq_true rfl, Nat.le_of_ble_eq_true rfl⟩) hH.2 (fun _ _ h => h) (fun _ h => h) (fun _ _ h => h) (fun E ce q9 u t H1 locs1 ht hvm hu hBX hz hk hS hcell hcv hcl => ?_) (fun r u t H1 locs1 _ _ hw => hw.elim)
    obtain rfl := hu
    obtain ⟨rfl, hU⟩ := hBX
    have hH : am_H G u s H1 locs1 := ⟨by rw [← ht]; exact hU, hS⟩
    refine vx_catch (name := "java/util/NoSuchElementException") hown [] ⟨0, 10, 13, 13⟩ [] (htab.trans rfl) (fun z hz => by cases hz) (by decide) (by decide) (hts _ am_q1243) (va_Nw.use rfl (hXU.1 _ List.mem_cons_self)) hcell hcv hcl ?_
    refine lv_astore (lv' := [(4, .ref q9), (0, .ref (G.1 + 0)), (1, .int a1), (2, .int a2), (3, .ref (G.1 + 290))]) hx hb dL_user_13 hl (by decide) rfl (fun ls hl => ?_)
    refine lv_iconst (v := 1) hx hb dL_user_15 (by decide) ?_
    exact am_retiX hx hb hr hlocks hH hf dL_user_16
