/-- Math.min of two doubles: the machine runs an entry of its own in its place -/
def f_J9_min_eb370 (a0 a1 : UInt64) (w : am_S) : Option (UInt64 × am_S) := if FP.dIsNaN a0 = true then none else if FP.dIsNaN a1 = true then none else some (Native.java_lang_Math.nans.pick64 false a0 a1, w)
/-- that entry -/
def am_mnR : NativeRow := (NativeRow.find? Native.java_lang_Math.nans.rows "java/lang/Math" "min" "(DD)D").get (by decide +kernel)
set_option maxRecDepth 100000 in
theorem am_mn_row (p : Program) : NativeRow.find? p.tables.natives "java/lang/Math" "min" "(DD)D" = some am_mnR := by
  cases p <;> rfl
theorem am_mn_run {a b : UInt64} (ha : FP.dIsNaN a = false) (hb : FP.dIsNaN b = false) (e : Env) (S : State) : ∃ acts, (am_mnR.sem #[.double a, .double b]).run e S = .ok (some (.double (Native.java_lang_Math.nans.pick64 false a b))) S acts := by
  have hsem : am_mnR.sem #[.double a, .double b] = (do
      let r ← if FP.dIsNaN a then anyNaN64 a else if FP.dIsNaN b then anyNaN64 b else Pure.pure (Native.java_lang_Math.nans.pick64 false a b)
      mark "nat.java_lang_Math.min"
      Pure.pure (some (.double r))) := rfl
  rw [hsem, ha, hb]
  exact ⟨_, rfl⟩
theorem am_ov {tb : Tables} {e : Env} {s : State} {f : JFrame} {k : Class} {x : Method} {row : NativeRow} (hpc : f.pc = 0) (hk : s.vm.classes[f.method.cls]? = some k) (hin : k.name ∈ overriddenIn) (hl : k.loader = none) (hx : k.methods[f.method.idx]? = some x) (hr : NativeRow.find? tb.natives k.name x.name x.desc = some row) : overridden tb e s f = some row := by
  have h1 : overriddenIn.contains k.name = true := List.contains_iff_mem.mpr hin
  unfold overridden
  rw [hpc, hk]
  simp only [h1, hl, hx, hr]
  rfl
set_option maxHeartbeats 4000000 in
theorem k_J9_min_eb370 {G : am_G} {l : Launch} {a0 : UInt64} {a1 : UInt64} {w : am_S} {rr : UInt64} {ww : am_S} (hf : f_J9_min_eb370 a0 a1 w = some (rr, ww)) : am_Md G l yJ9_min_eb370 (Cond.code yJ9_min_eb370 cJ9_min_eb370 4 (some .double) :: am_T) { frames := 1, cells := 0, slots := 0, locals := 64 } [.double a0, .double a1] w rr ww := by
  have hf' : FP.dIsNaN a0 = false ∧ FP.dIsNaN a1 = false ∧ rr = Native.java_lang_Math.nans.pick64 false a0 a1 ∧ ww = w := by
    unfold f_J9_min_eb370 at hf
    split at hf
    · cases hf
    · split at hf
      · cases hf
      · rename_i h1 h2
        cases hf
        exact ⟨Bool.eq_false_iff.mpr h1, Bool.eq_false_iff.mpr h2, rfl, rfl⟩
  obtain ⟨n1, n2, rfl, rfl⟩ := hf'
  intro p e ha hc hk s m args below hfr happ hP _
  obtain ⟨hargs, hB⟩ := hP
  subst hargs
  obtain ⟨hrun, hable, halone, hname, hhears, hripe, hroom, hpre⟩ := (Spec.appliesLoose_iff hfr).mp happ
  have hcode := atoms_spec hpre _ List.mem_cons_self
  obtain ⟨meth, c, hmeth, hcd, hbytes, hlocals, hret, hlocks, hrest⟩ := Cond.code_spec hname hcode
  have hsig := hrest.2
  have hcur := State.cur_lt_of_frames hfr
  obtain ⟨kS, hkS, hkname⟩ := className_of_methodNamed hname
  obtain ⟨hmn, hmd⟩ := name_of_methodNamed hname hmeth
  have hx : kS.methods[m.idx]? = some meth := by simpa [Vm.method?, hkS] using hmeth
  have hboot : kS.loader = none := Vm.bootOf_findClass (findClass_of_methodNamed hname) hkS
  have hkname : kS.name = "java/lang/Math" := hkname
  have hmn : meth.name = "min" := hmn
  have hmd : meth.desc = "(DD)D" := hmd
  have hparams : meth.sig.parameters.length = 2 := by
    have h3 : parseMethodDescriptor "(DD)D" = some meth.sig := hsig
    rw [show parseMethodDescriptor "(DD)D" = some { parameters := [.double, .double], returnType := some .double } by decide +kernel] at h3
    rw [← Option.some.inj h3]
    rfl
  have hs1 : (stepThread p.tables e s).1 = s.setFrames (.java (entryFrame m #[.double a0, .double a1] 4) :: below) := by
    have hfull : e.platform.stackFull (s.setFrames below).me (s.setFrames below).frames c.maxLocals = false := by
      obtain ⟨-, h1, -, h2⟩ := State.hasRoom_stack hroom
      rw [hfr, List.length_cons] at h1
      rw [State.localsInUse_invoking hfr hmeth hcd] at h2
      have hw := stackUse_le_stackWeight below
      rw [State.frames_setFrames _ hcur]
      exact Platform.stackFull_eq_false (by rw [State.stackLimits_setFrames]; omega) (by rw [State.stackLimits_setFrames]; omega)
    rw [stepThread_invoking hfr, (doInvoke_java (s := s.setFrames below) (e := e) (meth := meth) (code := c) hmeth hcd hlocks hfull).1]
    simp only [State.pushFrame, State.frames_setFrames _ hcur, State.setFrames_setFrames, hlocals, entryFrame]
  have hf1 : (s.setFrames (.java (entryFrame m #[.double a0, .double a1] 4) :: below)).frames = .java (entryFrame m #[.double a0, .double a1] 4) :: below := State.frames_setFrames _ hcur
  have hov : overridden p.tables e (s.setFrames (.java (entryFrame m #[.double a0, .double a1] 4) :: below)) (entryFrame m #[.double a0, .double a1] 4) = some am_mnR := am_ov (k := kS) (x := meth) rfl hkS (by rw [hkname]; decide) hboot hx (by rw [hkname, hmn, hmd]; exact am_mn_row p)
  obtain ⟨fs, hfs⟩ := handOver_isSome (s := s.setFrames (.native { method := m, args := #[.double a0, .double a1] } :: below)) (some (.double (Native.java_lang_Math.nans.pick64 false a0 a1))) (below := below) (m := m) hhears
  obtain ⟨acts, hrun2⟩ := am_mn_run n1 n2 e (s.setFrames (.native { method := m, args := #[.double a0, .double a1] } :: below))
  have hb2 : (s.vm.classes[m.cls]?.bind fun y => y.methods[m.idx]?) = some meth := by
    simp [hkS, hx]
  have htake : ∀ n : Nat, List.take (2 + n) [Value.double a0, Value.double a1] = [Value.double a0, Value.double a1] := fun n => List.take_of_length_le (Nat.le_add_right 2 n)
  have hs2 : (stepThread p.tables e (s.setFrames (.java (entryFrame m #[.double a0, .double a1] 4) :: below))).1 = s.setFrames fs := by
    unfold stepThread
    simp only [hf1, hov]
    simp [entryFrame, argsToLocals, Value.category, argCount, hb2, hparams, htake, hrun2, afterNative]
    rw [doReturn_native (f := { method := m, args := #[.double a0, .double a1] }) (below := below) (State.frames_setFrames _ hcur) rfl hfs, State.setFrames_setFrames]
  have hE : Ended (s.setFrames fs) below (.returned (some (.double (Native.java_lang_Math.nans.pick64 false a0 a1)))) := by
    have h0 := ended_of_handOver hfs (State.cur_lt_of_frames (State.frames_setFrames _ hcur)) ?_
    · rwa [State.setFrames_setFrames] at h0
    · have hh := hhears
      rcases below with _ | ⟨y, r⟩
      · simp only [State.hears, hmeth, Option.any_some, hret] at hh
        cases hh
      · cases y
        case java g => exact Or.inr ⟨_, _, rfl, trivial⟩
        case native g => exact Or.inr ⟨_, _, rfl, trivial⟩
        case proc g => exact Or.inr ⟨_, _, rfl, trivial⟩
        all_goals
          simp only [State.hears, hmeth, Option.any_some, hret] at hh
          cases hh
  have hsteps : Steps p.tables e below s (s.setFrames fs) := by
    refine Steps.head ⟨hrun, hable, halone⟩ ⟨[.invoking m #[.double a0, .double a1]], hfr, by simp, by simp⟩ ?_
    rw [hs1]
    refine Steps.head ⟨hrun, by simpa using hable, by simpa using halone⟩ ⟨[.java (entryFrame m #[.double a0, .double a1] 4)], hf1, by simp, by simp⟩ ?_
    rw [hs2]
    exact ⟨0, rfl, fun k hk => absurd hk (Nat.not_lt_zero _)⟩
  obtain ⟨n, hn, hw⟩ := hsteps
  refine ⟨n, _, hw, hn ▸ hrun, hn ▸ hE, ?_⟩
  rw [hn]
  have hht : (s.setFrames fs).frames = fs := State.frames_setFrames _ hcur
  refine ⟨⟨⟨_, _, rfl, ⟨rfl, rfl⟩, hB.1⟩, Nat.le_refl _, fun _ _ _ => rfl⟩, [], ⟨⟨_, rfl⟩, State.WarmedH.refl s, ?_⟩, fun q hq => by cases hq⟩
  have hd : List.drop (Array.size s.heap) s.heap.toList = [] := List.drop_eq_nil_of_le (Nat.le_refl _)
  refine ⟨?_, Nat.le_refl _, Nat.le_refl _, ?_, ?_, fun a c0 h0 => ⟨c0, h0, rfl, rfl, fun _ _ => rfl⟩⟩
  · show _ = ({ (s.setFrames (s.setFrames fs).frames) with heap := _, slotsUsed := _ } : State)
    rw [hht]
    rfl
  · show s.slotsUsed = s.slotsUsed + (List.map (fun x => x.slots.size) (List.drop (Array.size s.heap) s.heap.toList)).sum
    rw [hd]; rfl
  · show (List.map (fun x => x.slots.size) (List.drop (Array.size s.heap) s.heap.toList)).sum ≤ 0
    rw [hd]; exact Nat.le_refl _
