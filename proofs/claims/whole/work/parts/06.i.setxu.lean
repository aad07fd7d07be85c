/-! what the throw of user needs, out of the premises (wip/whole/setxu.py) -/
theorem am_setXU {s : State} {args : Array Value} {G : am_G} (hts : ∀ w ∈ lw_tbl, w.before args s = true) (hg : (Jvm.Cond.and given_1 narrow_1).before args s = true) (hG : G.1 = s.heap.size) : am_XU G s s.heap := by
  have hs := flat_of_before _ hg
  have hA : ∀ a : Nat, a < s.heap.size → ¬ am_A G a := fun a h h2 => absurd (show G.1 ≤ a from h2) (by rw [hG]; exact Nat.not_le.mpr h)
  refine ⟨fun w hw => ?_, ?_, ?_⟩
  · simp only [am_xu, List.mem_cons, List.not_mem_nil, or_false] at hw
    rcases hw with rfl | rfl | rfl | rfl
    · exact va_Nw.of rfl (hts (Cond.castable "java/util/NoSuchElementException" "java/util/NoSuchElementException") (List.mem_append_right _ (List.mem_of_getElem? (i := 1250) (by decide +kernel))))
    · exact va_Nw.of rfl (hts (Cond.declares ⟨"java/lang/RuntimeException", "<init>", "()V"⟩) (List.mem_append_right _ (List.mem_of_getElem? (i := 1251) (by decide +kernel))))
    · exact va_Nw.of rfl (hts (Cond.declares ⟨"java/lang/Exception", "<init>", "()V"⟩) (List.mem_append_right _ (List.mem_of_getElem? (i := 1253) (by decide +kernel))))
    · exact va_Nw.of rfl (hts (Cond.declares ⟨"java/lang/Throwable", "<init>", "()V"⟩) (List.mem_append_right _ (List.mem_of_getElem? (i := 1255) (by decide +kernel))))
  · exact vx_Zqof (hts (Cond.laysStatic "java/lang/Throwable" "UNASSIGNED_STACK" "[Ljava/lang/StackTraceElement;") (List.mem_append_right _ (List.mem_of_getElem? (i := 1275) (by decide +kernel)))) (hts (Cond.initialized "java/lang/Throwable") (List.mem_append_right _ (List.mem_of_getElem? (i := 24) (by decide +kernel)))) (hs (Cond.isRef (.static "java/lang/Throwable" "UNASSIGNED_STACK" "[Ljava/lang/StackTraceElement;")) (by decide +kernel)) hA
  · exact vx_Zqof (hts (Cond.laysStatic "java/lang/Throwable" "SUPPRESSED_SENTINEL" "Ljava/util/List;") (List.mem_append_right _ (List.mem_of_getElem? (i := 1277) (by decide +kernel)))) (hts (Cond.initialized "java/lang/Throwable") (List.mem_append_right _ (List.mem_of_getElem? (i := 24) (by decide +kernel)))) (hs (Cond.isRef (.static "java/lang/Throwable" "SUPPRESSED_SENTINEL" "Ljava/util/List;")) (by decide +kernel)) hA
theorem am_noTraces {l : Launch} (hf : l.flags = flags0) : l.stackTraces = false := by unfold Launch.stackTraces; rw [hf]; decide
