/-- Math.min of two doubles: the machine runs an entry of its own in its place -/
def f_J9_min_eb370 (a0 a1 : UInt64) (w : am_S) : Option (UInt64 × am_S) := am_n64 a0 (am_n64 a1 (some (Native.java_lang_Math.nans.pick64 false a0 a1, w)))
theorem k_J9_min_eb370 {G : am_G} {l : Launch} {a0 : UInt64} {a1 : UInt64} {w : am_S} {rr : UInt64} {ww : am_S} (hf : f_J9_min_eb370 a0 a1 w = some (rr, ww)) : am_Md G l yJ9_min_eb370 (Cond.code yJ9_min_eb370 cJ9_min_eb370 4 (some .double) :: am_T) { frames := 1, cells := 0, slots := 0, locals := 64 } [.double a0, .double a1] w rr ww := by
  sorry
