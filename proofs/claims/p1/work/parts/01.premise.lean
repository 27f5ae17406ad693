/-! What the Statement's premise asks of every start, and what the printed witness' start hasn't got: a class in the tables under the name of the array class of stack trace elements. -/
theorem zw_value {args : Array Value} {s : State} {C T : String} (h : s.vm.findClass C = none) : (Cond.not (Cond.castable C T)).before args s = false := by
  simp [Cond.before, Cond.holds, Cond.value, h]
theorem zw_asked {args : Array Value} {s : State} (h : narrow_1.before args s = true) : (Cond.not (Cond.castable "[Ljava/lang/StackTraceElement;" "java/lang/String")).before args s = true :=
  flat_of_before _ h _ (by decide +kernel)
/-- no start without that class meets the premise -/
theorem zw_class {args : Array Value} {s : State} (h : narrow_1.before args s = true) : s.vm.findClass "[Ljava/lang/StackTraceElement;" ≠ none := fun hn => by
  have h1 := zw_asked h
  rw [zw_value hn] at h1
  exact absurd h1 (by decide)
