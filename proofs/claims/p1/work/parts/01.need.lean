/-- every start that the Statement's premises allow has the class of the arrays of StackTraceElement in its tables: for 'not castable' has no value where one of its classes isn't there -/
theorem nd_need {args : Array Value} {s : State} (h : (Jvm.Cond.and given_1 narrow_1).before args s = true) : ∃ c : ClassId, s.vm.findClass "[Ljava/lang/StackTraceElement;" = some c := by
  have hs := flat_of_before _ h
  have h1 : (Cond.not (.castable "[Ljava/lang/StackTraceElement;" "java/lang/String")).before args s = true := hs _ (by decide +kernel)
  simp only [Cond.before, Cond.holds, Cond.value] at h1
  cases hc : s.vm.findClass "[Ljava/lang/StackTraceElement;" with
  | none => simp [hc] at h1
  | some c => exact ⟨c, rfl⟩
