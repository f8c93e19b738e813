section
/-! WHAT THE PRINTED WITNESS LACKS (no step to i_vc): a state that has no class called "[Ljava/lang/StackTraceElement;" doesn't meet the premise of the claim, whatever else it holds. -/
def ev_step (right : Bool) : Jvm.Cond → Jvm.Cond
  | .and a b => match right with
    | true => b
    | false => a
  | d => d
def ev_at : Jvm.Cond → List Bool → Jvm.Cond
  | d, [] => d
  | d, r :: l => ev_at (ev_step r d) l
theorem ev_step_before {args : Array Value} {s : State} (r : Bool) (d : Jvm.Cond) (h : d.before args s = true) : (ev_step r d).before args s = true := by
  unfold ev_step
  split
  · rw [Cond.before_and, Bool.and_eq_true] at h
    cases r with
    | true => exact h.2
    | false => exact h.1
  · exact h
theorem ev_at_before {args : Array Value} {s : State} (l : List Bool) : ∀ d : Jvm.Cond, d.before args s = true → (ev_at d l).before args s = true := by
  induction l with
  | nil => exact fun d h => h
  | cons r l ih => exact fun d h => ih (ev_step r d) (ev_step_before r d h)
theorem ev_place : ev_at (Jvm.Cond.and given_1 narrow_1) [true, false, true, false, false, true, true, true, true, false, true] = Jvm.Cond.not (Jvm.Cond.castable "[Ljava/lang/StackTraceElement;" "java/lang/String") := by
  first | rfl | decide +kernel
theorem ev_no_start {args : Array Value} {s : State} (h : s.vm.findClass "[Ljava/lang/StackTraceElement;" = none) : (Jvm.Cond.and given_1 narrow_1).before args s = false := by
  cases hb : (Jvm.Cond.and given_1 narrow_1).before args s with
  | false => rfl
  | true =>
    have h1 := ev_at_before [true, false, true, false, false, true, true, true, true, false, true] _ hb
    rw [ev_place] at h1
    simp [Cond.before, Cond.holds, Cond.value, h] at h1
end
