section
/-! Not an owed row: the ground of REPORT.md, TRANSLATOR 3. Where the premises hold, the array type of Throwable's static UNASSIGNED_STACK is known by its name. The printed start has no such name. -/
/-- does one of the conjuncts say 'cannot be cast' of this name? -/
def nw_wants (nm : String) : Jvm.Cond → Bool
  | .and a b => nw_wants nm a || nw_wants nm b
  | .not (.castable C _) => C == nm
  | _ => false
/-- a conjunct of that kind holds only where the name is found -/
theorem nw_found {nm : String} {args : Array Value} {s : State} (c : Jvm.Cond) : nw_wants nm c = true → c.before args s = true → ∃ k, s.vm.findClass nm = some k := by
  fun_induction nw_wants nm c with
  | case1 a b iha ihb =>
    intro h hb
    rw [Cond.before_and, Bool.and_eq_true] at hb
    rw [Bool.or_eq_true] at h
    exact h.elim (fun h => iha h hb.1) (fun h => ihb h hb.2)
  | case2 C T =>
    intro h hb
    obtain ⟨k, -, h1, -, -⟩ := va_Nc.of hb
    exact ⟨k, by rw [← eq_of_beq h]; exact h1⟩
  | case3 => intro h; exact absurd h (by decide)
/-- the claim's own premises -/
theorem nw_given {args : Array Value} {s : State} (h : (Jvm.Cond.and given_1 narrow_1).before args s = true) : ∃ k, s.vm.findClass "[Ljava/lang/StackTraceElement;" = some k :=
  nw_found _ (by decide +kernel) h
/-- so no start without that name meets them -/
theorem nw_none {args : Array Value} {s : State} (hs : s.vm.findClass "[Ljava/lang/StackTraceElement;" = none) : (Jvm.Cond.and given_1 narrow_1).before args s = false := by
  cases h : (Jvm.Cond.and given_1 narrow_1).before args s with
  | false => rfl
  | true => obtain ⟨k, hk⟩ := nw_given h; rw [hs] at hk; exact absurd hk (by simp)
end
