section
/-! A look at the premises, no row of the proof: whether the premises can hold of a state whose classes lack the array class of StackTraceElement. -/
def zq_asks : Cond → Bool
  | .and a b => zq_asks a || zq_asks b
  | .not (.castable x _) => x == "[Ljava/lang/StackTraceElement;"
  | _ => false
theorem zq_none {x y : String} {v : Array Value} {s : State} (h : s.vm.findClass x = none) : (Cond.not (.castable x y)).value v s none s [] = none := by
  simp [Cond.value, h]
theorem zq_falls {v : Array Value} {s : State} (h : s.vm.findClass "[Ljava/lang/StackTraceElement;" = none) : ∀ c : Cond, zq_asks c = true → c.value v s none s [] ≠ some true := by
  intro c
  induction c with
  | and a b ha hb =>
    intro hc hv
    have h1 : zq_asks a = true ∨ zq_asks b = true := by simpa [zq_asks] using hc
    cases hq : a.value v s none s [] with
    | none => simp [Cond.value, hq] at hv
    | some t =>
      cases t with
      | false => simp [Cond.value, hq] at hv
      | true =>
        rcases h1 with h1 | h1
        · exact ha h1 hq
        · exact hb h1 (by simpa [Cond.value, hq] using hv)
  | not a _ =>
    intro hc hv
    cases a with
    | castable x y =>
      have hx : x = "[Ljava/lang/StackTraceElement;" := by simpa [zq_asks] using hc
      subst hx
      rw [zq_none h] at hv
      exact absurd hv (by simp)
    | _ => simp [zq_asks] at hc
  | _ => intro hc; simp [zq_asks] at hc
theorem zq_narrow_asks : zq_asks narrow_1 = true := by decide +kernel
theorem zq_given_fails {v : Array Value} {s : State} (h : s.vm.findClass "[Ljava/lang/StackTraceElement;" = none) : (Cond.and given_1 narrow_1).before v s = false := by
  cases hb : (Cond.and given_1 narrow_1).before v s with
  | false => rfl
  | true =>
    exact absurd (by simpa [Cond.before, Cond.holds] using hb) (zq_falls h (.and given_1 narrow_1) (by simp [zq_asks, zq_narrow_asks]))
theorem i_vc : Claimed_1_1 ∧ Claimed_1_2 := sorry
end
