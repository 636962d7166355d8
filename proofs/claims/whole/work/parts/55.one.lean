/-! one call on two new objects -/
theorem om_some {α β : Type} {x : Option α} {f : α → β} {b : β} (h : x.map f = some b) : ∃ a, x = some a ∧ f a = b := by
  cases x with
  | none => cases h
  | some a => exact ⟨a, rfl, Option.some.inj h⟩
def c1_all : Option (Bool × Bool) := (f_X10_compile_p 64 S0).bind fun q => (f_X11_compile 64 (hs_compile q.1 q.2)).bind fun q2 => (f_X11_thrown q2.2).map fun q3 => ((match q.1 with | .inl E => decide (E = xIAE) | .inr _ => false), decide (q3.1 = 1))
set_option maxRecDepth 100000 in
theorem c1_ev : c1_all = some (true, true) := by decide +kernel
