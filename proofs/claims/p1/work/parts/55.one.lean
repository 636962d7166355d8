/-! one call on two new objects -/
theorem om_some {α β : Type} {x : Option α} {f : α → β} {b : β} (h : x.map f = some b) : ∃ a, x = some a ∧ f a = b := by
  cases x with
  | none => cases h
  | some a => exact ⟨a, rfl, Option.some.inj h⟩
def c1_all : Option (Bool × Bool) := (f_X10_compile_p 64 S0).bind fun q => (f_X11_compile 64 (hs_compile q.1 q.2)).bind fun q2 => (f_X11_thrown q2.2).map fun q3 => ((match q.1 with | .inl E => decide (E = xIAE) | .inr _ => false), decide (q3.1 = 1))
set_option maxRecDepth 100000 in
theorem c1_ev : c1_all = some (true, true) := by decide +kernel
theorem c1_step (c : Nat → Int32) (hc : (c 0 &&& 15) = (1 : Int32)) : ∃ S', lw_step 64 c S0 S' := by
  obtain ⟨q, hq, h⟩ := bd_some (show (f_X10_compile_p 64 S0).bind _ = some _ from c1_ev)
  obtain ⟨q2, hq2, h⟩ := bd_some h
  obtain ⟨q3, hq3, h⟩ := om_some h
  obtain ⟨o, S1⟩ := q
  obtain ⟨r2, S2⟩ := q2
  obtain ⟨r3, S3⟩ := q3
  have hb : (c 0 &&& 15) ≠ (0 : Int32) := by rw [hc]; decide
  refine ⟨S3, ?_⟩
  unfold lw_step
  rw [if_neg hb, if_pos hc]
  cases o with
  | inr r => exact absurd (congrArg Prod.fst h) (by simp)
  | inl E =>
    have hE : E = xIAE := of_decide_eq_true (congrArg Prod.fst h)
    have h3 : r3 = 1 := of_decide_eq_true (congrArg Prod.snd h)
    refine ⟨.inl E, S1, r2, S2, r3, S3, hq, ?_, hq2, hq3, h3, ?_, rfl⟩
    · intro E' h'; cases h'; exact hE
    · intro q; exact absurd (show (1 : Int32) ≠ 0 by decide) q
theorem lw_good1 : lw_good 64 1 S0 := by
  intro c
  by_cases hc : (c 0 &&& 15) = (1 : Int32)
  · obtain ⟨S', h⟩ := c1_step c hc
    exact ⟨S', h, trivial⟩
  · obtain ⟨S', h, _⟩ := step_fr (fu := 64) (by decide) c hc Fr_S0
    exact ⟨S', h, trivial⟩
