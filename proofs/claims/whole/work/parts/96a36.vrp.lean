/-! a name has one place -/
section VRP
variable {K : Nat → Nat} {V : Nat → Int64} {y : TR} {ar : Nat → Int64} {W : Nat → Int32 × Int32 × Int32} {ν : Nat → Nat}
theorem wn_P {p e : Nat} (w : PW K y p e) : ∀ f, FA (WPs W ν) y f → ∀ z, z ∈ scP y → WN W ν z.1 := by
  refine PW_ind (K := K) (P := fun y p e => ∀ f, FA (WPs W ν) y f → ∀ z, z ∈ scP y → WN W ν z.1) ?_ ?_ (tsz y) y p e (Nat.le_refl _) w
  · intro p cnt x b e0 _ _ _ w1 hb f h z hz
    rcases List.mem_append.mp hz with hz | hz
    · exact h.1.2 _ (sbc_sbs w1 _ _ z hz)
    · exact absurd hz List.not_mem_nil
  · intro p cnt x r b e0 e _ _ _ w1 hb _ w2 ih f h z hz
    rcases List.mem_append.mp hz with hz | hz
    · exact h.1.2 _ (sbc_sbs w1 _ _ z hz)
    · exact ih _ h.2 z hz
theorem wp_P {p e : Nat} (w : PW K y p e) : ∀ f, FA (WPs W ν) y f → ∀ q cnt x, (q, cnt, x) ∈ fuP y → ∃ c, f ≤ c ∧ c < f + tln y ∧ (fuP y)[c - f]? = some (q, cnt, x) ∧ ∀ z, z < cnt → W (q + 2 + 2 * z) = (1, nI c, nI z) := by
  refine PW_ind (K := K) (P := fun y p e => ∀ f, FA (WPs W ν) y f → ∀ q cnt x, (q, cnt, x) ∈ fuP y → ∃ c, f ≤ c ∧ c < f + tln y ∧ (fuP y)[c - f]? = some (q, cnt, x) ∧ ∀ z, z < cnt → W (q + 2 + 2 * z) = (1, nI c, nI z)) ?_ ?_ (tsz y) y p e (Nat.le_refl _) w
  · intro p cnt x b e0 _ _ _ w1 hb f h q cnt' x' hq
    have hq := List.mem_singleton.mp hq
    cases hq
    exact ⟨f, Nat.le_refl _, show f < f + (0 + 1) by omega, by rw [Nat.sub_self]; rfl, h.1.1⟩
  · intro p cnt x r b e0 e _ _ _ w1 hb _ w2 ih f h q cnt' x' hq
    rcases List.mem_cons.mp hq with hq | hq
    · cases hq
      exact ⟨f, Nat.le_refl _, show f < f + (tln r + 1) by omega, by rw [Nat.sub_self]; rfl, h.1.1⟩
    · obtain ⟨c, c1, c2, c3, c4⟩ := ih (f + 1) h.2 q cnt' x' hq
      refine ⟨c, by omega, show c < f + (tln r + 1) by omega, ?_, c4⟩
      rw [show c - f = (c - (f + 1)) + 1 by omega]
      exact c3
theorem WbL_at {w : Int32} : ∀ x : TR, LL x → ∀ i, WbL W w x i → ∀ b, b ∈ tks x → ∃ k, W b = (3, w, k) := by
  refine LL_ind (fun i _ b hb => absurd hb List.not_mem_nil) (fun p x r _ ih i h b hb => ?_)
  rcases List.mem_cons.mp hb with rfl | hb
  · exact ⟨_, h.1⟩
  · exact ih _ h.2 b hb
end VRP
