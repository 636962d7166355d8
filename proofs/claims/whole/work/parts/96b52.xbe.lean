/-! all that is known of the program, from what compile left -/
section XBE
variable {K pl : Nat → Nat} {V : Nat → Int64} {y : TR} {e m : Nat} {N M L : Nat → Nat} {n ρ τ : Nat} {G S : im_S} {fr n' r' : Nat} {W : Nat → Int32 × Int32 × Int32} {ν ρ' : Nat → Nat}
theorem xb_ex (T : TH K pl V m) (C : CGd K pl V y e N M L n ρ τ G) (R : RHd K pl V m fr y e n' r' ν ρ' W S) (hP : 4000 ≤ rP K pl V (ftP y) y []) : ∃ sl tO sO kO crt : Nat → Nat, XB K pl V y e N M L n ρ τ G sl tO sO kO crt fr W ν := by
  obtain ⟨sl, tO, sO, kO, hS⟩ := SLy_ex C
  have hgd := gd_P (ft := ftP y) T C.1 [] R.2.1 hP
  have hrs := rs_P T R
  have hf8 := R.2.2.2.2.1
  have ht8 := R.2.2.2.2.2.2.1
  have hcr : ∀ t : Nat, ∃ c : Nat, (∀ x x' γ r, (.tag 11 (.tag t (.append x x')), γ, r) ∈ scP y → c = rtk x') ∧ (¬ t ∈ tbP y → c = e) := fun t => by
    by_cases ht : t ∈ tbP y
    · obtain ⟨z, h1, h2⟩ := List.mem_map.mp ht
      obtain ⟨h1, h3⟩ := List.mem_filter.mp h1
      have hs := ((tl_P C.1) z h1).2.1
      obtain ⟨x, γ, r⟩ := z
      have hs : shp x := hs
      rcases hs with ⟨j, rfl⟩ | ⟨j, rfl⟩ | ⟨j, rfl⟩ | ⟨j, as, rfl⟩ | ⟨j, a, b, rfl⟩ | ⟨j, a, b, d, rfl⟩ | ⟨j, fs, d, ns, g, rfl⟩ | ⟨j, a, rfl⟩ | ⟨j, a, b, rfl⟩ | ⟨j, a, b, rfl⟩ | ⟨j, a, b, rfl⟩ | ⟨j, a, rfl⟩
      · cases h3
      · cases h3
      · cases h3
      · cases h3
      · cases h3
      · cases h3
      · cases h3
      · cases h3
      · cases h3
      · cases h3
      · have h2 : j = t := h2
        refine ⟨rtk b, fun x x' γ' r' q => ?_, fun q => absurd ht q⟩
        have e1 := (ou_P C.1).2 _ h1 (.tag 11 (.tag t (.append x x')), γ', r') q h2
        have e2 : b = x' := by
          cases e1
          rfl
        rw [e2]
      · cases h3
    · refine ⟨e, fun x x' γ r q => absurd (List.mem_map.mpr ⟨_, List.mem_filter.mpr ⟨q, rfl⟩, rfl⟩) ht, fun _ => rfl⟩
  refine ⟨sl, tO, sO, kO, fun t => Classical.choose (hcr t), C, hS, ⟨C.1, by omega, R.2.2.2.2.2.2.2.2.2.2.1, fun z hz => ⟨?_, fun z' hz' q => nu_inj T R z hz z' hz' q⟩, fun j fs c ns g γ r q => ?_, hgd.1, fun j as γ r q => ?_⟩, hgd.2, fun j x x' γ r q => (Classical.choose_spec (hcr j)).1 x x' γ r q, fun t q => (Classical.choose_spec (hcr t)).2 q⟩
  · have := (hrs z hz).2.1
    omega
  · obtain ⟨-, ⟨-, -, -, -, h1⟩, -, ⟨-, -, -, -, h2⟩, -⟩ := (hrs _ q).1
    exact ⟨h1, h2⟩
  · obtain ⟨-, -, -, -, -, h1⟩ := (hrs _ q).1
    exact h1
theorem lp_4 (w : PW K y 0 e) (h : FA (fun _ _ _ x => nl x ≤ 20) y 0) : ∀ j fs c ns g γ r, (.tag 7 (.tag j (.append fs (.append c (.append ns g)))), γ, r) ∈ scP y → tln fs ≤ 4 := by
  intro j fs c ns g γ r hz
  obtain ⟨q, cnt, x, h1, h2⟩ := sc_fu w _ hz
  obtain ⟨⟨b, e1, wx⟩, -, -⟩ := fu_sc w q cnt x h1
  obtain ⟨i, hi⟩ := List.getElem?_of_mem h1
  have h3 : nl x ≤ 20 := (FA_fu w 0 h i q cnt x hi).1
  have h4 : 1 + nq4 (tln fs) + (nl fs + (nl c + (nl ns + nl g))) ≤ nl x := nl_sub wx _ _ _ h2
  rcases Nat.lt_or_ge 4 (tln fs) with q | q
  · have : nq4 (tln fs) = 100 := if_neg (by omega)
    omega
  · exact q
theorem fu_8 (R : RHd K pl V m fr y e n' r' ν ρ' W S) : (fuP y).length ≤ 8 := by
  have h1 := congrArg List.length (ft_fu R.1).1
  rw [List.length_map, List.length_map] at h1
  have h2 := R.2.2.2.2.2.1
  have h3 := R.2.2.2.2.2.2.1
  omega
end XBE
