/-! one path a region in a frame; the roots of X -/
section PUQ
variable {K : Nat → Nat} {V : Nat → Int64} {y : TR} {e : Nat}
theorem par_uq {c r r' : Nat} {z : TR × List Nat × Nat} (hs : shp z.1) (h : ParN c r z) (h' : ParN c r' z) : r = r' := by
  obtain ⟨x, γ, r0⟩ := z
  have hs : shp x := hs
  rcases hs with ⟨j, rfl⟩ | ⟨j, rfl⟩ | ⟨j, rfl⟩ | ⟨j, as, rfl⟩ | ⟨j, a, b, rfl⟩ | ⟨j, a, b, d, rfl⟩ | ⟨j, fs, d, ns, g, rfl⟩ | ⟨j, a, rfl⟩ | ⟨j, a, b, rfl⟩ | ⟨j, a, b, rfl⟩ | ⟨j, a, b, rfl⟩ | ⟨j, a, rfl⟩
  · exact absurd h id
  · exact absurd h id
  · exact absurd h id
  · exact absurd h id
  · exact absurd h id
  · exact h.2.trans h'.2.symm
  · rcases h with ⟨h1, h2⟩ | ⟨h1, h2⟩
    · rcases h' with ⟨h3, h4⟩ | ⟨h3, h4⟩
      · exact h2.trans h4.symm
      · omega
    · rcases h' with ⟨h3, h4⟩ | ⟨h3, h4⟩
      · omega
      · exact h2.trans h4.symm
  · exact absurd h id
  · exact absurd h id
  · exact absurd h id
  · exact h.2.trans h'.2.symm
  · exact absurd h id
theorem P_uq (w : PW K y 0 e) : ∀ P P' : TPth, POk V y P → POk V y P' → Z0 y P → Z0 y P' → fpt y P = fpt y P' → hdR P = hdR P' → P = P' := by
  intro P
  induction P with
  | nil => intro P' h; exact absurd h id
  | cons c Q ih =>
    intro P' h h' z z' hf hh
    cases P' with
    | nil => exact absurd h' id
    | cons c' Q' =>
      have hh : c.1 = c'.1 := hh
      by_cases hi : ifr y c.1
      · rw [fpt_y hi, fpt_y (by rw [← hh]; exact hi)] at hf
        exact hf
      · have hi' : ¬ ifr y c'.1 := by rw [← hh]; exact hi
        have e0 := z c List.mem_cons_self hi
        have e0' := z' c' List.mem_cons_self hi'
        rw [fpt_n hi, fpt_n hi'] at hf
        have hc : c = c' := Prod.ext hh (by rw [e0, e0'])
        have key : ∀ {c : Nat × Nat} {Q : TPth}, ¬ ifr y c.1 → POk V y (c :: Q) → ∃ zz, zz ∈ scP y ∧ ∃ d D, Q = d :: D ∧ ParN c.1 d.1 zz ∧ POk V y Q := fun {c Q} hi h => by
          cases Q with
          | nil =>
            obtain ⟨q, cnt, x, h1, h2⟩ := h
            exact absurd (by rw [h2]; exact ifr_fn w h1) hi
          | cons d D =>
            rcases h.1 with ⟨as, γ, i, q, cnt, x, h1, h2, h3, h4⟩ | ⟨zz, h1, h2⟩
            · exact absurd (by rw [h4]; exact ifr_fn w (List.mem_of_getElem? h3)) hi
            · exact ⟨zz, h1, d, D, rfl, h2, h.2⟩
        obtain ⟨z1, a1, d1, D1, a2, a3, a4⟩ := key hi h
        obtain ⟨z2, b1, d2, D2, b2, b3, b4⟩ := key hi' h'
        have hs1 := ((tl_P w) z1 a1).2.1
        have hs2 := ((tl_P w) z2 b1).2.1
        have o1 := par_ot hs1 a3
        have o2 := par_ot hs2 b3
        have hz : z1 = z2 := (ou_P w).2 z1 a1 z2 b1 (by rw [← o1, ← o2, hh])
        subst hz
        rw [← hh] at b3
        have hd := par_uq hs1 a3 b3
        have := ih Q' a4 b4 (fun d hd => z d (List.mem_cons_of_mem _ hd)) (fun d hd => z' d (List.mem_cons_of_mem _ hd)) hf (by rw [a2, b2]; exact hd)
        rw [hc, this]
/-- the X that a bracket holds -/
theorem rt_sc (w : PW K y 0 e) : ∀ (n : Nat) (x : TR) (γ : List Nat) (r : Nat), tsz x ≤ n → (x, γ, r) ∈ scP y → ∃ x', (x', γ, r) ∈ scP y ∧ otk x' = rtk x ∧ rtk x' = rtk x ∧ (∀ j a, x' ≠ .tag 12 (.tag j a)) ∧ tyV K V x' = tyV K V x := by
  intro n
  induction n with
  | zero => intro x γ r h; cases x <;> simp [tsz] at h
  | succ n ih =>
    intro x γ r hn hz
    obtain ⟨⟨p', e', wz⟩, hs, htr⟩ := (tl_P w) _ hz
    have hs : shp x := hs
    rcases hs with ⟨j, rfl⟩ | ⟨j, rfl⟩ | ⟨j, rfl⟩ | ⟨j, as, rfl⟩ | ⟨j, a, b, rfl⟩ | ⟨j, a, b, d, rfl⟩ | ⟨j, fs, d, ns, g, rfl⟩ | ⟨j, a, rfl⟩ | ⟨j, a, b, rfl⟩ | ⟨j, a, b, rfl⟩ | ⟨j, a, b, rfl⟩ | ⟨j, a, rfl⟩
    · exact ⟨_, hz, rfl, rfl, (fun j a q => by cases q), rfl⟩
    · exact ⟨_, hz, rfl, rfl, (fun j a q => by cases q), rfl⟩
    · exact ⟨_, hz, rfl, rfl, (fun j a q => by cases q), rfl⟩
    · exact ⟨_, hz, rfl, rfl, (fun j a q => by cases q), rfl⟩
    · exact ⟨_, hz, rfl, rfl, (fun j a q => by cases q), rfl⟩
    · exact ⟨_, hz, rfl, rfl, (fun j a q => by cases q), rfl⟩
    · exact ⟨_, hz, rfl, rfl, (fun j a q => by cases q), rfl⟩
    · exact ⟨_, hz, rfl, rfl, (fun j a q => by cases q), rfl⟩
    · exact ⟨_, hz, rfl, rfl, (fun j a q => by cases q), rfl⟩
    · exact ⟨_, hz, rfl, rfl, (fun j a q => by cases q), rfl⟩
    · exact ⟨_, hz, rfl, rfl, (fun j a q => by cases q), rfl⟩
    · obtain ⟨-, bb, w1, -⟩ := wz
      have hza : (a, γ, r) ∈ scP y := htr _ (mc _ (hd_in w1 _ _))
      have hn' : tsz a + 1 + 1 ≤ n + 1 := hn
      obtain ⟨x', h1, h2, h3, h4, h5⟩ := ih a γ r (by omega) hza
      exact ⟨x', h1, h2, h3, h4, h5⟩
end PUQ
