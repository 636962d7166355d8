/-! the reference looks: a name; what a part must be -/
/-- while it looks -/
def LkS (V : Nat → Int64) (fr : Nat) (ft : List (Nat × Nat)) (W : Nat → Int32 × Int32 × Int32) (S : im_S) (γ : List Nat) (f : Nat) : Prop := RFS S f ∧ f ≤ 4000 ∧ S.1 75 52 = nI γ.length ∧ RKn V W S γ ∧ RFt V S fr ft ∧ S.1 75 36 = nI ft.length ∧ 8 * (1 - S.1 75 37) = nI fr ∧ fr + ft.length ≤ 16 ∧ Pq (75 * fr) V S
theorem LkS_cp {V : Nat → Int64} {fr : Nat} {ft : List (Nat × Nat)} {W : Nat → Int32 × Int32 × Int32} {S S' : im_S} {γ : List Nat} {f f' : Nat} (h : LkS V fr ft W S γ f) (hF : RFS S' f') (hf : f' ≤ 4000) (h1 : ∀ a k : Nat, (a = 99 ∨ a = 117 ∨ a = 118 ∨ a = 119 ∨ (a = 75 ∧ (k = 36 ∨ k = 37 ∨ k = 52))) → S'.1 a k = S.1 a k) (h2 : ∀ a k : Nat, (a = 97 ∨ a = 100 ∨ a = 116) → S'.2.1 a k = S.2.1 a k) (ps : Pq (75 * fr) V S') : LkS V fr ft W S' γ f' := by
  obtain ⟨-, -, q3, q4, q5, q6, q7, q8⟩ := h
  exact ⟨hF, hf, by rw [h1 75 52 (by omega)]; exact q3, RKn_cp γ (fun i _ => ⟨h2 116 i (by omega), h1 117 i (by omega), h1 118 i (by omega), h1 119 i (by omega)⟩) q4, RFt_cp (fun k => h1 99 k (by omega)) (fun k => ⟨h2 97 k (by omega), h2 100 k (by omega)⟩) ft fr q5, by rw [h1 75 36 (by omega)]; exact q6, by rw [h1 75 37 (by omega)]; exact q7, q8.1, ps⟩
section RNM
variable {K pl : Nat → Nat} {V : Nat → Int64} {m fu fr : Nat} {ft : List (Nat × Nat)} {W : Nat → Int32 × Int32 × Int32} {S : im_S} {γ : List Nat} {f : Nat}
theorem r_name (hfu : 600 ≤ fu) (H : LkS V fr ft W S γ f) (hl : γ.length ≤ 260) {k j : Nat} (hk : k < 1200) (hkr : 75 * fr ≤ k ∧ k < 75 * fr + 600) (h87 : S.2.1 87 k = V j) (h82 : S.1 82 k = nI (pl j)) (hp : pl j ≤ 500) (hN : Nam (V j)) :
    ∃ S' : im_S, f_X11_lookName fu (nI k) S = some (nI (tvV (V j)), S') ∧ LkS V fr ft W S' γ (min f (if (fnd V γ j).isSome then 4000 else 4 * pl j + 2)) ∧ (∀ a i : Nat, (a ≠ 75 ∨ (i ≠ 3 ∧ i ≠ 4)) → (a < 113 ∨ 115 < a ∨ i ≠ k) → S'.1 a i = S.1 a i) ∧ S'.2.1 = S.2.1 ∧ (∀ b, fnd V γ j = some b → S'.1 113 k = (W b).1 ∧ S'.1 114 k = (W b).2.1 ∧ S'.1 115 k = (W b).2.2) := by
  obtain ⟨q1, q2⟩ := blw_fnd (j := j) γ H.2.2.2.1
  have hf := H.2.1
  have o1 : f_X11_lookName fu (nI k) S = f_X11_lookName fu (nI k) S := rfl
  conv at o1 => rhs; unfold f_X11_lookName
  rw [mI_in (a := k) (n := 1200) (by omega) hk, nI_clamp (show k < 2 ^ 31 by omega), h87] at o1
  simp only [gd_t] at o1
  rw [r_find hfu H.2.2.1 hl H.2.2.2.1 j] at o1
  simp only [Option.bind_some] at o1
  have hcs : fnd V γ j = none ∨ ∃ b, fnd V γ j = some b := by
    cases fnd V γ j with
    | none => exact Or.inl rfl
    | some b => exact Or.inr ⟨b, rfl⟩
  rcases hcs with hfd | ⟨b, hfd⟩
  · rw [q1 hfd] at o1
    simp only [] at o1
    obtain ⟨Sx, n1, n2, n3, n4⟩ := r_note (k := 2) H.1 (by omega) (by omega) hp
    have n1' : f_X11_note 2 (nI (pl j)) S = some ((), Sx) := n1
    rw [if_neg (fun z => z rfl), h82, n1'] at o1
    simp only [Option.bind_some] at o1
    have h87' : Sx.2.1 87 k = V j := by rw [n4]; exact h87
    rw [h87', r_ty (by omega) hN] at o1
    simp only [Option.bind_some] at o1
    have e : min f (if (fnd V γ j).isSome then 4000 else 4 * pl j + 2) = min f (4 * pl j + 2) := by rw [hfd]; rfl
    rw [e]
    refine ⟨Sx, o1, LkS_cp H n2 (by omega) (fun a i u => n3 a i (by omega)) (fun a i _ => by rw [n4]) (Pq_ag H.2.2.2.2.2.2.2.2 (fun a i q => n3 a i (Or.inl (by have := Pr_a q; omega))) (fun a i _ => by rw [n4])), fun a i u _ => n3 a i u, n4, fun b hb => by rw [hfd] at hb; cases hb⟩
  · obtain ⟨i, e1, e2, e3, e4, e5⟩ := q2 b hfd
    rw [e1] at o1
    simp only [] at o1
    rw [if_pos (nI_m1 (show i < 2 ^ 31 by omega)), mI_in (a := i) (n := 260) (by omega) (by omega), nI_clamp (show i < 2 ^ 31 by omega)] at o1
    simp only [gd_t] at o1
    rw [h87, r_ty (by omega) hN] at o1
    simp only [Option.bind_some] at o1
    obtain ⟨S', hS'⟩ : ∃ S', S' = uI (uI (uI S 113 k (S.1 117 i)) 114 k (S.1 118 i)) 115 k (S.1 119 i) := ⟨_, rfl⟩
    have r1 : ∀ a i' : Nat, (a < 113 ∨ 115 < a ∨ i' ≠ k) → S'.1 a i' = S.1 a i' := fun a i' u => by rw [hS', uI_ne (by omega), uI_ne (by omega), uI_ne (by omega)]
    have e : min f (if (fnd V γ j).isSome then 4000 else 4 * pl j + 2) = f := by rw [hfd]; exact Nat.min_eq_left hf
    rw [e]
    refine ⟨S', by rw [o1, hS'], LkS_cp H (by unfold RFS; rw [r1 75 3 (by omega), r1 75 4 (by omega)]; exact H.1) hf (fun a i' u => r1 a i' (by omega)) (fun a i' _ => by rw [hS']; rfl) (Pq_ag H.2.2.2.2.2.2.2.2 (fun a i' q => r1 a i' (by unfold Pr at q; omega)) (fun a i' _ => by rw [hS']; rfl)), fun a i' _ u => r1 a i' u, by rw [hS']; rfl, fun b' hb' => ?_⟩
    rw [hfd] at hb'
    cases hb'
    refine ⟨?_, ?_, ?_⟩
    · rw [hS', uI_ne (by omega), uI_ne (by omega), uI_eq]; exact e3
    · rw [hS', uI_ne (by omega), uI_eq]; exact e4
    · rw [hS', uI_eq]; exact e5
/-- what a part must be -/
theorem r_wants {Kf : Nat → Int32 → Int32 → im_S → Option (Int32 × im_S)} {k ty t bg : Nat} {S1 : im_S} (hK : Kf 0 (nI k) 0 S = some (nI ty, S1)) (H : LkS V fr ft W S1 γ f) (hk : k < 1200) (h82 : S1.1 82 k = nI (pl bg)) (hp : pl bg ≤ 500) (hty : ty < 100) (ht : t < 100) :
    ∃ S' : im_S, f_X11_wants Kf fu (nI k) (nI t) S = some ((), S') ∧ LkS V fr ft W S' γ (min f (chk pl ty bg t)) ∧ (∀ a i : Nat, (a ≠ 75 ∨ (i ≠ 3 ∧ i ≠ 4)) → S'.1 a i = S1.1 a i) ∧ S'.2.1 = S1.2.1 := by
  have hf := H.2.1
  unfold f_X11_wants chk
  rw [hK]
  simp only [Option.bind_some]
  have en : nI ty = nI t ↔ ty = t := nI_eq (by omega) (by omega)
  by_cases h : ty = t
  · rw [if_pos (en.mpr h), if_pos h, Nat.min_eq_left hf]
    exact ⟨S1, rfl, H, fun _ _ _ => rfl, rfl⟩
  · obtain ⟨Sx, n1, n2, n3, n4⟩ := r_note (k := 3) H.1 (by omega) (by omega) hp
    have n1' : f_X11_note 3 (nI (pl bg)) S1 = some ((), Sx) := n1
    rw [if_neg (fun z => h (en.mp z)), if_neg h, mI_in (a := k) (n := 1200) (by omega) hk, nI_clamp (show k < 2 ^ 31 by omega), h82]
    simp only [gd_t]
    rw [n1']
    exact ⟨Sx, rfl, LkS_cp H n2 (by omega) (fun a i u => n3 a i (by omega)) (fun a i _ => by rw [n4]) (Pq_ag H.2.2.2.2.2.2.2.2 (fun a i q => n3 a i (Or.inl (by have := Pr_a q; omega))) (fun a i _ => by rw [n4])), n3, n4⟩
end RNM
