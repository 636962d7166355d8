/-! the law's steps: value, cell, the calls -/
section VAC
variable {fu : Nat} {c : Nat → Int32} {S S' : im_S}
theorem sl_3 {Mt : Nat → TPth × Nat} {nT s : Nat} {a : TVal} (h : Sl S' Mt nT s (some a)) : S'.1 126 s = 3 ↔ a.1 = 3 := by
  rw [h.1]
  exact nI_eq (a := a.1) (b := 3) (by have := h.2.2.1; omega) (by omega)
theorem val_ref (E : EndR S S') : ∃ s, f_X11_rootSlot 0 S' = some (nI s, S') ∧ s < 496496 ∧ ((S.1 38 3 ≠ 3 ∧ S'.1 126 s ≠ 3 ∧ S'.2.1 127 s = S.2.1 38 4) ∨ (S.1 38 3 = 3 ∧ S'.1 126 s = 3 ∧ ∃ T, T < 1000 ∧ S'.2.1 127 s = (nI T).toInt64 ∧ (S'.1 130 T).toInt64 = ((S.2.1 38 4).toInt32 &&& 31).toInt64)) := by
  obtain ⟨s, nT, a, Mt, e1, e2, e3, e4, e5, e6, e7⟩ := E
  have ha : S.1 38 3 = 3 ↔ a.1 = 3 := by
    rw [e5]
    exact nI_eq (a := a.1) (b := 3) (by have := e3.2.2.1; omega) (by omega)
  refine ⟨s, e1, e2, ?_⟩
  by_cases c3 : a.1 = 3
  · obtain ⟨m, f0, T, g, h1, h2, h3, h4, h5, h6, h7, h8, -⟩ := e7 c3
    refine .inr ⟨ha.mpr c3, (sl_3 e3).mpr c3, T, by omega, h6, ?_⟩
    rw [h7, h3, tb_n h2 (by omega)]
  · exact .inl ⟨fun q => c3 (ha.mp q), fun q => c3 ((sl_3 e3).mp q), by rw [(e3.2.2.2.1 c3).1, e6 c3]⟩
theorem vref_s (h : LwI S) (hk : f_X5_condition S = some (2, S)) (w1 : ∀ a i : Nat, 75 ≤ a → (a = 75 → i ≠ 0) → S'.1 a i = S.1 a i) (w2 : ∀ a i : Nat, 75 ≤ a → a ≠ 134 → S'.2.1 a i = S.2.1 a i) : f_X11_stateOf S' = some (2, S') ∧ EndR S S' := by
  obtain ⟨k, l1, l2, l3⟩ := rb_all h w1 w2
  rw [hk] at l1
  have ek : (2 : Int32) = k := congrArg Prod.fst (Option.some.inj l1)
  rw [← ek] at l2
  exact ⟨l2, l3 ek.symm⟩
theorem val_all (h : LwI S) : ∃ (o1 : String ⊕ Int64) (r2 : Int64) (S2 : im_S), f_X10_valueL S = some (o1, S) ∧ (∀ E, o1 = .inl E → E = xNSE) ∧ f_X11_value (hs_value o1 S) = some (r2, S2) ∧ S2.1 75 0 = hk_value o1 ∧ ((¬ ((hk_value o1 : Int32) ≠ 0)) → (lg_cmp (S2.2.1 134 (0 : Int32).toNatClampNeg) r2 : Int32) = 0) ∧ gP S = gP S2 ∧ LwI S2 := by
  obtain ⟨k, k1, k2, -⟩ := rb_all (S' := S) h (fun _ _ _ _ => rfl) (fun _ _ _ _ => rfl)
  by_cases c2 : k = 2
  · rw [c2] at k1
    have key : ∀ v : Int64, f_X10_valueL S = some (.inr v, S) → (v = if S.1 38 3 ≠ 3 then S.2.1 38 4 else ((S.2.1 38 4).toInt32 &&& 31).toInt64) → ∃ (o1 : String ⊕ Int64) (r2 : Int64) (S2 : im_S), f_X10_valueL S = some (o1, S) ∧ (∀ E, o1 = .inl E → E = xNSE) ∧ f_X11_value (hs_value o1 S) = some (r2, S2) ∧ S2.1 75 0 = hk_value o1 ∧ ((¬ ((hk_value o1 : Int32) ≠ 0)) → (lg_cmp (S2.2.1 134 (0 : Int32).toNatClampNeg) r2 : Int32) = 0) ∧ gP S = gP S2 ∧ LwI S2 := fun v q2 hv => by
      obtain ⟨Sh, hSh⟩ : ∃ Sh, Sh = uJ S 134 (0 : Int32).toNatClampNeg v := ⟨_, rfl⟩
      have w1 : ∀ a i : Nat, 75 ≤ a → (a = 75 → i ≠ 0) → Sh.1 a i = S.1 a i := fun a i _ _ => by rw [hSh]; rfl
      have w2 : ∀ a i : Nat, 75 ≤ a → a ≠ 134 → Sh.2.1 a i = S.2.1 a i := fun a i _ q => by rw [hSh]; exact uJ_ne (.inl q)
      have l2 := (vref_s h k1 w1 w2).1
      obtain ⟨-, hE⟩ := vref_s (S' := uI Sh 75 0 0) h k1 (fun a i q1 q2 => (uI_ne (by omega)).trans (w1 a i q1 q2)) (fun a i q1 q2 => w2 a i q1 q2)
      obtain ⟨s, m1, m2, m3⟩ := val_ref hE
      have href : f_X11_value Sh = some (v, uI Sh 75 0 0) := by
        unfold f_X11_value
        rw [l2]
        simp only [Option.bind_some]
        rw [if_neg (show ¬ (2 : Int32) ≠ 2 from fun q => q rfl), m1]
        simp only [Option.bind_some]
        rw [mI_in (a := s) (n := 520000) (by omega) (by omega), nI_clamp (show s < 2 ^ 31 by omega)]
        simp only [gd_t]
        rcases m3 with ⟨n0, n1, n2⟩ | ⟨n0, n1, T, n2, n3, n4⟩
        · rw [if_pos n0] at hv
          rw [if_pos n1, n2, hv]
        · rw [if_neg (fun q => q n0)] at hv
          rw [if_neg (fun q => q n1), n3, nI_64_32, mI_in (a := T) (n := 1002) (by omega) (by omega), nI_clamp (show T < 2 ^ 31 by omega), n4, hv]
          rfl
      refine ⟨.inr v, v, uI Sh 75 0 0, q2, fun E q => (by cases q), ?_, uI_eq, fun _ => (lg_cmp_eq _ _).mpr ?_, by rw [hSh]; rfl, by rw [hSh]; exact lwi_th (lwi_o h v) 0⟩
      · show f_X11_value (uJ S 134 (0 : Int32).toNatClampNeg v) = _
        rw [← hSh]
        exact href
      · show Sh.2.1 134 (0 : Int32).toNatClampNeg = v
        rw [hSh]
        exact uJ_eq
    by_cases c3 : S.1 38 3 ≠ 3
    · refine key (S.2.1 38 4) ?_ (by rw [if_pos c3])
      unfold f_X10_valueL
      rw [k1]
      simp only [Option.bind_some]
      rw [if_pos trivial, if_pos c3]
    · refine key (((S.2.1 38 4).toInt32 &&& 31).toInt64) ?_ (by rw [if_neg c3])
      unfold f_X10_valueL f_X8_cellsIn
      rw [k1]
      simp only [Option.bind_some]
      rw [if_pos trivial, if_neg c3]
  · refine ⟨.inl xNSE, 0, uI S 75 0 1, ?_, fun E q => (by cases q; rfl), ?_, uI_eq, fun q => absurd (show (1 : Int32) ≠ 0 by decide) q, rfl, lwi_th h 1⟩
    · unfold f_X10_valueL
      rw [k1]
      simp only [Option.bind_some]
      rw [if_neg c2]
    · show f_X11_value S = _
      unfold f_X11_value
      rw [k2]
      simp only [Option.bind_some]
      rw [if_pos c2]
end VAC
