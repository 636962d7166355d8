/-! the law's steps: cell -/
section CEL
variable {fu : Nat} {c : Nat → Int32} {S S' : im_S} {x1 x2 : Int32}
/-- what cell must show -/
def CeR (x1 x2 : Int32) (S : im_S) : Prop := ∃ (o1 : String ⊕ Int64) (r2 : Int64) (S2 : im_S), f_X10_cellL x1 x2 S = some (o1, S) ∧ (∀ E, o1 = .inl E → E = xNSE) ∧ f_X11_cell x1 x2 (hs_cell o1 S) = some (r2, S2) ∧ S2.1 75 0 = hk_cell o1 ∧ ((¬ ((hk_cell o1 : Int32) ≠ 0)) → (lg_cmp (S2.2.1 134 (0 : Int32).toNatClampNeg) r2 : Int32) = 0) ∧ gP S = gP S2 ∧ LwI S2
theorem cel_x (h : LwI S) (h1 : f_X10_cellL x1 x2 S = some (.inl xNSE, S)) (h2 : f_X11_cell x1 x2 S = some (0, uI S 75 0 1)) : CeR x1 x2 S := ⟨.inl xNSE, 0, uI S 75 0 1, h1, fun E q => (by cases q; rfl), h2, uI_eq, fun q => absurd (show (1 : Int32) ≠ 0 by decide) q, rfl, lwi_th h 1⟩
theorem cel_v (h : LwI S) {v : Int64} (h1 : f_X10_cellL x1 x2 S = some (.inr v, S)) (h2 : ∀ Sh, Sh = uJ S 134 (0 : Int32).toNatClampNeg v → f_X11_cell x1 x2 Sh = some (v, uI Sh 75 0 0)) : CeR x1 x2 S := by
  refine ⟨.inr v, v, uI (uJ S 134 (0 : Int32).toNatClampNeg v) 75 0 0, h1, fun E q => (by cases q), h2 _ rfl, uI_eq, fun _ => (lg_cmp_eq _ _).mpr ?_, rfl, lwi_th (lwi_o h v) 0⟩
  show (uJ S 134 (0 : Int32).toNatClampNeg v).2.1 134 (0 : Int32).toNatClampNeg = v
  exact uJ_eq
/-- the reference's cell of a table -/
theorem ref_cel {s T m g : Nat} (hst : f_X11_stateOf S' = some (2, S')) (hr : f_X11_rootSlot 0 S' = some (nI s, S')) (hs : s < 496496) (h126 : S'.1 126 s = 3) (h127 : S'.2.1 127 s = (nI T).toInt64) (hT : T < 1000) (h130 : S'.1 130 T = nI m) (h129 : S'.1 129 T = nI g) : f_X11_cell x1 x2 S' = (if x1 < 0 then some (0, uI S' 75 0 1) else (if nI m ≤ x1 then some (0, uI S' 75 0 1) else (if x2 < 0 then some (0, uI S' 75 0 1) else (if x2 ≤ 1 then ((f_X11_rootSlot (nI g + x1) (uI S' 75 0 0)).bind (fun qS28 => if (x2 : Int32) ≠ 0 then (gd (in_b qS28.1 520000) (if ((qS28.2.1 126) qS28.1.toNatClampNeg : Int32) ≠ 0 then (gd (in_b qS28.1 520000) (some ((qS28.2.2.1 127) qS28.1.toNatClampNeg, qS28.2))) else (some (0, qS28.2)))) else (gd (in_b qS28.1 520000) (some (((qS28.2.1 126) qS28.1.toNatClampNeg).toInt64, qS28.2))))) else some (0, uI S' 75 0 1))))) := by
  unfold f_X11_cell
  rw [hst]
  simp only [Option.bind_some]
  rw [if_neg (show ¬ (2 : Int32) ≠ 2 from fun q => q rfl), hr]
  simp only [Option.bind_some]
  rw [mI_in (a := s) (n := 520000) (by omega) (by omega), nI_clamp (show s < 2 ^ 31 by omega), h126, if_neg (show ¬ (3 : Int32) ≠ 3 from fun q => q rfl), hr]
  simp only [gd_t, Option.bind_some]
  rw [mI_in (a := s) (n := 520000) (by omega) (by omega), nI_clamp (show s < 2 ^ 31 by omega), h127, nI_64_32, mI_in (a := T) (n := 1002) (by omega) (by omega), nI_clamp (show T < 2 ^ 31 by omega), h130, h129]
  simp only [gd_t]
theorem cel_all (h : LwI S) : CeR x1 x2 S := by
  obtain ⟨k, k1, k2, -⟩ := rb_all (S' := S) h (fun _ _ _ _ => rfl) (fun _ _ _ _ => rfl)
  by_cases c2 : k = 2
  · rw [c2] at k1
    obtain ⟨st, E⟩ := vref_s (S' := S) h k1 (fun _ _ _ _ => rfl) (fun _ _ _ _ => rfl)
    obtain ⟨s, nT, a, Mt, e1, e2, e3, e4, e5, e6, e7⟩ := E
    have ha : S.1 38 3 = 3 ↔ a.1 = 3 := by
      rw [e5]
      exact nI_eq (a := a.1) (b := 3) (by have := e3.2.2.1; omega) (by omega)
    by_cases c3 : a.1 = 3
    · obtain ⟨m, f0, T, g, h1, h2, h3, h4, h5, h6, h7, h8, h9⟩ := e7 c3
      have hrc := ref_cel (x1 := x1) (x2 := x2) st e1 e2 ((sl_3 e3).mpr c3) h6 (by omega) h7 h8
      have hcl : f_X10_cellL x1 x2 S = (if x1 < 0 then some (.inl xNSE, S) else (if nI m ≤ x1 then some (.inl xNSE, S) else (if x2 < 0 then some (.inl xNSE, S) else (if x2 ≤ 1 then (gd (in_b (nI f0 + x1) (S.2.2 65)) (if (x2 : Int32) ≠ 0 then (if ((S.1 65) ((nI f0 + x1).toNatClampNeg) : Int32) ≠ 0 then (gd (in_b (nI f0 + x1) (S.2.2 66)) (some (.inr ((S.2.1 66) ((nI f0 + x1).toNatClampNeg)), S))) else (some (.inr 0, S))) else (some (.inr (((S.1 65) ((nI f0 + x1).toNatClampNeg)).toInt64), S)))) else some (.inl xNSE, S))))) := by
        unfold f_X10_cellL f_X8_cellsIn f_X8_firstCell
        rw [k1]
        simp only [Option.bind_some]
        rw [if_neg (show ¬ (2 : Int32) ≠ 2 from fun q => q rfl), if_neg (fun q => q (ha.mpr c3)), h3, tb_n h2 (by omega), tb_f h2 (by omega)]
      by_cases b1 : x1 < 0
      · rw [if_pos b1] at hrc hcl
        exact cel_x h hcl hrc
      rw [if_neg b1] at hrc hcl
      by_cases b2 : nI m ≤ x1
      · rw [if_pos b2] at hrc hcl
        exact cel_x h hcl hrc
      rw [if_neg b2] at hrc hcl
      by_cases b3 : x2 < 0
      · rw [if_pos b3] at hrc hcl
        exact cel_x h hcl hrc
      rw [if_neg b3] at hrc hcl
      by_cases b4 : x2 ≤ 1
      · rw [if_pos b4] at hcl
        obtain ⟨i, hi, him⟩ : ∃ i : Nat, x1 = nI i ∧ i < m := by
          have b1' := b1
          have b2' := b2
          rw [Int32.lt_iff_toInt_lt] at b1'
          rw [Int32.le_iff_toInt_le, nI_toInt (by omega)] at b2'
          have u1 : (0 : Int32).toInt = 0 := by decide
          refine ⟨x1.toInt.toNat, ?_, by omega⟩
          apply Int32.toInt_inj.mp
          rw [nI_toInt (by omega)]
          omega
        obtain ⟨o, tf, s2, l1, l2, l3, l4, l5, l6, l7⟩ := h9 i him
        have hf0 : nI f0 + x1 = nI (f0 + i) := by rw [hi]; exact nI_add f0 i
        rw [hf0, mI_in (a := f0 + i) (n := S.2.2 65) (by omega) l1, mI_in (a := f0 + i) (n := S.2.2 66) (by omega) l2, nI_clamp (show f0 + i < 2 ^ 31 by omega)] at hcl
        obtain ⟨v, hv⟩ : ∃ v : Int64, v = if x2 ≠ 0 then (if S.1 65 (f0 + i) ≠ 0 then S.2.1 66 (f0 + i) else 0) else (S.1 65 (f0 + i)).toInt64 := ⟨_, rfl⟩
        refine cel_v h (v := v) ?_ (fun Sh hSh => ?_)
        · rw [hcl, hv]
          simp only [gd_t]
          by_cases d1 : x2 ≠ 0
          · rw [if_pos d1, if_pos d1]
            by_cases d2 : S.1 65 (f0 + i) ≠ 0
            · rw [if_pos d2, if_pos d2]
            · rw [if_neg d2, if_neg d2]
          · rw [if_neg d1, if_neg d1]
        · have w1 : ∀ a i : Nat, 75 ≤ a → (a = 75 → i ≠ 0) → Sh.1 a i = S.1 a i := fun a i _ _ => by rw [hSh]; rfl
          have w2 : ∀ a i : Nat, 75 ≤ a → a ≠ 134 → Sh.2.1 a i = S.2.1 a i := fun a i _ q => by rw [hSh]; exact uJ_ne (.inl q)
          obtain ⟨st', s', nT', a', Mt', e1', e2', e3', e4', e5', e6', e7'⟩ := vref_s h k1 w1 w2
          have ha' : a'.1 = 3 := by
            have := e5'
            rw [ha.mpr c3] at this
            exact ((nI_eq (a := a'.1) (b := 3) (by have := e3'.2.2.1; omega) (by omega)).mp this.symm)
          obtain ⟨m', f0', T', g', h1', h2', h3', h4', h5', h6', h7', h8', h9'⟩ := e7' ha'
          have em : m' = m := by
            have u1 := tb_n (f := f0) (n := m) h2 (by omega)
            have u2 := tb_n (f := f0') (n := m') h2' (by omega)
            rw [← h3', h3, u1] at u2
            exact ((nI_eq (by omega) (by omega)).mp u2).symm
          have ef : f0' = f0 := by
            have u1 := tb_f (f := f0) (n := m) h2 (by omega)
            have u2 := tb_f (f := f0') (n := m') h2' (by omega)
            rw [← h3', h3, u1] at u2
            exact ((nI_eq (by omega) (by omega)).mp u2).symm
          rw [em] at h7' h9'
          rw [ef] at h9'
          have hrc' := ref_cel (x1 := x1) (x2 := x2) st' e1' e2' ((sl_3 e3').mpr ha') h6' (by omega) h7' h8'
          obtain ⟨o', tf', s2', l1', l2', l3', l4', l5', l6', l7'⟩ := h9' i him
          rw [hrc', if_neg b1, if_neg b2, if_neg b3, if_pos b4, hi, nI_add, l4']
          simp only [Option.bind_some]
          rw [mI_in (a := s2') (n := 520000) (by omega) (by omega), nI_clamp (show s2' < 2 ^ 31 by omega), hv]
          simp only [gd_t]
          cases o' with
          | none =>
            have l3' : S.1 65 (f0 + i) = 0 := l3'
            have l6' : (uI Sh 75 0 0).1 126 s2' = 0 := l6'
            by_cases d1 : x2 ≠ 0
            · rw [if_pos d1, if_pos d1, if_neg (fun q => q l6'), if_neg (fun q => q l3')]
            · rw [if_neg d1, if_neg d1, l6', l3']
          | some b =>
            have nb := l7' b rfl
            have hb0 : nI b.1 ≠ 0 := fun q => by
              have := (nI_eq (a := b.1) (b := 0) (by have := l3'.2.1; omega) (by omega)).mp q
              have := l3'.2.1
              omega
            by_cases d1 : x2 ≠ 0
            · rw [if_pos d1, if_pos d1, if_pos (by rw [l6'.1]; exact hb0), if_pos (by rw [l3'.1]; exact hb0), (l6'.2.2.2.1 nb).1, l3'.2.2.2 nb]
            · rw [if_neg d1, if_neg d1, l6'.1, l3'.1]
      · rw [if_neg b4] at hrc hcl
        exact cel_x h hcl hrc
    · refine cel_x h ?_ ?_
      · unfold f_X10_cellL
        rw [k1]
        simp only [Option.bind_some]
        rw [if_neg (show ¬ (2 : Int32) ≠ 2 from fun q => q rfl), if_pos (fun q => c3 (ha.mp q))]
      · unfold f_X11_cell
        rw [st]
        simp only [Option.bind_some]
        rw [if_neg (show ¬ (2 : Int32) ≠ 2 from fun q => q rfl), e1]
        simp only [Option.bind_some]
        rw [mI_in (a := s) (n := 520000) (by omega) (by omega), nI_clamp (show s < 2 ^ 31 by omega), if_pos (fun q => c3 ((sl_3 e3).mp q))]
        rfl
  · refine cel_x h ?_ ?_
    · unfold f_X10_cellL
      rw [k1]
      simp only [Option.bind_some]
      rw [if_pos c2]
    · unfold f_X11_cell
      rw [k2]
      simp only [Option.bind_some]
      rw [if_pos c2]
end CEL
