/-! the class's parser: read -/
def ftP : TR → List (Nat × Nat)
  | .append (.tag p (.append (.tag cnt _) _)) r => (p, cnt) :: ftP r
  | _ => []
section CRD
variable {K pl : Nat → Nat} {V : Nat → Int64} {m fu : Nat}
theorem PO_ft {S : im_S} {N M L : Nat → Nat} : ∀ (s : Nat) (y : TR), tsz y ≤ s → ∀ (c p e : Nat), PO K pl V S N M L y c p e → FTb V S N c (ftP y) ∧ (ftP y).length = (fnP y).length := by
  intro s
  induction s with
  | zero => intro y hs; cases y <;> simp [tsz] at hs
  | succ s ih =>
    intro y hs c p e h
    unfold PO at h
    split at h
    · rename_i p' cnt x r
      obtain ⟨-, e1, hF, -, hr⟩ := h
      have hv : ∀ b, b ∈ pms (p' + 2) cnt → S.1 8 (N b) = nI (tvV (V b)) := fun b hb => (hF.2.2.2.2.2.2.2.2.1 b hb).1.2.2.1
      rcases hr with ⟨rfl, -⟩ | ⟨-, hr⟩
      · exact ⟨⟨hF.1, hF.2.2.2.2.2.2.1, hF.2.2.2.2.2.2.2.1, hv, trivial⟩, rfl⟩
      · obtain ⟨i1, i2⟩ := ih r (by simp only [tsz] at hs; omega) _ _ _ hr
        refine ⟨⟨hF.1, hF.2.2.2.2.2.2.1, hF.2.2.2.2.2.2.2.1, hv, i1⟩, ?_⟩
        show (ftP r).length + 1 = (fnP r).length + 1
        rw [i2]
    · exact h.elim
/-- the state before tokens are read -/
def clS (S : im_S) : im_S := uI (uI (uI (uI (uI (uI S 6 16 0) 22 3 0) 22 6 0) 22 9 0) 5 0 0) 5 1 0
/-- what reading a text gives -/
theorem c_read (T : TH K pl V m) (hfu : 600 ≤ fu) {q : Nat} (hq : 3 * m + 4 ≤ q) {x2 : Int32} {S0 S3 : im_S} (htok : f_X9_read fu x2 (clS S0) = some ((), S3)) (hct : Ct K pl V m S3) :
    (∀ e, pP K q 9 0 0 = (e, none) → ∃ S' : im_S, f_X7_read fu x2 S0 = some (0, S') ∧ S'.1 5 0 = 1 ∧ S'.1 5 1 = nI (pl e)) ∧ ∀ e y, pP K q 9 0 0 = (e, some y) → ∃ (S1 : im_S) (N M L : Nat → Nat) (n ρ τ : Nat) (S' : im_S) (f' : Nat), f_X7_read fu x2 S0 = some (if f' = 4000 then 1 else 0, S') ∧ f' = min (fP K pl V y []) (cfL K pl V (ftP y) (clP y)) ∧ f' ≤ 4000 ∧ Hz K pl V m S1 N M L e n ρ τ (min 4000 (fP K pl V y [])) (fnP y) ∧ PO K pl V S1 N M L y 0 0 e ∧ CI K pl V S1 N 0 e e (clP y) ∧ LI K pl V N S1 (ftP y) (clP y) (min 4000 (fP K pl V y [])) n S' f' := by
  have hm := T.m_
  have hk := f_X9_read_t fu x2 (clS S0) () S3 htok
  have kk : ∀ a j : Nat, kK a = true → S3.1 a j = (clS S0).1 a j := fun a j h => by rw [(hk.1 a h).1]
  obtain ⟨S4, hS4⟩ : ∃ S4, S4 = uI S3 3 6 0 := ⟨_, rfl⟩
  have r4 : ∀ a j : Nat, (a ≠ 3 ∨ j ≠ 6) → S4.1 a j = S3.1 a j := fun a j u => by rw [hS4, uI_ne (by omega)]
  have H0 : Hz K pl V m S4 (fun _ => 0) (fun _ => 0) (fun _ => 0) 0 0 0 0 4000 [] := by
    refine ⟨fun j hj => ?_, by omega, ?_, ?_, ?_, ?_, ?_, ⟨by omega, by omega, by omega⟩, ⟨rfl, rfl, rfl, fun i j _ _ => ⟨Nat.le_refl _, Nat.le_refl _, Nat.le_refl _⟩, fun b hb => absurd hb List.not_mem_nil⟩, ?_, ?_, by omega, trivial, by show 0 ≤ 8; omega⟩
    · obtain ⟨t1, t2, t3⟩ := hct j hj
      exact ⟨by rw [r4 31 j (by omega)]; exact t1, by rw [r4 32 j (by omega)]; exact t2, by rw [hS4]; exact t3⟩
    · rw [hS4, uI_eq]; rfl
    · rw [r4 6 16 (by omega), kk 6 16 rfl]; unfold clS; rw [uI_ne (by omega), uI_ne (by omega), uI_ne (by omega), uI_ne (by omega), uI_ne (by omega), uI_eq]; rfl
    · rw [r4 22 6 (by omega), kk 22 6 rfl]; unfold clS; rw [uI_ne (by omega), uI_ne (by omega), uI_ne (by omega), uI_eq]; rfl
    · rw [r4 22 9 (by omega), kk 22 9 rfl]; unfold clS; rw [uI_ne (by omega), uI_ne (by omega), uI_eq]; rfl
    · rw [r4 22 3 (by omega), kk 22 3 rfl]; unfold clS; rw [uI_ne (by omega), uI_ne (by omega), uI_ne (by omega), uI_ne (by omega), uI_eq]; rfl
    · exact ⟨fun _ => 0, fun _ => 0, fun _ => 0, fun _ => 0, fun t h => absurd h (by omega), by show 0 ≤ pl 0; omega, fun r h => absurd h (by omega), fun t h => absurd h (by omega), fun k h => absurd h (by omega), fun k k' _ h => absurd h (by omega)⟩
    · refine Or.inl ⟨rfl, ?_, ?_⟩
      · rw [r4 5 0 (by omega), kk 5 0 rfl]; unfold clS; rw [uI_ne (by omega), uI_eq]
      · rw [r4 5 1 (by omega), kk 5 1 rfl]; unfold clS; rw [uI_eq]
  have hrd : f_X7_read fu x2 S0 = (hxp fu S4).bind (fun q => f_X7_read_L51 fu fu x2 q.1 (nI (([] : List Nat).length + 1)) q.2) := by
    have e1 : f_X7_read fu x2 S0 = (f_X9_read fu x2 (clS S0)).bind (fun qS7 => (f_X7_header fu (uI qS7.2 3 6 0)).bind (fun qS10 => if (qS10.1 : Int32) = 0 then (f_X7_read_L51 fu fu x2 0 1 qS10.2) else ((f_X7_expression fu qS10.2).bind (fun qS14 => if (qS14.1 : Int32) = 0 then (f_X7_read_L51 fu fu x2 0 1 qS14.2) else (f_X7_read_L51 fu fu x2 1 1 qS14.2))))) := rfl
    rw [e1, htok]
    simp only [Option.bind_some]
    rw [← hS4]
    exact hx_bind
  obtain ⟨c1, c2⟩ := c_prog (fu := fu) (x2 := x2) T hfu hq 8 fu S4 _ _ _ 0 0 0 0 4000 [] H0 (by show 0 < 8; omega) (by show 8 ≤ 8 + 0; omega) (by show 10 < fu + 0; omega)
  refine ⟨fun e he => ?_, fun e y he => ?_⟩
  · obtain ⟨S', s1, s2⟩ := c1 e he
    exact ⟨S', by rw [hrd]; exact s1, s2⟩
  · obtain ⟨S1, N, M, L, n, ρ, τ, s1, H1, -, A1, -, -, -, hpe, O1, I1⟩ := c2 e y he
    rw [List.nil_append] at H1
    obtain ⟨hft, hlen⟩ := PO_ft (tsz y) y (Nat.le_refl _) _ _ _ O1
    have H1' := H1
    obtain ⟨h1, h2, h3, h4, h5, h6, h7, ⟨h8, h9, h10⟩, h11, h12, h13, h14, h15, h16⟩ := H1
    obtain ⟨S', f', l1, l2, l3⟩ := c_links (fu := fu) (f := min 4000 (fP K pl V y [])) hfu hft (by rw [hlen]; exact h7) (by omega) I1 (by rw [(A1 0 (Nat.le_refl _)).1]) h11.1 h4 (by omega) (fun i j z1 z2 => (h11.2.2.2.1 i j z1 z2).1) (fun c hc => T.pl_ (by have := (I1.2 c hc).2.2.1; omega)) h13 h14
    have hf4 : f' ≤ 4000 := Nat.le_trans l2.2.1 h14
    refine ⟨S1, N, M, L, n, ρ, τ, S', f', ?_, ?_, hf4, H1', O1, I1, l2⟩
    · rw [hrd]
      refine s1.trans ?_
      unfold lk
      rw [l1]
      simp only [Option.bind_some]
      by_cases hz : f' = 4000
      · rw [if_pos hz]
        have : S'.1 5 0 = 0 := by
          rcases l2.1 with ⟨-, z, -⟩ | ⟨k, p, z1, z2, z3, -, -, z6⟩
          · exact z
          · omega
        rw [this]; rfl
      · rw [if_neg hz]
        have : S'.1 5 0 ≠ 0 := by
          rcases l2.1 with ⟨z, -, -⟩ | ⟨k, p, z1, z2, z3, z4, -, -⟩
          · exact absurd z hz
          · rw [z4]
            exact fun w => by have := (nI_eq (a := k) (b := 0) (by omega) (by omega)).mp w; omega
        rw [if_pos this]
    · have e4 : cfL K pl V (ftP y) (clP y) ≤ 4000 := by
        have : ∀ cl : List (Nat × TR), cfL K pl V (ftP y) cl ≤ 4000 := by
          intro cl
          induction cl with
          | nil => exact Nat.le_refl _
          | cons d cl ih => exact Nat.le_trans (Nat.min_le_right _ _) ih
        exact this _
      rw [l3, Nat.min_comm 4000, Nat.min_assoc, Nat.min_eq_right e4]
end CRD
