/-! a step of the class's run: where nobody acts, all stays -/
section ABY
variable {K : Nat → Nat} {V : Nat → Int64} {y : TR} {q0 : Nat} {ar : Nat → Int64} {En En' : TPth → Prop} {cv vr cv' vr' : TPth → Nat → Option TVal} {mv mv' : Option (TPth × Nat × TVal)} {Aw Aw' : TPth → Nat → Prop} {WV WC WV' WC' : TPth → Nat → TPth → Nat → Prop} {R H R' H' : List TEv} {fl fl' : Prop} {e0 : Nat} {Ac : TPth → Nat → Prop}
/-- new paths belong to those who act -/
theorem ac_own (w : PW K y 0 e0) (U2 : ∀ P', En' P' → En P' ∨ Ac (own y P').1 (own y P').2) {P : TPth} {z : TR × List Nat × Nat} (hz : z ∈ scP y) (hA : ¬ Ac P (otk z.1)) : (∀ k i, k < 4 → lpK z.1 = false ∨ k = 0 → En' ((4 * otk z.1 + k, i) :: P) → En ((4 * otk z.1 + k, i) :: P)) ∧ (∀ k i, k < 4 → k ≠ 0 → lpK z.1 = true → En' ((4 * otk z.1 + k, 0) :: (4 * otk z.1, i) :: P) → En ((4 * otk z.1 + k, 0) :: (4 * otk z.1, i) :: P)) ∧ ∀ p, p ∈ (ftP y).map Prod.fst → En' ((4 * p, otk z.1) :: P) → En ((4 * p, otk z.1) :: P) := by
  refine ⟨fun k i hk hl h => ?_, fun k i hk h0 hl h => ?_, fun p hp h => ?_⟩
  · rcases U2 _ h with q | q
    · exact q
    · rw [own_nd w hz hk hl] at q
      exact absurd q hA
  · rcases U2 _ h with q | q
    · exact q
    · rw [own_lp w hz hk h0 hl] at q
      exact absurd q hA
  · rcases U2 _ h with q | q
    · exact q
    · rw [(ft_fu w).1] at hp
      obtain ⟨⟨p', cnt, x⟩, q1, q2⟩ := List.mem_map.mp hp
      have q2 : p' = p := q2
      subst q2
      rw [own_call w q1] at q
      exact absurd q hA
theorem AB_q (w : PW K y 0 e0) (A : ∀ P z, En P → z ∈ scP y → z.2.2 = hdR P → ABq V y En cv vr mv Aw WV WC R H P z) (hE : ∀ P, En P → En' P) (hcm : ∀ P t a, cv P t = some a → cv' P t = some a)
    (U2 : ∀ P', En' P' → En P' ∨ Ac (own y P').1 (own y P').2) (U3 : ∀ P z F b, En P → z ∈ scP y → z.2.2 = hdR P → ¬ Ac P (otk z.1) → Bnd V y P z F b → vr' F b = vr F b)
    (U4 : ∀ P t a, ¬ Ac P t → Vm cv' mv' P t a → Vm cv mv P t a) (U5 : ∀ P t, ¬ Ac P t → AwW Aw' WV' WC' P t → AwW Aw WV WC P t)
    (U6 : ∀ P t i, ¬ Ac P t → (P, t, i) ∈ R' ∨ (P, t, i) ∈ H' → (P, t, i) ∈ R ∨ (P, t, i) ∈ H) (U7 : ∀ e, e ∈ H → e ∈ H') :
    ∀ P z, En P → z ∈ scP y → z.2.2 = hdR P → ¬ Ac P (otk z.1) → ABq V y En' cv' vr' mv' Aw' WV' WC' R' H' P z := by
  intro P z hP hz hr hA
  obtain ⟨o1, o2, o3⟩ := ac_own w U2 hz hA
  exact NQ_keep w ((tl_P w) z hz).2.1 (A P z hP hz hr) hcm hE o1 o2 o3 (fun F b q => U3 P z F b hP hz hr hA q) (fun a q => U4 P _ a hA q) (fun q => U5 P _ hA q) (fun i q => U6 P _ i hA q) (fun i q => U7 _ q)
theorem AB_p {f : Nat} {W : Nat → Int32 × Int32 × Int32} {ν : Nat → Nat} (w : PW K y 0 e0) (hf : f + tln y < 2 ^ 31) (hW : FA (WPs W ν) y f) (hν : ∀ z, z ∈ scP y → ν (otk z.1) < 2 ^ 31 ∧ ∀ z', z' ∈ scP y → ν (otk z.1) = ν (otk z'.1) → otk z.1 = otk z'.1) (hL : ∀ j fs c ns g γ r, (.tag 7 (.tag j (.append fs (.append c (.append ns g)))), γ, r) ∈ scP y → LL fs ∧ LL ns)
    (A : ∀ P z, En P → z ∈ scP y → z.2.2 = hdR P → ABp K V y En cv vr mv Aw WV WC R H P z) (B : ABw K V y En cv vr mv Aw WV WC R H) (hE : ∀ P, En P → En' P) (hcm : ∀ P t a, cv P t = some a → cv' P t = some a)
    (U1 : ∀ P z P' t', En P → z ∈ scP y → z.2.2 = hdR P → ¬ Ac P (otk z.1) → Inp V y P z P' t' → cv' P' t' = cv P' t')
    (U1' : ∀ P z i a, En P → z ∈ scP y → z.2.2 = hdR P → tbK z.1 = true → En ((4 * otk z.1, i) :: P) → cv' P (otk z.1) = some a → cv P (otk z.1) = some a)
    (U2 : ∀ P', En' P' → En P' ∨ Ac (own y P').1 (own y P').2) (U4 : ∀ P t a, ¬ Ac P t → Vm cv mv P t a → Vm cv' mv' P t a) (U5 : ∀ P t, ¬ Ac P t → Aw P t → Aw' P t)
    (U6 : ∀ P t i, ¬ Ac P t → (P, t, i) ∈ R → (P, t, i) ∈ R') (U7 : ∀ e, e ∈ H → e ∈ H') (U8 : ∀ F b a, vr F b = some a → vr' F b = some a)
    (UV : ∀ F b P t, ¬ Ac P t → WV F b P t → (WV' F b P t ∧ vr' F b = none) ∨ Aw' P t) (UC : ∀ C t' P t, ¬ Ac P t → WC C t' P t → (WC' C t' P t ∧ cv' C t' = none) ∨ Aw' P t) :
    ∀ P z, En P → z ∈ scP y → z.2.2 = hdR P → ¬ Ac P (otk z.1) → ABp K V y En' cv' vr' mv' Aw' WV' WC' R' H' P z := by
  intro P z hP hz hr hA
  obtain ⟨o1, o2, o3⟩ := ac_own w U2 hz hA
  obtain ⟨-, -, -, -, -, B1, B2, -⟩ := B
  have hou := ou_P w
  refine NP_keep w ((tl_P w) z hz).2.1 (A P z hP hz hr) (fun P' t' q => U1 P z P' t' hP hz hr hA q) hcm (fun i a q1 q2 q3 => U1' P z i a hP hz hr q1 q2 q3) hE (fun i q => .inl (o1 0 i (by omega) (.inr rfl) q)) (fun i _ q => o1 0 i (by omega) (.inr rfl) q) (fun _ q => o1 0 0 (by omega) (.inr rfl) q) o3 U8 (fun a q => U4 P _ a hA q) (fun b F q1 q2 q3 q4 => ?_) (fun x x' a a' q1 q2 q3 q4 => ?_) (U5 P _ hA) (fun i q => U6 P _ i hA q) (fun i q => U7 _ q)
  · obtain ⟨F', b', q2⟩ := q2
    obtain ⟨u1, u2, x, γ, r, u3, u4⟩ := B1 F' b' P _ q2
    have hs := hou.2 z hz _ u3 rfl
    have hg : z.2.1 = γ := congrArg (fun u => u.2.1) hs
    rw [hg, u4] at q1
    cases q1
    have hF := VF_fun w hf hW hν hL q3 u2
    subst hF
    rcases UV _ _ P _ hA q2 with ⟨q, q'⟩ | q
    · exact .inl ⟨⟨_, _, q⟩, q'⟩
    · exact .inr q
  · obtain ⟨⟨C, t', q4⟩, q5⟩ := q4
    obtain ⟨-, x1, x1', γ, r, a1, a1', q, q', γ', r', u1, u2, u3, u4, u5, u6, -⟩ := B2 C t' P _ q4
    have hs := hou.2 z hz _ u1 rfl
    have hx : z.1 = .tag 10 (.tag (otk z.1) (.append x1 x1')) := congrArg Prod.fst hs
    rw [q1] at hx
    have ex : x = x1 := by injection hx with _ hx; injection hx with _ hx; injection hx
    have ex' : x' = x1' := by injection hx with _ hx; injection hx with _ hx; injection hx
    subst ex
    subst ex'
    rw [q2] at u2
    rw [q3] at u3
    cases u2
    cases u3
    rcases UC C t' P _ hA q4 with ⟨v1, v2⟩ | v1
    · refine .inl ⟨⟨C, t', v1⟩, fun p p' γ1 r1 q6 => ?_⟩
      have hs2 := hou.2 _ q6 _ u4 rfl
      cases hs2
      rw [← u5, ← u6]
      exact v2
    · exact .inr v1
end ABY
