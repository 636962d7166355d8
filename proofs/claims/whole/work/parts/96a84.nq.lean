/-! what the class's run knows of a node: where all that stands came from -/
def NQ (V : Nat → Int64) (y : TR) (En : TPth → Prop) (cv vr : TPth → Nat → Option TVal) (mv : Option (TPth × Nat × TVal)) (AW : TPth → Nat → Prop) (Ev Hp : TEv → Prop) (P : TPth) : TR × List Nat × Nat → Prop
  | (.tag 1 (.tag j _), _, _) => AW P j → ∀ a, ¬ Vm cv mv P j a
  | (.tag 2 (.tag j _), _, _) => AW P j → ∀ a, ¬ Vm cv mv P j a
  | (.tag 3 (.tag j _), _, _) => AW P j → ∀ a, ¬ Vm cv mv P j a
  | (.tag 4 (.tag j as), _, _) => (AW P j → ¬ Ev (P, j, 0)) ∧ ∀ i p cnt x, idx V ((ftP y).map Prod.fst) j = some i → (fuP y)[i]? = some (p, cnt, x) → (En ((4 * p, j) :: P) → Hp (P, j, 0)) ∧ (∀ a, Vm cv mv P j a → cv ((4 * p, j) :: P) (rtk x) = some a) ∧ ∀ z a, z < cnt → vr ((4 * p, j) :: P) (p + 2 + 2 * z) = some a → En ((4 * p, j) :: P) ∧ ∃ xz, agX as z = some xz ∧ cv P (rtk xz) = some a
  | (.tag 5 (.tag j (.append x x')), _, _) => ¬ AW P j ∧ (∀ a, vr (fpt y P) (j + 1) = some a → cv P (rtk x) = some a) ∧ ∀ a, Vm cv mv P j a → cv P (rtk x') = some a
  | (.tag 6 (.tag j (.append x (.append y1 y2))), _, _) => ¬ AW P j ∧ (Ev (P, j, 0) → ∃ a, cv P (rtk x) = some a) ∧ (En ((4 * j, 0) :: P) → Hp (P, j, 0) ∧ ∃ a, cv P (rtk x) = some a ∧ a.1 ≠ 4 ∧ a.2.1 = 1) ∧ (En ((4 * j + 1, 0) :: P) → Hp (P, j, 0) ∧ ∃ a, cv P (rtk x) = some a ∧ a.1 ≠ 4 ∧ a.2.1 ≠ 1) ∧ ∀ a, Vm cv mv P j a → Hp (P, j, 0) ∧ ∃ a0, cv P (rtk x) = some a0 ∧ ((a0.1 = 4 ∧ a = a0) ∨ cv ((4 * j, 0) :: P) (rtk y1) = some a ∨ cv ((4 * j + 1, 0) :: P) (rtk y2) = some a)
  | (.tag 7 (.tag j (.append fs (.append c (.append ns g)))), _, _) => (AW P j → ¬ En ((4 * j, 0) :: P)) ∧ (∀ i, Ev (P, j, i) → En ((4 * j, i) :: P) ∧ ∃ a, cv ((4 * j, i) :: P) (rtk c) = some a) ∧ (∀ i, En ((4 * j, i + 1) :: P) ∨ En ((4 * j + 1, 0) :: (4 * j, i) :: P) → Hp (P, j, i) ∧ En ((4 * j, i) :: P) ∧ ∃ a, cv ((4 * j, i) :: P) (rtk c) = some a ∧ a.1 ≠ 4 ∧ a.2.1 ≠ 0) ∧ (∀ i, En ((4 * j + 2, 0) :: (4 * j, i) :: P) → Hp (P, j, i) ∧ En ((4 * j, i) :: P) ∧ ∃ a, cv ((4 * j, i) :: P) (rtk c) = some a ∧ a.1 ≠ 4 ∧ a.2.1 = 0) ∧ (∀ a, Vm cv mv P j a → ∃ i a0, En ((4 * j, i) :: P) ∧ Hp (P, j, i) ∧ cv ((4 * j, i) :: P) (rtk c) = some a0 ∧ ((a0.1 = 4 ∧ a = a0) ∨ cv ((4 * j + 2, 0) :: (4 * j, i) :: P) (rtk g) = some a)) ∧ (∀ b a, b ∈ tks fs → (nxX V ns b ≠ none → vr ((4 * j, 0) :: P) b = some a → En ((4 * j, 0) :: P) ∧ ∃ x, rwX fs b = some x ∧ cv P (rtk x) = some a) ∧ (nxX V ns b = none → vr (fpt y P) b = some a → ∃ x, rwX fs b = some x ∧ cv P (rtk x) = some a)) ∧ ∀ i b a, b ∈ tks fs → nxX V ns b ≠ none → vr ((4 * j, i + 1) :: P) b = some a → ∃ x, nxX V ns b = some x ∧ cv ((4 * j + 1, 0) :: (4 * j, i) :: P) (rtk x) = some a
  | (.tag 8 (.tag j x), _, _) => ¬ AW P j ∧ (Ev (P, j, 0) → ∃ a, cv P (rtk x) = some a) ∧ ∀ a, Vm cv mv P j a → Hp (P, j, 0)
  | (.tag 9 (.tag j (.append x x')), _, _) => ¬ AW P j ∧ (Ev (P, j, 0) → ∃ a a', cv P (rtk x) = some a ∧ cv P (rtk x') = some a') ∧ ∀ a, Vm cv mv P j a → Hp (P, j, 0)
  | (.tag 10 (.tag j (.append x x')), _, _) => (AW P j → ¬ Ev (P, j, 0) ∧ ∃ a a', cv P (rtk x) = some a ∧ cv P (rtk x') = some a') ∧ (Ev (P, j, 0) → ∃ a a', cv P (rtk x) = some a ∧ cv P (rtk x') = some a') ∧ ∀ a, Vm cv mv P j a → Hp (P, j, 0)
  | (.tag 11 (.tag j (.append x _)), _, _) => ¬ AW P j ∧ (Ev (P, j, 0) → ∃ a, cv P (rtk x) = some a) ∧ (∀ a, Vm cv mv P j a → Hp (P, j, 0)) ∧ (∀ i, Ev (P, j, i + 1) → Hp (P, j, 0) ∧ ∃ a, cv P (rtk x) = some a ∧ a.1 ≠ 4 ∧ ¬ bad20 a.2.1 ∧ i < i64N a.2.1) ∧ (∀ i, En ((4 * j, i) :: P) → Hp (P, j, i + 1) ∧ ∃ a, cv P j = some a) ∧ (∀ i a, vr ((4 * j, i) :: P) (j + 3) = some a → En ((4 * j, i) :: P) ∧ a = mkN (Int64.ofNat i)) ∧ ∀ i a, vr ((4 * j, i) :: P) (j + 1) = some a → En ((4 * j, i) :: P) ∧ cv P j = some a
  | (.tag 12 (.tag j _), _, _) => ¬ AW P j
  | _ => True
/-- the variables that a node gives their values -/
def Bnd (V : Nat → Int64) (y : TR) (P : TPth) : TR × List Nat × Nat → TPth → Nat → Prop
  | (.tag 4 (.tag j _), _, _), F, b => ∃ i p cnt x z, idx V ((ftP y).map Prod.fst) j = some i ∧ (fuP y)[i]? = some (p, cnt, x) ∧ z < cnt ∧ F = (4 * p, j) :: P ∧ b = p + 2 + 2 * z
  | (.tag 5 (.tag j _), _, _), F, b => F = fpt y P ∧ b = j + 1
  | (.tag 7 (.tag j (.append fs (.append _ (.append ns _)))), _, _), F, b => b ∈ tks fs ∧ ((nxX V ns b ≠ none ∧ ∃ i, F = (4 * j, i) :: P) ∨ (nxX V ns b = none ∧ F = fpt y P))
  | (.tag 11 (.tag j _), _, _), F, b => (b = j + 3 ∨ b = j + 1) ∧ ∃ i, F = (4 * j, i) :: P
  | _, _, _ => False
section NQK
variable {K : Nat → Nat} {V : Nat → Int64} {y : TR} {En En' : TPth → Prop} {cv vr cv' vr' : TPth → Nat → Option TVal} {mv mv' : Option (TPth × Nat × TVal)} {AW AW' : TPth → Nat → Prop} {Ev Hp Ev' Hp' : TEv → Prop} {P : TPth}
set_option maxHeartbeats 4000000 in
theorem NQ_keep {e0 : Nat} (w : PW K y 0 e0) {z : TR × List Nat × Nat} (hs : shp z.1) (h : NQ V y En cv vr mv AW Ev Hp P z)
    (hcm : ∀ P' t' a, cv P' t' = some a → cv' P' t' = some a) (hE : ∀ P', En P' → En' P')
    (hE1 : ∀ k i, k < 4 → lpK z.1 = false ∨ k = 0 → En' ((4 * otk z.1 + k, i) :: P) → En ((4 * otk z.1 + k, i) :: P)) (hE2 : ∀ k i, k < 4 → k ≠ 0 → lpK z.1 = true → En' ((4 * otk z.1 + k, 0) :: (4 * otk z.1, i) :: P) → En ((4 * otk z.1 + k, 0) :: (4 * otk z.1, i) :: P)) (hE3 : ∀ p, p ∈ (ftP y).map Prod.fst → En' ((4 * p, otk z.1) :: P) → En ((4 * p, otk z.1) :: P))
    (hvr : ∀ F b, Bnd V y P z F b → vr' F b = vr F b) (hVm : ∀ a, Vm cv' mv' P (otk z.1) a → Vm cv mv P (otk z.1) a)
    (hAW : AW' P (otk z.1) → AW P (otk z.1)) (hEv : ∀ i, Ev' (P, otk z.1, i) → Ev (P, otk z.1, i)) (hHp : ∀ i, Hp (P, otk z.1, i) → Hp' (P, otk z.1, i)) :
    NQ V y En' cv' vr' mv' AW' Ev' Hp' P z := by
  obtain ⟨x, γ, r⟩ := z
  have hs : shp x := hs
  rcases hs with ⟨j, rfl⟩ | ⟨j, rfl⟩ | ⟨j, rfl⟩ | ⟨j, as, rfl⟩ | ⟨j, a, b, rfl⟩ | ⟨j, a, b, c, rfl⟩ | ⟨j, fs, c, ns, g, rfl⟩ | ⟨j, a, rfl⟩ | ⟨j, a, b, rfl⟩ | ⟨j, a, b, rfl⟩ | ⟨j, a, b, rfl⟩ | ⟨j, a, rfl⟩
  · exact fun q a q' => h (hAW q) a (hVm a q')
  · exact fun q a q' => h (hAW q) a (hVm a q')
  · exact fun q a q' => h (hAW q) a (hVm a q')
  · obtain ⟨h0, h⟩ := h
    refine ⟨fun q q' => h0 (hAW q) (hEv 0 q'), fun i p cnt x q1 q2 => ?_⟩
    obtain ⟨h1, h2, h3⟩ := h i p cnt x q1 q2
    refine ⟨fun q => hHp 0 (h1 (hE3 p (fu_ft w (List.mem_of_getElem? q2)) q)), fun a q => hcm _ _ _ (h2 a (hVm a q)), fun z a q3 q => ?_⟩
    rw [hvr _ _ ⟨i, p, cnt, x, z, q1, q2, q3, rfl, rfl⟩] at q
    obtain ⟨u1, xz, u2, u3⟩ := h3 z a q3 q
    exact ⟨hE _ u1, xz, u2, hcm _ _ _ u3⟩
  · obtain ⟨h0, h1, h2⟩ := h
    refine ⟨fun q => h0 (hAW q), fun a0 q => ?_, fun a q => hcm _ _ _ (h2 a (hVm a q))⟩
    rw [hvr _ _ ⟨rfl, rfl⟩] at q
    exact hcm _ _ _ (h1 a0 q)
  · obtain ⟨h0, h1, h2, h3, h4⟩ := h
    refine ⟨fun q => h0 (hAW q), fun q => ?_, fun q => ?_, fun q => ?_, fun a0 q => ?_⟩
    · obtain ⟨u, u1⟩ := h1 (hEv 0 q)
      exact ⟨u, hcm _ _ _ u1⟩
    · obtain ⟨u0, u, u1, u2⟩ := h2 (hE1 0 0 (by omega) (.inr rfl) q)
      exact ⟨hHp 0 u0, u, hcm _ _ _ u1, u2⟩
    · obtain ⟨u0, u, u1, u2⟩ := h3 (hE1 1 0 (by omega) (.inl rfl) q)
      exact ⟨hHp 0 u0, u, hcm _ _ _ u1, u2⟩
    · obtain ⟨u0, u, u1, u2⟩ := h4 a0 (hVm a0 q)
      exact ⟨hHp 0 u0, u, hcm _ _ _ u1, u2.imp id (Or.imp (hcm _ _ _) (hcm _ _ _))⟩
  · obtain ⟨h0, h1, h2, h3, h4, h5, h6⟩ := h
    refine ⟨fun q q' => h0 (hAW q) (hE1 0 0 (by omega) (.inr rfl) q'), fun i q => ?_, fun i q => ?_, fun i q => ?_, fun a q => ?_, fun b a q1 => ⟨fun q2 q => ?_, fun q2 q => ?_⟩, fun i b a q1 q2 q => ?_⟩
    · obtain ⟨u0, u, u1⟩ := h1 i (hEv i q)
      exact ⟨hE _ u0, u, hcm _ _ _ u1⟩
    · obtain ⟨u0, u3, u, u1, u2⟩ := h2 i (q.imp (hE1 0 (i + 1) (by omega) (.inr rfl)) (hE2 1 i (by omega) (by omega) rfl))
      exact ⟨hHp i u0, hE _ u3, u, hcm _ _ _ u1, u2⟩
    · obtain ⟨u0, u3, u, u1, u2⟩ := h3 i (hE2 2 i (by omega) (by omega) rfl q)
      exact ⟨hHp i u0, hE _ u3, u, hcm _ _ _ u1, u2⟩
    · obtain ⟨i, a0, u1, u2, u3, u4⟩ := h4 a (hVm a q)
      exact ⟨i, a0, hE _ u1, hHp i u2, hcm _ _ _ u3, u4.imp id (hcm _ _ _)⟩
    · rw [hvr _ _ ⟨q1, .inl ⟨q2, 0, rfl⟩⟩] at q
      obtain ⟨u1, x, u2, u3⟩ := (h5 b a q1).1 q2 q
      exact ⟨hE _ u1, x, u2, hcm _ _ _ u3⟩
    · rw [hvr _ _ ⟨q1, .inr ⟨q2, rfl⟩⟩] at q
      obtain ⟨x, u2, u3⟩ := (h5 b a q1).2 q2 q
      exact ⟨x, u2, hcm _ _ _ u3⟩
    · rw [hvr _ _ ⟨q1, .inl ⟨q2, i + 1, rfl⟩⟩] at q
      obtain ⟨x, u2, u3⟩ := h6 i b a q1 q2 q
      exact ⟨x, u2, hcm _ _ _ u3⟩
  · obtain ⟨h0, h1, h2⟩ := h
    refine ⟨fun q => h0 (hAW q), fun q => ?_, fun a q => hHp 0 (h2 a (hVm a q))⟩
    obtain ⟨u, u1⟩ := h1 (hEv 0 q)
    exact ⟨u, hcm _ _ _ u1⟩
  · obtain ⟨h0, h1, h2⟩ := h
    refine ⟨fun q => h0 (hAW q), fun q => ?_, fun a q => hHp 0 (h2 a (hVm a q))⟩
    obtain ⟨u, u', u1, u2⟩ := h1 (hEv 0 q)
    exact ⟨u, u', hcm _ _ _ u1, hcm _ _ _ u2⟩
  · obtain ⟨h0, h1, h2⟩ := h
    refine ⟨fun q => ?_, fun q => ?_, fun a q => hHp 0 (h2 a (hVm a q))⟩
    · obtain ⟨v, u, u', u1, u2⟩ := h0 (hAW q)
      exact ⟨fun q' => v (hEv 0 q'), u, u', hcm _ _ _ u1, hcm _ _ _ u2⟩
    · obtain ⟨u, u', u1, u2⟩ := h1 (hEv 0 q)
      exact ⟨u, u', hcm _ _ _ u1, hcm _ _ _ u2⟩
  · obtain ⟨h0, h1, h2, h3, h4, h5, h6⟩ := h
    refine ⟨fun q => h0 (hAW q), fun q => ?_, fun a q => hHp 0 (h2 a (hVm a q)), fun i q => ?_, fun i q => ?_, fun i a q => ?_, fun i a q => ?_⟩
    · obtain ⟨u, u1⟩ := h1 (hEv 0 q)
      exact ⟨u, hcm _ _ _ u1⟩
    · obtain ⟨u0, u, u1, u2⟩ := h3 i (hEv (i + 1) q)
      exact ⟨hHp 0 u0, u, hcm _ _ _ u1, u2⟩
    · obtain ⟨u0, u, u1⟩ := h4 i (hE1 0 i (by omega) (.inr rfl) q)
      exact ⟨hHp _ u0, u, hcm _ _ _ u1⟩
    · rw [hvr _ _ ⟨.inl rfl, i, rfl⟩] at q
      exact ⟨hE _ (h5 i a q).1, (h5 i a q).2⟩
    · rw [hvr _ _ ⟨.inr rfl, i, rfl⟩] at q
      exact ⟨hE _ (h6 i a q).1, hcm _ _ _ (h6 i a q).2⟩
  · exact fun q => h (hAW q)
end NQK
