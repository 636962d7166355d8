/-! what the class's run owes at a node stays where nothing moves -/
/-- the places of which a node takes its values -/
def Inp (V : Nat → Int64) (y : TR) (P : TPth) : TR × List Nat × Nat → TPth → Nat → Prop
  | (.tag 4 (.tag j as), _, _), P', t' => (∃ z xz, agX as z = some xz ∧ P' = P ∧ t' = rtk xz) ∨ ∃ i p cnt x, idx V ((ftP y).map Prod.fst) j = some i ∧ (fuP y)[i]? = some (p, cnt, x) ∧ P' = (4 * p, j) :: P ∧ t' = rtk x
  | (.tag 5 (.tag _ (.append x x')), _, _), P', t' => P' = P ∧ (t' = rtk x ∨ t' = rtk x')
  | (.tag 6 (.tag j (.append x (.append y1 y2))), _, _), P', t' => (P' = P ∧ t' = rtk x) ∨ (P' = (4 * j, 0) :: P ∧ t' = rtk y1) ∨ (P' = (4 * j + 1, 0) :: P ∧ t' = rtk y2)
  | (.tag 7 (.tag j (.append fs (.append c (.append ns g)))), _, _), P', t' => (∃ b x, b ∈ tks fs ∧ rwX fs b = some x ∧ P' = P ∧ t' = rtk x) ∨ (∃ i, P' = (4 * j, i) :: P ∧ t' = rtk c) ∨ (∃ i b x, b ∈ tks fs ∧ nxX V ns b = some x ∧ P' = (4 * j + 1, 0) :: (4 * j, i) :: P ∧ t' = rtk x) ∨ ∃ i, P' = (4 * j + 2, 0) :: (4 * j, i) :: P ∧ t' = rtk g
  | (.tag 8 (.tag _ x), _, _), P', t' => P' = P ∧ t' = rtk x
  | (.tag 9 (.tag _ (.append x x')), _, _), P', t' => P' = P ∧ (t' = rtk x ∨ t' = rtk x')
  | (.tag 10 (.tag _ (.append x x')), _, _), P', t' => P' = P ∧ (t' = rtk x ∨ t' = rtk x')
  | (.tag 11 (.tag _ (.append x _)), _, _), P', t' => P' = P ∧ t' = rtk x
  | _, _, _ => False
/-- an element waits for a cell -/
def CWt (y : TR) (cv : TPth → Nat → Option TVal) (Wc : TPth → Nat → Prop) (P : TPth) (j : Nat) (a a' : TVal) : Prop := Wc P j ∧ ∀ q q' γ r, (.tag 11 (.tag a.2.2.2 (.append q q')), γ, r) ∈ scP y → cv ((4 * a.2.2.2, i64N a'.2.1) :: a.2.2.1) (rtk q') = none
section NKP
variable {K : Nat → Nat} {V : Nat → Int64} {y : TR} {En En' : TPth → Prop} {cv vr cv' vr' : TPth → Nat → Option TVal} {mv mv' : Option (TPth × Nat × TVal)} {Aw Wv Wc Aw' Wv' Wc' : TPth → Nat → Prop} {Rd Hp Rd' Hp' : TEv → Prop} {P : TPth}
set_option maxHeartbeats 4000000 in
theorem NP_keep {e0 : Nat} (w : PW K y 0 e0) {z : TR × List Nat × Nat} (hs : shp z.1) (h : NP K V y En cv vr mv Aw Wv Wc Rd Hp P z)
    (hcv : ∀ P' t', Inp V y P z P' t' → cv' P' t' = cv P' t') (hcm : ∀ P' t' a, cv P' t' = some a → cv' P' t' = some a)
    (hO : ∀ i a, tbK z.1 = true → En ((4 * otk z.1, i) :: P) → cv' P (otk z.1) = some a → cv P (otk z.1) = some a) (hE : ∀ P', En P' → En' P') (hL : ∀ i, En' ((4 * otk z.1, i) :: P) → En ((4 * otk z.1, i) :: P) ∨ ∀ t, cv' ((4 * otk z.1, i) :: P) t = none) (hT : ∀ i, tbK z.1 = true → En' ((4 * otk z.1, i) :: P) → En ((4 * otk z.1, i) :: P)) (hL0 : lpK z.1 = true → En' ((4 * otk z.1, 0) :: P) → En ((4 * otk z.1, 0) :: P)) (hC : ∀ p, p ∈ (ftP y).map Prod.fst → En' ((4 * p, otk z.1) :: P) → En ((4 * p, otk z.1) :: P))
    (hvr : ∀ F b a, vr F b = some a → vr' F b = some a) (hVm : ∀ a, Vm cv mv P (otk z.1) a → Vm cv' mv' P (otk z.1) a)
    (hWv : ∀ b F, fnd V z.2.1 (otk z.1) = some b → Wv P (otk z.1) → VF V y P b F → vr F b = none → (Wv' P (otk z.1) ∧ vr' F b = none) ∨ Aw' P (otk z.1))
    (hWc : ∀ x x' a a', z.1 = .tag 10 (.tag (otk z.1) (.append x x')) → cv P (rtk x) = some a → cv P (rtk x') = some a' → CWt y cv Wc P (otk z.1) a a' → CWt y cv' Wc' P (otk z.1) a a' ∨ Aw' P (otk z.1))
    (hAw : Aw P (otk z.1) → Aw' P (otk z.1)) (hRd : ∀ i, Rd (P, otk z.1, i) → Rd' (P, otk z.1, i)) (hHp : ∀ i, Hp (P, otk z.1, i) → Hp' (P, otk z.1, i)) :
    NP K V y En' cv' vr' mv' Aw' Wv' Wc' Rd' Hp' P z := by
  obtain ⟨x, γ, r⟩ := z
  have hs : shp x := hs
  rcases hs with ⟨j, rfl⟩ | ⟨j, rfl⟩ | ⟨j, rfl⟩ | ⟨j, as, rfl⟩ | ⟨j, a, b, rfl⟩ | ⟨j, a, b, c, rfl⟩ | ⟨j, fs, c, ns, g, rfl⟩ | ⟨j, a, rfl⟩ | ⟨j, a, b, rfl⟩ | ⟨j, a, b, rfl⟩ | ⟨j, a, b, rfl⟩ | ⟨j, a, rfl⟩
  · exact h.imp (hVm _) hAw
  · exact h.imp (hVm _) hAw
  · obtain ⟨b, F, h1, h2, h3⟩ := h
    refine ⟨b, F, h1, h2, ?_⟩
    rcases h3 with ⟨a, h3, h4⟩ | h3 | ⟨h3, h4⟩
    · exact .inl ⟨a, hVm a h3, hvr _ _ _ h4⟩
    · exact .inr (.inl (hAw h3))
    · rcases hWv b F h1 h3 h2 h4 with q | q
      · exact .inr (.inr q)
      · exact .inr (.inl q)
  · intro i p cnt x q1 q2
    obtain ⟨h1, h2, h3⟩ := h i p cnt x q1 q2
    refine ⟨?_, fun a q => ?_, fun q z xz a q3 q4 q5 => ?_⟩
    · rcases h1 with h1 | h1 | ⟨h1, h4⟩
      · exact .inl (hAw h1)
      · exact .inr (.inl (hRd 0 h1))
      · exact .inr (.inr ⟨hHp 0 h1, hE _ h4⟩)
    · rw [hcv _ _ (.inr ⟨i, p, cnt, x, q1, q2, rfl, rfl⟩)] at q
      exact hVm a (h2 a q)
    · rw [hcv _ _ (.inl ⟨z, xz, q4, rfl, rfl⟩)] at q5
      exact hvr _ _ _ (h3 (hC p (fu_ft w (List.mem_of_getElem? q2)) q) z xz a q3 q4 q5)
  · obtain ⟨h1, h2⟩ := h
    refine ⟨fun a q => ?_, fun a q => ?_⟩
    · rw [hcv _ _ ⟨rfl, .inl rfl⟩] at q
      exact hvr _ _ _ (h1 a q)
    · rw [hcv _ _ ⟨rfl, .inr rfl⟩] at q
      exact hVm _ (h2 a q)
  · obtain ⟨h1, h2, h3⟩ := h
    refine ⟨fun a q => ?_, fun a q => ?_, fun a q => ?_⟩
    · rw [hcv _ _ (.inl ⟨rfl, rfl⟩)] at q
      rcases h1 a q with h1 | ⟨h1, h4, h5, h6⟩
      · exact .inl (hRd 0 h1)
      · exact .inr ⟨hHp 0 h1, fun q => hVm _ (h4 q), fun q q' => hE _ (h5 q q'), fun q q' => hE _ (h6 q q')⟩
    · rw [hcv _ _ (.inr (.inl ⟨rfl, rfl⟩))] at q
      exact hVm _ (h2 a q)
    · rw [hcv _ _ (.inr (.inr ⟨rfl, rfl⟩))] at q
      exact hVm _ (h3 a q)
  · obtain ⟨h1, h2, h3, h4, h5⟩ := h
    refine ⟨h1.imp hAw (hE _), fun i a q1 q2 => ?_, fun i a q => ?_, fun b x a q1 q2 q3 => ?_, fun i b x a q1 q2 q3 => ?_⟩
    · have q1' : En ((4 * j, i) :: P) := by
        rcases hL i q1 with q | q
        · exact q
        · have q : cv' ((4 * j, i) :: P) (rtk c) = none := q (rtk c)
          rw [q] at q2
          cases q2
      rw [hcv _ _ (.inr (.inl ⟨i, rfl, rfl⟩))] at q2
      rcases h2 i a q1' q2 with h2 | ⟨h2, h6, h7, h8⟩
      · exact .inl (hRd i h2)
      · exact .inr ⟨hHp i h2, fun q => hVm _ (h6 q), fun q q' => ⟨hE _ (h7 q q').1, hE _ (h7 q q').2⟩, fun q q' => hE _ (h8 q q')⟩
    · rw [hcv _ _ (.inr (.inr (.inr ⟨i, rfl, rfl⟩)))] at q
      exact hVm _ (h3 i a q)
    · rw [hcv _ _ (.inl ⟨b, x, q1, q2, rfl, rfl⟩)] at q3
      exact ⟨fun q q' => hvr _ _ _ ((h4 b x a q1 q2 q3).1 q (hL0 rfl q')), fun q => hvr _ _ _ ((h4 b x a q1 q2 q3).2 q)⟩
    · rw [hcv _ _ (.inr (.inr (.inl ⟨i, b, x, q1, q2, rfl, rfl⟩)))] at q3
      exact hvr _ _ _ (h5 i b x a q1 q2 q3)
  · intro a0 q
    rw [hcv _ _ ⟨rfl, rfl⟩] at q
    rcases h a0 q with h1 | ⟨h1, h2⟩
    · exact .inl (hRd 0 h1)
    · exact .inr ⟨hHp 0 h1, hVm _ h2⟩
  · intro a0 a1 q q'
    rw [hcv _ _ ⟨rfl, .inl rfl⟩] at q
    rw [hcv _ _ ⟨rfl, .inr rfl⟩] at q'
    rcases h a0 a1 q q' with h1 | ⟨h1, h2⟩
    · exact .inl (hRd 0 h1)
    · exact .inr ⟨hHp 0 h1, hVm _ h2⟩
  · intro a0 a1 q q'
    rw [hcv _ _ ⟨rfl, .inl rfl⟩] at q
    rw [hcv _ _ ⟨rfl, .inr rfl⟩] at q'
    rcases h a0 a1 q q' with h1 | h1 | ⟨a2, h1, h2, h3, h4, h5⟩ | ⟨h1, h2, h3, h4⟩
    · exact .inl (hRd 0 h1)
    · exact .inr (.inl (hAw h1))
    · refine .inr (.inr (.inl ⟨a2, hHp 0 h1, hVm _ h2, h3, h4, fun q q' => ?_⟩))
      obtain ⟨u, u', v, v', w1, w2⟩ := h5 q q'
      exact ⟨u, u', v, v', w1, hcm _ _ _ w2⟩
    · rcases hWc a b a0 a1 rfl q q' ⟨h1, h4⟩ with ⟨q1, q2⟩ | q1
      · exact .inr (.inr (.inr ⟨q1, h2, h3, q2⟩))
      · exact .inr (.inl q1)
  · obtain ⟨h1, h2⟩ := h
    refine ⟨fun a0 q => ?_, fun i q => ?_⟩
    · rw [hcv _ _ ⟨rfl, rfl⟩] at q
      rcases h1 a0 q with h1 | ⟨h1, h3, h4, h5⟩
      · exact .inl (hRd 0 h1)
      · refine .inr ⟨hHp 0 h1, fun q => hVm _ (h3 q), fun q q' => hVm _ (h4 q q'), fun q q' => ⟨hVm _ (h5 q q').1, fun i hi => ?_⟩⟩
        rcases (h5 q q').2 i hi with h6 | ⟨h6, h7⟩
        · exact .inl (hRd _ h6)
        · exact .inr ⟨hHp _ h6, hE _ h7⟩
    · obtain ⟨h3, h4⟩ := h2 i (hT i rfl q)
      refine ⟨hvr _ _ _ h3, fun a0 q' => ?_⟩
      exact hvr _ _ _ (h4 a0 (hO i a0 rfl (hT i rfl q) q'))
  · trivial
end NKP
