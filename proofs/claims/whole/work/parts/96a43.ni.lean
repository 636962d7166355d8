/-! what a run knows of a node; when nothing moves, the family is closed -/
def Vf (vals : TPth → Nat → Option TVal) : TPth → Nat → TVal → Prop := fun P t a => vals P t = some a
def UB (y : TR) (En : TPth → Prop) (P : TPth) (j : Nat) (C : TPth → Prop) : Prop := ∀ P', En P' → own y P' = (P, j) → C P'
def EB (De : TEv → Prop) (P : TPth) (j : Nat) (C : Nat → Prop) : Prop := ∀ i, De (P, j, i) → C i
def rdC (j m : Nat) (P P' : TPth) : Prop := (∃ i, i ≤ m ∧ P' = (4 * j, i) :: P) ∨ ∃ i, i < m ∧ P' = (4 * j + 1, 0) :: (4 * j, i) :: P
def NI (K : Nat → Nat) (V : Nat → Int64) (y : TR) (ar : Nat → Int64) (En : TPth → Prop) (vals : TPth → Nat → Option TVal) (De : TEv → Prop) (P : TPth) (lk : Option TPth) : TR × List Nat × Nat → Prop
  | (.tag 1 (.tag j _), _, _) => ∀ a, vals P j = some a → a = mkN (V j)
  | (.tag 2 (.tag j _), _, _) => ∀ a, vals P j = some a → a = mkT (if K j = 15 then 1 else 0)
  | (.tag 3 (.tag j _), γ, _) => ∀ a, vals P j = some a → ∃ b o, fnd V γ j = some b ∧ VrP V y ar P b o ∧ AtP (Vf vals) o a
  | (.tag 4 (.tag j _), _, _) => (lk = none → vals P j = none ∧ UB y En P j (fun _ => False) ∧ EB De P j (fun _ => False)) ∧ ∀ P', lk = some P' → ∃ i p cnt x, idx V ((ftP y).map Prod.fst) j = some i ∧ (fuP y)[i]? = some (p, cnt, x) ∧ P' = (4 * p, j) :: P ∧ En P' ∧ De (P, j, 0) ∧ ∀ a, vals P j = some a → vals P' (otk x) = some a
  | (.tag 5 (.tag j (.append _ x)), _, _) => ∀ a, vals P j = some a → vals P (otk x) = some a
  | (.tag 6 (.tag j (.append x (.append y1 y2))), _, _) => (lk = none → UB y En P j (fun _ => False) ∧ (vals P j = none → EB De P j (fun _ => False)) ∧ ∀ a, vals P j = some a → De (P, j, 0) ∧ a.1 = 4 ∧ vals P (otk x) = some a) ∧ ∀ P', lk = some P' → De (P, j, 0) ∧ En P' ∧ ∃ a, vals P (otk x) = some a ∧ a.1 ≠ 4 ∧ ((a.2.1 = 1 ∧ P' = (4 * j, 0) :: P ∧ ∀ a', vals P j = some a' → vals P' (otk y1) = some a') ∨ (a.2.1 ≠ 1 ∧ P' = (4 * j + 1, 0) :: P ∧ ∀ a', vals P j = some a' → vals P' (otk y2) = some a'))
  | (.tag 7 (.tag j (.append _ (.append c (.append _ g)))), _, _) => (lk = none → vals P j = none ∧ UB y En P j (fun _ => False) ∧ EB De P j (fun _ => False)) ∧ ∀ P', lk = some P' → ∃ m, En ((4 * j, m) :: P) ∧ (∀ i, i < m → En ((4 * j, i) :: P) ∧ En ((4 * j + 1, 0) :: (4 * j, i) :: P) ∧ De (P, j, i) ∧ ∃ a, vals ((4 * j, i) :: P) (otk c) = some a ∧ a.1 ≠ 4 ∧ a.2.1 ≠ 0) ∧ ((P' = (4 * j, m) :: P ∧ vals P j = none ∧ UB y En P j (rdC j m P) ∧ EB De P j (fun i => i < m)) ∨ (P' = (4 * j, m) :: P ∧ UB y En P j (rdC j m P) ∧ De (P, j, m) ∧ ∃ a, vals P j = some a ∧ a.1 = 4 ∧ vals ((4 * j, m) :: P) (otk c) = some a) ∨ (P' = (4 * j + 2, 0) :: (4 * j, m) :: P ∧ En P' ∧ UB y En P j (fun q => rdC j m P q ∨ q = (4 * j + 2, 0) :: (4 * j, m) :: P) ∧ De (P, j, m) ∧ (∃ a, vals ((4 * j, m) :: P) (otk c) = some a ∧ a.1 ≠ 4 ∧ a.2.1 = 0) ∧ ∀ a', vals P j = some a' → vals P' (otk g) = some a'))
  | (.tag 8 (.tag j x), _, _) => (vals P j = none → EB De P j (fun _ => False)) ∧ ∀ a, vals P j = some a → De (P, j, 0) ∧ ∃ a0, vals P (otk x) = some a0 ∧ a = sgV (K j) a0
  | (.tag 9 (.tag j (.append x x')), _, _) => (vals P j = none → EB De P j (fun _ => False)) ∧ ∀ a, vals P j = some a → De (P, j, 0) ∧ ∃ a0 a1, vals P (otk x) = some a0 ∧ vals P (otk x') = some a1 ∧ a = biV (K j) a0 a1
  | (.tag 10 (.tag j (.append x x')), _, _) => (vals P j = none → EB De P j (fun _ => False)) ∧ ∀ a, vals P j = some a → De (P, j, 0) ∧ ∃ a0 a1, vals P (otk x) = some a0 ∧ vals P (otk x') = some a1 ∧ (∀ e, erV a0 a1 = some e → a = mkE e) ∧ (erV a0 a1 = none → badI a1.2.1 a0.2.1 → a = mkE 2) ∧ (erV a0 a1 = none → ¬ badI a1.2.1 a0.2.1 → ∃ q q' γ r, (.tag 11 (.tag a0.2.2.2 (.append q q')), γ, r) ∈ scP y ∧ vals ((4 * a0.2.2.2, i64N a1.2.1) :: a0.2.2.1) (otk q') = some a)
  | (.tag 11 (.tag j (.append x _)), _, _) => (vals P j = none → UB y En P j (fun _ => False) ∧ EB De P j (fun _ => False)) ∧ ∀ a, vals P j = some a → De (P, j, 0) ∧ ∃ a0, vals P (otk x) = some a0 ∧ (a0.1 = 4 → a = a0) ∧ (a0.1 ≠ 4 → bad20 a0.2.1 → a = mkE 3) ∧ (a0.1 ≠ 4 → ¬ bad20 a0.2.1 → a = (3, a0.2.1, P, j) ∧ ∀ i, i < i64N a0.2.1 → De (P, j, i + 1) ∧ En ((4 * j, i) :: P))
  | (.tag 12 (.tag j x), _, _) => ∀ a, vals P j = some a → vals P (otk x) = some a
  | _ => True
/-- nothing moves at a node -/
def StN (V : Nat → Int64) (y : TR) (ar : Nat → Int64) (vals : TPth → Nat → Option TVal) (P : TPth) (lk : Option TPth) : TR × List Nat × Nat → Prop
  | (.tag 3 (.tag j _), γ, _) => ∃ b o, fnd V γ j = some b ∧ VrP V y ar P b o ∧ ∀ a, ¬ AtP (Vf vals) o a
  | (.tag 4 (.tag j _), _, _) => ∃ P', lk = some P' ∧ ∀ i p cnt x, idx V ((ftP y).map Prod.fst) j = some i → (fuP y)[i]? = some (p, cnt, x) → vals P' (otk x) = none
  | (.tag 5 (.tag _ (.append _ x)), _, _) => vals P (otk x) = none
  | (.tag 6 (.tag j (.append x (.append y1 y2))), _, _) => (lk = none ∧ vals P (otk x) = none) ∨ ∃ P', lk = some P' ∧ (P' = (4 * j, 0) :: P → vals P' (otk y1) = none) ∧ (P' = (4 * j + 1, 0) :: P → vals P' (otk y2) = none)
  | (.tag 7 (.tag j (.append _ (.append c (.append _ g)))), _, _) => ∃ P', lk = some P' ∧ (∀ m, P' = (4 * j, m) :: P → vals P' (otk c) = none) ∧ ∀ m, P' = (4 * j + 2, 0) :: (4 * j, m) :: P → vals P' (otk g) = none
  | (.tag 8 (.tag _ x), _, _) => vals P (otk x) = none
  | (.tag 9 (.tag _ (.append x x')), _, _) => vals P (otk x) = none ∨ vals P (otk x') = none
  | (.tag 10 (.tag _ (.append x x')), _, _) => vals P (otk x) = none ∨ vals P (otk x') = none ∨ ∃ a a', vals P (otk x) = some a ∧ vals P (otk x') = some a' ∧ erV a a' = none ∧ ¬ badI a'.2.1 a.2.1 ∧ ∀ q q' γ r, (.tag 11 (.tag a.2.2.2 (.append q q')), γ, r) ∈ scP y → vals ((4 * a.2.2.2, i64N a'.2.1) :: a.2.2.1) (otk q') = none
  | (.tag 11 (.tag _ (.append x _)), _, _) => vals P (otk x) = none
  | (.tag 12 (.tag _ x), _, _) => vals P (otk x) = none
  | _ => False
section NIS
variable {K : Nat → Nat} {V : Nat → Int64} {y : TR} {ar : Nat → Int64} {En En' : TPth → Prop} {vals vals' : TPth → Nat → Option TVal} {De De' : TEv → Prop} {P : TPth} {lk : Option TPth}
theorem NI_mono {z : TR × List Nat × Nat} (hs : shp z.1) (h : NI K V y ar En vals De P lk z) (hE : ∀ P', En P' → En' P') (hv : ∀ P' t a, vals P' t = some a → vals' P' t = some a) (hD : ∀ e, De e → De' e) (hz : vals' P (otk z.1) = vals P (otk z.1)) (hE' : ∀ P', En' P' → own y P' = (P, otk z.1) → En P') (hD' : ∀ i, De' (P, otk z.1, i) → De (P, otk z.1, i)) : NI K V y ar En' vals' De' P lk z := by
  obtain ⟨x, γ, r⟩ := z
  have hs : shp x := hs
  have ub : ∀ {C : TPth → Prop}, UB y En P (otk x) C → UB y En' P (otk x) C := fun q P' q1 q2 => q P' (hE' P' q1 q2) q2
  have eb : ∀ {C : Nat → Prop}, EB De P (otk x) C → EB De' P (otk x) C := fun q i q1 => q i (hD' i q1)
  rcases hs with ⟨j, rfl⟩ | ⟨j, rfl⟩ | ⟨j, rfl⟩ | ⟨j, as, rfl⟩ | ⟨j, a, b, rfl⟩ | ⟨j, a, b, c, rfl⟩ | ⟨j, fs, c, ns, g, rfl⟩ | ⟨j, a, rfl⟩ | ⟨j, a, b, rfl⟩ | ⟨j, a, b, rfl⟩ | ⟨j, a, b, rfl⟩ | ⟨j, a, rfl⟩
  · have hz : vals' P j = vals P j := hz
    intro a q; rw [hz] at q; exact h a q
  · have hz : vals' P j = vals P j := hz
    intro a q; rw [hz] at q; exact h a q
  · have hz : vals' P j = vals P j := hz
    intro a q; rw [hz] at q
    obtain ⟨b, o, h1, h2, h3⟩ := h a q
    exact ⟨b, o, h1, h2, AtP_mono (fun P t a q => hv P t a q) h3⟩
  · have hz : vals' P j = vals P j := hz
    refine ⟨fun q => ?_, fun P' q => ?_⟩
    · obtain ⟨h1, h2, h3⟩ := h.1 q
      exact ⟨hz.trans h1, ub h2, eb h3⟩
    · obtain ⟨i, p, cnt, x, h1, h2, h3, h4, h5, h6⟩ := h.2 P' q
      exact ⟨i, p, cnt, x, h1, h2, h3, hE _ h4, hD _ h5, fun a q => by rw [hz] at q; exact hv _ _ _ (h6 a q)⟩
  · have hz : vals' P j = vals P j := hz
    intro a q; rw [hz] at q; exact hv _ _ _ (h a q)
  · have hz : vals' P j = vals P j := hz
    refine ⟨fun q => ?_, fun P' q => ?_⟩
    · obtain ⟨h1, h2, h3⟩ := h.1 q
      refine ⟨ub h1, fun q => ?_, fun a q => ?_⟩
      · rw [hz] at q; exact eb (h2 q)
      · rw [hz] at q
        obtain ⟨a1, a2, a3⟩ := h3 a q
        exact ⟨hD _ a1, a2, hv _ _ _ a3⟩
    · obtain ⟨h1, h2, a, h3, h4, h5⟩ := h.2 P' q
      refine ⟨hD _ h1, hE _ h2, a, hv _ _ _ h3, h4, ?_⟩
      rcases h5 with ⟨b1, b2, b3⟩ | ⟨b1, b2, b3⟩
      · exact .inl ⟨b1, b2, fun a' q => by rw [hz] at q; exact hv _ _ _ (b3 a' q)⟩
      · exact .inr ⟨b1, b2, fun a' q => by rw [hz] at q; exact hv _ _ _ (b3 a' q)⟩
  · have hz : vals' P j = vals P j := hz
    refine ⟨fun q => ?_, fun P' q => ?_⟩
    · obtain ⟨h1, h2, h3⟩ := h.1 q
      exact ⟨hz.trans h1, ub h2, eb h3⟩
    · obtain ⟨m, h1, h2, h3⟩ := h.2 P' q
      refine ⟨m, hE _ h1, fun i hi => ?_, ?_⟩
      · obtain ⟨a1, a2, a3, a, a4, a5⟩ := h2 i hi
        exact ⟨hE _ a1, hE _ a2, hD _ a3, a, hv _ _ _ a4, a5⟩
      · rcases h3 with ⟨b1, b2, b3, b4⟩ | ⟨b1, b2, b3, a, b4, b5, b6⟩ | ⟨b1, b2, b3, b4, ⟨a, b5, b6⟩, b7⟩
        · exact .inl ⟨b1, hz.trans b2, ub b3, eb b4⟩
        · exact .inr (.inl ⟨b1, ub b2, hD _ b3, a, hz.trans b4, b5, hv _ _ _ b6⟩)
        · exact .inr (.inr ⟨b1, hE _ b2, ub b3, hD _ b4, ⟨a, hv _ _ _ b5, b6⟩, fun a' q => by rw [hz] at q; exact hv _ _ _ (b7 a' q)⟩)
  · have hz : vals' P j = vals P j := hz
    refine ⟨fun q => by rw [hz] at q; exact eb (h.1 q), fun a q => ?_⟩
    rw [hz] at q
    obtain ⟨h1, a0, h2, h3⟩ := h.2 a q
    exact ⟨hD _ h1, a0, hv _ _ _ h2, h3⟩
  · have hz : vals' P j = vals P j := hz
    refine ⟨fun q => by rw [hz] at q; exact eb (h.1 q), fun a q => ?_⟩
    rw [hz] at q
    obtain ⟨h1, a0, a1, h2, h3, h4⟩ := h.2 a q
    exact ⟨hD _ h1, a0, a1, hv _ _ _ h2, hv _ _ _ h3, h4⟩
  · have hz : vals' P j = vals P j := hz
    refine ⟨fun q => by rw [hz] at q; exact eb (h.1 q), fun a q => ?_⟩
    rw [hz] at q
    obtain ⟨h1, a0, a1, h2, h3, h4, h5, h6⟩ := h.2 a q
    refine ⟨hD _ h1, a0, a1, hv _ _ _ h2, hv _ _ _ h3, h4, h5, fun q1 q2 => ?_⟩
    obtain ⟨q, q', γ, r, c1, c2⟩ := h6 q1 q2
    exact ⟨q, q', γ, r, c1, hv _ _ _ c2⟩
  · have hz : vals' P j = vals P j := hz
    refine ⟨fun q => by rw [hz] at q; exact ⟨ub (h.1 q).1, eb (h.1 q).2⟩, fun a q => ?_⟩
    rw [hz] at q
    obtain ⟨h1, a0, h2, h3, h4, h5⟩ := h.2 a q
    exact ⟨hD _ h1, a0, hv _ _ _ h2, h3, h4, fun q1 q2 => ⟨(h5 q1 q2).1, fun i hi => ⟨hD _ ((h5 q1 q2).2 i hi).1, hE _ ((h5 q1 q2).2 i hi).2⟩⟩⟩
  · have hz : vals' P j = vals P j := hz
    intro a q; rw [hz] at q; exact hv _ _ _ (h a q)
theorem so_inj {o : Option TVal} {a b : TVal} (h1 : o = some a) (h2 : o = some b) : a = b := Option.some.inj (h1.symm.trans h2)
theorem NI_clo {e0 : Nat} (wP : PW K y 0 e0) {z : TR × List Nat × Nat} (hm : z ∈ scP y) (h : NI K V y ar En vals De P lk z) (hf : ∀ b o o', VrP V y ar P b o → VrP V y ar P b o' → o = o') (hst : vals P (otk z.1) ≠ none ∨ StN V y ar vals P lk z) : CloE K V y ar En (Vf vals) De P z := by
  have hs := ((tl_P wP) z hm).2.1
  have hou := (ou_P wP).2
  obtain ⟨x, γ, r⟩ := z
  have hs : shp x := hs
  have no : ∀ {o : Option TVal} {a : TVal} {C : Prop}, o = none → o = some a → C := fun h1 h2 => by rw [h1] at h2; cases h2
  rcases hs with ⟨j, rfl⟩ | ⟨j, rfl⟩ | ⟨j, rfl⟩ | ⟨j, as, rfl⟩ | ⟨j, a, b, rfl⟩ | ⟨j, a, b, c, rfl⟩ | ⟨j, fs, c, ns, g, rfl⟩ | ⟨j, a, rfl⟩ | ⟨j, a, b, rfl⟩ | ⟨j, a, b, rfl⟩ | ⟨j, a, b, rfl⟩ | ⟨j, a, rfl⟩
  · rcases hst with hst | hst
    · obtain ⟨a, ha⟩ := Option.ne_none_iff_exists'.mp hst
      have := h a ha
      rw [this] at ha
      exact ha
    · exact absurd hst id
  · rcases hst with hst | hst
    · obtain ⟨a, ha⟩ := Option.ne_none_iff_exists'.mp hst
      have := h a ha
      rw [this] at ha
      exact ha
    · exact absurd hst id
  · intro b o a q1 q2 q3
    rcases hst with hst | hst
    · obtain ⟨a', ha⟩ := Option.ne_none_iff_exists'.mp hst
      have ha : vals P j = some a' := ha
      obtain ⟨b', o', h1, h2, h3⟩ := h a' ha
      rw [q1] at h1
      cases h1
      have := hf _ _ _ q2 h2
      subst this
      have e1 : a = a' := by
        cases o with
        | inl o => exact so_inj q3 h3
        | inr o => exact q3.trans h3.symm
      rw [e1]
      exact ha
    · obtain ⟨b', o', h1, h2, h3⟩ := hst
      rw [q1] at h1
      cases h1
      have := hf _ _ _ q2 h2
      subst this
      exact absurd q3 (h3 a)
  · intro i p cnt x q1 q2
    have hlk : ∃ P', lk = some P' := by
      cases lk with
      | some P' => exact ⟨P', rfl⟩
      | none =>
        rcases hst with hst | hst
        · exact absurd (h.1 rfl).1 hst
        · obtain ⟨P', h1, -⟩ := hst
          cases h1
    obtain ⟨P', hlk⟩ := hlk
    obtain ⟨i', p', cnt', x', h1, h2, h3, h4, h5, h6⟩ := h.2 P' hlk
    rw [q1] at h1
    cases h1
    rw [q2] at h2
    cases h2
    refine ⟨h5, h3 ▸ h4, fun a ha => ?_⟩
    have ha : vals ((4 * p, j) :: P) (otk x) = some a := ha
    rcases hst with hst | hst
    · obtain ⟨a', ha'⟩ := Option.ne_none_iff_exists'.mp hst
      have ha' : vals P j = some a' := ha'
      have := h6 a' ha'
      rw [h3] at this
      rw [so_inj ha this]
      exact ha'
    · obtain ⟨P'', g1, g2⟩ := hst
      rw [hlk] at g1
      cases g1
      have := g2 _ _ _ _ q1 q2
      rw [h3] at this
      exact no this ha
  · intro a' q
    have q : vals P (otk b) = some a' := q
    rcases hst with hst | hst
    · obtain ⟨a1, ha⟩ := Option.ne_none_iff_exists'.mp hst
      have ha : vals P j = some a1 := ha
      rw [so_inj q (h a1 ha)]
      exact ha
    · exact no hst q
  · intro a' q
    have q : vals P (otk a) = some a' := q
    cases hl : lk with
    | none =>
      obtain ⟨h1, h2, h3⟩ := h.1 hl
      rcases hst with hst | hst
      · obtain ⟨a1, ha⟩ := Option.ne_none_iff_exists'.mp hst
        have ha : vals P j = some a1 := ha
        obtain ⟨b1, b2, b3⟩ := h3 a1 ha
        have := so_inj q b3
        subst this
        exact ⟨b1, fun _ => ha, fun n => absurd b2 n, fun n => absurd b2 n⟩
      · rcases hst with ⟨-, hst⟩ | ⟨P', hst, -⟩
        · exact no hst q
        · rw [hl] at hst
          cases hst
    | some P' =>
      obtain ⟨h1, h2, a0, h3, h4, h5⟩ := h.2 P' hl
      have := so_inj q h3
      subst this
      refine ⟨h1, fun n => absurd n h4, fun _ n => ?_, fun _ n => ?_⟩
      · rcases h5 with ⟨b1, b2, b3⟩ | ⟨b1, b2, b3⟩
        · refine ⟨b2 ▸ h2, fun a1 q1 => ?_⟩
          have q1 : vals ((4 * j, 0) :: P) (otk b) = some a1 := q1
          rcases hst with hst | hst
          · obtain ⟨a2, ha⟩ := Option.ne_none_iff_exists'.mp hst
            have ha : vals P j = some a2 := ha
            have := b3 a2 ha
            rw [b2] at this
            rw [so_inj q1 this]
            exact ha
          · rcases hst with ⟨hst, -⟩ | ⟨P'', g1, g2, g3⟩
            · rw [hl] at hst; cases hst
            · rw [hl] at g1
              cases g1
              have := g2 b2
              rw [b2] at this
              exact no this q1
        · exact absurd n b1
      · rcases h5 with ⟨b1, b2, b3⟩ | ⟨b1, b2, b3⟩
        · exact absurd b1 n
        · refine ⟨b2 ▸ h2, fun a1 q1 => ?_⟩
          have q1 : vals ((4 * j + 1, 0) :: P) (otk c) = some a1 := q1
          rcases hst with hst | hst
          · obtain ⟨a2, ha⟩ := Option.ne_none_iff_exists'.mp hst
            have ha : vals P j = some a2 := ha
            have := b3 a2 ha
            rw [b2] at this
            rw [so_inj q1 this]
            exact ha
          · rcases hst with ⟨hst, -⟩ | ⟨P'', g1, g2, g3⟩
            · rw [hl] at hst; cases hst
            · rw [hl] at g1
              cases g1
              have := g3 b2
              rw [b2] at this
              exact no this q1
  · have hlk : ∃ P', lk = some P' := by
      cases lk with
      | some P' => exact ⟨P', rfl⟩
      | none =>
        rcases hst with hst | hst
        · exact absurd (h.1 rfl).1 hst
        · obtain ⟨P', h1, -⟩ := hst
          cases h1
    obtain ⟨P', hlk⟩ := hlk
    obtain ⟨m, h1, h2, h3⟩ := h.2 P' hlk
    refine ⟨?_, fun i a q1 q2 => ?_⟩
    · rcases Nat.eq_zero_or_pos m with rfl | hm0
      · exact h1
      · exact (h2 0 hm0).1
    have q2 : vals ((4 * j, i) :: P) (otk c) = some a := q2
    have hub : UB y En P j (fun q => rdC j m P q ∨ q = (4 * j + 2, 0) :: (4 * j, m) :: P) := by
      rcases h3 with ⟨-, -, u, -⟩ | ⟨-, u, -⟩ | ⟨-, -, u, -⟩
      · exact fun P' q1 q2 => .inl (u P' q1 q2)
      · exact fun P' q1 q2 => .inl (u P' q1 q2)
      · exact u
    have hi : i ≤ m := by
      have hown : own y ((4 * j, i) :: P) = (P, j) := own_nd wP hm (k := 0) (by omega) (.inr rfl) P
      rcases hub _ q1 hown with (⟨i', u1, u2⟩ | ⟨i', u1, u2⟩) | u
      · have := congrArg (fun l : TPth => (l.headD (0, 0)).2) u2
        have : i = i' := this
        omega
      · have := congrArg (fun l : TPth => (l.headD (0, 0)).1) u2
        have : 4 * j = 4 * j + 1 := this
        omega
      · have := congrArg (fun l : TPth => (l.headD (0, 0)).1) u
        have : 4 * j = 4 * j + 2 := this
        omega
    rcases Nat.lt_or_ge i m with hlt | hge
    · obtain ⟨a1, a2, a3, a', a4, a5, a6⟩ := h2 i hlt
      have := so_inj q2 a4
      subst this
      refine ⟨a3, fun n => absurd n a5, fun _ _ => ⟨a2, ?_⟩, fun _ n => absurd n a6⟩
      rcases Nat.lt_or_ge (i + 1) m with hl | hl
      · exact (h2 (i + 1) hl).1
      · rw [show i + 1 = m by omega]
        exact h1
    · have him : i = m := by omega
      subst him
      rcases h3 with ⟨b1, b2, b3, b4⟩ | ⟨b1, b2, b3, a', b4, b5, b6⟩ | ⟨b1, b2, b3, b4, ⟨a', b5, b6, b7⟩, b8⟩
      · rcases hst with hst | hst
        · exact absurd b2 hst
        · obtain ⟨P'', g1, g2, g3⟩ := hst
          rw [hlk] at g1
          cases g1
          have := g2 i b1
          rw [b1] at this
          exact no this q2
      · have := so_inj q2 b6
        subst this
        exact ⟨b3, fun _ => b4, fun n => absurd b5 n, fun n => absurd b5 n⟩
      · have := so_inj q2 b5
        subst this
        refine ⟨b4, fun n => absurd n b6, fun _ n => absurd b7 n, fun _ _ => ⟨b1 ▸ b2, fun a1 q3 => ?_⟩⟩
        have q3 : vals ((4 * j + 2, 0) :: (4 * j, i) :: P) (otk g) = some a1 := q3
        rcases hst with hst | hst
        · obtain ⟨a2, ha⟩ := Option.ne_none_iff_exists'.mp hst
          have ha : vals P j = some a2 := ha
          have := b8 a2 ha
          rw [b1] at this
          rw [so_inj q3 this]
          exact ha
        · obtain ⟨P'', g1, g2, g3⟩ := hst
          rw [hlk] at g1
          cases g1
          have := g3 i b1
          rw [b1] at this
          exact no this q3
  · intro a' q
    have q : vals P (otk a) = some a' := q
    rcases hst with hst | hst
    · obtain ⟨a1, ha⟩ := Option.ne_none_iff_exists'.mp hst
      have ha : vals P j = some a1 := ha
      obtain ⟨h1, a0, h2, h3⟩ := h.2 a1 ha
      have := so_inj q h2
      subst this
      rw [h3] at ha
      exact ⟨h1, ha⟩
    · exact no hst q
  · intro a' a'' q q'
    have q : vals P (otk a) = some a' := q
    have q' : vals P (otk b) = some a'' := q'
    rcases hst with hst | hst
    · obtain ⟨a1, ha⟩ := Option.ne_none_iff_exists'.mp hst
      have ha : vals P j = some a1 := ha
      obtain ⟨h1, a0, a0', h2, h2', h3⟩ := h.2 a1 ha
      have := so_inj q h2
      subst this
      have := so_inj q' h2'
      subst this
      rw [h3] at ha
      exact ⟨h1, ha⟩
    · rcases hst with hst | hst
      · exact no hst q
      · exact no hst q'
  · intro a' a'' q q'
    have q : vals P (otk a) = some a' := q
    have q' : vals P (otk b) = some a'' := q'
    rcases hst with hst | hst
    · obtain ⟨a1, ha⟩ := Option.ne_none_iff_exists'.mp hst
      have ha : vals P j = some a1 := ha
      obtain ⟨h1, a0, a0', h2, h2', h3, h4, h5⟩ := h.2 a1 ha
      have := so_inj q h2
      subst this
      have := so_inj q' h2'
      subst this
      refine ⟨fun e q1 => ?_, fun q1 q2 => ?_, fun q1 q2 u u' γ' r' b' q3 q4 => ?_⟩
      · have e1 := h3 e q1
        subst e1
        exact ⟨h1, ha⟩
      · have e1 := h4 q1 q2
        subst e1
        exact ⟨h1, ha⟩
      · obtain ⟨v, v', γ1, r1, c1, c2⟩ := h5 q1 q2
        have := hou _ c1 _ q3 rfl
        cases this
        have q4 : vals ((4 * a'.2.2.2, i64N a''.2.1) :: a'.2.2.1) (otk u') = some b' := q4
        rw [so_inj q4 c2]
        exact ⟨h1, ha⟩
    · rcases hst with hst | hst | ⟨a0, a0', g1, g2, g3, g4, g5⟩
      · exact no hst q
      · exact no hst q'
      · have := so_inj q g1
        subst this
        have := so_inj q' g2
        subst this
        exact ⟨fun e q1 => (by rw [g3] at q1; cases q1), fun _ q2 => absurd q2 g4, fun _ _ u u' γ' r' b' q3 q4 => no (g5 _ _ _ _ q3) q4⟩
  · intro a' q
    have q : vals P (otk a) = some a' := q
    rcases hst with hst | hst
    · obtain ⟨a1, ha⟩ := Option.ne_none_iff_exists'.mp hst
      have ha : vals P j = some a1 := ha
      obtain ⟨h1, a0, h2, h3, h4, h5⟩ := h.2 a1 ha
      have := so_inj q h2
      subst this
      refine ⟨h1, fun n => ?_, fun n n' => ?_, fun n n' => ?_⟩
      · have e1 := h3 n
        subst e1
        exact ha
      · have e1 := h4 n n'
        subst e1
        exact ha
      · obtain ⟨e1, e2⟩ := h5 n n'
        subst e1
        exact ⟨ha, e2⟩
    · exact no hst q
  · intro a' q
    have q : vals P (otk a) = some a' := q
    rcases hst with hst | hst
    · obtain ⟨a1, ha⟩ := Option.ne_none_iff_exists'.mp hst
      have ha : vals P j = some a1 := ha
      rw [so_inj q (h a1 ha)]
      exact ha
    · exact no hst q
end NIS
