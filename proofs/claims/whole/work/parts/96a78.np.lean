/-! what the class's run owes at a node; when nothing is left to do, the family is closed -/
/-- the class's values, by own tokens (cv: by the tokens of roots) -/
def VaC (y : TR) (cv : TPth → Nat → Option TVal) : TPth → Nat → TVal → Prop := fun P t a => ∃ z, z ∈ scP y ∧ otk z.1 = t ∧ z.2.2 = hdR P ∧ cv P (rtk z.1) = some a
/-- the frame in which the variable of token b lies, seen from P -/
def VF (V : Nat → Int64) (y : TR) (P : TPth) (b : Nat) (F : TPth) : Prop :=
  (∃ p cnt x z, (p, cnt, x) ∈ fuP y ∧ z < cnt ∧ b = p + 2 + 2 * z ∧ F = upP (4 * p) P) ∨
  (∃ j x x' γ r, (.tag 5 (.tag j (.append x x')), γ, r) ∈ scP y ∧ b = j + 1 ∧ F = fpt y (upP r P)) ∨
  (∃ j fs c ns g γ r, (.tag 7 (.tag j (.append fs (.append c (.append ns g)))), γ, r) ∈ scP y ∧ b ∈ tks fs ∧ ((nxX V ns b ≠ none ∧ F = upP (4 * j) P) ∨ (nxX V ns b = none ∧ F = fpt y (upP r P)))) ∨
  (∃ j x x' γ r, (.tag 11 (.tag j (.append x x')), γ, r) ∈ scP y ∧ (b = j + 3 ∨ b = j + 1) ∧ F = upP (4 * j) P)
/-- a value that is there, or on its way -/
def Vm (cv : TPth → Nat → Option TVal) (mv : Option (TPth × Nat × TVal)) (P : TPth) (t : Nat) (a : TVal) : Prop := cv P t = some a ∨ mv = some (P, t, a)
def NP (K : Nat → Nat) (V : Nat → Int64) (y : TR) (En : TPth → Prop) (cv vr : TPth → Nat → Option TVal) (mv : Option (TPth × Nat × TVal)) (Aw Wv Wc : TPth → Nat → Prop) (Rd Hp : TEv → Prop) (P : TPth) : TR × List Nat × Nat → Prop
  | (.tag 1 (.tag j _), _, _) => Vm cv mv P j (mkN (V j)) ∨ Aw P j
  | (.tag 2 (.tag j _), _, _) => Vm cv mv P j (mkT (if K j = 15 then 1 else 0)) ∨ Aw P j
  | (.tag 3 (.tag j _), γ, _) => ∃ b F, fnd V γ j = some b ∧ VF V y P b F ∧ ((∃ a, Vm cv mv P j a ∧ vr F b = some a) ∨ Aw P j ∨ (Wv P j ∧ vr F b = none))
  | (.tag 4 (.tag j as), _, _) => ∀ i p cnt x, idx V ((ftP y).map Prod.fst) j = some i → (fuP y)[i]? = some (p, cnt, x) → (Aw P j ∨ Rd (P, j, 0) ∨ (Hp (P, j, 0) ∧ En ((4 * p, j) :: P))) ∧ (∀ a, cv ((4 * p, j) :: P) (rtk x) = some a → Vm cv mv P j a) ∧ (En ((4 * p, j) :: P) → ∀ z xz a, z < cnt → agX as z = some xz → cv P (rtk xz) = some a → vr ((4 * p, j) :: P) (p + 2 + 2 * z) = some a)
  | (.tag 5 (.tag j (.append x x')), _, _) => (∀ a, cv P (rtk x) = some a → vr (fpt y P) (j + 1) = some a) ∧ ∀ a, cv P (rtk x') = some a → Vm cv mv P j a
  | (.tag 6 (.tag j (.append x (.append y1 y2))), _, _) => (∀ a, cv P (rtk x) = some a → Rd (P, j, 0) ∨ (Hp (P, j, 0) ∧ (a.1 = 4 → Vm cv mv P j a) ∧ (a.1 ≠ 4 → a.2.1 = 1 → En ((4 * j, 0) :: P)) ∧ (a.1 ≠ 4 → a.2.1 ≠ 1 → En ((4 * j + 1, 0) :: P)))) ∧ (∀ a, cv ((4 * j, 0) :: P) (rtk y1) = some a → Vm cv mv P j a) ∧ ∀ a, cv ((4 * j + 1, 0) :: P) (rtk y2) = some a → Vm cv mv P j a
  | (.tag 7 (.tag j (.append fs (.append c (.append ns g)))), _, _) => (Aw P j ∨ En ((4 * j, 0) :: P)) ∧ (∀ i a, En ((4 * j, i) :: P) → cv ((4 * j, i) :: P) (rtk c) = some a → Rd (P, j, i) ∨ (Hp (P, j, i) ∧ (a.1 = 4 → Vm cv mv P j a) ∧ (a.1 ≠ 4 → a.2.1 ≠ 0 → En ((4 * j + 1, 0) :: (4 * j, i) :: P) ∧ En ((4 * j, i + 1) :: P)) ∧ (a.1 ≠ 4 → a.2.1 = 0 → En ((4 * j + 2, 0) :: (4 * j, i) :: P)))) ∧ (∀ i a, cv ((4 * j + 2, 0) :: (4 * j, i) :: P) (rtk g) = some a → Vm cv mv P j a) ∧ (∀ b x a, b ∈ tks fs → rwX fs b = some x → cv P (rtk x) = some a → (nxX V ns b ≠ none → En ((4 * j, 0) :: P) → vr ((4 * j, 0) :: P) b = some a) ∧ (nxX V ns b = none → vr (fpt y P) b = some a)) ∧ ∀ i b x a, b ∈ tks fs → nxX V ns b = some x → cv ((4 * j + 1, 0) :: (4 * j, i) :: P) (rtk x) = some a → vr ((4 * j, i + 1) :: P) b = some a
  | (.tag 8 (.tag j x), _, _) => ∀ a, cv P (rtk x) = some a → Rd (P, j, 0) ∨ (Hp (P, j, 0) ∧ Vm cv mv P j (sgV (K j) a))
  | (.tag 9 (.tag j (.append x x')), _, _) => ∀ a a', cv P (rtk x) = some a → cv P (rtk x') = some a' → Rd (P, j, 0) ∨ (Hp (P, j, 0) ∧ Vm cv mv P j (biV (K j) a a'))
  | (.tag 10 (.tag j (.append x x')), _, _) => ∀ a a', cv P (rtk x) = some a → cv P (rtk x') = some a' → Rd (P, j, 0) ∨ Aw P j ∨ (∃ a2, Hp (P, j, 0) ∧ Vm cv mv P j a2 ∧ (∀ e, erV a a' = some e → a2 = mkE e) ∧ (erV a a' = none → badI a'.2.1 a.2.1 → a2 = mkE 2) ∧ (erV a a' = none → ¬ badI a'.2.1 a.2.1 → ∃ q q' γ r, (.tag 11 (.tag a.2.2.2 (.append q q')), γ, r) ∈ scP y ∧ cv ((4 * a.2.2.2, i64N a'.2.1) :: a.2.2.1) (rtk q') = some a2)) ∨ (Wc P j ∧ erV a a' = none ∧ ¬ badI a'.2.1 a.2.1 ∧ ∀ q q' γ r, (.tag 11 (.tag a.2.2.2 (.append q q')), γ, r) ∈ scP y → cv ((4 * a.2.2.2, i64N a'.2.1) :: a.2.2.1) (rtk q') = none)
  | (.tag 11 (.tag j (.append x _)), _, _) => (∀ a, cv P (rtk x) = some a → Rd (P, j, 0) ∨ (Hp (P, j, 0) ∧ (a.1 = 4 → Vm cv mv P j a) ∧ (a.1 ≠ 4 → bad20 a.2.1 → Vm cv mv P j (mkE 3)) ∧ (a.1 ≠ 4 → ¬ bad20 a.2.1 → Vm cv mv P j (3, a.2.1, P, j) ∧ ∀ i, i < i64N a.2.1 → Rd (P, j, i + 1) ∨ (Hp (P, j, i + 1) ∧ En ((4 * j, i) :: P))))) ∧ ∀ i, En ((4 * j, i) :: P) → vr ((4 * j, i) :: P) (j + 3) = some (mkN (Int64.ofNat i)) ∧ ∀ a, cv P j = some a → vr ((4 * j, i) :: P) (j + 1) = some a
  | _ => True
section NPS
variable {K : Nat → Nat} {V : Nat → Int64} {y : TR} {ar : Nat → Int64} {En : TPth → Prop} {cv vr : TPth → Nat → Option TVal} {mv : Option (TPth × Nat × TVal)} {Aw Wv Wc : TPth → Nat → Prop} {Rd Hp : TEv → Prop} {e0 : Nat}
theorem VaC_at (w : PW K y 0 e0) {z : TR × List Nat × Nat} (hz : z ∈ scP y) {P : TPth} (hr : z.2.2 = hdR P) {a : TVal} : VaC y cv P (otk z.1) a ↔ cv P (rtk z.1) = some a := by
  refine ⟨fun ⟨z', h1, h2, h3, h4⟩ => ?_, fun h => ⟨z, hz, rfl, hr, h⟩⟩
  have := (ou_P w).2 z' h1 z hz h2
  rw [this] at h4
  exact h4
/-- at a node: nothing is on its way, awake or ready -/
theorem NP_clo (w : PW K y 0 e0) {q0 : Nat} (hmv : mv = none) (hAw : ∀ P t, ¬ Aw P t) (hRd : ∀ e, ¬ Rd e)
    (hVr : ∀ P z b o a F, En P → z ∈ scP y → z.2.2 = hdR P → b ∈ z.2.1 → VrP V y ar P b o → AtP (VaC y cv) o a → VF V y P b F → vr F b = some a)
    (hEn : En [(4 * q0, 0)]) (hPO : ∀ P, En P → POk V y P)
    (hN : ∀ P z, En P → z ∈ scP y → z.2.2 = hdR P → NP K V y En cv vr mv Aw Wv Wc Rd Hp P z) : CloA K V y q0 ar En (VaC y cv) Hp := by
  have vm : ∀ {P : TPth} {t : Nat} {a : TVal}, Vm cv mv P t a → cv P t = some a := fun {P t a} h => by
    rcases h with h | h
    · exact h
    · rw [hmv] at h
      cases h
  refine ⟨hEn, fun r i Q z hE hz hr => ?_⟩
  obtain ⟨P, hPe⟩ : ∃ P : TPth, P = (r, i) :: Q := ⟨_, rfl⟩
  rw [← hPe] at hE ⊢
  have hr' : z.2.2 = hdR P := by rw [hPe]; exact hr
  have hn := hN P z hE hz hr'
  obtain ⟨⟨p', e', wz⟩, hs, htr⟩ := (tl_P w) z hz
  have own' : ∀ {t : Nat} {a : TVal}, (∃ x : TR, z.1 = x ∧ otk x = t ∧ rtk x = t) → cv P t = some a → VaC y cv P t a := fun {t a} ⟨x, e1, e2, e3⟩ h => ⟨z, hz, by rw [e1]; exact e2, hr', by rw [e1, e3]; exact h⟩
  obtain ⟨x, γ, r1⟩ := z
  have hr1 : r1 = hdR P := hr'
  have hs : shp x := hs
  have opv : ∀ {x1 : TR} {γ1 : List Nat} {P1 : TPth} {r2 : Nat} {a : TVal}, (x1, γ1, r2) ∈ scP y → r2 = hdR P1 → VaC y cv P1 (otk x1) a → cv P1 (rtk x1) = some a := fun {x1 γ1 P1 r2 a} h1 h2 h3 => (VaC_at w (z := (x1, γ1, r2)) h1 h2).mp h3
  rcases hs with ⟨j, rfl⟩ | ⟨j, rfl⟩ | ⟨j, rfl⟩ | ⟨j, as, rfl⟩ | ⟨j, a, b, rfl⟩ | ⟨j, a, b, d, rfl⟩ | ⟨j, fs, d, ns, g, rfl⟩ | ⟨j, a, rfl⟩ | ⟨j, a, b, rfl⟩ | ⟨j, a, b, rfl⟩ | ⟨j, a, b, rfl⟩ | ⟨j, a, rfl⟩
  · rcases hn with hn | hn
    · exact own' ⟨_, rfl, rfl, rfl⟩ (vm hn)
    · exact absurd hn (hAw _ _)
  · rcases hn with hn | hn
    · exact own' ⟨_, rfl, rfl, rfl⟩ (vm hn)
    · exact absurd hn (hAw _ _)
  · intro b o a q1 q2 q3
    obtain ⟨b', F, h1, h2, h3⟩ := hn
    rw [q1] at h1
    cases h1
    have hv := hVr P _ b o a F hE hz hr' (fnd_in _ _ _ q1) q2 q3 h2
    rcases h3 with ⟨a', h4, h5⟩ | h3 | ⟨-, h3⟩
    · rw [hv] at h5
      have h5 := Option.some.inj h5
      subst h5
      exact own' ⟨_, rfl, rfl, rfl⟩ (vm h4)
    · exact absurd h3 (hAw _ _)
    · rw [hv] at h3
      cases h3
  · intro i' p cnt x q1 q2
    obtain ⟨h1, h2, -⟩ := hn i' p cnt x q1 q2
    obtain ⟨⟨b1, e1, wx⟩, hsc, -⟩ := fu_sc w p cnt x (List.mem_of_getElem? q2)
    rcases h1 with h1 | h1 | h1
    · exact absurd h1 (hAw _ _)
    · exact absurd h1 (hRd _)
    · refine ⟨h1.1, h1.2, fun a q => ?_⟩
      exact own' ⟨_, rfl, rfl, rfl⟩ (vm (h2 a (opv (hsc _ (hd_in wx _ _)) rfl q)))
  · intro a' q
    obtain ⟨-, -, bb, w1, w2⟩ := wz
    exact own' ⟨_, rfl, rfl, rfl⟩ (vm (hn.2 a' (opv (htr _ (mc _ (mr _ (hd_in w2 _ _)))) hr1 q)))
  · intro a' q
    obtain ⟨-, bb, cc, w1, w2, w3⟩ := wz
    have q := opv (htr _ (mc _ (ml _ (hd_in w1 _ _)))) hr1 q
    obtain ⟨h1, h2, h3⟩ := hn
    rcases h1 a' q with h1 | ⟨g1, g2, g3, g4⟩
    · exact absurd h1 (hRd _)
    · refine ⟨g1, fun c => own' ⟨_, rfl, rfl, rfl⟩ (vm (g2 c)), fun c c' => ⟨g3 c c', fun a2 q2 => ?_⟩, fun c c' => ⟨g4 c c', fun a2 q2 => ?_⟩⟩
      · exact own' ⟨_, rfl, rfl, rfl⟩ (vm (h2 a2 (opv (htr _ (mc _ (mr _ (ml _ (hd_in w2 _ _))))) rfl q2)))
      · exact own' ⟨_, rfl, rfl, rfl⟩ (vm (h3 a2 (opv (htr _ (mc _ (mr _ (mr _ (hd_in w3 _ _))))) rfl q2)))
  · obtain ⟨-, b1, d1, g1, n1, n2, w1, w2, w3, w4⟩ := wz
    obtain ⟨h1, h2, h3, -⟩ := hn
    refine ⟨h1.resolve_left (hAw _ _), fun i' a' q1 q2 => ?_⟩
    have q2 := opv (htr _ (mc _ (mr _ (ml _ (hd_in w2 _ _))))) rfl q2
    rcases h2 i' a' q1 q2 with h4 | ⟨k1, k2, k3, k4⟩
    · exact absurd h4 (hRd _)
    · exact ⟨k1, fun c => own' ⟨_, rfl, rfl, rfl⟩ (vm (k2 c)), k3, fun c c' => ⟨k4 c c', fun a2 q3 => own' ⟨_, rfl, rfl, rfl⟩ (vm (h3 i' a2 (opv (htr _ (mc _ (mr _ (mr _ (mr _ (hd_in w4 _ _)))))) rfl q3)))⟩⟩
  · intro a' q
    obtain ⟨-, -, w1⟩ := wz
    have q := opv (htr _ (mc _ (hd_in w1 _ _))) hr1 q
    rcases hn a' q with h1 | ⟨h1, h2⟩
    · exact absurd h1 (hRd _)
    · exact ⟨h1, own' ⟨_, rfl, rfl, rfl⟩ (vm h2)⟩
  · intro a' a2 q q'
    obtain ⟨-, w1, w2⟩ := wz
    have q := opv (htr _ (mc _ (ml _ (hd_in w1 _ _)))) hr1 q
    have q' := opv (htr _ (mc _ (mr _ (hd_in w2 _ _)))) hr1 q'
    rcases hn a' a2 q q' with h1 | ⟨h1, h2⟩
    · exact absurd h1 (hRd _)
    · exact ⟨h1, own' ⟨_, rfl, rfl, rfl⟩ (vm h2)⟩
  · intro a' a2 q q'
    obtain ⟨w1, bb, w2, -⟩ := wz
    have q := opv (htr _ (mc _ (ml _ (hd_in w1 _ _)))) hr1 q
    have q' := opv (htr _ (mc _ (mr _ (hd_in w2 _ _)))) hr1 q'
    rcases hn a' a2 q q' with h1 | h1 | ⟨a3, h1, h2, h3, h4, h5⟩ | ⟨-, h1, h2, h3⟩
    · exact absurd h1 (hRd _)
    · exact absurd h1 (hAw _ _)
    · have hv := own' ⟨_, rfl, rfl, rfl⟩ (vm h2)
      refine ⟨fun e c => ?_, fun c c' => ?_, fun c c' u u' γ' r' b' c1 c2 => ?_⟩
      · have := h3 e c
        subst this
        exact ⟨h1, hv⟩
      · have := h4 c c'
        subst this
        exact ⟨h1, hv⟩
      · obtain ⟨v, v', γ1, r2, k1, k2⟩ := h5 c c'
        obtain ⟨⟨p1, e1, wz1⟩, -, htr1⟩ := (tl_P w) _ c1
        obtain ⟨-, -, -, b1, wq, wq'⟩ := wz1
        have c2 := opv (htr1 _ (mc _ (mr _ (hd_in wq' _ _)))) rfl c2
        have hu' := (ou_P w).2 _ c1 _ k1 rfl
        have hu2 : u' = v' := congrArg (fun z : TR × List Nat × Nat => match z.1 with | .tag _ (.tag _ (.append _ w)) => w | _ => .nil) hu'
        rw [hu2, k2] at c2
        have := Option.some.inj c2
        subst this
        exact ⟨h1, hv⟩
    · refine ⟨fun e c => ?_, fun c c' => absurd c' h2, fun c c' u u' γ' r' b' c1 c2 => ?_⟩
      · rw [h1] at c
        cases c
      · obtain ⟨⟨p1, e1, wz1⟩, -, htr1⟩ := (tl_P w) _ c1
        obtain ⟨-, -, -, b1, wq, wq'⟩ := wz1
        have c2 := opv (htr1 _ (mc _ (mr _ (hd_in wq' _ _)))) rfl c2
        rw [h3 _ _ _ _ c1] at c2
        cases c2
  · intro a' q
    obtain ⟨-, -, -, bb, w1, w2⟩ := wz
    have q := opv (htr _ (mc _ (ml _ (hd_in w1 _ _)))) hr1 q
    rcases hn.1 a' q with h1 | ⟨g1, g2, g3, g4⟩
    · exact absurd h1 (hRd _)
    · refine ⟨g1, fun c => own' ⟨_, rfl, rfl, rfl⟩ (vm (g2 c)), fun c c' => own' ⟨_, rfl, rfl, rfl⟩ (vm (g3 c c')), fun c c' => ⟨own' ⟨_, rfl, rfl, rfl⟩ (vm (g4 c c').1), fun i' hi => ?_⟩⟩
      rcases (g4 c c').2 i' hi with h1 | h1
      · exact absurd h1 (hRd _)
      · exact h1
  · intro a' q
    obtain ⟨-, bb, w1, -⟩ := wz
    have q := opv (htr _ (mc _ (hd_in w1 _ _))) hr1 q
    exact ⟨_, hz, rfl, hr', q⟩
end NPS
