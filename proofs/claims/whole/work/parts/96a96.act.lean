/-! what is known of a node that acts: all that is new there came from somewhere -/
def JV (V : Nat → Int64) (y : TR) (En : TPth → Prop) (cv : TPth → Nat → Option TVal) (Hp : TEv → Prop) (P : TPth) : TR × List Nat × Nat → TVal → Prop
  | (.tag 4 (.tag j _), _, _), a => ∀ i p cnt x, idx V ((ftP y).map Prod.fst) j = some i → (fuP y)[i]? = some (p, cnt, x) → cv ((4 * p, j) :: P) (rtk x) = some a
  | (.tag 5 (.tag _ (.append _ x')), _, _), a => cv P (rtk x') = some a
  | (.tag 6 (.tag j (.append x (.append y1 y2))), _, _), a => Hp (P, j, 0) ∧ ∃ a0, cv P (rtk x) = some a0 ∧ ((a0.1 = 4 ∧ a = a0) ∨ cv ((4 * j, 0) :: P) (rtk y1) = some a ∨ cv ((4 * j + 1, 0) :: P) (rtk y2) = some a)
  | (.tag 7 (.tag j (.append _ (.append c (.append _ g)))), _, _), a => ∃ i a0, En ((4 * j, i) :: P) ∧ Hp (P, j, i) ∧ cv ((4 * j, i) :: P) (rtk c) = some a0 ∧ ((a0.1 = 4 ∧ a = a0) ∨ cv ((4 * j + 2, 0) :: (4 * j, i) :: P) (rtk g) = some a)
  | (.tag 8 (.tag j _), _, _), _ => Hp (P, j, 0)
  | (.tag 9 (.tag j _), _, _), _ => Hp (P, j, 0)
  | (.tag 10 (.tag j _), _, _), _ => Hp (P, j, 0)
  | (.tag 11 (.tag j _), _, _), _ => Hp (P, j, 0)
  | _, _ => False
def JE (En : TPth → Prop) (cv : TPth → Nat → Option TVal) (Hp : TEv → Prop) (P : TPth) : TR × List Nat × Nat → Nat → Prop
  | (.tag 4 _, _, _), _ => True
  | (.tag 6 (.tag _ (.append x _)), _, _), i => i = 0 → ∃ a, cv P (rtk x) = some a
  | (.tag 7 (.tag j (.append _ (.append c _))), _, _), i => En ((4 * j, i) :: P) ∧ ∃ a, cv ((4 * j, i) :: P) (rtk c) = some a
  | (.tag 8 (.tag _ x), _, _), i => i = 0 → ∃ a, cv P (rtk x) = some a
  | (.tag 9 (.tag _ (.append x x')), _, _), i => i = 0 → ∃ a a', cv P (rtk x) = some a ∧ cv P (rtk x') = some a'
  | (.tag 10 (.tag _ (.append x x')), _, _), i => i = 0 → ∃ a a', cv P (rtk x) = some a ∧ cv P (rtk x') = some a'
  | (.tag 11 (.tag j (.append x _)), _, _), i => (i = 0 → ∃ a, cv P (rtk x) = some a) ∧ ∀ k, i = k + 1 → Hp (P, j, 0) ∧ ∃ a, cv P (rtk x) = some a ∧ a.1 ≠ 4 ∧ ¬ bad20 a.2.1 ∧ k < i64N a.2.1
  | _, _ => False
def JP (V : Nat → Int64) (y : TR) (En : TPth → Prop) (cv : TPth → Nat → Option TVal) (Hp : TEv → Prop) (P : TPth) : TR × List Nat × Nat → TPth → Prop
  | (.tag 4 (.tag j _), _, _), Q => ∀ p, Q = (4 * p, j) :: P → Hp (P, j, 0)
  | (.tag 6 (.tag j (.append x _)), _, _), Q => (Q = (4 * j, 0) :: P → Hp (P, j, 0) ∧ ∃ a, cv P (rtk x) = some a ∧ a.1 ≠ 4 ∧ a.2.1 = 1) ∧ (Q = (4 * j + 1, 0) :: P → Hp (P, j, 0) ∧ ∃ a, cv P (rtk x) = some a ∧ a.1 ≠ 4 ∧ a.2.1 ≠ 1)
  | (.tag 7 (.tag j (.append _ (.append c _))), _, _), Q => (∀ i, Q = (4 * j, i + 1) :: P ∨ Q = (4 * j + 1, 0) :: (4 * j, i) :: P → Hp (P, j, i) ∧ En ((4 * j, i) :: P) ∧ ∃ a, cv ((4 * j, i) :: P) (rtk c) = some a ∧ a.1 ≠ 4 ∧ a.2.1 ≠ 0) ∧ ∀ i, Q = (4 * j + 2, 0) :: (4 * j, i) :: P → Hp (P, j, i) ∧ En ((4 * j, i) :: P) ∧ ∃ a, cv ((4 * j, i) :: P) (rtk c) = some a ∧ a.1 ≠ 4 ∧ a.2.1 = 0
  | (.tag 11 (.tag j _), _, _), Q => ∀ i, Q = (4 * j, i) :: P → Hp (P, j, i + 1) ∧ ∃ a, cv P j = some a
  | _, _ => True
def JR (V : Nat → Int64) (y : TR) (En : TPth → Prop) (cv : TPth → Nat → Option TVal) (P : TPth) : TR × List Nat × Nat → TPth → Nat → TVal → Prop
  | (.tag 4 (.tag j as), _, _), F, b, a => ∀ i p cnt x z, idx V ((ftP y).map Prod.fst) j = some i → (fuP y)[i]? = some (p, cnt, x) → z < cnt → F = (4 * p, j) :: P → b = p + 2 + 2 * z → En ((4 * p, j) :: P) ∧ ∃ xz, agX as z = some xz ∧ cv P (rtk xz) = some a
  | (.tag 5 (.tag _ (.append x _)), _, _), _, _, a => cv P (rtk x) = some a
  | (.tag 7 (.tag j (.append fs (.append _ (.append ns _)))), _, _), F, b, a => (nxX V ns b ≠ none → F = (4 * j, 0) :: P → En ((4 * j, 0) :: P) ∧ ∃ x, rwX fs b = some x ∧ cv P (rtk x) = some a) ∧ (nxX V ns b = none → ∃ x, rwX fs b = some x ∧ cv P (rtk x) = some a) ∧ ∀ i, nxX V ns b ≠ none → F = (4 * j, i + 1) :: P → ∃ x, nxX V ns b = some x ∧ cv ((4 * j + 1, 0) :: (4 * j, i) :: P) (rtk x) = some a
  | (.tag 11 (.tag j _), _, _), F, b, a => ∀ i, F = (4 * j, i) :: P → En ((4 * j, i) :: P) ∧ (b = j + 3 → a = mkN (Int64.ofNat i)) ∧ (b = j + 1 → cv P j = some a)
  | _, _, _, _ => False
def JA (En : TPth → Prop) (cv : TPth → Nat → Option TVal) (Ev : TEv → Prop) (P : TPth) : TR × List Nat × Nat → Prop
  | (.tag 4 (.tag j _), _, _) => ¬ Ev (P, j, 0)
  | (.tag 7 (.tag j _), _, _) => ¬ En ((4 * j, 0) :: P)
  | (.tag 10 (.tag j (.append x x')), _, _) => ¬ Ev (P, j, 0) ∧ ∃ a a', cv P (rtk x) = some a ∧ cv P (rtk x') = some a'
  | _ => False
def acK : TR → Bool
  | .tag 4 _ => true
  | .tag 5 _ => true
  | .tag 6 _ => true
  | .tag 7 _ => true
  | .tag 8 _ => true
  | .tag 9 _ => true
  | .tag 10 _ => true
  | .tag 11 _ => true
  | _ => false
section NQA
variable {K : Nat → Nat} {V : Nat → Int64} {y : TR} {En En' : TPth → Prop} {cv vr cv' vr' : TPth → Nat → Option TVal} {mv mv' : Option (TPth × Nat × TVal)} {AW AW' : TPth → Nat → Prop} {Ev Hp Ev' Hp' : TEv → Prop} {P : TPth}
set_option maxHeartbeats 4000000 in
theorem NQ_act {z : TR × List Nat × Nat} (hs : shp z.1) (hk : acK z.1 = true) (h : NQ V y En cv vr mv AW Ev Hp P z)
    (hcm : ∀ P' t' a, cv P' t' = some a → cv' P' t' = some a) (hE : ∀ P', En P' → En' P') (hHp : ∀ e, Hp e → Hp' e)
    (hVm : ∀ a, Vm cv' mv' P (otk z.1) a → Vm cv mv P (otk z.1) a ∨ JV V y En' cv' Hp' P z a)
    (hEv : ∀ i, Ev' (P, otk z.1, i) → Ev (P, otk z.1, i) ∨ JE En' cv' Hp' P z i)
    (hEn : ∀ Q, En' Q → En Q ∨ JP V y En' cv' Hp' P z Q)
    (hvr : ∀ F b a, Bnd V y P z F b → vr' F b = some a → vr F b = some a ∨ JR V y En' cv' P z F b a)
    (hAW : AW' P (otk z.1) → JA En' cv' Ev' P z) : NQ V y En' cv' vr' mv' AW' Ev' Hp' P z := by
  obtain ⟨x, γ, r⟩ := z
  have hs : shp x := hs
  rcases hs with ⟨j, rfl⟩ | ⟨j, rfl⟩ | ⟨j, rfl⟩ | ⟨j, as, rfl⟩ | ⟨j, a, b, rfl⟩ | ⟨j, a, b, c, rfl⟩ | ⟨j, fs, c, ns, g, rfl⟩ | ⟨j, a, rfl⟩ | ⟨j, a, b, rfl⟩ | ⟨j, a, b, rfl⟩ | ⟨j, a, b, rfl⟩ | ⟨j, a, rfl⟩
  · cases hk
  · cases hk
  · cases hk
  · obtain ⟨h0, h⟩ := h
    refine ⟨hAW, fun i p cnt x q1 q2 => ?_⟩
    obtain ⟨h1, h2, h3⟩ := h i p cnt x q1 q2
    refine ⟨fun q => ?_, fun a q => ?_, fun z a q3 q => ?_⟩
    · rcases hEn _ q with q | q
      · exact hHp _ (h1 q)
      · exact q p rfl
    · rcases hVm a q with q | q
      · exact hcm _ _ _ (h2 a q)
      · exact q i p cnt x q1 q2
    · rcases hvr _ _ _ ⟨i, p, cnt, x, z, q1, q2, q3, rfl, rfl⟩ q with q | q
      · obtain ⟨u1, xz, u2, u3⟩ := h3 z a q3 q
        exact ⟨hE _ u1, xz, u2, hcm _ _ _ u3⟩
      · exact q i p cnt x z q1 q2 q3 rfl rfl
  · obtain ⟨h0, h1, h2⟩ := h
    refine ⟨hAW, fun a0 q => ?_, fun a0 q => ?_⟩
    · rcases hvr _ _ _ ⟨rfl, rfl⟩ q with q | q
      · exact hcm _ _ _ (h1 a0 q)
      · exact q
    · rcases hVm a0 q with q | q
      · exact hcm _ _ _ (h2 a0 q)
      · exact q
  · obtain ⟨h0, h1, h2, h3, h4⟩ := h
    refine ⟨hAW, fun q => ?_, fun q => ?_, fun q => ?_, fun a0 q => ?_⟩
    · rcases hEv 0 q with q | q
      · obtain ⟨u, u1⟩ := h1 q
        exact ⟨u, hcm _ _ _ u1⟩
      · exact q rfl
    · rcases hEn _ q with q | q
      · obtain ⟨u0, u, u1, u2⟩ := h2 q
        exact ⟨hHp _ u0, u, hcm _ _ _ u1, u2⟩
      · exact q.1 rfl
    · rcases hEn _ q with q | q
      · obtain ⟨u0, u, u1, u2⟩ := h3 q
        exact ⟨hHp _ u0, u, hcm _ _ _ u1, u2⟩
      · exact q.2 rfl
    · rcases hVm a0 q with q | q
      · obtain ⟨u0, u, u1, u2⟩ := h4 a0 q
        exact ⟨hHp _ u0, u, hcm _ _ _ u1, u2.imp id (Or.imp (hcm _ _ _) (hcm _ _ _))⟩
      · exact q
  · obtain ⟨h0, h1, h2, h3, h4, h5, h6⟩ := h
    refine ⟨hAW, fun i q => ?_, fun i q => ?_, fun i q => ?_, fun a q => ?_, fun b a q1 => ⟨fun q2 q => ?_, fun q2 q => ?_⟩, fun i b a q1 q2 q => ?_⟩
    · rcases hEv i q with q | q
      · obtain ⟨u0, u, u1⟩ := h1 i q
        exact ⟨hE _ u0, u, hcm _ _ _ u1⟩
      · exact q
    · rcases q with q | q
      · rcases hEn _ q with q | q
        · obtain ⟨u0, u3, u, u1, u2⟩ := h2 i (.inl q)
          exact ⟨hHp _ u0, hE _ u3, u, hcm _ _ _ u1, u2⟩
        · exact q.1 i (.inl rfl)
      · rcases hEn _ q with q | q
        · obtain ⟨u0, u3, u, u1, u2⟩ := h2 i (.inr q)
          exact ⟨hHp _ u0, hE _ u3, u, hcm _ _ _ u1, u2⟩
        · exact q.1 i (.inr rfl)
    · rcases hEn _ q with q | q
      · obtain ⟨u0, u3, u, u1, u2⟩ := h3 i q
        exact ⟨hHp _ u0, hE _ u3, u, hcm _ _ _ u1, u2⟩
      · exact q.2 i rfl
    · rcases hVm a q with q | q
      · obtain ⟨i, a0, u1, u2, u3, u4⟩ := h4 a q
        exact ⟨i, a0, hE _ u1, hHp _ u2, hcm _ _ _ u3, u4.imp id (hcm _ _ _)⟩
      · exact q
    · rcases hvr _ _ _ ⟨q1, .inl ⟨q2, 0, rfl⟩⟩ q with q | q
      · obtain ⟨u1, x, u2, u3⟩ := (h5 b a q1).1 q2 q
        exact ⟨hE _ u1, x, u2, hcm _ _ _ u3⟩
      · exact q.1 q2 rfl
    · rcases hvr _ _ _ ⟨q1, .inr ⟨q2, rfl⟩⟩ q with q | q
      · obtain ⟨x, u2, u3⟩ := (h5 b a q1).2 q2 q
        exact ⟨x, u2, hcm _ _ _ u3⟩
      · exact q.2.1 q2
    · rcases hvr _ _ _ ⟨q1, .inl ⟨q2, i + 1, rfl⟩⟩ q with q | q
      · obtain ⟨x, u2, u3⟩ := h6 i b a q1 q2 q
        exact ⟨x, u2, hcm _ _ _ u3⟩
      · exact q.2.2 i q2 rfl
  · obtain ⟨h0, h1, h2⟩ := h
    refine ⟨hAW, fun q => ?_, fun a0 q => ?_⟩
    · rcases hEv 0 q with q | q
      · obtain ⟨u, u1⟩ := h1 q
        exact ⟨u, hcm _ _ _ u1⟩
      · exact q rfl
    · rcases hVm a0 q with q | q
      · exact hHp _ (h2 a0 q)
      · exact q
  · obtain ⟨h0, h1, h2⟩ := h
    refine ⟨hAW, fun q => ?_, fun a0 q => ?_⟩
    · rcases hEv 0 q with q | q
      · obtain ⟨u, u', u1, u2⟩ := h1 q
        exact ⟨u, u', hcm _ _ _ u1, hcm _ _ _ u2⟩
      · exact q rfl
    · rcases hVm a0 q with q | q
      · exact hHp _ (h2 a0 q)
      · exact q
  · obtain ⟨h0, h1, h2⟩ := h
    refine ⟨hAW, fun q => ?_, fun a0 q => ?_⟩
    · rcases hEv 0 q with q | q
      · obtain ⟨u, u', u1, u2⟩ := h1 q
        exact ⟨u, u', hcm _ _ _ u1, hcm _ _ _ u2⟩
      · exact q rfl
    · rcases hVm a0 q with q | q
      · exact hHp _ (h2 a0 q)
      · exact q
  · obtain ⟨h0, h1, h2, h3, h4, h5, h6⟩ := h
    refine ⟨hAW, fun q => ?_, fun a0 q => ?_, fun i q => ?_, fun i q => ?_, fun i a0 q => ?_, fun i a0 q => ?_⟩
    · rcases hEv 0 q with q | q
      · obtain ⟨u, u1⟩ := h1 q
        exact ⟨u, hcm _ _ _ u1⟩
      · exact q.1 rfl
    · rcases hVm a0 q with q | q
      · exact hHp _ (h2 a0 q)
      · exact q
    · rcases hEv (i + 1) q with q | q
      · obtain ⟨u0, u, u1, u2⟩ := h3 i q
        exact ⟨hHp _ u0, u, hcm _ _ _ u1, u2⟩
      · exact q.2 i rfl
    · rcases hEn _ q with q | q
      · obtain ⟨u0, u, u1⟩ := h4 i q
        exact ⟨hHp _ u0, u, hcm _ _ _ u1⟩
      · exact q i rfl
    · rcases hvr _ _ _ ⟨.inl rfl, i, rfl⟩ q with q | q
      · exact ⟨hE _ (h5 i a0 q).1, (h5 i a0 q).2⟩
      · exact ⟨(q i rfl).1, (q i rfl).2.1 rfl⟩
    · rcases hvr _ _ _ ⟨.inr rfl, i, rfl⟩ q with q | q
      · exact ⟨hE _ (h6 i a0 q).1, hcm _ _ _ (h6 i a0 q).2⟩
      · exact ⟨(q i rfl).1, (q i rfl).2.2 rfl⟩
  · cases hk
end NQA
/-! helpers for steps -/
section HLP
variable {K : Nat → Nat} {V : Nat → Int64} {y : TR} {q0 : Nat} {ar : Nat → Int64} {En : TPth → Prop} {cv vr cv' vr' : TPth → Nat → Option TVal} {mv mv' : Option (TPth × Nat × TVal)} {Aw : TPth → Nat → Prop} {WV WC : TPth → Nat → TPth → Nat → Prop} {R H R' H' : List TEv} {fl fl' : Prop} {e0 f : Nat} {W : Nat → Int32 × Int32 × Int32} {ν : Nat → Nat} {NE : TPth → Prop} {VN : TPth → Nat → TVal → Prop} {Sl : TPth → Nat → Prop} {NW : TPth → Nat → TPth → Nat → Prop}
theorem pk_nd {P : TPth} {c i : Nat} {z : TR × List Nat × Nat} (hP : POk V y P) (hz : z ∈ scP y) (h : ParN c (hdR P) z) : POk V y ((c, i) :: P) := by
  cases P with
  | nil => exact hP.elim
  | cons d D => exact ⟨.inr ⟨z, hz, h⟩, hP⟩
theorem pk_call {P : TPth} {j : Nat} {as : TR} {γ : List Nat} {r i p cnt : Nat} {x : TR} (hP : POk V y P) (hz : (.tag 4 (.tag j as), γ, r) ∈ scP y) (hr : r = hdR P) (h1 : idx V ((ftP y).map Prod.fst) j = some i) (h2 : (fuP y)[i]? = some (p, cnt, x)) : POk V y ((4 * p, j) :: P) := by
  cases P with
  | nil => exact hP.elim
  | cons d D =>
    refine ⟨.inl ⟨as, γ, i, p, cnt, x, ?_, h1, h2, rfl⟩, hP⟩
    have hr : r = d.1 := hr
    rw [← hr]
    exact hz
theorem z0_cn {P : TPth} {c : Nat × Nat} (h : Z0 y P) (hc : ifr y c.1 ∨ c.2 = 0) : Z0 y (c :: P) := fun d hd hn => by
  rcases List.mem_cons.mp hd with rfl | hd
  · exact hc.resolve_left hn
  · exact h d hd hn
theorem pk_ne {P : TPth} (h : POk V y P) : P ≠ [] := fun q => by rw [q] at h; exact h
/-- who acts and was asleep is asleep, who was put to sleep too -/
theorem aw_old (hN : ∀ P, NE P → ¬ En P) {P : TPth} {t : Nat} (hE : En P) (hW : ∀ C t', ¬ NW C t' P t) (q : AwW (AwN y Aw Sl WV WC cv' vr' NE) (WVN WV vr') (WCN WC NW cv') P t) : AwW Aw WV WC P t := by
  rcases q with (q | ⟨F, b, q, -⟩ | ⟨C, t', q, -⟩ | ⟨q, -⟩) | ⟨F, b, q⟩ | ⟨C, t', q | q⟩
  · exact .inl q.1
  · exact .inr (.inl ⟨F, b, q⟩)
  · exact .inr (.inr ⟨C, t', q⟩)
  · exact absurd hE (hN P q)
  · exact .inr (.inl ⟨F, b, q.1⟩)
  · exact .inr (.inr ⟨C, t', q.1⟩)
  · exact absurd q (hW _ _)
theorem aw_slp (w : ABw K V y En cv vr mv Aw WV WC R H) (hN : ∀ P, NE P → ¬ En P) {P : TPth} {t : Nat} (hE : En P) (hA : Aw P t) (hS : Sl P t) (hW : ∀ C t', ¬ NW C t' P t) : ¬ AwW (AwN y Aw Sl WV WC cv' vr' NE) (WVN WV vr') (WCN WC NW cv') P t := fun q => by
  obtain ⟨b1, b2, b3, b4, b5, b6, b7, b8, b9⟩ := w
  obtain ⟨n1, n2⟩ := b8 P t hA
  rcases q with (q | ⟨F, b, q, -⟩ | ⟨C, t', q, -⟩ | ⟨q, -⟩) | ⟨F, b, q⟩ | ⟨C, t', q | q⟩
  · exact q.2 hS
  · exact n1 F b q
  · exact n2 C t' q
  · exact hN P q hE
  · exact n1 F b q.1
  · exact n2 C t' q.1
  · exact hW _ _ q
/-- a closed family at a node of an entered path -/
theorem clo_nd (a1 : ABe V y q0 En) {En2 : TPth → Prop} {Va2 : TPth → Nat → TVal → Prop} {De2 : TEv → Prop} (C : CloA K V y q0 ar En2 Va2 De2) (c1 : ∀ P, En P → En2 P) {P : TPth} {z : TR × List Nat × Nat} (hE : En P) (hz : z ∈ scP y) (hr : z.2.2 = hdR P) : CloE K V y ar En2 Va2 De2 P z := by
  cases P with
  | nil => exact absurd (a1.2.1 _ hE).1 id
  | cons c Q => exact C.2 c.1 c.2 Q z (c1 _ hE) hz hr
end HLP
