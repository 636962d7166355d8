/-! a step of the class's run, in general: what moves is put down, paths are entered, variables get values -/
/-- awake behind a step: Sl is put to sleep, who waited for what is there now wakes, the leaves of new paths wake -/
def AwN (y : TR) (Aw Sl : TPth → Nat → Prop) (WV WC : TPth → Nat → TPth → Nat → Prop) (cv' vr' : TPth → Nat → Option TVal) (NE : TPth → Prop) (P : TPth) (t : Nat) : Prop := (Aw P t ∧ ¬ Sl P t) ∨ (∃ F b, WV F b P t ∧ vr' F b ≠ none) ∨ (∃ C t', WC C t' P t ∧ cv' C t' ≠ none) ∨ (NE P ∧ ∃ z, NdA y P t z ∧ lfK z.1 = true)
def WVN (WV : TPth → Nat → TPth → Nat → Prop) (vr' : TPth → Nat → Option TVal) (F : TPth) (b : Nat) (P : TPth) (t : Nat) : Prop := WV F b P t ∧ vr' F b = none
def WCN (WC NW : TPth → Nat → TPth → Nat → Prop) (cv' : TPth → Nat → Option TVal) (C : TPth) (t' : Nat) (P : TPth) (t : Nat) : Prop := (WC C t' P t ∧ cv' C t' = none) ∨ NW C t' P t
/-- what an element that waits knows -/
def WCi (y : TR) (cv : TPth → Nat → Option TVal) (C : TPth) (t' : Nat) (P : TPth) (t : Nat) : Prop := ∃ x x' γ r a a' q q' γ' r', (.tag 10 (.tag t (.append x x')), γ, r) ∈ scP y ∧ cv P (rtk x) = some a ∧ cv P (rtk x') = some a' ∧ (.tag 11 (.tag a.2.2.2 (.append q q')), γ', r') ∈ scP y ∧ C = (4 * a.2.2.2, i64N a'.2.1) :: a.2.2.1 ∧ t' = rtk q' ∧ erV a a' = none ∧ ¬ badI a'.2.1 a.2.1
section AGN
variable {K : Nat → Nat} {V : Nat → Int64} {y : TR} {q0 : Nat} {ar : Nat → Int64} {En : TPth → Prop} {cv vr cv' vr' : TPth → Nat → Option TVal} {mv mv' : Option (TPth × Nat × TVal)} {Aw : TPth → Nat → Prop} {WV WC : TPth → Nat → TPth → Nat → Prop} {R H R' H' : List TEv} {fl fl' : Prop} {e0 f : Nat} {W : Nat → Int32 × Int32 × Int32} {ν : Nat → Nat} {NE : TPth → Prop} {VN : TPth → Nat → TVal → Prop} {Sl : TPth → Nat → Prop} {NW : TPth → Nat → TPth → Nat → Prop}
theorem lf_rt {x : TR} (hs : shp x) (h : lfK x = true) : rtk x = otk x := by
  rcases hs with ⟨j, rfl⟩ | ⟨j, rfl⟩ | ⟨j, rfl⟩ | ⟨j, as, rfl⟩ | ⟨j, a, b, rfl⟩ | ⟨j, a, b, c, rfl⟩ | ⟨j, fs, c, ns, g, rfl⟩ | ⟨j, a, rfl⟩ | ⟨j, a, b, rfl⟩ | ⟨j, a, b, rfl⟩ | ⟨j, a, b, rfl⟩ | ⟨j, a, rfl⟩
  · rfl
  · rfl
  · rfl
  · rfl
  · cases h
  · cases h
  · rfl
  · cases h
  · cases h
  · cases h
  · cases h
  · cases h
/-- who waits, waits for one thing -/
theorem wv_uq (B : SBd K V y e0 f W ν) (w : ABw K V y En cv vr mv Aw WV WC R H) {F F' P : TPth} {b b' t : Nat} (h : WV F b P t) (h' : WV F' b' P t) : F = F' ∧ b = b' := by
  obtain ⟨w0, hf, hW, hν, hL, hG, hAs⟩ := id B
  obtain ⟨b1, b2, b3, b4, b5, b6, b7, b8, b9⟩ := w
  obtain ⟨-, u1, x, γ, r, u2, u3⟩ := b6 F b P t h
  obtain ⟨-, v1, x', γ', r', v2, v3⟩ := b6 F' b' P t h'
  have := (ou_P w0).2 _ u2 _ v2 rfl
  cases this
  rw [u3] at v3
  cases v3
  exact ⟨VF_fun w0 hf hW hν hL u1 v1, rfl⟩
theorem wc_uq (B : SBd K V y e0 f W ν) (w : ABw K V y En cv vr mv Aw WV WC R H) {C C' P : TPth} {s s' t : Nat} (h : WC C s P t) (h' : WC C' s' P t) : C = C' ∧ s = s' := by
  obtain ⟨w0, hf, hW, hν, hL, hG, hAs⟩ := id B
  obtain ⟨b1, b2, b3, b4, b5, b6, b7, b8, b9⟩ := w
  obtain ⟨-, x, x', γ, r, a, a', q, q', γ', r', u1, u2, u3, u4, u5, u6, -⟩ := b7 C s P t h
  obtain ⟨-, x1, x1', γ1, r1, a1, a1', q1, q1', γ1', r1', v1, v2, v3, v4, v5, v6, -⟩ := b7 C' s' P t h'
  have := (ou_P w0).2 _ u1 _ v1 rfl
  cases this
  rw [u2] at v2
  cases v2
  rw [u3] at v3
  cases v3
  have := (ou_P w0).2 _ u4 _ v4 rfl
  cases this
  exact ⟨u5.trans v5.symm, u6.trans v6.symm⟩
theorem wvc_no (B : SBd K V y e0 f W ν) (w : ABw K V y En cv vr mv Aw WV WC R H) {F C P : TPth} {b s t : Nat} (h : WV F b P t) (h' : WC C s P t) : False := by
  obtain ⟨w0, hf, hW, hν, hL, hG, hAs⟩ := id B
  obtain ⟨b1, b2, b3, b4, b5, b6, b7, b8, b9⟩ := w
  obtain ⟨-, u1, x, γ, r, u2, u3⟩ := b6 F b P t h
  obtain ⟨-, x1, x1', γ1, r1, a1, a1', q1, q1', γ1', r1', v1, -⟩ := b7 C s P t h'
  have := (ou_P w0).2 _ u2 _ v1 rfl
  cases this
theorem AB_gen (B : SBd K V y e0 f W ν) (A : AB K V y q0 ar En cv vr mv Aw WV WC R H fl) (Ac : TPth → Nat → Prop)
    (hcv : ∀ P t a, cv' P t = some a ↔ Vm cv mv P t a) (hvr : ∀ F b a, vr' F b = some a ↔ vr F b = some a ∨ VN F b a)
    (hAc : ∀ P t, Ac P t → En P)
    (hN : ∀ P, NE P → ¬ En P ∧ POk V y P ∧ Z0 y P ∧ (∃ c Q, P = c :: Q ∧ Q ≠ [] ∧ En Q) ∧ Ac (own y P).1 (own y P).2)
    (hVN : ∀ F b a, VN F b a → vr F b = none ∧ ∃ P z, En P ∧ z ∈ scP y ∧ z.2.2 = hdR P ∧ Bnd V y P z F b ∧ Ac P (otk z.1))
    (hSl : ∀ P t, Sl P t → Ac P t)
    (hNW : ∀ C t' P t, NW C t' P t → Ac P t ∧ cv' C t' = none ∧ (∃ z, NdA y P t z) ∧ ¬ AwW Aw WV WC P t ∧ WCi y cv' C t' P t)
    (hm : ∀ P t a, mv' = some (P, t, a) → Ac P t ∧ cv' P t = none ∧ ∃ z, NdA y P t z ∧ tyO (tyV K V z.1) a)
    (hRn : (R' ++ H').Nodup) (hR : ∀ P t i, (P, t, i) ∈ R' ∨ (P, t, i) ∈ H' → ((P, t, i) ∈ R ∨ (P, t, i) ∈ H) ∨ (Ac P t ∧ ∃ z, NdA y P t z)) (hR' : ∀ P t i, (P, t, i) ∈ R → (P, t, i) ∈ R' ∨ Ac P t) (hH : ∀ e, e ∈ H → e ∈ H')
    (hI : ∀ P z P' t' a, mv = some (P', t', a) → En P → z ∈ scP y → z.2.2 = hdR P → Inp V y P z P' t' → Ac P (otk z.1))
    (hS : ∀ En2 Va2 De2, CloA K V y q0 ar En2 Va2 De2 → (∀ P, En P → En2 P) → (∀ P t a, VaC y cv' P t a → Va2 P t a) → (∀ e, e ∈ R ∨ e ∈ H → De2 e) → (∀ P, NE P → En2 P) ∧ (∀ P t a, mv' = some (P, t, a) → Va2 P t a) ∧ ∀ e, e ∈ R' ∨ e ∈ H' → De2 e)
    (hfl : fl → fl')
    (hq : ∀ P z, En P → z ∈ scP y → z.2.2 = hdR P → Ac P (otk z.1) → ABq V y (fun P => En P ∨ NE P) cv' vr' mv' (AwN y Aw Sl WV WC cv' vr' NE) (WVN WV vr') (WCN WC NW cv') R' H' P z)
    (hp : ¬ fl' → ∀ P z, En P → z ∈ scP y → z.2.2 = hdR P → Ac P (otk z.1) → ABp K V y (fun P => En P ∨ NE P) cv' vr' mv' (AwN y Aw Sl WV WC cv' vr' NE) (WVN WV vr') (WCN WC NW cv') R' H' P z) :
    AB K V y q0 ar (fun P => En P ∨ NE P) cv' vr' mv' (AwN y Aw Sl WV WC cv' vr' NE) (WVN WV vr') (WCN WC NW cv') R' H' fl' := by
  obtain ⟨w, hf, hW, hν, hL, hG, hAs⟩ := id B
  obtain ⟨a1, a2, a3, a4, a5, a6⟩ := id A
  obtain ⟨b1, b2, b3, b4, b5, b6, b7, b8, b9⟩ := id a2
  have hcm : ∀ P t a, cv P t = some a → cv' P t = some a := fun P t a q => (hcv P t a).mpr (.inl q)
  have hvm : ∀ F b a, vr F b = some a → vr' F b = some a := fun F b a q => (hvr F b a).mpr (.inl q)
  have hAW : ∀ P t, En P → ¬ Ac P t → AwW (AwN y Aw Sl WV WC cv' vr' NE) (WVN WV vr') (WCN WC NW cv') P t → AwW Aw WV WC P t := fun P t hE hA q => by
    rcases q with (q | ⟨F, b, q, -⟩ | ⟨C, t', q, -⟩ | ⟨q, -⟩) | ⟨F, b, q⟩ | ⟨C, t', q | q⟩
    · exact .inl q.1
    · exact .inr (.inl ⟨F, b, q⟩)
    · exact .inr (.inr ⟨C, t', q⟩)
    · exact absurd hE (hN P q).1
    · exact .inr (.inl ⟨F, b, q.1⟩)
    · exact .inr (.inr ⟨C, t', q.1⟩)
    · exact absurd (hNW _ _ _ _ q).1 hA
  have hWci : ∀ C t' P t, WC C t' P t → WCi y cv' C t' P t := fun C t' P t q => by
    obtain ⟨-, x, x', γ, r, a, a', q, q', γ', r', u1, u2, u3, u4⟩ := b7 C t' P t q
    exact ⟨x, x', γ, r, a, a', q, q', γ', r', u1, hcm _ _ _ u2, hcm _ _ _ u3, u4⟩
  have hE1 : ∀ P, NE P → ∀ c, ¬ (En (c :: P) ∨ NE (c :: P)) := fun P q c q' => by
    obtain ⟨n1, n2, n3, ⟨d, D, n4, n5, n6⟩, -⟩ := hN P q
    rcases q' with q' | q'
    · exact n1 (a1.2.2.1 c P q' (by rw [n4]; exact List.cons_ne_nil _ _))
    · obtain ⟨-, -, -, ⟨d', D', m4, -, m6⟩, -⟩ := hN _ q'
      rw [(List.cons.inj m4).2] at n1
      exact n1 m6
  have hE2 : ∀ P, NE P → ∀ c c', ¬ (En (c :: c' :: P) ∨ NE (c :: c' :: P)) := fun P q c c' q' => by
    refine hE1 P q c' (.inl ?_)
    rcases q' with q' | q'
    · exact a1.2.2.1 c _ q' (List.cons_ne_nil _ _)
    · obtain ⟨-, -, -, ⟨d', D', m4, -, m6⟩, -⟩ := hN _ q'
      rw [(List.cons.inj m4).2]
      exact m6
  have hVn : ∀ P, NE P → ∀ t a, ¬ Vm cv' mv' P t a := fun P q t a q' => by
    rcases q' with q' | q'
    · exact (hN P q).1 (b1 P t a ((hcv P t a).mp q')).1
    · exact (hN P q).1 (hAc _ _ (hm P t a q').1)
  have hEn : ∀ P, NE P → ∀ t i, ¬ ((P, t, i) ∈ R' ∨ (P, t, i) ∈ H') := fun P q t i q' => by
    rcases hR P t i q' with q' | q'
    · exact (hN P q).1 (b4 P t i q').1
    · exact (hN P q).1 (hAc _ _ q'.1)
  have hsome : ∀ {o : Option TVal}, o ≠ none → ∃ v, o = some v := fun {o} h => by
    cases o with
    | none => exact absurd rfl h
    | some v => exact ⟨v, rfl⟩
  refine AB_step B A (fun P t => Ac P t ∨ NE P) ⟨.inl a1.1, fun P q => ?_, fun c Q q hne => ?_, fun c q => ?_⟩ ⟨fun P t a q => ?_, fun P t a q => (hm P t a q).2.1, hRn, fun P t i q => ?_, fun P t q => ?_, fun F b P t q => ⟨q.2, (b6 F b P t q.1).2⟩, fun C t' P t q => ?_, fun P t q => ⟨fun F b q' => ?_, fun C t' q' => ?_⟩, fun P t x x' γ r q hx => ?_⟩ (fun En2 Va2 De2 C => ?_) ⟨fun cnt x z q1 q2 => ⟨hvm _ _ _ (a4.1 cnt x z q1 q2).1, (a4.1 cnt x z q1 q2).2⟩, fun F b a q => ?_⟩ hfl (fun _ q => .inl q) hcm (fun P z P' t' q1 q2 q3 q4 q5 => ?_) (fun P' q => ?_) (fun P z F b q1 q2 q3 q4 q5 => ?_) (fun P t a h => ⟨fun q => ?_, fun q => ?_⟩) (fun P t h q => ?_) (fun P t h q => .inl ⟨q, fun q' => h (.inl (hSl P t q'))⟩) (fun P t i h q => ?_) (fun P t i h q => ?_) hH hvm (fun F b P t h q => ?_) (fun C t' P t h q => ?_) (fun P z q1 q2 q3 q4 => ?_) (fun hn P z q1 q2 q3 q4 => ?_)
  · rcases q with q | q
    · exact a1.2.1 P q
    · exact ⟨(hN P q).2.1, (hN P q).2.2.1⟩
  · rcases q with q | q
    · exact .inl (a1.2.2.1 c Q q hne)
    · obtain ⟨-, -, -, ⟨d', D', m4, -, m6⟩, -⟩ := hN _ q
      rw [(List.cons.inj m4).2]
      exact .inl m6
  · rcases q with q | q
    · exact a1.2.2.2 c q
    · obtain ⟨-, -, -, ⟨d', D', m4, m5, m6⟩, -⟩ := hN _ q
      exact absurd (List.cons.inj m4).2.symm m5
  · rcases q with q | q
    · obtain ⟨u1, u2⟩ := b1 P t a ((hcv P t a).mp q)
      exact ⟨.inl u1, u2⟩
    · obtain ⟨u1, u2, u3⟩ := hm P t a q
      exact ⟨.inl (hAc _ _ u1), u3⟩
  · rcases hR P t i q with q | ⟨q, q'⟩
    · exact ⟨.inl (b4 P t i q).1, (b4 P t i q).2⟩
    · exact ⟨.inl (hAc _ _ q), q'⟩
  · have old : AwW Aw WV WC P t → (En P ∨ NE P) ∧ ∃ z, NdA y P t z := fun q => ⟨.inl (b5 P t q).1, (b5 P t q).2⟩
    rcases q with (q | ⟨F, b, q, -⟩ | ⟨C, t', q, -⟩ | ⟨q, z, q', -⟩) | ⟨F, b, q⟩ | ⟨C, t', q | q⟩
    · exact old (.inl q.1)
    · exact old (.inr (.inl ⟨F, b, q⟩))
    · exact old (.inr (.inr ⟨C, t', q⟩))
    · exact ⟨.inr q, z, q'⟩
    · exact old (.inr (.inl ⟨F, b, q.1⟩))
    · exact old (.inr (.inr ⟨C, t', q.1⟩))
    · obtain ⟨u1, u2, u3, u4, u5⟩ := hNW _ _ _ _ q
      exact ⟨.inl (hAc _ _ u1), u3⟩
  · rcases q with q | q
    · exact ⟨q.2, hWci _ _ _ _ q.1⟩
    · obtain ⟨u1, u2, u3, u4, u5⟩ := hNW _ _ _ _ q
      exact ⟨u2, u5⟩
  · obtain ⟨q'1, q'2⟩ := q'
    rcases q with q | ⟨F', b', q, q2⟩ | ⟨C, t', q, -⟩ | ⟨q, -⟩
    · exact (b8 P t q.1).1 F b q'1
    · obtain ⟨e1, e2⟩ := wv_uq B a2 q q'1
      rw [e1, e2] at q2
      exact q2 q'2
    · exact wvc_no B a2 q'1 q
    · exact (hN P q).1 (b5 P t (.inr (.inl ⟨F, b, q'1⟩))).1
  · rcases q' with ⟨q'1, q'2⟩ | q'
    · rcases q with q | ⟨F', b', q, q2⟩ | ⟨C', t1, q, q2⟩ | ⟨q, -⟩
      · exact (b8 P t q.1).2 C t' q'1
      · exact wvc_no B a2 q q'1
      · obtain ⟨e1, e2⟩ := wc_uq B a2 q q'1
        rw [e1, e2] at q2
        exact q2 q'2
      · exact (hN P q).1 (b5 P t (.inr (.inr ⟨C, t', q'1⟩))).1
    · obtain ⟨u1, u2, u3, u4, u5⟩ := hNW _ _ _ _ q'
      rcases q with q | ⟨F', b', q, q2⟩ | ⟨C', t1, q, q2⟩ | ⟨q, -⟩
      · exact u4 (.inl q.1)
      · exact u4 (.inr (.inl ⟨F', b', q⟩))
      · exact u4 (.inr (.inr ⟨C', t1, q⟩))
      · exact (hN P q).1 (hAc _ _ u1)
  · rcases q with q | ⟨F', b', q, q2⟩ | ⟨C', t1, q, q2⟩ | ⟨q, z, ⟨z1, z2, z3, z4⟩, q2⟩
    · obtain ⟨a, a', u, u', γ', r', v, v1, v2, v3, v4, v5, v6⟩ := b9 P t x x' γ r q.1 hx
      exact ⟨a, a', u, u', γ', r', v, hcm _ _ _ v1, hcm _ _ _ v2, v3, v4, v5, hcm _ _ _ v6⟩
    · obtain ⟨-, -, x1, γ1, r1, u2, -⟩ := b6 F' b' P t q
      have := (ou_P w).2 _ u2 _ hx rfl
      cases this
    · obtain ⟨x1, x1', γ1, r1, a, a', u, u', γ', r', u1, u2, u3, u4, u5, u6, u7, u8⟩ := hWci _ _ _ _ q
      have := (ou_P w).2 _ u1 _ hx rfl
      cases this
      obtain ⟨v, hv⟩ := hsome q2
      rw [u5, u6] at hv
      exact ⟨a, a', u, u', γ', r', v, u2, u3, u7, u8, u4, hv⟩
    · have := (ou_P w).2 _ z1 _ hx z3
      subst this
      cases q2
  · obtain ⟨c1, c2, c3⟩ := a3 En2 Va2 De2 C
    have c2' : ∀ P t a, cv' P t = some a → Va2 P t a := fun P t a q => c2 P t a ((hcv P t a).mp q)
    have va : ∀ P t a, VaC y cv' P t a → Va2 P t a := fun P t a q => va_C w a1 (fun P t a q => (b1 P t a ((hcv P t a).mp q)).1) C c1 c2' q
    obtain ⟨s1, s2, s3⟩ := hS En2 Va2 De2 C c1 va c3
    exact ⟨fun P q => q.elim (c1 P) (s1 P), fun P t a q => q.elim (c2' P t a) (s2 P t a), s3⟩
  · rcases (hvr F b a).mp q with q | q
    · rcases a4.2 F b a q with u | ⟨P, z, u1, u2⟩
      · exact .inl u
      · exact .inr ⟨P, z, .inl u1, u2⟩
    · obtain ⟨-, P, z, u1, u2, u3, u4, -⟩ := hVN F b a q
      exact .inr ⟨P, z, .inl u1, u2, u3, u4⟩
  · cases hc : cv' P' t' with
    | none =>
      cases hc' : cv P' t' with
      | none => rfl
      | some v => rw [hcm _ _ _ hc'] at hc; cases hc
    | some v =>
      rcases (hcv P' t' v).mp hc with q | q
      · exact q.symm
      · exact absurd (.inl (hI P z P' t' v q q1 q2 q3 q5)) q4
  · rcases q with q | q
    · exact .inl q
    · exact .inr (.inl (hN P' q).2.2.2.2)
  · cases hc : vr' F b with
    | none =>
      cases hc' : vr F b with
      | none => rfl
      | some v => rw [hvm _ _ _ hc'] at hc; cases hc
    | some v =>
      rcases (hvr F b v).mp hc with q | q
      · exact q.symm
      · obtain ⟨-, P', z', u1, u2, u3, u4, u5⟩ := hVN F b v q
        obtain ⟨e1, e2⟩ := Bd_P B q2 u2 q3 u3 (a1.2.1 P q1) (a1.2.1 P' u1) q5 u4
        rw [← e1, ← e2] at u5
        exact absurd (.inl u5) q4
  · rcases q with q | q
    · exact (hcv P t a).mp q
    · exact absurd (.inl (hm P t a q).1) h
  · exact .inl ((hcv P t a).mpr q)
  · by_cases hE : En P
    · exact hAW P t hE (fun q => h (.inl q)) q
    · refine absurd ?_ h
      rcases q with (q | ⟨F, b, q, -⟩ | ⟨C, t', q, -⟩ | ⟨q, -⟩) | ⟨F, b, q⟩ | ⟨C, t', q | q⟩
      · exact absurd (b5 P t (.inl q.1)).1 hE
      · exact absurd (b5 P t (.inr (.inl ⟨F, b, q⟩))).1 hE
      · exact absurd (b5 P t (.inr (.inr ⟨C, t', q⟩))).1 hE
      · exact .inr q
      · exact absurd (b5 P t (.inr (.inl ⟨F, b, q.1⟩))).1 hE
      · exact absurd (b5 P t (.inr (.inr ⟨C, t', q.1⟩))).1 hE
      · exact .inl (hNW _ _ _ _ q).1
  · rcases hR P t i q with q | q
    · exact q
    · exact absurd (.inl q.1) h
  · rcases hR' P t i q with q | q
    · exact q
    · exact absurd (.inl q) h
  · by_cases hv : vr' F b = none
    · exact .inl ⟨⟨q, hv⟩, hv⟩
    · exact .inr (.inr (.inl ⟨F, b, q, hv⟩))
  · by_cases hv : cv' C t' = none
    · exact .inl ⟨.inl ⟨q, hv⟩, hv⟩
    · exact .inr (.inr (.inr (.inl ⟨C, t', q, hv⟩)))
  · by_cases hE : En P
    · rcases q4 with q4 | q4 | q4
      · exact absurd hE q4
      · exact hq P z hE q2 q3 q4
      · exact absurd hE (hN P q4).1
    · have hNe : NE P := q1.resolve_left hE
      refine NQ_init ((tl_P w) z q2).2.1 (hVn P hNe) (hEn P hNe) (hE1 P hNe) (hE2 P hNe) (fun F b q => ?_) (fun q => ?_)
      · have o1 := new_vr B a1 a4 hE q2 q3 ⟨(hN P hNe).2.1, (hN P hNe).2.2.1⟩ q
        cases hc : vr' F b with
        | none => rfl
        | some v =>
          rcases (hvr F b v).mp hc with q' | q'
          · rw [o1] at q'
            cases q'
          · obtain ⟨-, P', z', u1, u2, u3, u4, u5⟩ := hVN F b v q'
            have e1 := (Bd_P B q2 u2 q3 u3 ⟨(hN P hNe).2.1, (hN P hNe).2.2.1⟩ (a1.2.1 P' u1) q u4).1
            rw [e1] at hE
            exact absurd u1 hE
      · rcases q with (q | ⟨F, b, q, -⟩ | ⟨C, t', q, -⟩ | ⟨q, z', ⟨z1, z2, z3, z4⟩, z5⟩) | ⟨F, b, q⟩ | ⟨C, t', q | q⟩
        · exact absurd (b5 P _ (.inl q.1)).1 hE
        · exact absurd (b5 P _ (.inr (.inl ⟨F, b, q⟩))).1 hE
        · exact absurd (b5 P _ (.inr (.inr ⟨C, t', q⟩))).1 hE
        · have := (ou_P w).2 _ z1 _ q2 z3
          rw [← this]
          exact z5
        · exact absurd (b5 P _ (.inr (.inl ⟨F, b, q.1⟩))).1 hE
        · exact absurd (b5 P _ (.inr (.inr ⟨C, t', q.1⟩))).1 hE
        · exact absurd (hAc _ _ (hNW _ _ _ _ q).1) hE
  · by_cases hE : En P
    · rcases q4 with q4 | q4 | q4
      · exact absurd hE q4
      · exact hp hn P z hE q2 q3 q4
      · exact absurd hE (hN P q4).1
    · have hNe : NE P := q1.resolve_left hE
      have nv : ∀ {P' : TPth} {t : Nat}, ¬ En P' → cv' P' t = none := fun {P' t} hn => by
        cases hc : cv' P' t with
        | none => rfl
        | some v => exact absurd (b1 P' t v ((hcv P' t v).mp hc)).1 hn
      exact NP_init w hG q2 q3 (hN P hNe).2.1 (fun t => nv hE) (fun c t => nv (fun q => hE1 P hNe c (.inl q))) (fun c c' t => nv (fun q => hE2 P hNe c c' (.inl q))) (hE1 P hNe) (fun hl => .inr (.inr (.inr ⟨hNe, z, ⟨q2, q3, rfl, lf_rt ((tl_P w) z q2).2.1 hl⟩, hl⟩)))
end AGN
