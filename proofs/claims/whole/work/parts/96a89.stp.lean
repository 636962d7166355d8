/-! the class's steps, without its memory -/
/-- what is known of the program -/
def SBd (K : Nat → Nat) (V : Nat → Int64) (y : TR) (e0 f : Nat) (W : Nat → Int32 × Int32 × Int32) (ν : Nat → Nat) : Prop := PW K y 0 e0 ∧ f + tln y < 2 ^ 31 ∧ FA (WPs W ν) y f ∧ (∀ z, z ∈ scP y → ν (otk z.1) < 2 ^ 31 ∧ ∀ z', z' ∈ scP y → ν (otk z.1) = ν (otk z'.1) → otk z.1 = otk z'.1) ∧ (∀ j fs c ns g γ r, (.tag 7 (.tag j (.append fs (.append c (.append ns g)))), γ, r) ∈ scP y → LL fs ∧ LL ns) ∧ (∀ z, z ∈ scP y → GdN K V (ftP y) z) ∧ ∀ j as γ r, (.tag 4 (.tag j as), γ, r) ∈ scP y → LL as
section AST
variable {K : Nat → Nat} {V : Nat → Int64} {y : TR} {q0 : Nat} {ar : Nat → Int64} {En En' : TPth → Prop} {cv vr cv' vr' : TPth → Nat → Option TVal} {mv mv' : Option (TPth × Nat × TVal)} {Aw Aw' : TPth → Nat → Prop} {WV WC WV' WC' : TPth → Nat → TPth → Nat → Prop} {R H R' H' : List TEv} {fl fl' : Prop} {e0 f : Nat} {W : Nat → Int32 × Int32 × Int32} {ν : Nat → Nat}
theorem AB_step (B : SBd K V y e0 f W ν) (A : AB K V y q0 ar En cv vr mv Aw WV WC R H fl) (Ac : TPth → Nat → Prop) (e' : ABe V y q0 En') (w' : ABw K V y En' cv' vr' mv' Aw' WV' WC' R' H') (s' : ABs K V y q0 ar En' cv' mv' R' H') (r' : ABr V y q0 ar En' vr')
    (hfl : fl → fl') (hE : ∀ P, En P → En' P) (hcm : ∀ P t a, cv P t = some a → cv' P t = some a)
    (U1 : ∀ P z P' t', En P → z ∈ scP y → z.2.2 = hdR P → ¬ Ac P (otk z.1) → Inp V y P z P' t' → cv' P' t' = cv P' t')
    (U2 : ∀ P', En' P' → En P' ∨ Ac (own y P').1 (own y P').2) (U3 : ∀ P z F b, En P → z ∈ scP y → z.2.2 = hdR P → ¬ Ac P (otk z.1) → Bnd V y P z F b → vr' F b = vr F b)
    (U4 : ∀ P t a, ¬ Ac P t → (Vm cv' mv' P t a ↔ Vm cv mv P t a)) (U5 : ∀ P t, ¬ Ac P t → AwW Aw' WV' WC' P t → AwW Aw WV WC P t) (U5' : ∀ P t, ¬ Ac P t → Aw P t → Aw' P t)
    (U6 : ∀ P t i, ¬ Ac P t → (P, t, i) ∈ R' ∨ (P, t, i) ∈ H' → (P, t, i) ∈ R ∨ (P, t, i) ∈ H) (U6' : ∀ P t i, ¬ Ac P t → (P, t, i) ∈ R → (P, t, i) ∈ R') (U7 : ∀ e, e ∈ H → e ∈ H') (U8 : ∀ F b a, vr F b = some a → vr' F b = some a)
    (UV : ∀ F b P t, ¬ Ac P t → WV F b P t → (WV' F b P t ∧ vr' F b = none) ∨ Aw' P t) (UC : ∀ C t' P t, ¬ Ac P t → WC C t' P t → (WC' C t' P t ∧ cv' C t' = none) ∨ Aw' P t)
    (hq : ∀ P z, En' P → z ∈ scP y → z.2.2 = hdR P → ¬ En P ∨ Ac P (otk z.1) → ABq V y En' cv' vr' mv' Aw' WV' WC' R' H' P z)
    (hp : ¬ fl' → ∀ P z, En' P → z ∈ scP y → z.2.2 = hdR P → ¬ En P ∨ Ac P (otk z.1) → ABp K V y En' cv' vr' mv' Aw' WV' WC' R' H' P z) :
    AB K V y q0 ar En' cv' vr' mv' Aw' WV' WC' R' H' fl' := by
  obtain ⟨w, hf, hW, hν, hL, hG, hAs⟩ := B
  obtain ⟨a1, a2, a3, a4, a5, a6⟩ := A
  have U1' : ∀ P z i a, En P → z ∈ scP y → z.2.2 = hdR P → tbK z.1 = true → En ((4 * otk z.1, i) :: P) → cv' P (otk z.1) = some a → cv P (otk z.1) = some a := fun P z i a q1 q2 q3 q4 q5 q6 => by
    have hq := a5 P z q1 q2 q3
    have hs := ((tl_P w) z q2).2.1
    obtain ⟨x, γ, r⟩ := z
    have hs : shp x := hs
    rcases hs with ⟨j, rfl⟩ | ⟨j, rfl⟩ | ⟨j, rfl⟩ | ⟨j, as, rfl⟩ | ⟨j, a, b, rfl⟩ | ⟨j, a, b, c, rfl⟩ | ⟨j, fs, c, ns, g, rfl⟩ | ⟨j, a, rfl⟩ | ⟨j, a, b, rfl⟩ | ⟨j, a, b, rfl⟩ | ⟨j, u, b, rfl⟩ | ⟨j, a, rfl⟩
    · cases q4
    · cases q4
    · cases q4
    · cases q4
    · cases q4
    · cases q4
    · cases q4
    · cases q4
    · cases q4
    · cases q4
    · obtain ⟨-, -, -, -, h5, -⟩ := hq
      obtain ⟨-, a1, e1⟩ := h5 i q5
      have e2 := hcm _ _ _ e1
      have q6 : cv' P j = some a := q6
      rw [e2] at q6
      cases q6
      exact e1
    · cases q4
  refine ⟨e', w', s', r', fun P z q1 q2 q3 => ?_, fun q0 P z q1 q2 q3 => ?_⟩
  · by_cases c : En P ∧ ¬ Ac P (otk z.1)
    · exact AB_q w a5 hE hcm U2 U3 (fun P t a h => (U4 P t a h).mp) U5 U6 U7 P z c.1 q2 q3 c.2
    · refine hq P z q1 q2 q3 ?_
      by_cases c1 : En P
      · exact .inr (Classical.byContradiction (fun q => c ⟨c1, q⟩))
      · exact .inl c1
  · by_cases c : En P ∧ ¬ Ac P (otk z.1)
    · exact AB_p w hf hW hν hL (a6 (fun q => q0 (hfl q))) a2 hE hcm U1 U1' U2 (fun P t a h => (U4 P t a h).mpr) U5' U6' U7 U8 UV UC P z c.1 q2 q3 c.2
    · refine hp q0 P z q1 q2 q3 ?_
      by_cases c1 : En P
      · exact .inr (Classical.byContradiction (fun q => c ⟨c1, q⟩))
      · exact .inl c1
theorem AB_ty (B : SBd K V y e0 f W ν) (A : AB K V y q0 ar En cv vr mv Aw WV WC R H fl) {P : TPth} {z : TR × List Nat × Nat} {a' : TVal} (q1 : z ∈ scP y) (q3 : cv P (rtk z.1) = some a') : tyO (tyV K V z.1) a' := by
  obtain ⟨-, z', ⟨u1, u2, u3, u4⟩, u5⟩ := A.2.1.1 P (rtk z.1) a' (.inl q3)
  obtain ⟨x', v1, v2, v3, -, v4⟩ := rt_sc (V := V) B.1 (tsz z.1) z.1 z.2.1 z.2.2 (Nat.le_refl _) q1
  have := (ou_P B.1).2 _ u1 _ v1 (u3.trans v2.symm)
  have e : z'.1 = x' := congrArg Prod.fst this
  rw [e, v4] at u5
  exact u5
theorem AB_vr (B : SBd K V y e0 f W ν) (A : AB K V y q0 ar En cv vr mv Aw WV WC R H fl) {P0 F : TPth} {z0 : TR × List Nat × Nat} {b : Nat} {a : TVal} (hEP : En P0) (hz1 : z0 ∈ scP y) (hz2 : z0.2.2 = hdR P0) (hb : b ∈ z0.2.1) (h3 : VF V y P0 b F) (h4 : vr F b = some a) : tyO (tvV (V b)) a ∧ ∃ o, VrP V y ar P0 b o ∧ AtP (VaC y cv) o a := by
  obtain ⟨w, hf, hW, hν, hL, hG, hAs⟩ := id B
  obtain ⟨a1, -, a3, a4, a5, a6⟩ := id A
  refine NQ_vr w hf hW hν hL hG hAs (fun P q => (a1.2.1 P q).1) a1.2.2.1 (fun P z a' q1 q2 q3 => AB_ty B A q1 q3) (fun p cnt x z a' q1 q2 q3 q4 => ?_) a5 P0 z0 b a F hEP hz1 hz2 hb h3 h4
  have e := a1.2.2.2 _ q3
  have e : 4 * p = 4 * q0 := congrArg Prod.fst e
  have e : p = q0 := by omega
  subst e
  obtain ⟨u1, u2⟩ := a4.1 cnt x z q1 q2
  rw [u1] at q4
  exact ⟨(Option.some.inj q4).symm, u2⟩
/-- an awake leaf sends its value -/
theorem A_send (B : SBd K V y e0 f W ν) (A : AB K V y q0 ar En cv vr none Aw WV WC R H fl) {P0 : TPth} {t0 : Nat} {z0 : TR × List Nat × Nat} {a : TVal} (hA : Aw P0 t0) (hz : NdA y P0 t0 z0) (hk : (∃ j, z0.1 = .tag 1 (.tag j .nil) ∧ a = mkN (V j)) ∨ (∃ j, z0.1 = .tag 2 (.tag j .nil) ∧ a = mkT (if K j = 15 then 1 else 0)) ∨ ∃ j b F, z0.1 = .tag 3 (.tag j .nil) ∧ fnd V z0.2.1 j = some b ∧ VF V y P0 b F ∧ vr F b = some a) :
    AB K V y q0 ar En cv vr (some (P0, t0, a)) (fun P t => Aw P t ∧ ¬ (P = P0 ∧ t = t0)) WV WC R H fl := by
  obtain ⟨w, hf, hW, hν, hL, hG, hAs⟩ := id B
  obtain ⟨a1, ⟨b1, b2, b3, b4, b5, b6, b7, b8, b9⟩, a3, a4, a5, a6⟩ := id A
  obtain ⟨hz1, hz2, hz3, hz4⟩ := id hz
  have hEP : En P0 := (b5 P0 t0 (.inl hA)).1
  have hqa := a5 P0 z0 hEP hz1 hz2
  have hno : ∀ a', ¬ Vm cv none P0 t0 a' := by
    obtain ⟨x, γ, r⟩ := z0
    rcases hk with ⟨j, h1, -⟩ | ⟨j, h1, -⟩ | ⟨j, b, F, h1, -⟩
    · have h1 : x = _ := h1
      subst h1
      have hj : j = t0 := hz3
      subst hj
      exact hqa (.inl hA)
    · have h1 : x = _ := h1
      subst h1
      have hj : j = t0 := hz3
      subst hj
      exact hqa (.inl hA)
    · have h1 : x = _ := h1
      subst h1
      have hj : j = t0 := hz3
      subst hj
      exact hqa (.inl hA)
  have hAW : ∀ P t, AwW (fun P t => Aw P t ∧ ¬ (P = P0 ∧ t = t0)) WV WC P t → AwW Aw WV WC P t := fun P t q => q.imp (fun q => q.1) id
  have hnA : ¬ AwW (fun P t => Aw P t ∧ ¬ (P = P0 ∧ t = t0)) WV WC P0 t0 := fun q => by
    obtain ⟨n1, n2⟩ := b8 P0 t0 hA
    rcases q with q | ⟨F, b, q⟩ | ⟨C, t', q⟩
    · exact q.2 ⟨rfl, rfl⟩
    · exact n1 F b q
    · exact n2 C t' q
  have hvr : ∀ j b F, z0.1 = .tag 3 (.tag j .nil) → fnd V z0.2.1 j = some b → VF V y P0 b F → vr F b = some a → tyO (tvV (V b)) a ∧ ∃ o, VrP V y ar P0 b o ∧ AtP (VaC y cv) o a := fun j b F h1 h2 h3 h4 => AB_vr B A hEP hz1 hz2 (fnd_in _ _ _ h2) h3 h4
  have hty : tyO (tyV K V z0.1) a := by
    rcases hk with ⟨j, h1, h2⟩ | ⟨j, h1, h2⟩ | ⟨j, b, F, h1, h2, h3, h4⟩
    · rw [h1, h2]; exact ty_n
    · rw [h1, h2]; exact ty_t
    · have := (hvr j b F h1 h2 h3 h4).1
      rw [fnd_V _ _ _ h2] at this
      rw [h1]
      exact this
  have vm : ∀ {P : TPth} {t : Nat} {a' : TVal}, Vm cv (some (P0, t0, a)) P t a' → Vm cv none P t a' ∨ (P = P0 ∧ t = t0 ∧ a' = a) := fun {P t a'} q => by
    rcases q with q | q
    · exact .inl (.inl q)
    · have := Option.some.inj q
      cases this
      exact .inr ⟨rfl, rfl, rfl⟩
  refine AB_step B A (fun P t => P = P0 ∧ t = t0) a1 ⟨fun P t a' q => ?_, fun P t a' q => ?_, b3, b4, fun P t q => b5 P t (hAW P t q), b6, b7, fun P t q => b8 P t q.1, fun P t x x' γ r q => b9 P t x x' γ r q.1⟩ (fun En' Va' De' C => ?_) a4 id (fun _ q => q) (fun _ _ _ q => q) (fun _ _ _ _ _ _ _ _ _ => rfl) (fun _ q => .inl q) (fun _ _ _ _ _ _ _ _ _ => rfl) (fun P t a' h => ⟨fun q => ?_, fun q => ?_⟩) (fun P t _ q => hAW P t q) (fun P t h q => ⟨q, h⟩) (fun _ _ _ _ q => q) (fun _ _ _ _ q => q) (fun _ q => q) (fun _ _ _ q => q) (fun F b P t _ q => .inl ⟨q, (b6 F b P t q).1⟩) (fun C t' P t _ q => .inl ⟨q, (b7 C t' P t q).1⟩) (fun P z q1 q2 q3 q4 => ?_) (fun hn P z q1 q2 q3 q4 => ?_)
  · rcases vm q with q | ⟨q1, q2, q3⟩
    · exact b1 P t a' q
    · subst q1; subst q2; subst q3
      exact ⟨hEP, z0, hz, hty⟩
  · rcases vm (.inr q) with q | ⟨q1, q2, -⟩
    · rcases q with q | q
      · have := Option.some.inj ‹some (P0, t0, a) = some (P, t, a')›
        cases this
        exact absurd (.inl q) (hno _)
      · cases q
    · rw [q1, q2]
      cases hc : cv P0 t0 with
      | none => rfl
      | some v => exact absurd (.inl hc) (hno v)
  · obtain ⟨c1, c2, c3⟩ := a3 En' Va' De' C
    refine ⟨c1, fun P t a' q => ?_, c3⟩
    rcases vm q with q | ⟨q1, q2, q3⟩
    · exact c2 P t a' q
    · subst q1; subst q2; subst q3
      have hc : CloE K V y ar En' Va' De' P z0 := by
        cases P with
        | nil => exact absurd (a1.2.1 _ hEP).1 id
        | cons c Q => exact C.2 c.1 c.2 Q z0 (c1 _ hEP) hz1 hz2
      obtain ⟨x, γ, r⟩ := z0
      rcases hk with ⟨j, h1, h2⟩ | ⟨j, h1, h2⟩ | ⟨j, b, F, h1, h2, h3, h4⟩
      · have h1 : x = _ := h1
        subst h1
        have hj : j = t := hz3
        subst hj
        rw [h2]
        exact hc
      · have h1 : x = _ := h1
        subst h1
        have hj : j = t := hz3
        subst hj
        rw [h2]
        exact hc
      · obtain ⟨-, o, v1, v2⟩ := hvr j b F h1 h2 h3 h4
        have h1 : x = _ := h1
        subst h1
        have hj : j = t := hz3
        subst hj
        exact hc b o a' h2 v1 (AtP_mono (fun P t a q => va_C w a1 (fun P t a q => (b1 P t a (.inl q)).1) C c1 (fun P t a q => c2 P t a (.inl q)) q) v2)
  · rcases vm q with q | ⟨q1, q2, -⟩
    · exact q
    · exact absurd ⟨q1, q2⟩ h
  · rcases q with q | q
    · exact .inl q
    · cases q
  · rcases q4 with q4 | ⟨e1, e2⟩
    · exact absurd q1 q4
    · subst e1
      have := (ou_P w).2 z q2 z0 hz1 (e2.trans hz3.symm)
      subst this
      obtain ⟨x, γ, r⟩ := z
      rcases hk with ⟨j, h1, h2⟩ | ⟨j, h1, h2⟩ | ⟨j, b, F, h1, h2, h3, h4⟩
      · have h1 : x = _ := h1
        subst h1
        have hj : j = t0 := hz3
        subst hj
        exact fun q => absurd q hnA
      · have h1 : x = _ := h1
        subst h1
        have hj : j = t0 := hz3
        subst hj
        exact fun q => absurd q hnA
      · have h1 : x = _ := h1
        subst h1
        have hj : j = t0 := hz3
        subst hj
        exact fun q => absurd q hnA
  · rcases q4 with q4 | ⟨e1, e2⟩
    · exact absurd q1 q4
    · subst e1
      have := (ou_P w).2 z q2 z0 hz1 (e2.trans hz3.symm)
      subst this
      obtain ⟨x, γ, r⟩ := z
      rcases hk with ⟨j, h1, h2⟩ | ⟨j, h1, h2⟩ | ⟨j, b, F, h1, h2, h3, h4⟩
      · have h1 : x = _ := h1
        subst h1
        have hj : j = t0 := hz3
        subst hj
        exact .inl (.inr (by rw [h2]))
      · have h1 : x = _ := h1
        subst h1
        have hj : j = t0 := hz3
        subst hj
        exact .inl (.inr (by rw [h2]))
      · have h1 : x = _ := h1
        subst h1
        have hj : j = t0 := hz3
        subst hj
        exact ⟨b, F, h2, h3, .inl ⟨a, .inr rfl, h4⟩⟩
end AST
