/-! the class's steps without its memory: a use waits, a leaf gets ready -/
section ASW
variable {K : Nat → Nat} {V : Nat → Int64} {y : TR} {q0 : Nat} {ar : Nat → Int64} {En En' : TPth → Prop} {cv vr cv' vr' : TPth → Nat → Option TVal} {mv mv' : Option (TPth × Nat × TVal)} {Aw Aw' : TPth → Nat → Prop} {WV WC WV' WC' : TPth → Nat → TPth → Nat → Prop} {R H R' H' : List TEv} {fl fl' : Prop} {e0 f : Nat} {W : Nat → Int32 × Int32 × Int32} {ν : Nat → Nat}
/-- a use waits for its variable -/
theorem A_wait (B : SBd K V y e0 f W ν) (A : AB K V y q0 ar En cv vr mv Aw WV WC R H fl) {P0 F : TPth} {t0 b : Nat} {γ : List Nat} {r : Nat} (hA : Aw P0 t0) (hz : NdA y P0 t0 (.tag 3 (.tag t0 .nil), γ, r)) (h1 : fnd V γ t0 = some b) (h2 : VF V y P0 b F) (h3 : vr F b = none) :
    AB K V y q0 ar En cv vr mv (fun P t => Aw P t ∧ ¬ (P = P0 ∧ t = t0)) (fun F' b' P t => WV F' b' P t ∨ (F' = F ∧ b' = b ∧ P = P0 ∧ t = t0)) WC R H fl := by
  obtain ⟨w, hf, hW, hν, hL, hG, hAs⟩ := id B
  obtain ⟨a1, ⟨b1, b2, b3, b4, b5, b6, b7, b8, b9⟩, a3, a4, a5, a6⟩ := id A
  obtain ⟨hz1, hz2, hz3, hz4⟩ := id hz
  have hEP : En P0 := (b5 P0 t0 (.inl hA)).1
  have hqa := a5 P0 _ hEP hz1 hz2
  have hAW : ∀ P t, AwW (fun P t => Aw P t ∧ ¬ (P = P0 ∧ t = t0)) (fun F' b' P t => WV F' b' P t ∨ (F' = F ∧ b' = b ∧ P = P0 ∧ t = t0)) WC P t → AwW Aw WV WC P t := fun P t q => by
    rcases q with q | ⟨F', b', q | ⟨-, -, q1, q2⟩⟩ | q
    · exact .inl q.1
    · exact .inr (.inl ⟨F', b', q⟩)
    · rw [q1, q2]
      exact .inl hA
    · exact .inr (.inr q)
  refine AB_step B A (fun P t => P = P0 ∧ t = t0) a1 ⟨b1, b2, b3, b4, fun P t q => b5 P t (hAW P t q), fun F' b' P t q => ?_, b7, fun P t q => ⟨fun F' b' q' => ?_, (b8 P t q.1).2⟩, fun P t x x' γ r q => b9 P t x x' γ r q.1⟩ a3 a4 id (fun _ q => q) (fun _ _ _ q => q) (fun _ _ _ _ _ _ _ _ _ => rfl) (fun _ q => .inl q) (fun _ _ _ _ _ _ _ _ _ => rfl) (fun P t a' h => Iff.rfl) (fun P t _ q => hAW P t q) (fun P t h q => ⟨q, h⟩) (fun _ _ _ _ q => q) (fun _ _ _ _ q => q) (fun _ q => q) (fun _ _ _ q => q) (fun F b P t _ q => .inl ⟨.inl q, (b6 F b P t q).1⟩) (fun C t' P t _ q => .inl ⟨q, (b7 C t' P t q).1⟩) (fun P z q1 q2 q3 q4 => ?_) (fun hn P z q1 q2 q3 q4 => ?_)
  · rcases q with q | ⟨q1, q2, q3, q4⟩
    · exact b6 F' b' P t q
    · subst q1; subst q2; subst q3; subst q4
      exact ⟨h3, h2, .nil, γ, r, hz1, h1⟩
  · rcases q' with q' | ⟨-, -, q3, q4⟩
    · exact (b8 P t q.1).1 F' b' q'
    · exact q.2 ⟨q3, q4⟩
  · rcases q4 with q4 | ⟨e1, e2⟩
    · exact absurd q1 q4
    · subst e1
      have := (ou_P w).2 z q2 _ hz1 (e2.trans hz3.symm)
      subst this
      exact fun q => hqa (.inl hA)
  · rcases q4 with q4 | ⟨e1, e2⟩
    · exact absurd q1 q4
    · subst e1
      have := (ou_P w).2 z q2 _ hz1 (e2.trans hz3.symm)
      subst this
      exact ⟨b, F, h1, h2, .inr (.inr ⟨⟨F, b, .inr ⟨rfl, rfl, rfl, rfl⟩⟩, h3⟩)⟩
/-- an awake call or element gets ready -/
theorem A_rdy (B : SBd K V y e0 f W ν) (A : AB K V y q0 ar En cv vr mv Aw WV WC R H fl) {P0 : TPth} {t0 : Nat} {z0 : TR × List Nat × Nat} (hA : Aw P0 t0) (hz : NdA y P0 t0 z0) (hk : (∃ as, z0.1 = .tag 4 (.tag t0 as)) ∨ ∃ x x', z0.1 = .tag 10 (.tag t0 (.append x x'))) :
    AB K V y q0 ar En cv vr mv (fun P t => Aw P t ∧ ¬ (P = P0 ∧ t = t0)) WV WC (R ++ [(P0, t0, 0)]) H fl ∧ (fl → AB K V y q0 ar En cv vr mv (fun P t => Aw P t ∧ ¬ (P = P0 ∧ t = t0)) WV WC R H fl) := by
  obtain ⟨w, hf, hW, hν, hL, hG, hAs⟩ := id B
  obtain ⟨a1, ⟨b1, b2, b3, b4, b5, b6, b7, b8, b9⟩, a3, a4, a5, a6⟩ := id A
  obtain ⟨hz1, hz2, hz3, hz4⟩ := id hz
  have hEP : En P0 := (b5 P0 t0 (.inl hA)).1
  have hqa := a5 P0 _ hEP hz1 hz2
  have hAW : ∀ P t, AwW (fun P t => Aw P t ∧ ¬ (P = P0 ∧ t = t0)) WV WC P t → AwW Aw WV WC P t := fun P t q => q.imp (fun q => q.1) id
  have hnA : ¬ AwW (fun P t => Aw P t ∧ ¬ (P = P0 ∧ t = t0)) WV WC P0 t0 := fun q => by
    obtain ⟨n1, n2⟩ := b8 P0 t0 hA
    rcases q with q | ⟨F, b, q⟩ | ⟨C, t', q⟩
    · exact q.2 ⟨rfl, rfl⟩
    · exact n1 F b q
    · exact n2 C t' q
  have hnE : ¬ ((P0, t0, 0) ∈ R ∨ (P0, t0, 0) ∈ H) := by
    obtain ⟨x, γ, r⟩ := z0
    rcases hk with ⟨as, h⟩ | ⟨x1, x2, h⟩
    · have h : x = _ := h
      subst h
      exact hqa.1 (.inl hA)
    · have h : x = _ := h
      subst h
      exact (hqa.1 (.inl hA)).1
  have hw : ∀ R', (R' ++ H).Nodup → (∀ e, e ∈ R' → e ∈ R ∨ e = (P0, t0, 0)) → ABw K V y En cv vr mv (fun P t => Aw P t ∧ ¬ (P = P0 ∧ t = t0)) WV WC R' H := fun R' n1 n2 => by
    refine ⟨b1, b2, n1, fun P t i q => ?_, fun P t q => b5 P t (hAW P t q), b6, b7, fun P t q => b8 P t q.1, fun P t x x' γ r q => b9 P t x x' γ r q.1⟩
    rcases q with q | q
    · rcases n2 _ q with q | q
      · exact b4 P t i (.inl q)
      · cases q
        exact ⟨hEP, z0, hz⟩
    · exact b4 P t i (.inr q)
  have hmem : ∀ {e : TEv}, e ∈ R ++ [(P0, t0, 0)] ↔ e ∈ R ∨ e = (P0, t0, 0) := fun {e} => by rw [List.mem_append, List.mem_singleton]
  have hnq : ∀ (R' : List TEv) (P : TPth) (z : TR × List Nat × Nat), (∀ e, e ∈ R' → e ∈ R ∨ e = (P0, t0, 0)) → z ∈ scP y → P = P0 → otk z.1 = t0 → ABq V y En cv vr mv (fun P t => Aw P t ∧ ¬ (P = P0 ∧ t = t0)) WV WC R' H P z := fun R' P z n2 q2 e1 e2 => by
    subst e1
    have := (ou_P w).2 z q2 _ hz1 (e2.trans hz3.symm)
    subst this
    obtain ⟨x, γ, r⟩ := z
    rcases hk with ⟨as, h⟩ | ⟨x1, x2, h⟩
    · have h : x = _ := h
      subst h
      exact ⟨fun q => absurd q hnA, hqa.2⟩
    · have h : x = _ := h
      subst h
      exact ⟨fun q => absurd q hnA, fun _ => (hqa.1 (.inl hA)).2, hqa.2.2⟩
  refine ⟨?_, fun hfl => ?_⟩
  · refine AB_step B A (fun P t => P = P0 ∧ t = t0) a1 (hw _ ?_ (fun e q => hmem.mp q)) (fun En' Va' De' C => ?_) a4 id (fun _ q => q) (fun _ _ _ q => q) (fun _ _ _ _ _ _ _ _ _ => rfl) (fun _ q => .inl q) (fun _ _ _ _ _ _ _ _ _ => rfl) (fun P t a' h => Iff.rfl) (fun P t _ q => hAW P t q) (fun P t h q => ⟨q, h⟩) (fun P t i h q => ?_) (fun _ _ _ _ q => List.mem_append_left _ q) (fun _ q => q) (fun _ _ _ q => q) (fun F b P t _ q => .inl ⟨q, (b6 F b P t q).1⟩) (fun C t' P t _ q => .inl ⟨q, (b7 C t' P t q).1⟩) (fun P z q1 q2 q3 q4 => ?_) (fun hn P z q1 q2 q3 q4 => ?_)
    · rw [List.append_assoc]
      obtain ⟨n1, n2, n3⟩ := List.nodup_append.mp b3
      refine List.nodup_append.mpr ⟨n1, List.nodup_cons.mpr ⟨fun q => hnE (.inr q), n2⟩, fun a q1 b q2 e => ?_⟩
      rcases List.mem_cons.mp q2 with q2 | q2
      · exact hnE (.inl (by rw [← q2, ← e]; exact q1))
      · exact n3 a q1 b q2 e
    · obtain ⟨c1, c2, c3⟩ := a3 En' Va' De' C
      refine ⟨c1, c2, fun e q => ?_⟩
      have hnew : De' (P0, t0, 0) := by
        have hc : CloE K V y ar En' Va' De' P0 z0 := by
          cases hP : P0 with
          | nil => rw [hP] at hEP; exact absurd (a1.2.1 _ hEP).1 id
          | cons c Q => rw [hP] at hEP hz2; exact C.2 c.1 c.2 Q z0 (c1 _ hEP) hz1 hz2
        obtain ⟨x, γ, r⟩ := z0
        rcases hk with ⟨as, h⟩ | ⟨x1, x2, h⟩
        · have h : x = _ := h
          subst h
          obtain ⟨l, g1, -, -⟩ := hG _ hz1
          obtain ⟨i', q', cnt', x'', v1, v2, -, -⟩ := pm_fu w t0 l g1
          exact (hc i' q' cnt' x'' v1 v2).1
        · have h : x = _ := h
          subst h
          obtain ⟨a, a', p, p', γ', r', v, u1, u2, u3, u4, u5, u6⟩ := b9 P0 t0 x1 x2 γ r hA hz1
          have va : ∀ {P : TPth} {t : Nat} {a : TVal}, VaC y cv P t a → Va' P t a := fun q => va_C w a1 (fun P t a q => (b1 P t a (.inl q)).1) C c1 (fun P t a q => c2 P t a (.inl q)) q
          obtain ⟨⟨p1, e1, wz⟩, -, htr⟩ := (tl_P w) _ hz1
          obtain ⟨w1, bb, w2, -⟩ := wz
          have hx1 : (x1, γ, r) ∈ scP y := htr _ (mc _ (ml _ (hd_in w1 _ _)))
          have hx2 : (x2, γ, r) ∈ scP y := htr _ (mc _ (mr _ (hd_in w2 _ _)))
          obtain ⟨⟨p2, e2, wz⟩, -, htr⟩ := (tl_P w) _ u5
          obtain ⟨-, -, -, bb, w3, w4⟩ := wz
          have hp' : (p', (a.2.2.2 + 3) :: (a.2.2.2 + 1) :: γ', 4 * a.2.2.2) ∈ scP y := htr _ (mc _ (mr _ (hd_in w4 _ _)))
          exact ((hc a a' (va ⟨_, hx1, rfl, hz2, u1⟩) (va ⟨_, hx2, rfl, hz2, u2⟩)).2.2 u3 u4 p p' γ' r' v u5 (va ⟨_, hp', rfl, rfl, u6⟩)).1
      rcases q with q | q
      · rcases hmem.mp q with q | q
        · exact c3 e (.inl q)
        · rw [q]
          exact hnew
      · exact c3 e (.inr q)
    · rcases q with q | q
      · rcases hmem.mp q with q | q
        · exact .inl q
        · cases q
          exact absurd ⟨rfl, rfl⟩ h
      · exact .inr q
    · rcases q4 with q4 | ⟨e1, e2⟩
      · exact absurd q1 q4
      · exact hnq _ P z (fun e q => hmem.mp q) q2 e1 e2
    · rcases q4 with q4 | ⟨e1, e2⟩
      · exact absurd q1 q4
      · subst e1
        have := (ou_P w).2 z q2 _ hz1 (e2.trans hz3.symm)
        subst this
        have hpa := a6 hn P z q1 q2 q3
        obtain ⟨x, γ, r⟩ := z
        rcases hk with ⟨as, h⟩ | ⟨x1, x2, h⟩
        · have h : x = _ := h
          subst h
          exact fun i p cnt x v1 v2 => ⟨.inr (.inl (hmem.mpr (.inr rfl))), (hpa i p cnt x v1 v2).2⟩
        · have h : x = _ := h
          subst h
          exact fun a a' _ _ => .inl (hmem.mpr (.inr rfl))
  · refine AB_step B A (fun P t => P = P0 ∧ t = t0) a1 (hw _ b3 (fun e q => .inl q)) a3 a4 id (fun _ q => q) (fun _ _ _ q => q) (fun _ _ _ _ _ _ _ _ _ => rfl) (fun _ q => .inl q) (fun _ _ _ _ _ _ _ _ _ => rfl) (fun P t a' h => Iff.rfl) (fun P t _ q => hAW P t q) (fun P t h q => ⟨q, h⟩) (fun _ _ _ _ q => q) (fun _ _ _ _ q => q) (fun _ q => q) (fun _ _ _ q => q) (fun F b P t _ q => .inl ⟨q, (b6 F b P t q).1⟩) (fun C t' P t _ q => .inl ⟨q, (b7 C t' P t q).1⟩) (fun P z q1 q2 q3 q4 => ?_) (fun hn P z q1 q2 q3 q4 => absurd hfl hn)
    rcases q4 with q4 | ⟨e1, e2⟩
    · exact absurd q1 q4
    · exact hnq _ P z (fun e q => .inl q) q2 e1 e2
end ASW
