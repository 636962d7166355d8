/-! a path that is new -/
section INI
variable {K : Nat → Nat} {V : Nat → Int64} {y : TR} {En : TPth → Prop} {cv vr : TPth → Nat → Option TVal} {mv : Option (TPth × Nat × TVal)} {Aw Wv Wc AW : TPth → Nat → Prop} {Rd Hp Ev : TEv → Prop} {P : TPth} {e0 : Nat}
theorem VF_ex {b : Nat} (h : VrS y P b) : ∃ F, VF V y P b F := by
  rcases h with ⟨p, cnt, x, z, h1, h2, h3, -⟩ | ⟨j, x, x', γ, r, h1, h2, -⟩ | ⟨j, fs, c, ns, g, γ, r, h1, h2, -⟩ | ⟨j, x, x', γ, r, h1, h2, -⟩ | ⟨j, x, x', γ, r, h1, h2, -⟩
  · exact ⟨_, .inl ⟨p, cnt, x, z, h1, h2, h3, rfl⟩⟩
  · exact ⟨_, .inr (.inl ⟨j, x, x', γ, r, h1, h2, rfl⟩)⟩
  · by_cases c1 : nxX V ns b = none
    · exact ⟨_, .inr (.inr (.inl ⟨j, fs, c, ns, g, γ, r, h1, h2, .inr ⟨c1, rfl⟩⟩))⟩
    · exact ⟨_, .inr (.inr (.inl ⟨j, fs, c, ns, g, γ, r, h1, h2, .inl ⟨c1, rfl⟩⟩))⟩
  · exact ⟨_, .inr (.inr (.inr ⟨j, x, x', γ, r, h1, .inl h2, rfl⟩))⟩
  · exact ⟨_, .inr (.inr (.inr ⟨j, x, x', γ, r, h1, .inr h2, rfl⟩))⟩
/-- a use's variable -/
theorem use_ex (w : PW K y 0 e0) (hG : ∀ z, z ∈ scP y → GdN K V (ftP y) z) {j : Nat} {x : TR} {γ : List Nat} {r : Nat} (hz : (.tag 3 (.tag j x), γ, r) ∈ scP y) (hr : r = hdR P) (hP : POk V y P) : ∃ b F, fnd V γ j = some b ∧ VF V y P b F := by
  obtain ⟨b, hb⟩ := hG _ hz
  have hVS : VrS y P b := by
    cases P with
    | nil => exact absurd hP id
    | cons c Q =>
      have hr : r = c.1 := hr
      have := vr_P (V := V) w hz c.2 Q (by show POk V y ((r, c.2) :: Q); rw [hr]; exact hP) b (fnd_in _ _ _ hb)
      have this : VrS y ((r, c.2) :: Q) b := this
      rw [hr] at this
      exact this
  obtain ⟨F, hF⟩ := VF_ex (V := V) hVS
  exact ⟨b, F, hb, hF⟩
theorem NQ_init {z : TR × List Nat × Nat} (hs : shp z.1) (hV : ∀ t a, ¬ Vm cv mv P t a) (hEv : ∀ t i, ¬ Ev (P, t, i)) (hE1 : ∀ c, ¬ En (c :: P)) (hE2 : ∀ c c', ¬ En (c :: c' :: P)) (hB : ∀ F b, Bnd V y P z F b → vr F b = none) (hA : AW P (otk z.1) → lfK z.1 = true) : NQ V y En cv vr mv AW Ev Hp P z := by
  obtain ⟨x, γ, r⟩ := z
  have hs : shp x := hs
  have no : ∀ {o : Option TVal} {a : TVal} {C : Prop}, o = none → o = some a → C := fun h1 h2 => by rw [h1] at h2; cases h2
  have nb : ∀ {C : Prop}, false = true → C := fun h => by cases h
  rcases hs with ⟨j, rfl⟩ | ⟨j, rfl⟩ | ⟨j, rfl⟩ | ⟨j, as, rfl⟩ | ⟨j, a, b, rfl⟩ | ⟨j, a, b, c, rfl⟩ | ⟨j, fs, c, ns, g, rfl⟩ | ⟨j, a, rfl⟩ | ⟨j, a, b, rfl⟩ | ⟨j, a, b, rfl⟩ | ⟨j, a, b, rfl⟩ | ⟨j, a, rfl⟩
  · exact fun _ a => hV j a
  · exact fun _ a => hV j a
  · exact fun _ a => hV j a
  · exact ⟨fun _ => hEv j 0, fun i p cnt x q1 q2 => ⟨fun q => absurd q (hE1 _), fun a q => absurd q (hV _ _), fun z a q3 q => no (hB _ _ ⟨i, p, cnt, x, z, q1, q2, q3, rfl, rfl⟩) q⟩⟩
  · exact ⟨fun q => nb (hA q), fun a q => no (hB _ _ ⟨rfl, rfl⟩) q, fun a q => absurd q (hV _ _)⟩
  · exact ⟨fun q => nb (hA q), fun q => absurd q (hEv _ _), fun q => absurd q (hE1 _), fun q => absurd q (hE1 _), fun a q => absurd q (hV _ _)⟩
  · refine ⟨fun _ => hE1 _, fun i q => absurd q (hEv _ _), fun i q => ?_, fun i q => absurd q (hE2 _ _), fun a q => absurd q (hV _ _), fun b a q1 => ⟨fun q2 q => no (hB _ _ ⟨q1, .inl ⟨q2, 0, rfl⟩⟩) q, fun q2 q => no (hB _ _ ⟨q1, .inr ⟨q2, rfl⟩⟩) q⟩, fun i b a q1 q2 q => no (hB _ _ ⟨q1, .inl ⟨q2, i + 1, rfl⟩⟩) q⟩
    rcases q with q | q
    · exact absurd q (hE1 _)
    · exact absurd q (hE2 _ _)
  · exact ⟨fun q => nb (hA q), fun q => absurd q (hEv _ _), fun a q => absurd q (hV _ _)⟩
  · exact ⟨fun q => nb (hA q), fun q => absurd q (hEv _ _), fun a q => absurd q (hV _ _)⟩
  · exact ⟨fun q => nb (hA q), fun q => absurd q (hEv _ _), fun a q => absurd q (hV _ _)⟩
  · exact ⟨fun q => nb (hA q), fun q => absurd q (hEv _ _), fun a q => absurd q (hV _ _), fun i q => absurd q (hEv _ _), fun i q => absurd q (hE1 _), fun i a q => no (hB _ _ ⟨.inl rfl, i, rfl⟩) q, fun i a q => no (hB _ _ ⟨.inr rfl, i, rfl⟩) q⟩
  · exact fun q => nb (hA q)
theorem NP_init (w : PW K y 0 e0) (hG : ∀ z, z ∈ scP y → GdN K V (ftP y) z) {z : TR × List Nat × Nat} (hz : z ∈ scP y) (hr : z.2.2 = hdR P) (hP : POk V y P) (hV : ∀ t, cv P t = none) (hV1 : ∀ c t, cv (c :: P) t = none) (hV2 : ∀ c c' t, cv (c :: c' :: P) t = none) (hE1 : ∀ c, ¬ En (c :: P)) (hA : lfK z.1 = true → Aw P (otk z.1)) : NP K V y En cv vr mv Aw Wv Wc Rd Hp P z := by
  have hs := ((tl_P w) z hz).2.1
  obtain ⟨x, γ, r⟩ := z
  have hs : shp x := hs
  have no : ∀ {o : Option TVal} {a : TVal} {C : Prop}, o = none → o = some a → C := fun h1 h2 => by rw [h1] at h2; cases h2
  rcases hs with ⟨j, rfl⟩ | ⟨j, rfl⟩ | ⟨j, rfl⟩ | ⟨j, as, rfl⟩ | ⟨j, a, b, rfl⟩ | ⟨j, a, b, c, rfl⟩ | ⟨j, fs, c, ns, g, rfl⟩ | ⟨j, a, rfl⟩ | ⟨j, a, b, rfl⟩ | ⟨j, a, b, rfl⟩ | ⟨j, a, b, rfl⟩ | ⟨j, a, rfl⟩
  · exact .inr (hA rfl)
  · exact .inr (hA rfl)
  · obtain ⟨b, F, h1, h2⟩ := use_ex w hG hz hr hP
    exact ⟨b, F, h1, h2, .inr (.inl (hA rfl))⟩
  · exact fun i p cnt x q1 q2 => ⟨.inl (hA rfl), fun a q => no (hV1 _ _) q, fun q => absurd q (hE1 _)⟩
  · exact ⟨fun a q => no (hV _) q, fun a q => no (hV _) q⟩
  · exact ⟨fun a q => no (hV _) q, fun a q => no (hV1 _ _) q, fun a q => no (hV1 _ _) q⟩
  · exact ⟨.inl (hA rfl), fun i a q => absurd q (hE1 _), fun i a q => no (hV2 _ _ _) q, fun b x a q1 q2 q => no (hV _) q, fun i b x a q1 q2 q => no (hV2 _ _ _) q⟩
  · exact fun a q => no (hV _) q
  · exact fun a a' q => no (hV _) q
  · exact fun a a' q => no (hV _) q
  · exact ⟨fun a q => no (hV _) q, fun i q => absurd q (hE1 _)⟩
  · trivial
end INI
