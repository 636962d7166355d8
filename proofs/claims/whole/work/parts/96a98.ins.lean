/-! a token that moves: by who takes it -/
section INJ
variable {K : Nat → Nat} {V : Nat → Int64} {y : TR} {e0 : Nat}
theorem cs_ne {c : Nat × Nat} {P : TPth} : c :: P ≠ P := fun h => by
  have := congrArg List.length h
  rw [List.length_cons] at this
  omega
theorem cs_ne2 {c d : Nat × Nat} {P : TPth} : c :: d :: P ≠ P := fun h => by
  have := congrArg List.length h
  rw [List.length_cons, List.length_cons] at this
  omega
theorem ds_in {x : TR} (hL : LL x) (hD : DsF V x []) {b b' : Nat} (h : b ∈ tks x) (h' : b' ∈ tks x) (hV : V b = V b') : b = b' := by
  obtain ⟨k, hk⟩ := List.getElem?_of_mem h
  obtain ⟨k', hk'⟩ := List.getElem?_of_mem h'
  have d := (ds_at x hL [] hD k b hk).1
  have d' := (ds_at x hL [] hD k' b' hk').1
  rcases Nat.lt_trichotomy k k' with c | c | c
  · exact absurd hV (d' k b c hk)
  · subst c
    rw [hk] at hk'
    exact Option.some.inj hk'
  · exact absurd hV.symm (d k' b' c hk')
theorem rw_rg {b : Nat} {x : TR} : ∀ l : TR, LL l → ∀ p e, l = .nil ∨ Wt K l p e 102 → rwX l b = some x → p ≤ rtk x := by
  refine LL_ind (fun p e _ h => by cases h) (fun q x1 r _ ih p e w h => ?_)
  rcases w with w | w
  · cases w
  obtain ⟨-, -, -, b1, w1, w2⟩ := w
  have h1 := Wt_rt w1
  have h : (if q = b then some x1 else rwX r b) = some x := h
  have hlt := Wt_lt w1
  have hif : p ≤ (if (102 : Nat) = 101 then p else p + 2) := by split <;> omega
  by_cases c : q = b
  · rw [if_pos c] at h
    cases h
    omega
  · rw [if_neg c] at h
    have := ih (b1 + 1) e (by rcases w2 with w2 | w2; exact .inl w2.1; exact .inr w2.2) h
    omega
theorem rw_inj {b b' : Nat} {x x' : TR} (ht : rtk x = rtk x') : ∀ l : TR, LL l → ∀ p e, l = .nil ∨ Wt K l p e 102 → rwX l b = some x → rwX l b' = some x' → b = b' := by
  refine LL_ind (fun p e _ h => by cases h) (fun q x1 r hr ih p e w h h' => ?_)
  rcases w with w | w
  · cases w
  obtain ⟨-, -, -, b1, w1, w2⟩ := w
  have h1 := Wt_rt w1
  have w2 : r = .nil ∨ Wt K r (b1 + 1) e 102 := by rcases w2 with w2 | w2; exact .inl w2.1; exact .inr w2.2
  have h : (if q = b then some x1 else rwX r b) = some x := h
  have h' : (if q = b' then some x1 else rwX r b') = some x' := h'
  by_cases c : q = b
  · by_cases c' : q = b'
    · exact c.symm.trans c'
    · rw [if_pos c] at h
      cases h
      rw [if_neg c'] at h'
      have := rw_rg r hr (b1 + 1) e w2 h'
      omega
  · by_cases c' : q = b'
    · rw [if_pos c'] at h'
      cases h'
      rw [if_neg c] at h
      have := rw_rg r hr (b1 + 1) e w2 h
      omega
    · rw [if_neg c] at h
      rw [if_neg c'] at h'
      exact ih (b1 + 1) e w2 h h'
theorem nx_rg {b : Nat} {x : TR} : ∀ l : TR, LL l → ∀ p e, l = .nil ∨ Wt K l p e 102 → nxX V l b = some x → p ≤ rtk x := by
  refine LL_ind (fun p e _ h => by cases h) (fun q x1 r _ ih p e w h => ?_)
  rcases w with w | w
  · cases w
  obtain ⟨-, -, -, b1, w1, w2⟩ := w
  have h1 := Wt_rt w1
  have h : (if V q = V b then some x1 else nxX V r b) = some x := h
  have hlt := Wt_lt w1
  have hif : p ≤ (if (102 : Nat) = 101 then p else p + 2) := by split <;> omega
  by_cases c : V q = V b
  · rw [if_pos c] at h
    cases h
    omega
  · rw [if_neg c] at h
    have := ih (b1 + 1) e (by rcases w2 with w2 | w2; exact .inl w2.1; exact .inr w2.2) h
    omega
theorem nx_inj {b b' : Nat} {x x' : TR} (ht : rtk x = rtk x') : ∀ l : TR, LL l → ∀ p e, l = .nil ∨ Wt K l p e 102 → nxX V l b = some x → nxX V l b' = some x' → V b = V b' := by
  refine LL_ind (fun p e _ h => by cases h) (fun q x1 r hr ih p e w h h' => ?_)
  rcases w with w | w
  · cases w
  obtain ⟨-, -, -, b1, w1, w2⟩ := w
  have h1 := Wt_rt w1
  have w2 : r = .nil ∨ Wt K r (b1 + 1) e 102 := by rcases w2 with w2 | w2; exact .inl w2.1; exact .inr w2.2
  have h : (if V q = V b then some x1 else nxX V r b) = some x := h
  have h' : (if V q = V b' then some x1 else nxX V r b') = some x' := h'
  by_cases c : V q = V b
  · by_cases c' : V q = V b'
    · exact c.symm.trans c'
    · rw [if_pos c] at h
      cases h
      rw [if_neg c'] at h'
      have := nx_rg r hr (b1 + 1) e w2 h'
      omega
  · by_cases c' : V q = V b'
    · rw [if_pos c'] at h'
      cases h'
      rw [if_neg c] at h
      have := nx_rg r hr (b1 + 1) e w2 h
      omega
    · rw [if_neg c] at h
      rw [if_neg c'] at h'
      exact ih (b1 + 1) e w2 h h'
theorem ag_rg {x : TR} : ∀ l : TR, LL l → ∀ p e z, l = .nil ∨ Wt K l p e 101 → agX l z = some x → p ≤ rtk x := by
  refine LL_ind (fun p e z _ h => by cases h) (fun q x1 r _ ih p e z w h => ?_)
  rcases w with w | w
  · cases w
  obtain ⟨-, -, -, b1, w1, w2⟩ := w
  have h1 := Wt_rt w1
  have hlt := Wt_lt w1
  have hif : p ≤ (if (101 : Nat) = 101 then p else p + 2) := by split <;> omega
  cases z with
  | zero => cases h; omega
  | succ z =>
    have := ih (b1 + 1) e z (by rcases w2 with w2 | w2; exact .inl w2.1; exact .inr w2.2) h
    omega
theorem ag_inj {x x' : TR} (ht : rtk x = rtk x') : ∀ l : TR, LL l → ∀ p e z z', l = .nil ∨ Wt K l p e 101 → agX l z = some x → agX l z' = some x' → z = z' := by
  refine LL_ind (fun p e z z' _ h => by cases h) (fun q x1 r hr ih p e z z' w h h' => ?_)
  rcases w with w | w
  · cases w
  obtain ⟨-, -, -, b1, w1, w2⟩ := w
  have h1 := Wt_rt w1
  have w2 : r = .nil ∨ Wt K r (b1 + 1) e 101 := by rcases w2 with w2 | w2; exact .inl w2.1; exact .inr w2.2
  cases z with
  | zero =>
    cases z' with
    | zero => rfl
    | succ z' =>
      cases h
      have := ag_rg r hr (b1 + 1) e z' w2 h'
      omega
  | succ z =>
    cases z' with
    | zero =>
      cases h'
      have := ag_rg r hr (b1 + 1) e z w2 h
      omega
    | succ z' => rw [ih (b1 + 1) e z z' w2 h h']
end INJ
section INS
variable {K : Nat → Nat} {V : Nat → Int64} {y : TR} {q0 : Nat} {ar : Nat → Int64} {En : TPth → Prop} {cv vr cv' vr' : TPth → Nat → Option TVal} {mv mv' : Option (TPth × Nat × TVal)} {Aw : TPth → Nat → Prop} {WV WC : TPth → Nat → TPth → Nat → Prop} {R H R' : List TEv} {fl : Prop} {e0 f : Nat} {W : Nat → Int32 × Int32 × Int32} {ν : Nat → Nat} {P0 P1 : TPth} {t0 : Nat} {a : TVal} {z1 : TR × List Nat × Nat} {j r : Nat} {γ : List Nat} {x x' x'' : TR}
theorem par_En (w : PW K y 0 e0) (a1 : ABe V y q0 En) {z : TR × List Nat × Nat} (hz : z ∈ scP y) {k i : Nat} (hk : k < 4) {Q : TPth} (h : En ((4 * otk z.1 + k, i) :: Q)) : En Q ∧ ParN (4 * otk z.1 + k) (hdR Q) z := by
  obtain ⟨c', Q', q1, q2, q3, q4⟩ := P_par w hz hk (a1.2.1 _ h).1
  refine ⟨a1.2.2.1 _ Q h (by rw [q1]; exact List.cons_ne_nil _ _), ?_⟩
  rw [q1]
  exact q2
theorem M_let1 (B : SBd K V y e0 f W ν) (A : AB K V y q0 ar En cv vr (some (P0, t0, a)) Aw WV WC R H fl) (hcv : ∀ P t v, cv' P t = some v ↔ Vm cv (some (P0, t0, a)) P t v)
    (hz : (.tag 5 (.tag j (.append x x')), γ, r) ∈ scP y) (hr : r = hdR P0) (ht : t0 = rtk x) (hvr : ∀ F b v, vr' F b = some v ↔ vr F b = some v ∨ (F = fpt y P0 ∧ b = j + 1 ∧ v = a)) :
    AB K V y q0 ar En cv' vr' none (AwN y Aw (fun _ _ => False) WV WC cv' vr' (fun _ => False)) (WVN WV vr') (WCN WC (fun _ _ _ _ => False) cv') R H fl := by
  have hn : cv P0 t0 = none := A.2.1.2.1 P0 t0 a rfl
  obtain ⟨ca, cn⟩ := mvc hn hcv
  have hE0 : En P0 := (A.2.1.1 P0 t0 a (.inr rfl)).1
  have hqa := A.2.2.2.2.1 P0 _ hE0 hz hr
  obtain ⟨⟨p', e', wz⟩, hs, htr⟩ := (tl_P B.1) _ hz
  obtain ⟨-, -, bb, w1, w2⟩ := wz
  have g1 := Wt_rt w1
  have g2 := Wt_rt w2
  subst ht
  refine M_var B A hcv hvr hE0 hz hr rfl rfl ⟨rfl, .inl rfl⟩ ⟨rfl, rfl⟩ ?_ ca (fun hf hvm hv0 => ?_)
  · cases hc : vr (fpt y P0) (j + 1) with
    | none => rfl
    | some v =>
      have := hqa.2.1 v hc
      rw [hn] at this
      cases this
  · have hpa := A.2.2.2.2.2 hf P0 _ hE0 hz hr
    refine ⟨fun v q => ?_, fun v q => ?_⟩
    · rw [ca] at q
      cases q
      exact hv0
    · rw [cn _ _ (fun h => by omega)] at q
      exact .inl ((hcv _ _ _).mpr (hpa.2 v q))
theorem M_let2 (B : SBd K V y e0 f W ν) (A : AB K V y q0 ar En cv vr (some (P0, t0, a)) Aw WV WC R H fl) (hcv : ∀ P t v, cv' P t = some v ↔ Vm cv (some (P0, t0, a)) P t v)
    (hz : (.tag 5 (.tag j (.append x x')), γ, r) ∈ scP y) (hr : r = hdR P0) (ht : t0 = rtk x') :
    AB K V y q0 ar En cv' vr (some (P0, j, a)) (AwN y Aw (fun _ _ => False) WV WC cv' vr (fun _ => False)) (WVN WV vr) (WCN WC (fun _ _ _ _ => False) cv') R H fl := by
  have hn : cv P0 t0 = none := A.2.1.2.1 P0 t0 a rfl
  obtain ⟨ca, cn⟩ := mvc hn hcv
  have hE0 : En P0 := (A.2.1.1 P0 t0 a (.inr rfl)).1
  have hqa := A.2.2.2.2.1 P0 _ hE0 hz hr
  obtain ⟨⟨p', e', wz⟩, hs, htr⟩ := (tl_P B.1) _ hz
  obtain ⟨-, -, bb, w1, w2⟩ := wz
  have g1 := Wt_rt w1
  have g2 := Wt_rt w2
  have hx' := htr _ (mc _ (mr _ (hd_in w2 _ _)))
  subst ht
  have hty := AB_tv B A hx' (.inr rfl)
  refine M_pass (z1 := (.tag 5 (.tag j (.append x x')), γ, r)) B A hcv hE0 hz hr rfl rfl ⟨rfl, .inr rfl⟩ (fun v q => ?_) hty ca (fun En2 Va2 De2 C c1 c2 => C a (c2 _ _ _ ⟨_, hx', rfl, hr, ca⟩)) (fun hf => ?_)
  · have := hqa.2.2 v q
    rw [hn] at this
    cases this
  · have hpa := A.2.2.2.2.2 hf P0 _ hE0 hz hr
    refine ⟨fun v q => ?_, fun v q => ?_⟩
    · rw [cn _ _ (fun h => by omega)] at q
      exact hpa.1 v q
    · rw [ca] at q
      cases q
      exact .inr rfl
/-- the condition of an if, what a sign stands before, the size of a table -/
theorem M_if0 (B : SBd K V y e0 f W ν) (A : AB K V y q0 ar En cv vr (some (P0, t0, a)) Aw WV WC R H fl) (hcv : ∀ P t v, cv' P t = some v ↔ Vm cv (some (P0, t0, a)) P t v)
    (hz : (.tag 6 (.tag j (.append x (.append x' x''))), γ, r) ∈ scP y) (hr : r = hdR P0) (ht : t0 = rtk x) (hR : R' = R ++ [(P0, j, 0)] ∨ (fl ∧ R' = R)) :
    AB K V y q0 ar En cv' vr none (AwN y Aw (fun _ _ => False) WV WC cv' vr (fun _ => False)) (WVN WV vr) (WCN WC (fun _ _ _ _ => False) cv') R' H fl := by
  have hn : cv P0 t0 = none := A.2.1.2.1 P0 t0 a rfl
  obtain ⟨ca, cn⟩ := mvc hn hcv
  have hE0 : En P0 := (A.2.1.1 P0 t0 a (.inr rfl)).1
  have hqa := A.2.2.2.2.1 P0 _ hE0 hz hr
  obtain ⟨⟨p', e', wz⟩, hs, htr⟩ := (tl_P B.1) _ hz
  obtain ⟨-, bb, cc, w1, w2, w3⟩ := wz
  have hx := htr _ (mc _ (ml _ (hd_in w1 _ _)))
  subst ht
  refine M_ev (z1 := (.tag 6 (.tag j (.append x (.append x' x''))), γ, r)) (i := 0) B A hcv hE0 hz hr rfl rfl (.inl ⟨rfl, rfl⟩) hR (fun q => ?_) (fun _ => ⟨a, ca⟩) (fun q => absurd q hqa.1) (fun En2 Va2 De2 C c1 c2 => (C a (c2 _ _ _ ⟨_, hx, rfl, hr, ca⟩)).1) (fun hf hR1 hR2 => ?_)
  · obtain ⟨v, hv⟩ := hqa.2.1 q
    rw [hn] at hv
    cases hv
  · have hpa := A.2.2.2.2.2 hf P0 _ hE0 hz hr
    refine ⟨fun v q => .inl hR2, fun v q => ?_, fun v q => ?_⟩
    · rw [cn _ _ (fun h => cs_ne h.1)] at q
      exact .inl ((hcv _ _ _).mpr (hpa.2.1 v q))
    · rw [cn _ _ (fun h => cs_ne h.1)] at q
      exact .inl ((hcv _ _ _).mpr (hpa.2.2 v q))
theorem M_sig (B : SBd K V y e0 f W ν) (A : AB K V y q0 ar En cv vr (some (P0, t0, a)) Aw WV WC R H fl) (hcv : ∀ P t v, cv' P t = some v ↔ Vm cv (some (P0, t0, a)) P t v)
    (hz : (.tag 8 (.tag j x), γ, r) ∈ scP y) (hr : r = hdR P0) (ht : t0 = rtk x) (hR : R' = R ++ [(P0, j, 0)] ∨ (fl ∧ R' = R)) :
    AB K V y q0 ar En cv' vr none (AwN y Aw (fun _ _ => False) WV WC cv' vr (fun _ => False)) (WVN WV vr) (WCN WC (fun _ _ _ _ => False) cv') R' H fl := by
  have hn : cv P0 t0 = none := A.2.1.2.1 P0 t0 a rfl
  obtain ⟨ca, cn⟩ := mvc hn hcv
  have hE0 : En P0 := (A.2.1.1 P0 t0 a (.inr rfl)).1
  have hqa := A.2.2.2.2.1 P0 _ hE0 hz hr
  obtain ⟨⟨p', e', wz⟩, hs, htr⟩ := (tl_P B.1) _ hz
  obtain ⟨-, -, w1⟩ := wz
  have hx := htr _ (mc _ (hd_in w1 _ _))
  subst ht
  refine M_ev (z1 := (.tag 8 (.tag j x), γ, r)) (i := 0) B A hcv hE0 hz hr rfl rfl ⟨rfl, rfl⟩ hR (fun q => ?_) (fun _ => ⟨a, ca⟩) (fun q => absurd q hqa.1) (fun En2 Va2 De2 C c1 c2 => (C a (c2 _ _ _ ⟨_, hx, rfl, hr, ca⟩)).1) (fun hf hR1 hR2 => ?_)
  · obtain ⟨v, hv⟩ := hqa.2.1 q
    rw [hn] at hv
    cases hv
  · exact fun v q => .inl hR2
theorem M_tab (B : SBd K V y e0 f W ν) (A : AB K V y q0 ar En cv vr (some (P0, t0, a)) Aw WV WC R H fl) (hcv : ∀ P t v, cv' P t = some v ↔ Vm cv (some (P0, t0, a)) P t v)
    (hz : (.tag 11 (.tag j (.append x x')), γ, r) ∈ scP y) (hr : r = hdR P0) (ht : t0 = rtk x) (hR : R' = R ++ [(P0, j, 0)] ∨ (fl ∧ R' = R)) :
    AB K V y q0 ar En cv' vr none (AwN y Aw (fun _ _ => False) WV WC cv' vr (fun _ => False)) (WVN WV vr) (WCN WC (fun _ _ _ _ => False) cv') R' H fl := by
  have hn : cv P0 t0 = none := A.2.1.2.1 P0 t0 a rfl
  obtain ⟨ca, cn⟩ := mvc hn hcv
  have hE0 : En P0 := (A.2.1.1 P0 t0 a (.inr rfl)).1
  have hqa := A.2.2.2.2.1 P0 _ hE0 hz hr
  obtain ⟨⟨p', e', wz⟩, hs, htr⟩ := (tl_P B.1) _ hz
  obtain ⟨hj, -, -, bb, w1, w2⟩ := wz
  have g1 := Wt_rt w1
  have hx := htr _ (mc _ (ml _ (hd_in w1 _ _)))
  subst ht
  refine M_ev (z1 := (.tag 11 (.tag j (.append x x')), γ, r)) (i := 0) B A hcv hE0 hz hr rfl rfl ⟨rfl, rfl⟩ hR (fun q => ?_) ⟨fun _ => ⟨a, ca⟩, fun k q => absurd q (by omega)⟩ (fun q => absurd q hqa.1) (fun En2 Va2 De2 C c1 c2 => (C a (c2 _ _ _ ⟨_, hx, rfl, hr, ca⟩)).1) (fun hf hR1 hR2 => ?_)
  · obtain ⟨v, hv⟩ := hqa.2.1 q
    rw [hn] at hv
    cases hv
  · have hpa := A.2.2.2.2.2 hf P0 _ hE0 hz hr
    refine ⟨fun v q => .inl hR2, fun i q => ⟨(hpa.2 i q).1, fun v q' => ?_⟩⟩
    rw [cn _ _ (fun h => by omega)] at q'
    exact (hpa.2 i q).2 v q'
/-- the two parts of an if -/
theorem M_if1 (B : SBd K V y e0 f W ν) (hP : P0 = (4 * j, 0) :: P1) (A : AB K V y q0 ar En cv vr (some (P0, t0, a)) Aw WV WC R H fl) (hcv : ∀ P t v, cv' P t = some v ↔ Vm cv (some (P0, t0, a)) P t v)
    (hz : (.tag 6 (.tag j (.append x (.append x' x''))), γ, r) ∈ scP y) (ht : t0 = rtk x') :
    AB K V y q0 ar En cv' vr (some (P1, j, a)) (AwN y Aw (fun _ _ => False) WV WC cv' vr (fun _ => False)) (WVN WV vr) (WCN WC (fun _ _ _ _ => False) cv') R H fl := by
  have hn : cv P0 t0 = none := A.2.1.2.1 P0 t0 a rfl
  obtain ⟨ca, cn⟩ := mvc hn hcv
  have hE0 : En P0 := (A.2.1.1 P0 t0 a (.inr rfl)).1
  rw [hP] at hE0
  obtain ⟨hE1, hpr⟩ := par_En B.1 A.1 hz (k := 0) (by omega) hE0
  have hr : r = hdR P1 := hpr.2.symm
  have hqa := A.2.2.2.2.1 P1 _ hE1 hz hr
  obtain ⟨⟨p', e', wz⟩, hs, htr⟩ := (tl_P B.1) _ hz
  obtain ⟨-, bb, cc, w1, w2, w3⟩ := wz
  have hx := htr _ (mc _ (ml _ (hd_in w1 _ _)))
  have hx' := htr _ (mc _ (mr _ (ml _ (hd_in w2 _ _))))
  have hcm : ∀ P t v, cv P t = some v → cv' P t = some v := fun P t v q => (hcv P t v).mpr (.inl q)
  obtain ⟨k1, v1, k2, k3, k4⟩ := hqa.2.2.1 hE0
  have hty := AB_tv B A hx' (.inr (by rw [ht]))
  subst hP
  subst ht
  refine M_pass (z1 := (.tag 6 (.tag j (.append x (.append x' x''))), γ, r)) B A hcv hE1 hz hr rfl rfl (.inr (.inl ⟨rfl, rfl⟩)) (fun v q => ?_) hty ⟨k1, v1, hcm _ _ _ k2, .inr (.inl ca)⟩ (fun En2 Va2 De2 C c1 c2 => ((C v1 (c2 _ _ _ ⟨_, hx, rfl, hr, hcm _ _ _ k2⟩)).2.2.1 k3 k4).2 a (c2 _ _ _ ⟨_, hx', rfl, rfl, ca⟩)) (fun hf => ?_)
  · obtain ⟨-, v0, u1, u2⟩ := hqa.2.2.2.2 v q
    rw [k2] at u1
    cases u1
    rcases u2 with u2 | u2 | u2
    · exact k3 u2.1
    · rw [hn] at u2
      cases u2
    · obtain ⟨-, v2, m1, m2, m3⟩ := hqa.2.2.2.1 (A.2.1.1 _ _ _ (.inl u2)).1
      rw [k2] at m1
      cases m1
      exact m3 k4
  · have hpa := A.2.2.2.2.2 hf P1 _ hE1 hz hr
    have vk : ∀ {v : TVal}, Vm cv (some ((4 * j, 0) :: P1, rtk x', a)) P1 j v → Vm cv' (some (P1, j, a)) P1 j v := fun q => .inl ((hcv _ _ _).mpr q)
    refine ⟨fun v q => ?_, fun v q => ?_, fun v q => ?_⟩
    · rw [cn _ _ (fun h => cs_ne h.1.symm)] at q
      rcases hpa.1 v q with u | ⟨u1, u2, u3, u4⟩
      · exact .inl u
      · exact .inr ⟨u1, fun c => vk (u2 c), u3, u4⟩
    · rw [ca] at q
      cases q
      exact .inr rfl
    · rw [cn _ _ (fun h => by have := congrArg hdR h.1; have : 4 * j + 1 = 4 * j := this; omega)] at q
      exact vk (hpa.2.2 v q)
theorem M_if2 (B : SBd K V y e0 f W ν) (hP : P0 = (4 * j + 1, 0) :: P1) (A : AB K V y q0 ar En cv vr (some (P0, t0, a)) Aw WV WC R H fl) (hcv : ∀ P t v, cv' P t = some v ↔ Vm cv (some (P0, t0, a)) P t v)
    (hz : (.tag 6 (.tag j (.append x (.append x' x''))), γ, r) ∈ scP y) (ht : t0 = rtk x'') :
    AB K V y q0 ar En cv' vr (some (P1, j, a)) (AwN y Aw (fun _ _ => False) WV WC cv' vr (fun _ => False)) (WVN WV vr) (WCN WC (fun _ _ _ _ => False) cv') R H fl := by
  have hn : cv P0 t0 = none := A.2.1.2.1 P0 t0 a rfl
  obtain ⟨ca, cn⟩ := mvc hn hcv
  have hE0 : En P0 := (A.2.1.1 P0 t0 a (.inr rfl)).1
  rw [hP] at hE0
  obtain ⟨hE1, hpr⟩ := par_En B.1 A.1 hz (k := 1) (by omega) hE0
  have hr : r = hdR P1 := hpr.2.symm
  have hqa := A.2.2.2.2.1 P1 _ hE1 hz hr
  obtain ⟨⟨p', e', wz⟩, hs, htr⟩ := (tl_P B.1) _ hz
  obtain ⟨-, bb, cc, w1, w2, w3⟩ := wz
  have hx := htr _ (mc _ (ml _ (hd_in w1 _ _)))
  have hx'' := htr _ (mc _ (mr _ (mr _ (hd_in w3 _ _))))
  have hcm : ∀ P t v, cv P t = some v → cv' P t = some v := fun P t v q => (hcv P t v).mpr (.inl q)
  obtain ⟨k1, v1, k2, k3, k4⟩ := hqa.2.2.2.1 hE0
  have hty := AB_tv B A hx'' (.inr (by rw [ht]))
  have hgd : tyV K V x = 2 ∧ tyV K V x'' = tyV K V x' := B.2.2.2.2.2.1 _ hz
  subst hP
  subst ht
  refine M_pass (z1 := (.tag 6 (.tag j (.append x (.append x' x''))), γ, r)) B A hcv hE1 hz hr rfl rfl (.inr (.inr ⟨rfl, rfl⟩)) (fun v q => ?_) (by show tyO (tyV K V x') a; rw [← hgd.2]; exact hty) ⟨k1, v1, hcm _ _ _ k2, .inr (.inr ca)⟩ (fun En2 Va2 De2 C c1 c2 => ((C v1 (c2 _ _ _ ⟨_, hx, rfl, hr, hcm _ _ _ k2⟩)).2.2.2 k3 k4).2 a (c2 _ _ _ ⟨_, hx'', rfl, rfl, ca⟩)) (fun hf => ?_)
  · obtain ⟨-, v0, u1, u2⟩ := hqa.2.2.2.2 v q
    rw [k2] at u1
    cases u1
    rcases u2 with u2 | u2 | u2
    · exact k3 u2.1
    · obtain ⟨-, v2, m1, m2, m3⟩ := hqa.2.2.1 (A.2.1.1 _ _ _ (.inl u2)).1
      rw [k2] at m1
      cases m1
      exact k4 m3
    · rw [hn] at u2
      cases u2
  · have hpa := A.2.2.2.2.2 hf P1 _ hE1 hz hr
    have vk : ∀ {v : TVal}, Vm cv (some ((4 * j + 1, 0) :: P1, rtk x'', a)) P1 j v → Vm cv' (some (P1, j, a)) P1 j v := fun q => .inl ((hcv _ _ _).mpr q)
    refine ⟨fun v q => ?_, fun v q => ?_, fun v q => ?_⟩
    · rw [cn _ _ (fun h => cs_ne h.1.symm)] at q
      rcases hpa.1 v q with u | ⟨u1, u2, u3, u4⟩
      · exact .inl u
      · exact .inr ⟨u1, fun c => vk (u2 c), u3, u4⟩
    · rw [cn _ _ (fun h => by have := congrArg hdR h.1; have : 4 * j = 4 * j + 1 := this; omega)] at q
      exact vk (hpa.2.1 v q)
    · rw [ca] at q
      cases q
      exact .inr rfl
end INS
