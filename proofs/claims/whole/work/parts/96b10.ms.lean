/-! the machine's memory: what lies in its slots, frames, chains -/
/-- the word of a value: a table by its first cell -/
def EcW (tf : TPth → Nat → Nat) (a : TVal) (w : Int64) : Prop := (a.1 = 3 → ∃ n, n ≤ 20 ∧ a.2.1 = Int64.ofNat n ∧ w = Int64.ofNat (tf a.2.2.1 a.2.2.2 * 32 + n)) ∧ (a.1 ≠ 3 → w = a.2.1)
def SlC (S : im_S) (tf : TPth → Nat → Nat) (s : Nat) : Option TVal → Prop
  | none => S.1 65 s = 0
  | some a => S.1 65 s = nI a.1 ∧ (1 ≤ a.1 ∧ a.1 ≤ 4) ∧ EcW tf a (S.2.1 66 s)
/-- those that are awake or wait: each once, each with a slot of its own -/
def LkI (g : Nat → Nat) (nS : Nat) (ct : Nat → Option TVal) (isL : Nat → Prop) (aw : List Nat) (wa : Nat → List Nat) : Prop :=
  aw.Nodup ∧ (∀ s, s < nS → ct s = none → ¬ isL s → (wa s).Nodup) ∧ (∀ s c, s < nS → ct s = none → ¬ isL s → c ∈ wa s → ¬ c ∈ aw) ∧ (∀ s s' c, s < nS → ct s = none → ¬ isL s → s' < nS → ct s' = none → ¬ isL s' → c ∈ wa s → c ∈ wa s' → s = s') ∧
  (∀ c, (c ∈ aw ∨ ∃ s, s < nS ∧ ct s = none ∧ ¬ isL s ∧ c ∈ wa s) → c < 2 ^ 31 ∧ g c < nS) ∧ ∀ c c', (c ∈ aw ∨ ∃ s, s < nS ∧ ct s = none ∧ ¬ isL s ∧ c ∈ wa s) → (c' ∈ aw ∨ ∃ s, s < nS ∧ ct s = none ∧ ¬ isL s ∧ c' ∈ wa s) → g c = g c' → c = c'
def MS (S : im_S) (nS nF : Nat) (fb : Nat → Nat) (ow si fo : Nat → Int32) (ct : Nat → Option TVal) (tf : TPth → Nat → Nat) (isL : Nat → Prop) (lw : Nat → Int64) (aw : List Nat) (wa : Nat → List Nat) : Prop :=
  (StO S nS ∧ nS ≤ 523264) ∧ FrO S nF ∧ (∀ f, f < nF → S.1 68 f = nI (fb f) ∧ S.1 69 f = ow f ∧ S.1 70 f = si f ∧ S.1 71 f = fo f) ∧ (∀ s, s < nS → SlC S tf s (ct s)) ∧ (∀ s, isL s → ct s = none ∧ s < nS ∧ S.2.1 66 s = lw s) ∧
  ∃ sz fre awk wt hs, CHN S sz fre awk wt hs nS isL ∧ COV S sz fre awk wt nS isL ∧ sz ≤ nS + 1 ∧ awk.map (S.1 73) = aw.map nI ∧ ∀ s, s < nS → ct s = none → ¬ isL s → (wt s).map (S.1 73) = (wa s).map nI
/-- the rest stays -/
def MK (S S' : im_S) : Prop := (∀ a i : Nat, (a < 64 ∨ 74 < a) → (a = 38 → i ≠ 10) → S'.1 a i = S.1 a i) ∧ (∀ a i : Nat, a ≠ 66 → S'.2.1 a i = S.2.1 a i) ∧ ∀ a, (a < 64 ∨ 74 < a) → S'.2.2 a = S.2.2 a
section MSS
variable {S S' S1 : im_S} {nS nF fu : Nat} {fb : Nat → Nat} {ow si fo : Nat → Int32} {ct : Nat → Option TVal} {tf : TPth → Nat → Nat} {isL : Nat → Prop} {lw : Nat → Int64} {aw : List Nat} {wa : Nat → List Nat} {g : Nat → Nat}
theorem MK_r : MK S S := ⟨fun _ _ _ _ => rfl, fun _ _ _ => rfl, fun _ _ => rfl⟩
theorem MK_t (h : MK S S') (h' : MK S' S1) : MK S S1 := ⟨fun a i q1 q2 => (h'.1 a i q1 q2).trans (h.1 a i q1 q2), fun a i q => (h'.2.1 a i q).trans (h.2.1 a i q), fun a q => (h'.2.2 a q).trans (h.2.2 a q)⟩
theorem nd_mapI {h : Nat → Nat} : ∀ l : List Nat, l.Nodup → (∀ a, a ∈ l → ∀ b, b ∈ l → h a = h b → a = b) → (l.map h).Nodup := by
  intro l
  induction l with
  | nil => intro _ _; exact List.nodup_nil
  | cons a l ih =>
    intro hn hi
    obtain ⟨n1, n2⟩ := List.nodup_cons.mp hn
    refine List.nodup_cons.mpr ⟨fun q => ?_, ih n2 (fun a q b q' => hi a (List.mem_cons_of_mem _ q) b (List.mem_cons_of_mem _ q'))⟩
    obtain ⟨b, q1, q2⟩ := List.mem_map.mp q
    have := hi b (List.mem_cons_of_mem _ q1) a List.mem_cons_self q2
    rw [this] at q1
    exact n1 q1
theorem mp_in {f : Nat → Int32} : ∀ (l1 l2 : List Nat), l1.map f = l2.map nI → ∀ k, k ∈ l1 → ∃ c, c ∈ l2 ∧ f k = nI c := by
  intro l1 l2 h k q
  have : f k ∈ l2.map nI := by rw [← h]; exact List.mem_map.mpr ⟨k, q, rfl⟩
  obtain ⟨c, q1, q2⟩ := List.mem_map.mp this
  exact ⟨c, q1, q2.symm⟩
theorem mp_uq {f : Nat → Int32} : ∀ (l1 l2 : List Nat), l1.map f = l2.map nI → l2.Nodup → (∀ c, c ∈ l2 → c < 2 ^ 31) → ∀ k k', k ∈ l1 → k' ∈ l1 → f k = f k' → k = k' := by
  intro l1
  induction l1 with
  | nil => intro l2 _ _ _ k k' q; exact absurd q List.not_mem_nil
  | cons a l1 ih =>
    intro l2 h hn hb k k' q q' e
    cases l2 with
    | nil => cases h
    | cons c l2 =>
      have h1 : f a = nI c := (List.cons.inj h).1
      have h2 : l1.map f = l2.map nI := (List.cons.inj h).2
      obtain ⟨n1, n2⟩ := List.nodup_cons.mp hn
      have no : ∀ u, u ∈ l1 → f u ≠ f a := fun u hu e => by
        obtain ⟨c', q1, q2⟩ := mp_in l1 l2 h2 u hu
        rw [e, h1] at q2
        have := (nI_eq (hb c List.mem_cons_self) (hb c' (List.mem_cons_of_mem _ q1))).mp q2
        rw [← this] at q1
        exact n1 q1
      rcases List.mem_cons.mp q with q | q
      · rcases List.mem_cons.mp q' with q' | q'
        · rw [q, q']
        · rw [q] at e
          exact absurd e.symm (no k' q')
      · rcases List.mem_cons.mp q' with q' | q'
        · rw [q'] at e
          exact absurd e (no k q)
        · exact ih l2 h2 n2 (fun c q => hb c (List.mem_cons_of_mem _ q)) k k' q q' e
/-- there is room for one more link -/
theorem lk_room {sz : Nat} {fre awk : List Nat} {wt : Nat → List Nat} {hs : Nat → Nat} (hct : ∀ s, s < nS → SlC S tf s (ct s)) (hC : CHN S sz fre awk wt hs nS isL) (hV : COV S sz fre awk wt nS isL) (hA : awk.map (S.1 73) = aw.map nI) (hW : ∀ s, s < nS → ct s = none → ¬ isL s → (wt s).map (S.1 73) = (wa s).map nI) (hf : fre = []) {c : Nat} (hc : ¬ c ∈ aw) (hcw : ∀ s, s < nS → ct s = none → ¬ isL s → ¬ c ∈ wa s) (hI : LkI g nS ct isL (c :: aw) wa) : sz ≤ nS := by
  obtain ⟨i1, i2, i3, i4, i5, i6⟩ := hI
  have z0 : ∀ s, s < nS → S.1 65 s = 0 → ct s = none := fun s hs h => by
    have := hct s hs
    cases hcs : ct s with
    | none => rfl
    | some a =>
      rw [hcs] at this
      have h2 := this.1
      rw [h] at h2
      have := (nI_eq (a := 0) (b := a.1) (by omega) (by have := this.2.1; omega)).mp h2
      have h3 := (hct s hs)
      rw [hcs] at h3
      have := h3.2.1
      omega
  -- each link has a code
  have cd : ∀ k, 1 ≤ k → k < sz → ∃ d, S.1 73 k = nI d ∧ ((k ∈ awk ∧ d ∈ aw) ∨ ∃ s, s < nS ∧ ct s = none ∧ ¬ isL s ∧ k ∈ wt s ∧ d ∈ wa s) := fun k q1 q2 => by
    rcases hV k q1 q2 with q | q | ⟨s, q3, q4, q5, q6⟩
    · rw [hf] at q
      exact absurd q List.not_mem_nil
    · obtain ⟨d, d1, d2⟩ := mp_in _ _ hA k q
      exact ⟨d, d2, .inl ⟨q, d1⟩⟩
    · have hz := z0 s q3 q4
      obtain ⟨d, d1, d2⟩ := mp_in _ _ (hW s q3 hz q5) k q6
      exact ⟨d, d2, .inr ⟨s, q3, hz, q5, q6, d1⟩⟩
  have lv : ∀ {k d : Nat}, ((k ∈ awk ∧ d ∈ aw) ∨ ∃ s, s < nS ∧ ct s = none ∧ ¬ isL s ∧ k ∈ wt s ∧ d ∈ wa s) → (d ∈ c :: aw ∨ ∃ s, s < nS ∧ ct s = none ∧ ¬ isL s ∧ d ∈ wa s) := fun q => by
    rcases q with q | ⟨s, q1, q2, q3, -, q4⟩
    · exact .inl (List.mem_cons_of_mem _ q.2)
    · exact .inr ⟨s, q1, q2, q3, q4⟩
  have tn : ∀ {k d : Nat}, S.1 73 k = nI d → d < 2 ^ 31 → (S.1 73 k).toNatClampNeg = d := fun h1 h2 => by rw [h1, nI_clamp h2]
  obtain ⟨l, hl⟩ : ∃ l, l = List.range (sz - 1) := ⟨_, rfl⟩
  have lm : ∀ k, k ∈ l → 1 ≤ k + 1 ∧ k + 1 < sz := fun k q => by
    rw [hl, List.mem_range] at q
    omega
  have nd0 : l.Nodup := by rw [hl]; exact List.nodup_range
  have inj : ∀ k, k ∈ l → ∀ k', k' ∈ l → g ((S.1 73 (k + 1)).toNatClampNeg) = g ((S.1 73 (k' + 1)).toNatClampNeg) → k = k' := fun k q k' q' e => by
    obtain ⟨d, d1, d2⟩ := cd (k + 1) (lm k q).1 (lm k q).2
    obtain ⟨d', d1', d2'⟩ := cd (k' + 1) (lm k' q').1 (lm k' q').2
    have b1 := (i5 d (lv d2)).1
    have b2 := (i5 d' (lv d2')).1
    rw [tn d1 b1, tn d1' b2] at e
    have ed := i6 d d' (lv d2) (lv d2') e
    subst ed
    have e73 : S.1 73 (k + 1) = S.1 73 (k' + 1) := d1.trans d1'.symm
    suffices hh : k + 1 = k' + 1 by omega
    have na : aw.Nodup := (List.nodup_cons.mp i1).2
    rcases d2 with ⟨u1, u2⟩ | ⟨s, u1, u2, u3, u4, u5⟩
    · rcases d2' with ⟨v1, v2⟩ | ⟨s', v1, v2, v3, v4, v5⟩
      · exact mp_uq _ _ hA na (fun c' q => (i5 c' (.inl (List.mem_cons_of_mem _ q))).1) (k + 1) (k' + 1) u1 v1 e73
      · exact absurd (List.mem_cons_of_mem _ u2) (i3 s' d v1 v2 v3 v5)
    · rcases d2' with ⟨v1, v2⟩ | ⟨s', v1, v2, v3, v4, v5⟩
      · exact absurd (List.mem_cons_of_mem _ v2) (i3 s d u1 u2 u3 u5)
      · have es := i4 s s' d u1 u2 u3 v1 v2 v3 u5 v5
        subst es
        exact mp_uq _ _ (hW s u1 u2 u3) (i2 s u1 u2 u3) (fun c' q => (i5 c' (.inr ⟨s, u1, u2, u3, q⟩)).1) (k + 1) (k' + 1) u4 v4 e73
  have hlen := nd_len (g c :: l.map (fun k => g ((S.1 73 (k + 1)).toNatClampNeg))) nS (List.nodup_cons.mpr ⟨fun q => ?_, nd_mapI l nd0 inj⟩) (fun u q => ?_)
  · have e1 : (g c :: l.map (fun k => g ((S.1 73 (k + 1)).toNatClampNeg))).length = (sz - 1) + 1 := by
      rw [List.length_cons, List.length_map, hl, List.length_range]
    have := hC.1.2.1
    omega
  · obtain ⟨k, q1, q2⟩ := List.mem_map.mp q
    obtain ⟨d, d1, d2⟩ := cd (k + 1) (lm k q1).1 (lm k q1).2
    have b1 := (i5 d (lv d2)).1
    rw [tn d1 b1] at q2
    have := i6 d c (lv d2) (.inl List.mem_cons_self) q2
    subst this
    rcases d2 with d2 | ⟨s, u1, u2, u3, u4, u5⟩
    · exact hc d2.2
    · exact hcw s u1 u2 u3 u5
  · rcases List.mem_cons.mp q with q | q
    · rw [q]
      exact (i5 c (.inl List.mem_cons_self)).2
    · obtain ⟨k, q1, q2⟩ := List.mem_map.mp q
      obtain ⟨d, d1, d2⟩ := cd (k + 1) (lm k q1).1 (lm k q1).2
      rw [← q2, tn d1 (i5 d (lv d2)).1]
      exact (i5 d (lv d2)).2
theorem sl_z (h : ∀ s, s < nS → SlC S tf s (ct s)) {s : Nat} (hs : s < nS) : S.1 65 s = 0 ↔ ct s = none := by
  have h1 := h s hs
  cases hcs : ct s with
  | none =>
    rw [hcs] at h1
    exact ⟨fun _ => rfl, fun _ => h1⟩
  | some a =>
    rw [hcs] at h1
    refine ⟨fun q => ?_, fun q => by cases q⟩
    have h2 := h1.1
    rw [q] at h2
    have h3 := h1.2.1
    have := (nI_eq (a := 0) (b := a.1) (by omega) (by omega)).mp h2
    omega
theorem sl_cg {s : Nat} {o : Option TVal} (h : SlC S tf s o) (h1 : S'.1 65 s = S.1 65 s) (h2 : o ≠ none → S'.2.1 66 s = S.2.1 66 s) : SlC S' tf s o := by
  cases o with
  | none => exact h1.trans h
  | some a => exact ⟨h1.trans h.1, h.2.1, by rw [h2 (Option.some_ne_none _)]; exact h.2.2⟩
theorem fr_cg {n : Nat} (h : FrO S n) (h1 : S'.1 67 4 = S.1 67 4) (h2 : ∀ a, 68 ≤ a → a ≤ 71 → S'.2.2 a = S.2.2 a) : FrO S' n := by
  obtain ⟨f1, ⟨a, ha, l1, l2, l3, l4⟩, f3⟩ := h
  exact ⟨h1.trans f1, ⟨a, ha, by rw [h2 68 (by omega) (by omega)]; exact l1, by rw [h2 69 (by omega) (by omega)]; exact l2, by rw [h2 70 (by omega) (by omega)]; exact l3, by rw [h2 71 (by omega) (by omega)]; exact l4⟩, by rw [h2 68 (by omega) (by omega)]; exact f3⟩
theorem st_cg {n : Nat} (h : StO S n) (h1 : S'.1 64 2 = S.1 64 2) (h2 : S'.2.2 65 = S.2.2 65) (h3 : S'.2.2 66 = S.2.2 66) (h4 : ∀ i, S'.1 65 i = S.1 65 i) : StO S' n := by
  obtain ⟨o1, ⟨a, ha, l1, l2⟩, o3, o4⟩ := h
  refine ⟨h1.trans o1, ⟨a, ha, by rw [h2]; exact l1, by rw [h3]; exact l2⟩, by rw [h2]; exact o3, gby_i.mpr (fun i hi => ?_)⟩
  rw [h2] at hi
  rw [h4 i]
  exact gby_i.mp o4 i hi
/-- one more is awake -/
theorem o_wake (h : MS S nS nF fb ow si fo ct tf isL lw aw wa) {c : Nat} (hI : LkI g nS ct isL (c :: aw) wa) : ∃ (S' : im_S) (k : Nat), f_X0_add (nI c) (S.1 38 10) S = some (nI k, S') ∧ MS (uI S' 38 10 (nI k)) nS nF fb ow si fo ct tf isL lw (c :: aw) wa ∧ MK S (uI S' 38 10 (nI k)) := by
  obtain ⟨⟨h1, h1'⟩, h2, h3, h4, h5, sz, fre, awk, wt, hs, c1, c2, c3, c4, c5⟩ := h
  have hca : ¬ c ∈ aw := (List.nodup_cons.mp hI.1).1
  have hcw : ∀ s, s < nS → ct s = none → ¬ isL s → ¬ c ∈ wa s := fun s q1 q2 q3 q => hI.2.2.1 s c q1 q2 q3 q List.mem_cons_self
  have hroom : fre = [] → sz ≤ nS := fun hf => lk_room h4 c1 c2 c4 c5 hf hca hcw hI
  obtain ⟨S', k, sz', fre', a1, a2, a3, a4, a5, a6, a7, a8, a9, a10, a11, a12, a13⟩ := k_wake c1 (by omega) (who := nI c)
  have ne : ∀ {a i : Nat}, a ≠ 38 ∨ i ≠ 10 → (uI S' 38 10 (nI k)).1 a i = S'.1 a i := fun q => uI_ne q
  have hk1 : k < sz' := a5
  have hkw : ∀ s, s < nS → ct s = none → ¬ isL s → ¬ k ∈ wt s := fun s q1 q2 q3 q => by
    obtain ⟨w, -, -, -, w4⟩ := c1.2.2.2 s q1 ((sl_z h4 q1).mpr q2) q3
    have := w4 k q
    rcases a3 with ⟨e1, e2⟩ | ⟨e1, e2, e3, e4⟩
    · have := c1.2.1 k (by rw [e1]; exact List.mem_cons_self)
      omega
    · omega
  refine ⟨S', k, a1, ⟨⟨st_cg h1 ?_ ?_ ?_ (fun i => ?_), h1'⟩, fr_cg h2 ?_ (fun a q1 q2 => ?_), fun f hf => ?_, fun s hs' => ?_, fun s q => ⟨(h5 s q).1, (h5 s q).2.1, by show S'.2.1 66 s = lw s; rw [a8]; exact (h5 s q).2.2⟩, sz', fre', k :: awk, wt, _, a2, ?_, ?_, ?_, fun s q1 q2 q3 => ?_⟩, fun a i q1 q2 => ?_, fun a i q => ?_, fun a q => ?_⟩
  · rw [ne (by omega)]; exact a7 64 2 (by omega) (by omega)
  · exact a9 65 (by omega) (by omega)
  · exact a9 66 (by omega) (by omega)
  · rw [ne (by omega)]; exact a7 65 i (by omega) (by omega)
  · rw [ne (by omega)]; exact a7 67 4 (by omega) (by omega)
  · exact a9 a (by omega) (by omega)
  · rw [ne (by omega), ne (by omega), ne (by omega), ne (by omega), a7 68 f (by omega) (by omega), a7 69 f (by omega) (by omega), a7 70 f (by omega) (by omega), a7 71 f (by omega) (by omega)]
    exact h3 f hf
  · refine sl_cg (h4 s hs') ?_ (fun _ => ?_)
    · rw [ne (by omega)]; exact a7 65 s (by omega) (by omega)
    · show S'.2.1 66 s = S.2.1 66 s
      rw [a8]
  · exact COV_wake c2 a3 (fun s _ => by rw [ne (by omega)]; exact a7 65 s (by omega) (by omega))
  · rcases a3 with ⟨e1, e2⟩ | ⟨e1, e2, e3, e4⟩
    · omega
    · have := hroom e1
      omega
  · rw [List.map_cons, List.map_cons, ne (by omega), a6, ← c4]
    congr 1
    refine List.map_congr_left (fun k' q => ?_)
    rw [ne (by omega)]
    have hk' := (c1.2.2.1.2.2 k' q).1
    exact a7 73 k' (by omega) (fun _ => ⟨fun e => a4 (by rw [← e]; exact q), hk'⟩)
  · rw [← c5 s q1 q2 q3]
    refine List.map_congr_left (fun k' q => ?_)
    rw [ne (by omega)]
    obtain ⟨w, -, -, -, w4⟩ := c1.2.2.2 s q1 ((sl_z h4 q1).mpr q2) q3
    exact a7 73 k' (by omega) (fun _ => ⟨fun e => hkw s q1 q2 q3 (by rw [← e]; exact q), (w4 k' q).1⟩)
  · rw [ne (by omega)]; exact a7 a i (by omega) (by omega)
  · show S'.2.1 a i = S.2.1 a i
    rw [a8]
  · exact a9 a (by omega) (by omega)
/-- one waits at a slot -/
theorem o_await (h : MS S nS nF fb ow si fo ct tf isL lw aw wa) {c s : Nat} {x1 x2 : Int32} (hx : x1 * 512 + x2 = nI c) (hs : s < nS) (h0 : ct s = none) (hl : ¬ isL s) (hca : ¬ c ∈ aw) (hcw : ∀ s, s < nS → ct s = none → ¬ isL s → ¬ c ∈ wa s) (hI : LkI g nS ct isL (c :: aw) wa) : ∃ S' : im_S, f_X5_await (nI s) x1 x2 S = some ((), S') ∧ MS S' nS nF fb ow si fo ct tf isL lw aw (upN wa s (c :: wa s)) ∧ MK S S' := by
  obtain ⟨⟨h1, h1'⟩, h2, h3, h4, h5, sz, fre, awk, wt, hs', c1, c2, c3, c4, c5⟩ := h
  have hroom : fre = [] → sz ≤ nS := fun hf => lk_room h4 c1 c2 c4 c5 hf hca hcw hI
  have l66 : nS ≤ S.2.2 66 ∧ S.2.2 66 < 2 ^ 31 := by
    obtain ⟨o1, ⟨a, ha, l1, l2⟩, o3, o4⟩ := h1
    have h9 : (2 : Nat) ^ a ≤ 2 ^ 9 := p2_le ha
    have h9' : (2 : Nat) ^ 9 = 512 := rfl
    omega
  obtain ⟨S', k, sz', fre', a1, a2, a3, a4, a4', a5, a6, a7, a8, a9, a10⟩ := k_await c1 (by omega) (f := x1) (nd := x2) hs ((sl_z h4 hs).mpr h0) hl l66.1 l66.2
  have hkw : ∀ s, s < nS → ct s = none → ¬ isL s → ¬ k ∈ wt s := fun s q1 q2 q3 q => by
    obtain ⟨w, -, -, -, w4⟩ := c1.2.2.2 s q1 ((sl_z h4 q1).mpr q2) q3
    have := w4 k q
    rcases a3 with ⟨e1, e2⟩ | ⟨e1, e2, e3, e4⟩
    · have := c1.2.1 k (by rw [e1]; exact List.mem_cons_self)
      omega
    · omega
  have e65 : ∀ i, S'.1 65 i = S.1 65 i := fun i => a7 65 i (by omega) (by omega)
  refine ⟨S', a1, ⟨⟨st_cg h1 (a7 64 2 (by omega) (by omega)) (a9 65 (by omega) (by omega)) (a9 66 (by omega) (by omega)) e65, h1'⟩, fr_cg h2 (a7 67 4 (by omega) (by omega)) (fun a q1 q2 => a9 a (by omega) (by omega)), fun f hf => ?_, fun s' q => ?_, fun s' q => ⟨(h5 s' q).1, (h5 s' q).2.1, (a8 66 s' (fun _ e => hl (by rw [← e]; exact q))).trans (h5 s' q).2.2⟩, sz', fre', awk, _, _, a2, COV_await c2 a3 (fun s _ => e65 s) hs ((sl_z h4 hs).mpr h0) hl, ?_, ?_, fun s' q1 q2 q3 => ?_⟩, fun a i q1 q2 => a7 a i (by omega) (by omega), fun a i q => a8 a i (by omega), fun a q => a9 a (by omega) (by omega)⟩
  · rw [a7 68 f (by omega) (by omega), a7 69 f (by omega) (by omega), a7 70 f (by omega) (by omega), a7 71 f (by omega) (by omega)]
    exact h3 f hf
  · refine sl_cg (h4 s' q) (e65 s') (fun e => a8 66 s' (fun _ e' => ?_))
    rw [e'] at e
    exact e h0
  · rcases a3 with ⟨e1, e2⟩ | ⟨e1, e2, e3, e4⟩
    · omega
    · have := hroom e1
      omega
  · rw [← c4]
    refine List.map_congr_left (fun k' q => ?_)
    have hk' := (c1.2.2.1.2.2 k' q).1
    exact a7 73 k' (by omega) (fun _ => ⟨fun e => a4' (by rw [← e]; exact q), hk'⟩)
  · have key : ∀ k', k' ∈ wt s' → S'.1 73 k' = S.1 73 k' := fun k' q => by
      obtain ⟨w, -, -, -, w4⟩ := c1.2.2.2 s' q1 ((sl_z h4 q1).mpr q2) q3
      exact a7 73 k' (by omega) (fun _ => ⟨fun e => hkw s' q1 q2 q3 (by rw [← e]; exact q), (w4 k' q).1⟩)
    by_cases e : s' = s
    · subst e
      rw [upN_eq, upN_eq, List.map_cons, List.map_cons, a6, hx, ← c5 s' q1 q2 q3]
      congr 1
      exact List.map_congr_left key
    · rw [upN_ne e, upN_ne e, ← c5 s' q1 q2 q3]
      exact List.map_congr_left key
/-- the first of the awake ones is taken -/
theorem o_pop {c : Nat} (h : MS S nS nF fb ow si fo ct tf isL lw (c :: aw) wa) : ∃ k, S.1 38 10 = nI k ∧ 1 ≤ k ∧ k < 2 ^ 31 ∧ k < S.2.2 73 ∧ k < S.2.2 74 ∧ S.1 73 k = nI c ∧ ∃ S' : im_S, f_X0_release (nI k) (uI S 38 10 (S.1 74 k)) = some ((), S') ∧ MS S' nS nF fb ow si fo ct tf isL lw aw wa ∧ MK S S' := by
  obtain ⟨⟨h1, h1'⟩, h2, h3, h4, h5, sz, fre, awk, wt, hs', c1, c2, c3, c4, c5⟩ := h
  cases awk with
  | nil => cases c4
  | cons k awk =>
    obtain ⟨g1, g2, g3, S', g4, g5, g6, g7⟩ := k_pop c1
    have e1 : S.1 73 k = nI c := (List.cons.inj c4).1
    have e2 : awk.map (S.1 73) = aw.map nI := (List.cons.inj c4).2
    have hsz := c1.1.2.2.2.2.2.2
    have h74 : S.2.2 74 = S.2.2 73 := by
      obtain ⟨a, -, l1, l2⟩ := c1.1.2.2.2.2.2.1
      rw [l1, l2]
    have e65 : ∀ i, S'.1 65 i = S.1 65 i := fun i => g6 65 i (by omega) (by omega) (by omega)
    have l2 : S'.2.2 = S.2.2 := by rw [g7]
    refine ⟨k, g1, g2, by omega, by omega, by omega, e1, S', g4, ⟨⟨st_cg h1 (g6 64 2 (by omega) (by omega) (by omega)) (by rw [l2]) (by rw [l2]) e65, h1'⟩, fr_cg h2 (g6 67 4 (by omega) (by omega) (by omega)) (fun a _ _ => by rw [l2]), fun f hf => ?_, fun s' q => ?_, fun s' q => ⟨(h5 s' q).1, (h5 s' q).2.1, by rw [g7]; exact (h5 s' q).2.2⟩, sz, k :: fre, awk, wt, _, g5, COV_pop c2 (fun s _ => e65 s), c3, ?_, fun s' q1 q2 q3 => ?_⟩, fun a i q1 q2 => g6 a i (by omega) q2 (by omega), fun a i q => by rw [g7], fun a q => by rw [l2]⟩
    · rw [g6 68 f (by omega) (by omega) (by omega), g6 69 f (by omega) (by omega) (by omega), g6 70 f (by omega) (by omega) (by omega), g6 71 f (by omega) (by omega) (by omega)]
      exact h3 f hf
    · exact sl_cg (h4 s' q) (e65 s') (fun _ => by rw [g7])
    · rw [← e2]
      exact List.map_congr_left (fun k' q => g6 73 k' (by omega) (by omega) (by omega))
    · rw [← c5 s' q1 q2 q3]
      exact List.map_congr_left (fun k' q => g6 73 k' (by omega) (by omega) (by omega))
theorem o_nil (h : MS S nS nF fb ow si fo ct tf isL lw [] wa) : S.1 38 10 = 0 := by
  obtain ⟨⟨h1, h1'⟩, h2, h3, h4, h5, sz, fre, awk, wt, hs', c1, c2, c3, c4, c5⟩ := h
  cases awk with
  | nil => exact c1.2.2.1.1
  | cons k awk => cases c4
theorem o_put (h : MS S nS nF fb ow si fo ct tf isL lw aw wa) {s : Nat} {a : TVal} {w : Int64} (hs : s < nS) (h0 : ct s = none) (hl : ¬ isL s) (hw : wa s = []) (ha : 1 ≤ a.1 ∧ a.1 ≤ 4) (hE : EcW tf a w) : f_X8_put (nI s) (nI a.1) w S = some ((), uJ (uI S 65 s (nI a.1)) 66 s w) ∧ MS (uJ (uI S 65 s (nI a.1)) 66 s w) nS nF fb ow si fo (upN ct s (some a)) tf isL lw aw wa ∧ MK S (uJ (uI S 65 s (nI a.1)) 66 s w) := by
  obtain ⟨⟨h1, h1'⟩, h2, h3, h4, h5, sz, fre, awk, wt, hs', c1, c2, c3, c4, c5⟩ := h
  obtain ⟨p1, p2⟩ := k_put (c := a.1) (v := w) h1 hs (by omega)
  have ne : ∀ {b i : Nat}, b ≠ 65 ∨ i ≠ s → (uJ (uI S 65 s (nI a.1)) 66 s w).1 b i = S.1 b i := fun q => uI_ne q
  have ne2 : ∀ {b i : Nat}, b ≠ 66 ∨ i ≠ s → (uJ (uI S 65 s (nI a.1)) 66 s w).2.1 b i = S.2.1 b i := fun q => uJ_ne q
  have eq1 : (uJ (uI S 65 s (nI a.1)) 66 s w).1 65 s = nI a.1 := by
    show (uI S 65 s (nI a.1)).1 65 s = nI a.1
    exact uI_eq
  have hwt : wt s = [] := by
    have := c5 s hs h0 hl
    rw [hw] at this
    exact List.map_eq_nil_iff.mp this
  have cg : ∀ {x : Int32} {ks : List Nat}, Lkd S x ks → Lkd (uJ (uI S 65 s (nI a.1)) 66 s w) x ks := fun {x ks} q => Lkd_cg (S := S) ks x (fun k _ => ne (by omega)) q
  refine ⟨p1, ⟨⟨p2, h1'⟩, fr_cg h2 (ne (by omega)) (fun a _ _ => rfl), fun f hf => ?_, fun s' q => ?_, fun s' q => ?_, sz, fre, awk, wt, hs', ?_, fun k q1 q2 => ?_, c3, ?_, fun s' q1 q2 q3 => ?_⟩, fun b i q1 q2 => ne (by omega), fun b i q => ne2 (by omega), fun b q => rfl⟩
  · rw [ne (by omega), ne (by omega), ne (by omega), ne (by omega)]
    exact h3 f hf
  · by_cases e : s' = s
    · subst e
      rw [upN_eq]
      refine ⟨eq1, ha, ?_⟩
      rw [uJ_eq]
      exact hE
    · rw [upN_ne e]
      exact sl_cg (h4 s' q) (ne (by omega)) (fun _ => ne2 (by omega))
  · have : s' ≠ s := fun e => hl (by rw [← e]; exact q)
    rw [upN_ne this]
    exact ⟨(h5 s' q).1, (h5 s' q).2.1, (ne2 (by omega)).trans (h5 s' q).2.2⟩
  · obtain ⟨⟨d1, d2, d3, d4, d5, d6, d7⟩, e2, ⟨e3, e4, e5⟩, e6⟩ := c1
    refine ⟨⟨(ne (by omega)).trans d1, d2, by rw [ne (by omega)]; exact cg d3, d4, d5, d6, d7⟩, e2, ⟨by rw [ne (by omega)]; exact cg e3, e4, e5⟩, fun s' q1 q2 q3 => ?_⟩
    have hne : s' ≠ s := fun e => by
      rw [e, eq1] at q2
      have := (nI_eq (a := a.1) (b := 0) (by omega) (by omega)).mp q2
      omega
    rw [ne (by omega)] at q2
    obtain ⟨x, x1, x2, x3, x4⟩ := e6 s' q1 q2 q3
    exact ⟨x, by rw [ne2 (by omega)]; exact x1, cg x2, x3, x4⟩
  · rcases c2 k q1 q2 with q | q | ⟨s', v1, v2, v3, v4⟩
    · exact .inl q
    · exact .inr (.inl q)
    · have hne : s' ≠ s := fun e => by
        rw [e, hwt] at v4
        exact absurd v4 List.not_mem_nil
      exact .inr (.inr ⟨s', v1, by rw [ne (by omega)]; exact v2, v3, v4⟩)
  · rw [← c4]
    exact List.map_congr_left (fun k' q => ne (by omega))
  · have hne : s' ≠ s := fun e => by
      rw [e, upN_eq] at q2
      cases q2
    rw [upN_ne hne] at q2
    rw [← c5 s' q1 q2 q3]
    exact List.map_congr_left (fun k' q => ne (by omega))
/-- what others may wait for is there -/
theorem o_settle (hfu : 600000 ≤ fu) (h : MS S nS nF fb ow si fo ct tf isL lw aw wa) {s : Nat} {a : TVal} {w : Int64} (hs : s < nS) (h0 : ct s = none) (hl : ¬ isL s) (ha : 1 ≤ a.1 ∧ a.1 ≤ 4) (hE : EcW tf a w) : ∃ S' : im_S, f_X5_settle fu (nI s) (nI a.1) w S = some ((), S') ∧ MS S' nS nF fb ow si fo (upN ct s (some a)) tf isL lw ((wa s).reverse ++ aw) wa ∧ MK S S' := by
  obtain ⟨⟨h1, h1'⟩, h2, h3, h4, h5, sz, fre, awk, wt, hs', c1, c2, c3, c4, c5⟩ := h
  obtain ⟨S', hs2, g1, g2, g3, g4, g5, g6, g7, g8⟩ := k_settle (c := a.1) (v := w) hfu (by omega) c1 h1 hs ((sl_z h4 hs).mpr h0) hl (by omega) (by omega)
  refine ⟨S', g1, ⟨⟨g3, h1'⟩, fr_cg h2 (g6 67 4 (by omega) (by omega) (by omega)) (fun a _ _ => by rw [g8]), fun f hf => ?_, fun s' q => ?_, fun s' q => ?_, sz, fre, _, wt, hs2, g2, ?_, c3, ?_, fun s' q1 q2 q3 => ?_⟩, fun b i q1 q2 => g6 b i q2 (by omega) (by omega), fun b i q => g7 b i (by omega), fun b q => by rw [g8]⟩
  · rw [g6 68 f (by omega) (by omega) (by omega), g6 69 f (by omega) (by omega) (by omega), g6 70 f (by omega) (by omega) (by omega), g6 71 f (by omega) (by omega) (by omega)]
    exact h3 f hf
  · by_cases e : s' = s
    · subst e
      rw [upN_eq]
      refine ⟨g4, ha, ?_⟩
      rw [g5]
      exact hE
    · rw [upN_ne e]
      exact sl_cg (h4 s' q) (g6 65 s' (by omega) (by omega) (by omega)) (fun _ => g7 66 s' (by omega))
  · have : s' ≠ s := fun e => hl (by rw [← e]; exact q)
    rw [upN_ne this]
    exact ⟨(h5 s' q).1, (h5 s' q).2.1, (g7 66 s' (by omega)).trans (h5 s' q).2.2⟩
  · exact COV_settle c2 (fun s' _ e => g6 65 s' (by omega) (by omega) (by omega))
  · rw [List.map_append, List.map_append, List.map_reverse, List.map_reverse, ← c4, ← c5 s hs h0 hl]
    congr 1
    · congr 1
      exact List.map_congr_left (fun k' q => g6 73 k' (by omega) (by omega) (by omega))
    · exact List.map_congr_left (fun k' q => g6 73 k' (by omega) (by omega) (by omega))
  · have hne : s' ≠ s := fun e => by
      rw [e, upN_eq] at q2
      cases q2
    rw [upN_ne hne] at q2
    rw [← c5 s' q1 q2 q3]
    exact List.map_congr_left (fun k' q => g6 73 k' (by omega) (by omega) (by omega))
/-- a frame's number is written -/
theorem o_sec (h : MS S nS nF fb ow si fo ct tf isL lw aw wa) {s : Nat} {w : Int64} (hl : isL s) : MS (uJ S 66 s w) nS nF fb ow si fo ct tf isL (upN lw s w) aw wa ∧ MK S (uJ S 66 s w) := by
  obtain ⟨⟨h1, h1'⟩, h2, h3, h4, h5, sz, fre, awk, wt, hs', c1, c2, c3, c4, c5⟩ := h
  have cg : ∀ {x : Int32} {ks : List Nat}, Lkd S x ks → Lkd (uJ S 66 s w) x ks := fun {x ks} q => Lkd_cg (S := S) ks x (fun k _ => rfl) q
  refine ⟨⟨⟨st_cg h1 rfl rfl rfl (fun _ => rfl), h1'⟩, fr_cg h2 rfl (fun a _ _ => rfl), h3, fun s' q => ?_, fun s' q => ⟨(h5 s' q).1, (h5 s' q).2.1, ?_⟩, sz, fre, awk, wt, hs', ?_, c2, c3, c4, c5⟩, fun b i q1 q2 => rfl, fun b i q => uJ_ne (by omega), fun b q => rfl⟩
  · refine sl_cg (h4 s' q) rfl (fun e => uJ_ne (.inr (fun e' => ?_)))
    rw [e'] at e
    exact e (h5 s hl).1
  · by_cases e : s' = s
    · subst e
      rw [upN_eq, uJ_eq]
    · rw [upN_ne e, uJ_ne (.inr e)]
      exact (h5 s' q).2.2
  · obtain ⟨⟨d1, d2, d3, d4, d5, d6, d7⟩, e2, ⟨e3, e4, e5⟩, e6⟩ := c1
    refine ⟨⟨d1, d2, cg d3, d4, d5, d6, d7⟩, e2, ⟨cg e3, e4, e5⟩, fun s' q1 q2 q3 => ?_⟩
    obtain ⟨x, x1, x2, x3, x4⟩ := e6 s' q1 q2 q3
    exact ⟨x, by rw [uJ_ne (.inr (fun e => q3 (by rw [e]; exact hl)))]; exact x1, cg x2, x3, x4⟩
/-- more slots -/
theorem o_grow {S' : im_S} {nS' nF' : Nat} {fb' : Nat → Nat} {ow' si' fo' : Nat → Int32} {ct' : Nat → Option TVal} {isL' : Nat → Prop} {lw' : Nat → Int64} (h : MS S nS nF fb ow si fo ct tf isL lw aw wa) (hO : StO S' nS') (hF : FrO S' nF') (hb : nS ≤ nS') (hb' : nS' ≤ 523264)
    (hf : ∀ f, f < nF' → S'.1 68 f = nI (fb' f) ∧ S'.1 69 f = ow' f ∧ S'.1 70 f = si' f ∧ S'.1 71 f = fo' f) (hz : ∀ s, nS ≤ s → s < nS' → S'.1 65 s = 0 ∧ S'.2.1 66 s = 0)
    (hs : ∀ s, s < nS → S'.1 65 s = S.1 65 s ∧ S'.2.1 66 s = S.2.1 66 s) (hc : ∀ a i : Nat, a = 72 ∨ a = 73 ∨ a = 74 ∨ a = 38 → S'.1 a i = S.1 a i) (hl : S'.2.2 73 = S.2.2 73 ∧ S'.2.2 74 = S.2.2 74)
    (hct : ∀ s, s < nS → ct' s = ct s) (hct' : ∀ s, nS ≤ s → s < nS' → ct' s = none) (hL : ∀ s, s < nS → (isL' s ↔ isL s)) (hL' : ∀ s, isL' s → s < nS') (hlw : ∀ s, s < nS → lw' s = lw s) (hlw' : ∀ s, nS ≤ s → lw' s = 0) : MS S' nS' nF' fb' ow' si' fo' ct' tf isL' lw' aw (fun s => if s < nS then wa s else []) := by
  obtain ⟨⟨h1, h1'⟩, h2, h3, h4, h5, sz, fre, awk, wt, hs', c1, c2, c3, c4, c5⟩ := h
  have c1' : CHN S sz fre awk (fun s => if s < nS then wt s else []) hs' nS isL := by
    obtain ⟨e1, e2, e3, e6⟩ := c1
    refine ⟨e1, e2, e3, fun s q1 q2 q3 => ?_⟩
    have e7 : (fun s => if s < nS then wt s else []) s = wt s := if_pos q1
    rw [e7]
    exact e6 s q1 q2 q3
  refine ⟨⟨hO, hb'⟩, hF, hf, fun s q => ?_, fun s q => ?_, sz, fre, awk, fun s => if s < nS then wt s else [], hs', CHN_open c1' hc hl hs (fun s q1 q2 => ⟨(hz s q1 q2).2, if_neg (by omega)⟩) (fun s q1 q2 => (hL s q1).mpr q2), fun k q1 q2 => ?_, by omega, ?_, fun s q1 q2 q3 => ?_⟩
  · rcases Nat.lt_or_ge s nS with c | c
    · rw [hct s c]
      exact sl_cg (h4 s c) (hs s c).1 (fun _ => (hs s c).2)
    · rw [hct' s c q]
      exact (hz s c q).1
  · rcases Nat.lt_or_ge s nS with c | c
    · rw [hct s c, hlw s c, (hs s c).2]
      obtain ⟨u1, u2, u3⟩ := h5 s ((hL s c).mp q)
      exact ⟨u1, by omega, u3⟩
    · exact ⟨hct' s c (hL' s q), hL' s q, by rw [hlw' s c]; exact (hz s c (hL' s q)).2⟩
  · rcases c2 k q1 q2 with q | q | ⟨s, v1, v2, v3, v4⟩
    · exact .inl q
    · exact .inr (.inl q)
    · refine .inr (.inr ⟨s, by omega, (hs s v1).1.trans v2, fun q => v3 ((hL s v1).mp q), ?_⟩)
      show k ∈ (if s < nS then wt s else [])
      rw [if_pos v1]
      exact v4
  · rw [← c4]
    exact List.map_congr_left (fun k' q => hc 73 k' (by omega))
  · rcases Nat.lt_or_ge s nS with c | c
    · show (if s < nS then wt s else []).map (S'.1 73) = (if s < nS then wa s else []).map nI
      rw [if_pos c, if_pos c, ← c5 s c (by rw [← hct s c]; exact q2) (fun q => q3 ((hL s c).mpr q))]
      exact List.map_congr_left (fun k' q => hc 73 k' (by omega))
    · show (if s < nS then wt s else []).map (S'.1 73) = (if s < nS then wa s else []).map nI
      rw [if_neg (by omega), if_neg (by omega)]
      rfl
end MSS
