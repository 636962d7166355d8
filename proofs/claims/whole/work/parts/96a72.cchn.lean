/-! the class's chains: those that are awake, those that wait at slots, free links -/
/-- fre, awk, wt: lists of links; hs: who holds a link (0 free, 1 awake, s + 2 waits at slot s); isL: slots that hold a frame's number -/
def CHN (S : im_S) (sz : Nat) (fre awk : List Nat) (wt : Nat → List Nat) (hs : Nat → Nat) (nS : Nat) (isL : Nat → Prop) : Prop :=
  ChO S sz fre ∧ (∀ k, k ∈ fre → hs k = 0) ∧ (Lkd S (S.1 38 10) awk ∧ awk.Nodup ∧ ∀ k, k ∈ awk → k < sz ∧ hs k = 1) ∧
  ∀ s, s < nS → S.1 65 s = 0 → ¬ isL s → ∃ w : Int32, S.2.1 66 s = w.toInt64 ∧ Lkd S w (wt s) ∧ (wt s).Nodup ∧ ∀ k, k ∈ wt s → k < sz ∧ hs k = s + 2
theorem Lkd_ge {S : im_S} : ∀ (ks : List Nat) (w : Int32), Lkd S w ks → ∀ k, k ∈ ks → 1 ≤ k := by
  intro ks
  induction ks with
  | nil => intro w _ k h; exact absurd h List.not_mem_nil
  | cons a ks ih =>
    intro w h k hk
    rcases List.mem_cons.mp hk with rfl | hk
    · exact h.2.1
    · exact ih _ h.2.2 k hk
section CHS
variable {S : im_S} {sz nS : Nat} {fre awk : List Nat} {wt : Nat → List Nat} {hs : Nat → Nat} {isL : Nat → Prop}
/-- a link that nobody holds but the free ones, behind add -/
theorem CHN_add (h : CHN S sz fre awk wt hs nS isL) {S1 : im_S} {k sz' : Nat} {fre' : List Nat} (c : ChO S1 sz' fre') (hk : (fre = k :: fre' ∧ sz' = sz) ∨ (fre = [] ∧ fre' = [] ∧ k = sz ∧ sz' = sz + 1)) (hf : ∀ a i : Nat, (a = 72 → i ≠ 2 ∧ i ≠ 3) → (a = 73 ∨ a = 74 → i ≠ k ∧ i < sz) → S1.1 a i = S.1 a i) (hj : S1.2.1 = S.2.1) : (¬ k ∈ awk ∧ ∀ s, s < nS → S.1 65 s = 0 → ¬ isL s → ¬ k ∈ wt s) ∧ ∀ id, CHN S1 sz' fre' awk wt (upN hs k id) nS isL := by
  obtain ⟨h1, h2, ⟨h3, h4, h5⟩, h6⟩ := h
  have ha : ¬ k ∈ awk := fun q => by
    rcases hk with ⟨e1, e2⟩ | ⟨e1, e2, e3, e4⟩
    · have := (h5 k q).2
      have := h2 k (by rw [e1]; exact List.mem_cons_self)
      omega
    · have := (h5 k q).1
      omega
  have hw : ∀ s, s < nS → S.1 65 s = 0 → ¬ isL s → ¬ k ∈ wt s := fun s q1 q2 q3 q => by
    obtain ⟨w, w1, w2, w3, w4⟩ := h6 s q1 q2 q3
    rcases hk with ⟨e1, e2⟩ | ⟨e1, e2, e3, e4⟩
    · have := (w4 k q).2
      have := h2 k (by rw [e1]; exact List.mem_cons_self)
      omega
    · have := (w4 k q).1
      omega
  have hf' : ∀ k', k' ∈ fre' → k' ∈ fre ∧ k' ≠ k := fun k' q => by
    rcases hk with ⟨e1, e2⟩ | ⟨e1, e2, e3, e4⟩
    · have hn := h1.2.2.2.2.1
      rw [e1] at hn
      exact ⟨by rw [e1]; exact List.mem_cons_of_mem _ q, fun e => (List.nodup_cons.mp hn).1 (by rw [← e]; exact q)⟩
    · rw [e2] at q
      exact absurd q List.not_mem_nil
  have hsz : sz ≤ sz' := by
    rcases hk with ⟨e1, e2⟩ | ⟨e1, e2, e3, e4⟩ <;> omega
  refine ⟨⟨ha, hw⟩, fun id => ⟨c, fun k' q => ?_, ⟨?_, h4, fun k' q => ?_⟩, fun s q1 q2 q3 => ?_⟩⟩
  · rw [upN_ne (hf' k' q).2]
    exact h2 k' (hf' k' q).1
  · rw [hf 38 10 (by omega) (by omega)]
    exact Lkd_cg awk _ (fun k' q => hf 74 k' (by omega) (fun _ => ⟨fun e => ha (by rw [← e]; exact q), (h5 k' q).1⟩)) h3
  · have := h5 k' q
    rw [upN_ne (fun e => ha (by rw [← e]; exact q))]
    exact ⟨by omega, this.2⟩
  · rw [hf 65 s (by omega) (by omega)] at q2
    obtain ⟨w, w1, w2, w3, w4⟩ := h6 s q1 q2 q3
    refine ⟨w, by rw [hj]; exact w1, Lkd_cg _ _ (fun k' q => hf 74 k' (by omega) (fun _ => ⟨fun e => hw s q1 q2 q3 (by rw [← e]; exact q), (w4 k' q).1⟩)) w2, w3, fun k' q => ?_⟩
    have := w4 k' q
    rw [upN_ne (fun e => hw s q1 q2 q3 (by rw [← e]; exact q))]
    exact ⟨by omega, this.2⟩
/-- a node is put to the awake ones -/
theorem k_wake (h : CHN S sz fre awk wt hs nS isL) (hz : sz < 524288) {who : Int32} : ∃ (S' : im_S) (k sz' : Nat) (fre' : List Nat), f_X0_add who (S.1 38 10) S = some (nI k, S') ∧ CHN (uI S' 38 10 (nI k)) sz' fre' (k :: awk) wt (upN hs k 1) nS isL ∧ ((fre = k :: fre' ∧ sz' = sz) ∨ (fre = [] ∧ fre' = [] ∧ k = sz ∧ sz' = sz + 1)) ∧ ¬ k ∈ awk ∧ k < sz' ∧ S'.1 73 k = who ∧ (∀ a i : Nat, (a = 72 → i ≠ 2 ∧ i ≠ 3) → (a = 73 ∨ a = 74 → i ≠ k ∧ i < sz) → S'.1 a i = S.1 a i) ∧ S'.2.1 = S.2.1 ∧ (∀ a, a ≠ 73 → a ≠ 74 → S'.2.2 a = S.2.2 a) ∧ S.2.2 73 ≤ S'.2.2 73 ∧ S'.2.2 73 ≤ 524288 ∧ S'.2.2 74 = S'.2.2 73 ∧ S.2.2 74 = S.2.2 73 := by
  obtain ⟨S', k, sz', fre', a1, a2, a3, a4, a5, a6, a7, a8, a9, a10, a11, a12, a13, a14, a15⟩ := k_ladd (x1 := who) (x2 := S.1 38 10) h.1 hz
  obtain ⟨⟨b1, b2⟩, b3⟩ := CHN_add h a2 a8 a9 a10
  obtain ⟨c1, c2, ⟨c3, c4, c5⟩, c6⟩ := b3 1
  have e74 : ∀ i, (uI S' 38 10 (nI k)).1 74 i = S'.1 74 i := fun i => uI_ne (by omega)
  have cg : ∀ {w : Int32} {ks : List Nat}, Lkd S' w ks → Lkd (uI S' 38 10 (nI k)) w ks := fun q => Lkd_cg _ _ (fun i _ => e74 i) q
  refine ⟨S', k, sz', fre', a1, ⟨?_, c2, ⟨?_, ?_, fun k' q => ?_⟩, fun s q1 q2 q3 => ?_⟩, a8, b1, a4, a6, a9, a10, a11, a12, a13, a14, a15⟩
  · obtain ⟨d1, d2, d3, d4, d5, d6, d7⟩ := c1
    exact ⟨by rw [uI_ne (by omega)]; exact d1, d2, by rw [uI_ne (by omega)]; exact cg d3, d4, d5, d6, d7⟩
  · rw [uI_eq]
    refine ⟨rfl, a3, ?_⟩
    rw [e74, a7]
    rw [a9 38 10 (by omega) (by omega)] at c3
    exact cg c3
  · exact List.nodup_cons.mpr ⟨b1, c4⟩
  · rcases List.mem_cons.mp q with rfl | q
    · exact ⟨a4, upN_eq⟩
    · exact c5 k' q
  · rw [uI_ne (by omega)] at q2
    obtain ⟨w, w1, w2, w3, w4⟩ := c6 s q1 q2 q3
    exact ⟨w, w1, cg w2, w3, w4⟩
/-- a node waits at a slot -/
theorem k_await (h : CHN S sz fre awk wt hs nS isL) (hz : sz < 524288) {s : Nat} {f nd : Int32} (hsn : s < nS) (hs0 : S.1 65 s = 0) (hsl : ¬ isL s) (hn66 : nS ≤ S.2.2 66) (hl66 : S.2.2 66 < 2 ^ 31) : ∃ (S' : im_S) (k sz' : Nat) (fre' : List Nat), f_X5_await (nI s) f nd S = some ((), S') ∧ CHN S' sz' fre' awk (upN wt s (k :: wt s)) (upN hs k (s + 2)) nS isL ∧ ((fre = k :: fre' ∧ sz' = sz) ∨ (fre = [] ∧ fre' = [] ∧ k = sz ∧ sz' = sz + 1)) ∧ ¬ k ∈ wt s ∧ ¬ k ∈ awk ∧ k < sz' ∧ S'.1 73 k = f * 512 + nd ∧ (∀ a i : Nat, (a = 72 → i ≠ 2 ∧ i ≠ 3) → (a = 73 ∨ a = 74 → i ≠ k ∧ i < sz) → S'.1 a i = S.1 a i) ∧ (∀ a i : Nat, (a = 66 → i ≠ s) → S'.2.1 a i = S.2.1 a i) ∧ (∀ a, a ≠ 73 → a ≠ 74 → S'.2.2 a = S.2.2 a) ∧ S.2.2 73 ≤ S'.2.2 73 ∧ S'.2.2 73 ≤ 524288 ∧ S'.2.2 74 = S'.2.2 73 ∧ S.2.2 74 = S.2.2 73 := by
  obtain ⟨w, w1, w2, w3, w4⟩ := h.2.2.2 s hsn hs0 hsl
  obtain ⟨S1, k, sz', fre', a1, a2, a3, a4, a5, a6, a7, a8, a9, a10, a11, a12, a13, a14, a15⟩ := k_ladd (x1 := f * 512 + nd) (x2 := w) h.1 hz
  obtain ⟨⟨b1, b2⟩, b3⟩ := CHN_add h a2 a8 a9 a10
  obtain ⟨c1, c2, ⟨c3, c4, c5⟩, c6⟩ := b3 (s + 2)
  have hk := b2 s hsn hs0 hsl
  have cg : ∀ {w : Int32} {ks : List Nat}, Lkd S1 w ks → Lkd (uJ S1 66 s (nI k).toInt64) w ks := fun {w ks} q => Lkd_cg (S := S1) ks w (fun _ _ => rfl) q
  obtain ⟨d1, d2, d3, d4, d5, d6, d7⟩ := c1
  refine ⟨uJ S1 66 s (nI k).toInt64, k, sz', fre', ?_, ⟨⟨d1, d2, cg d3, d4, d5, d6, d7⟩, c2, ⟨cg c3, c4, c5⟩, fun s' q1 q2 q3 => ?_⟩, a8, hk, b1, a4, a6, a9, fun a i q => by rw [uJ_ne (by omega), a10], a11, a12, a13, a14, a15⟩
  · have hw32 : (S.2.1 66 s).toInt32 = w := by rw [w1]; simp
    unfold f_X5_await
    rw [mI_in (a := s) (n := S.2.2 66) (by omega) (by omega), nI_clamp (show s < 2 ^ 31 by omega), hw32, a1]
    simp only [gd_t, Option.bind_some]
    rw [a11 66 (by omega) (by omega), mI_in (a := s) (n := S.2.2 66) (by omega) (by omega)]
    rfl
  · by_cases c : s' = s
    · subst c
      rw [upN_eq]
      have q2 : S1.1 65 s' = 0 := q2
      obtain ⟨w', v1, v2, v3, v4⟩ := c6 s' q1 q2 q3
      refine ⟨nI k, uJ_eq, ⟨rfl, a3, ?_⟩, List.nodup_cons.mpr ⟨hk, w3⟩, fun k' q => ?_⟩
      · refine cg ?_
        show Lkd S1 (S1.1 74 k) (wt s')
        rw [a7]
        have hww : w' = w := i64_inj (by rw [← v1, a10, w1])
        rw [← hww]
        exact v2
      · rcases List.mem_cons.mp q with rfl | q
        · exact ⟨a4, upN_eq⟩
        · exact v4 k' q
    · rw [upN_ne c]
      obtain ⟨w', v1, v2, v3, v4⟩ := c6 s' q1 q2 q3
      exact ⟨w', by rw [uJ_ne (by omega)]; exact v1, cg v2, v3, v4⟩
/-- the first of the awake ones is taken -/
theorem k_pop {k : Nat} {awk' : List Nat} (h : CHN S sz fre (k :: awk') wt hs nS isL) : S.1 38 10 = nI k ∧ 1 ≤ k ∧ k < sz ∧ ∃ S' : im_S, f_X0_release (nI k) (uI S 38 10 (S.1 74 k)) = some ((), S') ∧ CHN S' sz (k :: fre) awk' wt (upN hs k 0) nS isL ∧ (∀ a i : Nat, (a = 72 → i ≠ 3) → (a = 38 → i ≠ 10) → (a = 74 → i ≠ k) → S'.1 a i = S.1 a i) ∧ S'.2 = S.2 := by
  obtain ⟨h1, h2, ⟨⟨h3, h3', h3''⟩, h4, h5⟩, h6⟩ := h
  have hk := h5 k List.mem_cons_self
  have hn := List.nodup_cons.mp h4
  obtain ⟨f1, f2, f3, f4, f5, ⟨a, ha, l1, l2⟩, f7⟩ := h1
  obtain ⟨S', hS'⟩ : ∃ S', S' = uI (uI (uI S 38 10 (S.1 74 k)) 74 k (S.1 72 3)) 72 3 (nI k) := ⟨_, rfl⟩
  have fr : ∀ a i : Nat, (a = 72 → i ≠ 3) → (a = 38 → i ≠ 10) → (a = 74 → i ≠ k) → S'.1 a i = S.1 a i := fun a i q1 q2 q3 => by
    rw [hS', uI_ne (by omega), uI_ne (by omega), uI_ne (by omega)]
  have hkf : ¬ k ∈ fre := fun q => by
    have := h2 k q
    omega
  have hkw : ∀ s, s < nS → S.1 65 s = 0 → ¬ isL s → ¬ k ∈ wt s := fun s q1 q2 q3 q => by
    obtain ⟨w, w1, w2, w3, w4⟩ := h6 s q1 q2 q3
    have := (w4 k q).2
    omega
  have h10 : (2 : Nat) ^ a ≤ 2 ^ 11 := p2_le ha
  have h10' : (2 : Nat) ^ 11 = 2048 := rfl
  refine ⟨h3, h3', hk.1, S', ?_, ⟨⟨(fr 72 2 (by omega) (by omega) (by omega)).trans f1, f2, ?_, fun k' q => ?_, List.nodup_cons.mpr ⟨hkf, f5⟩, ⟨a, ha, by rw [hS']; exact l1, by rw [hS']; exact l2⟩, by rw [hS']; exact f7⟩, fun k' q => ?_, ⟨?_, hn.2, fun k' q => ?_⟩, fun s q1 q2 q3 => ?_⟩, fr, by rw [hS']; rfl⟩
  · unfold f_X0_release
    have e3 : (uI S 38 10 (S.1 74 k)).1 72 3 = S.1 72 3 := uI_ne (by omega)
    rw [nI_clamp (show k < 2 ^ 31 by omega), e3, ← hS', mI_in (a := k) (n := (uI S 38 10 (S.1 74 k)).2.2 74) (by omega) (by show k < S.2.2 74; omega)]
    rfl
  · have e3 : S'.1 72 3 = nI k := by rw [hS', uI_eq]
    have e74 : S'.1 74 k = S.1 72 3 := by rw [hS', uI_ne (by omega), uI_eq]
    refine ⟨e3, h3', ?_⟩
    rw [e74]
    exact Lkd_cg fre _ (fun k' q => fr 74 k' (by omega) (by omega) (fun _ e => hkf (by rw [← e]; exact q))) f3
  · rcases List.mem_cons.mp q with rfl | q
    · exact hk.1
    · exact f4 k' q
  · rcases List.mem_cons.mp q with rfl | q
    · exact upN_eq
    · rw [upN_ne (fun e => hkf (by rw [← e]; exact q))]
      exact h2 k' q
  · have e10 : S'.1 38 10 = S.1 74 k := by rw [hS', uI_ne (by omega), uI_ne (by omega), uI_eq]
    rw [e10]
    exact Lkd_cg awk' _ (fun k' q => fr 74 k' (by omega) (by omega) (fun _ e => hn.1 (by rw [← e]; exact q))) h3''
  · have := h5 k' (List.mem_cons_of_mem _ q)
    rw [upN_ne (fun e => hn.1 (by rw [← e]; exact q))]
    exact this
  · rw [fr 65 s (by omega) (by omega) (by omega)] at q2
    obtain ⟨w, w1, w2, w3, w4⟩ := h6 s q1 q2 q3
    refine ⟨w, by rw [hS']; exact w1, Lkd_cg _ _ (fun k' q => fr 74 k' (by omega) (by omega) (fun _ e => hkw s q1 q2 q3 (by rw [← e]; exact q))) w2, w3, fun k' q => ?_⟩
    rw [upN_ne (fun e => hkw s q1 q2 q3 (by rw [← e]; exact q))]
    exact w4 k' q
/-- every link is in one of the chains -/
def COV (S : im_S) (sz : Nat) (fre awk : List Nat) (wt : Nat → List Nat) (nS : Nat) (isL : Nat → Prop) : Prop := ∀ k, 1 ≤ k → k < sz → k ∈ fre ∨ k ∈ awk ∨ ∃ s, s < nS ∧ S.1 65 s = 0 ∧ ¬ isL s ∧ k ∈ wt s
theorem COV_wake {S' : im_S} {k sz' : Nat} {fre' : List Nat} (h : COV S sz fre awk wt nS isL) (hk : (fre = k :: fre' ∧ sz' = sz) ∨ (fre = [] ∧ fre' = [] ∧ k = sz ∧ sz' = sz + 1)) (h65 : ∀ s, s < nS → S'.1 65 s = S.1 65 s) : COV S' sz' fre' (k :: awk) wt nS isL := by
  intro k' q1 q2
  have hold : k' < sz → k' ∈ fre' ∨ k' ∈ k :: awk ∨ ∃ s, s < nS ∧ S'.1 65 s = 0 ∧ ¬ isL s ∧ k' ∈ wt s := fun q3 => by
    rcases h k' q1 q3 with c | c | ⟨s, c1, c2, c3, c4⟩
    · rcases hk with ⟨e1, -⟩ | ⟨e1, -⟩
      · rw [e1] at c
        rcases List.mem_cons.mp c with c | c
        · exact .inr (.inl (by rw [c]; exact List.mem_cons_self))
        · exact .inl c
      · rw [e1] at c
        exact absurd c List.not_mem_nil
    · exact .inr (.inl (List.mem_cons_of_mem _ c))
    · exact .inr (.inr ⟨s, c1, by rw [h65 s c1]; exact c2, c3, c4⟩)
  by_cases c : k' < sz
  · exact hold c
  · rcases hk with ⟨e1, e2⟩ | ⟨e1, e2, e3, e4⟩
    · omega
    · exact .inr (.inl (by rw [show k' = k by omega]; exact List.mem_cons_self))
theorem COV_await {S' : im_S} {k sz' s0 : Nat} {fre' : List Nat} (h : COV S sz fre awk wt nS isL) (hk : (fre = k :: fre' ∧ sz' = sz) ∨ (fre = [] ∧ fre' = [] ∧ k = sz ∧ sz' = sz + 1)) (h65 : ∀ s, s < nS → S'.1 65 s = S.1 65 s) (hs : s0 < nS) (hs0 : S.1 65 s0 = 0) (hsl : ¬ isL s0) : COV S' sz' fre' awk (upN wt s0 (k :: wt s0)) nS isL := by
  intro k' q1 q2
  have hnew : k' = k → k' ∈ fre' ∨ k' ∈ awk ∨ ∃ s, s < nS ∧ S'.1 65 s = 0 ∧ ¬ isL s ∧ k' ∈ upN wt s0 (k :: wt s0) s := fun e => .inr (.inr ⟨s0, hs, by rw [h65 s0 hs]; exact hs0, hsl, by rw [upN_eq, e]; exact List.mem_cons_self⟩)
  by_cases c : k' < sz
  · rcases h k' q1 c with c | c | ⟨s, c1, c2, c3, c4⟩
    · rcases hk with ⟨e1, -⟩ | ⟨e1, -⟩
      · rw [e1] at c
        rcases List.mem_cons.mp c with c | c
        · exact hnew c
        · exact .inl c
      · rw [e1] at c
        exact absurd c List.not_mem_nil
    · exact .inr (.inl c)
    · refine .inr (.inr ⟨s, c1, by rw [h65 s c1]; exact c2, c3, ?_⟩)
      by_cases e : s = s0
      · rw [e, upN_eq]
        rw [e] at c4
        exact List.mem_cons_of_mem _ c4
      · rw [upN_ne e]
        exact c4
  · rcases hk with ⟨e1, e2⟩ | ⟨e1, e2, e3, e4⟩
    · omega
    · exact hnew (by omega)
theorem COV_pop {S' : im_S} {k : Nat} {awk' : List Nat} (h : COV S sz fre (k :: awk') wt nS isL) (h65 : ∀ s, s < nS → S'.1 65 s = S.1 65 s) : COV S' sz (k :: fre) awk' wt nS isL := by
  intro k' q1 q2
  rcases h k' q1 q2 with c | c | ⟨s, c1, c2, c3, c4⟩
  · exact .inl (List.mem_cons_of_mem _ c)
  · rcases List.mem_cons.mp c with c | c
    · exact .inl (by rw [c]; exact List.mem_cons_self)
    · exact .inr (.inl c)
  · exact .inr (.inr ⟨s, c1, by rw [h65 s c1]; exact c2, c3, c4⟩)
theorem COV_settle {S' : im_S} {s0 : Nat} (h : COV S sz fre awk wt nS isL) (h65 : ∀ s, s < nS → s ≠ s0 → S'.1 65 s = S.1 65 s) : COV S' sz fre ((wt s0).reverse ++ awk) wt nS isL := by
  intro k' q1 q2
  rcases h k' q1 q2 with c | c | ⟨s, c1, c2, c3, c4⟩
  · exact .inl c
  · exact .inr (.inl (List.mem_append_right _ c))
  · by_cases e : s = s0
    · rw [e] at c4
      exact .inr (.inl (List.mem_append_left _ (List.mem_reverse.mpr c4)))
    · exact .inr (.inr ⟨s, c1, by rw [h65 s c1 e]; exact c2, c3, c4⟩)
end CHS
