/-! the class settles a slot: those that wait there wake up -/
/-- different numbers below n are at most n -/
theorem nd_len : ∀ (l : List Nat) (n : Nat), l.Nodup → (∀ k, k ∈ l → k < n) → l.length ≤ n := by
  intro l n
  induction n generalizing l with
  | zero =>
    intro _ h
    cases l with
    | nil => exact Nat.le_refl _
    | cons a l => exact absurd (h a List.mem_cons_self) (by omega)
  | succ n ih =>
    intro hn h
    have h1 := ih (l.erase n) (hn.erase n) (fun k hk => by
      have hm := List.mem_of_mem_erase hk
      have hne : k ≠ n := fun e => by
        rw [e] at hk
        exact (List.Nodup.not_mem_erase hn) hk
      have := h k hm
      omega)
    by_cases c : n ∈ l
    · have := List.length_erase_of_mem c
      omega
    · rw [List.erase_of_not_mem c] at h1
      omega
section SET
variable {sz nS fu : Nat} {fre : List Nat} {wt : Nat → List Nat} {isL : Nat → Prop}
theorem k_put {S : im_S} {s c n : Nat} {v : Int64} (h : StO S n) (hs : s < n) (hc : c < 5) : f_X8_put (nI s) (nI c) v S = some ((), uJ (uI S 65 s (nI c)) 66 s v) ∧ StO (uJ (uI S 65 s (nI c)) 66 s v) n := by
  obtain ⟨h1, ⟨a, ha, l1, l2⟩, h4, h5⟩ := h
  have h9 : (2 : Nat) ^ a ≤ 2 ^ 9 := p2_le ha
  have h9' : (2 : Nat) ^ 9 = 512 := rfl
  refine ⟨?_, ⟨?_, ⟨a, ha, l1, l2⟩, h4, gby_i.mpr (fun i hi => ?_)⟩⟩
  · unfold f_X8_put
    rw [mI_in (a := s) (n := S.2.2 65) (by omega) (by omega), mI_in (a := s) (n := S.2.2 66) (by omega) (by omega), nI_clamp (show s < 2 ^ 31 by omega), nar5 c hc]
    rfl
  · show (uI S 65 s (nI c)).1 64 2 = _
    rw [uI_ne (by omega)]
    exact h1
  · have hi : i < S.2.2 65 := hi
    show fits .byte (.int ((uI S 65 s (nI c)).1 65 i)) = true
    by_cases e : i = s
    · rw [e, uI_eq]
      exact fits5 c hc
    · rw [uI_ne (by omega)]
      exact gby_i.mp h5 i hi
theorem st_L {z1 z2 : Int32} {z3 : Int64} {s : Nat} (hsz : sz ≤ 524288) : ∀ (ks : List Nat) (nf i : Nat) (S : im_S) (awk : List Nat) (hs : Nat → Nat) (w : Int32), ks.length + i < 16777216 → ks.length < nf → CHN S sz fre awk wt hs nS (fun q => isL q ∨ q = s) → Lkd S w ks → ks.Nodup → (∀ k, k ∈ ks → k < sz ∧ hs k = s + 2) → ∃ (S' : im_S) (hs' : Nat → Nat), f_X5_settle_L15 fu nf z1 z2 z3 w (nI i) S = (f_X8_put z1 z2 z3 S').bind (fun q => some ((), q.2)) ∧ CHN S' sz fre (ks.reverse ++ awk) wt hs' nS (fun q => isL q ∨ q = s) ∧ (∀ a i : Nat, (a = 38 → i ≠ 10) → (a = 74 → ¬ i ∈ ks) → S'.1 a i = S.1 a i) ∧ S'.2 = S.2 := by
  intro ks
  induction ks with
  | nil =>
    intro nf i S awk hs w hi hnf h hw hn hk
    obtain ⟨nf, rfl⟩ : ∃ z, nf = z + 1 := ⟨nf - 1, by omega⟩
    have hi : 0 + i < 16777216 := hi
    refine ⟨S, hs, ?_, h, fun _ _ _ _ => rfl, rfl⟩
    have hw : w = 0 := hw
    have hlt : ¬ (16777216 : Int32) ≤ nI i := fun q => by
      have := (mI_le (a := 16777216) (b := i) (by omega) (by omega)).mp q
      omega
    rw [f_X5_settle_L15, if_neg hlt, if_pos hw]
  | cons k ks ih =>
    intro nf i S awk hs w hi hnf h hw hn hk
    obtain ⟨nf, rfl⟩ : ∃ z, nf = z + 1 := ⟨nf - 1, by omega⟩
    have hi : ks.length + 1 + i < 16777216 := hi
    have hnf : ks.length + 1 < nf + 1 := hnf
    obtain ⟨w1, w2, w3⟩ := hw
    have hn := List.nodup_cons.mp hn
    have hkk := hk k List.mem_cons_self
    obtain ⟨h1, h2, ⟨h3, h4, h5⟩, h6⟩ := h
    obtain ⟨f1, f2, f3, f4, f5, ⟨a, ha, l1, l2⟩, f7⟩ := h1
    have h10 : (2 : Nat) ^ a ≤ 2 ^ 11 := p2_le ha
    have h10' : (2 : Nat) ^ 11 = 2048 := rfl
    obtain ⟨S1, hS1⟩ : ∃ S1, S1 = uI (uI S 74 k (S.1 38 10)) 38 10 (nI k) := ⟨_, rfl⟩
    have fr : ∀ a i : Nat, (a = 38 → i ≠ 10) → (a = 74 → i ≠ k) → S1.1 a i = S.1 a i := fun a i q1 q2 => by
      rw [hS1, uI_ne (by omega), uI_ne (by omega)]
    have hka : ¬ k ∈ awk := fun q => by
      have := (h5 k q).2
      omega
    have hkf : ¬ k ∈ fre := fun q => by
      have := h2 k q
      omega
    have hC1 : CHN S1 sz fre (k :: awk) wt (upN hs k 1) nS (fun q => isL q ∨ q = s) := by
      refine ⟨⟨(fr 72 2 (by omega) (by omega)).trans f1, f2, ?_, f4, f5, ⟨a, ha, by rw [hS1]; exact l1, by rw [hS1]; exact l2⟩, by rw [hS1]; exact f7⟩, fun k' q => ?_, ⟨⟨?_, w2, ?_⟩, List.nodup_cons.mpr ⟨hka, h4⟩, fun k' q => ?_⟩, fun s' q1 q2 q3 => ?_⟩
      · rw [fr 72 3 (by omega) (by omega)]
        exact Lkd_cg _ _ (fun k' q => fr 74 k' (by omega) (fun _ e => hkf (by rw [← e]; exact q))) f3
      · rw [upN_ne (fun e => hkf (by rw [← e]; exact q))]
        exact h2 k' q
      · rw [hS1, uI_eq]
      · have e74 : S1.1 74 k = S.1 38 10 := by rw [hS1, uI_ne (by omega), uI_eq]
        rw [e74]
        exact Lkd_cg _ _ (fun k' q => fr 74 k' (by omega) (fun _ e => hka (by rw [← e]; exact q))) h3
      · rcases List.mem_cons.mp q with rfl | q
        · exact ⟨hkk.1, upN_eq⟩
        · rw [upN_ne (fun e => hka (by rw [← e]; exact q))]
          exact h5 k' q
      · rw [fr 65 s' (by omega) (by omega)] at q2
        obtain ⟨w', v1, v2, v3, v4⟩ := h6 s' q1 q2 q3
        have hkw : ¬ k ∈ wt s' := fun q => by
          have := (v4 k q).2
          have : s' = s := by omega
          exact q3 (.inr this)
        refine ⟨w', by rw [hS1]; exact v1, Lkd_cg _ _ (fun k' q => fr 74 k' (by omega) (fun _ e => hkw (by rw [← e]; exact q))) v2, v3, fun k' q => ?_⟩
        rw [upN_ne (fun e => hkw (by rw [← e]; exact q))]
        exact v4 k' q
    obtain ⟨S', hs', g1, g2, g3, g4⟩ := ih nf (i + 1) S1 (k :: awk) (upN hs k 1) (S.1 74 k) (by omega) (by omega) hC1 (Lkd_cg _ _ (fun k' q => fr 74 k' (by omega) (fun _ e => hn.1 (by rw [← e]; exact q))) w3) hn.2 (fun k' q => by
      rw [upN_ne (fun e => hn.1 (by rw [← e]; exact q))]
      exact hk k' (List.mem_cons_of_mem _ q))
    refine ⟨S', hs', ?_, ?_, fun a i q1 q2 => ?_, by rw [g4, hS1]; rfl⟩
    · have hlt : ¬ (16777216 : Int32) ≤ nI i := fun q => by
        have := (mI_le (a := 16777216) (b := i) (by omega) (by omega)).mp q
        omega
      have hne : ¬ w = 0 := fun q => by
        rw [w1] at q
        have := (nI_eq (a := k) (b := 0) (by omega) (by omega)).mp q
        omega
      rw [f_X5_settle_L15, if_neg hlt, if_neg hne, w1, mI_in (a := k) (n := S.2.2 74) (by omega) (by omega), nI_clamp (show k < 2 ^ 31 by omega), ← hS1, show nI i + 1 = nI (i + 1) from nI_add i 1]
      exact g1
    · rw [List.reverse_cons, List.append_assoc]
      exact g2
    · rw [g3 a i q1 (fun e q => q2 e (List.mem_cons_of_mem _ q)), fr a i q1 (fun e q => q2 e (by rw [q]; exact List.mem_cons_self))]
/-- a slot gets its value -/
theorem k_settle {S : im_S} {awk : List Nat} {hs : Nat → Nat} {s c : Nat} {v : Int64} (hfu : 600000 ≤ fu) (hsz : sz ≤ 524288) (h : CHN S sz fre awk wt hs nS isL) (hO : StO S nS) (hsn : s < nS) (hs0 : S.1 65 s = 0) (hsl : ¬ isL s) (hc : c < 5) (hc0 : c ≠ 0) : ∃ (S' : im_S) (hs' : Nat → Nat), f_X5_settle fu (nI s) (nI c) v S = some ((), S') ∧ CHN S' sz fre ((wt s).reverse ++ awk) wt hs' nS isL ∧ StO S' nS ∧ S'.1 65 s = nI c ∧ S'.2.1 66 s = v ∧ (∀ a i : Nat, (a = 38 → i ≠ 10) → (a = 74 → ¬ i ∈ wt s) → (a = 65 → i ≠ s) → S'.1 a i = S.1 a i) ∧ (∀ a i : Nat, (a = 66 → i ≠ s) → S'.2.1 a i = S.2.1 a i) ∧ S'.2.2 = S.2.2 := by
  obtain ⟨w, w1, w2, w3, w4⟩ := h.2.2.2 s hsn hs0 hsl
  have hlen : (wt s).length ≤ sz := by
    have : ∀ (l : List Nat) (n : Nat), l.Nodup → (∀ k, k ∈ l → k < n) → l.length ≤ n := nd_len
    exact this _ _ w3 (fun k q => (w4 k q).1)
  have hC : CHN S sz fre awk wt hs nS (fun q => isL q ∨ q = s) := ⟨h.1, h.2.1, h.2.2.1, fun s' q1 q2 q3 => h.2.2.2 s' q1 q2 (fun e => q3 (.inl e))⟩
  obtain ⟨S1, hs', g1, g2, g3, g4⟩ := st_L (fu := fu) (z1 := nI s) (z2 := nI c) (z3 := v) (s := s) hsz (wt s) fu 0 S awk hs w (by omega) (by omega) hC w2 w3 w4
  have e2 : S1.2.2 = S.2.2 := congrArg Prod.snd g4
  have e1 : S1.2.1 = S.2.1 := congrArg Prod.fst g4
  have hO1 : StO S1 nS := by
    obtain ⟨o1, o2, o3, o4⟩ := hO
    refine ⟨(g3 64 2 (by omega) (by omega)).trans o1, by rw [e2]; exact o2, by rw [e2]; exact o3, gby_i.mpr (fun i hi => ?_)⟩
    rw [e2] at hi
    rw [g3 65 i (by omega) (by omega)]
    exact gby_i.mp o4 i hi
  obtain ⟨p1, p2⟩ := k_put (c := c) (v := v) hO1 hsn hc
  obtain ⟨S2, hS2⟩ : ∃ S2, S2 = uJ (uI S1 65 s (nI c)) 66 s v := ⟨_, rfl⟩
  rw [← hS2] at p1 p2
  have fr : ∀ a i : Nat, (a = 65 → i ≠ s) → S2.1 a i = S1.1 a i := fun a i q => by
    rw [hS2]
    show (uI S1 65 s (nI c)).1 a i = _
    rw [uI_ne (by omega)]
  have e65 : S2.1 65 s = nI c := by
    rw [hS2]
    show (uI S1 65 s (nI c)).1 65 s = _
    rw [uI_eq]
  have cg : ∀ {w : Int32} {ks : List Nat}, Lkd S1 w ks → Lkd S2 w ks := fun {w ks} q => Lkd_cg (S := S1) ks w (fun k _ => fr 74 k (by omega)) q
  obtain ⟨⟨d1, d2, d3, d4, d5, d6, d7⟩, c2, ⟨c3, c4, c5⟩, c6⟩ := g2
  refine ⟨S2, hs', ?_, ⟨⟨(fr 72 2 (by omega)).trans d1, d2, by rw [fr 72 3 (by omega)]; exact cg d3, d4, d5, by rw [hS2]; exact d6, by rw [hS2]; exact d7⟩, c2, ⟨by rw [fr 38 10 (by omega)]; exact cg c3, c4, c5⟩, fun s' q1 q2 q3 => ?_⟩, p2, e65, by rw [hS2, uJ_eq], fun a i q1 q2 q3 => by rw [fr a i q3]; exact g3 a i q1 q2, fun a i q => by rw [hS2, uJ_ne (by omega)]; show S1.2.1 a i = _; rw [e1], by rw [hS2]; exact e2⟩
  · have h0 : S.2.2 66 < 2 ^ 31 ∧ s < S.2.2 66 := by
      obtain ⟨-, ⟨a, ha, l1, l2⟩, h4, -⟩ := hO
      have h9 : (2 : Nat) ^ a ≤ 2 ^ 9 := p2_le ha
      have h9' : (2 : Nat) ^ 9 = 512 := rfl
      omega
    have hw32 : (S.2.1 66 s).toInt32 = w := by rw [w1]; simp
    unfold f_X5_settle
    rw [mI_in (a := s) (n := S.2.2 66) (by omega) h0.2, nI_clamp (show s < 2 ^ 31 by omega), hw32]
    have g1 : f_X5_settle_L15 fu fu (nI s) (nI c) v w 0 S = _ := g1
    rw [g1, p1]
    rfl
  · by_cases e : s' = s
    · subst e
      rw [e65] at q2
      have := (nI_eq (a := c) (b := 0) (by omega) (by omega)).mp q2
      omega
    · rw [fr 65 s' (by omega)] at q2
      obtain ⟨w', v1, v2, v3, v4⟩ := c6 s' q1 q2 (fun q => by
        rcases q with q | q
        · exact q3 q
        · exact e q)
      exact ⟨w', by rw [hS2, uJ_ne (by omega)]; exact v1, cg v2, v3, v4⟩
end SET
