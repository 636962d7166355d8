/-! the class's memory: the store, the frames -/
/-- the store: as much as is taken, and its arrays -/
def StO (S : im_S) (n : Nat) : Prop := S.1 64 2 = nI n ∧ (∃ a, a ≤ 9 ∧ S.2.2 65 = 1024 * 2 ^ a ∧ S.2.2 66 = 1024 * 2 ^ a) ∧ n ≤ S.2.2 65 ∧ gby S 65 = true
/-- the frames -/
def FrO (S : im_S) (n : Nat) : Prop := S.1 67 4 = nI n ∧ (∃ a, a ≤ 9 ∧ S.2.2 68 = 64 * 2 ^ a ∧ S.2.2 69 = 64 * 2 ^ a ∧ S.2.2 70 = 64 * 2 ^ a ∧ S.2.2 71 = 64 * 2 ^ a) ∧ n ≤ S.2.2 68
theorem p2_le : ∀ {a b : Nat}, a ≤ b → 2 ^ a ≤ 2 ^ b := fun h => Nat.pow_le_pow_right (by omega) h
theorem gby_i {S : im_S} {j : Nat} : gby S j = true ↔ ∀ i, i < S.2.2 j → fits .byte (.int (S.1 j i)) = true := by
  unfold gby
  rw [List.all_eq_true]
  exact ⟨fun h i hi => h i (List.mem_range.mpr hi), fun h i hi => h i (List.mem_range.mp hi)⟩
theorem fits5 : ∀ k : Nat, k < 5 → fits .byte (.int (nI k)) = true := by decide
theorem nar5 : ∀ k : Nat, k < 5 → vp_nar .byte (nI k).toInt8.toInt32 = nI k := by decide
section CMM
variable {fu : Nat}
theorem fill65 {z1 : Int32} {e : Nat} : ∀ (d k nf : Nat) (S : im_S), k + d = e → d < nf → e ≤ S.2.2 65 → S.2.2 65 < 2 ^ 31 → ∃ S' : im_S, f_J7_fill_eb02e_L10 fu nf z1 (nI e) 0 (nI k) S = some ((), S') ∧ (∀ s, k ≤ s → s < e → S'.1 65 s = 0) ∧ (∀ a i : Nat, (a = 65 → i < k ∨ e ≤ i) → S'.1 a i = S.1 a i) ∧ S'.2 = S.2 := by
  intro d
  induction d with
  | zero =>
    intro k nf S hk hnf he hL
    obtain ⟨nf, rfl⟩ : ∃ z, nf = z + 1 := ⟨nf - 1, by omega⟩
    refine ⟨S, ?_, fun s h1 h2 => absurd h2 (by omega), fun _ _ _ => rfl, rfl⟩
    rw [f_J7_fill_eb02e_L10, if_pos ((mI_le (a := e) (b := k) (by omega) (by omega)).mpr (by omega))]
  | succ d ih =>
    intro k nf S hk hnf he hL
    obtain ⟨nf, rfl⟩ : ∃ z, nf = z + 1 := ⟨nf - 1, by omega⟩
    obtain ⟨S', g1, g2, g3, g4⟩ := ih (k + 1) nf (uI S 65 k 0) (by omega) (by omega) he hL
    refine ⟨S', ?_, fun s h1 h2 => ?_, fun a i q => ?_, g4⟩
    · rw [f_J7_fill_eb02e_L10, if_neg (fun q => by have := (mI_le (a := e) (b := k) (by omega) (by omega)).mp q; omega), mI_in (a := k) (n := S.2.2 65) (by omega) (by omega), nI_clamp (show k < 2 ^ 31 by omega), show nI k + 1 = nI (k + 1) from nI_add k 1]
      exact g1
    · by_cases c : s = k
      · rw [g3 65 s (by omega), c, uI_eq]
      · exact g2 s (by omega) h2
    · rw [g3 a i (by omega), uI_ne (by omega)]
theorem fill66 {z1 : Int32} {e : Nat} : ∀ (d k nf : Nat) (S : im_S), k + d = e → d < nf → e ≤ S.2.2 66 → S.2.2 66 < 2 ^ 31 → ∃ S' : im_S, f_J7_fill_bad5a_L10 fu nf z1 (nI e) 0 (nI k) S = some ((), S') ∧ (∀ s, k ≤ s → s < e → S'.2.1 66 s = 0) ∧ (∀ a i : Nat, (a = 66 → i < k ∨ e ≤ i) → S'.2.1 a i = S.2.1 a i) ∧ S'.1 = S.1 ∧ S'.2.2 = S.2.2 := by
  intro d
  induction d with
  | zero =>
    intro k nf S hk hnf he hL
    obtain ⟨nf, rfl⟩ : ∃ z, nf = z + 1 := ⟨nf - 1, by omega⟩
    refine ⟨S, ?_, fun s h1 h2 => absurd h2 (by omega), fun _ _ _ => rfl, rfl, rfl⟩
    rw [f_J7_fill_bad5a_L10, if_pos ((mI_le (a := e) (b := k) (by omega) (by omega)).mpr (by omega))]
  | succ d ih =>
    intro k nf S hk hnf he hL
    obtain ⟨nf, rfl⟩ : ∃ z, nf = z + 1 := ⟨nf - 1, by omega⟩
    obtain ⟨S', g1, g2, g3, g4, g5⟩ := ih (k + 1) nf (uJ S 66 k 0) (by omega) (by omega) he hL
    refine ⟨S', ?_, fun s h1 h2 => ?_, fun a i q => ?_, g4, g5⟩
    · rw [f_J7_fill_bad5a_L10, if_neg (fun q => by have := (mI_le (a := e) (b := k) (by omega) (by omega)).mp q; omega), mI_in (a := k) (n := S.2.2 66) (by omega) (by omega), nI_clamp (show k < 2 ^ 31 by omega), show nI k + 1 = nI (k + 1) from nI_add k 1]
      exact g1
    · by_cases c : s = k
      · rw [g3 66 s (by omega), c, uJ_eq]
      · exact g2 s (by omega) h2
    · rw [g3 a i (by omega), uJ_ne (by omega)]
theorem rng_ok {S : im_S} {L a e : Nat} (h1 : a ≤ e) (h2 : e ≤ L) (hL : L < 2 ^ 31) : f_J7_rangeCheck_23922 (Int32.ofNat L) (nI a) (nI e) S = some ((), S) := by
  unfold f_J7_rangeCheck_23922
  have h0 : (0 : Int32) ≤ nI a := (mI_le (a := 0) (b := a) (by omega) (by omega)).mpr (by omega)
  have h3 : nI e ≤ Int32.ofNat L := (mI_le (a := e) (b := L) (by omega) (by omega)).mpr h2
  rw [if_pos ((mI_le (a := a) (b := e) (by omega) (by omega)).mpr h1), if_pos h0, if_pos h3]
/-- the end of take: both arrays are filled -/
theorem fills {S : im_S} {n k : Nat} (hfu : 1000 ≤ fu) (hk : k ≤ 900) (h65 : n + k ≤ S.2.2 65) (h66 : n + k ≤ S.2.2 66) (hL : S.2.2 65 < 2 ^ 31) (hL' : S.2.2 66 < 2 ^ 31) (h64 : S.1 64 2 = nI (n + k)) : ∃ S' : im_S, (f_J7_fill_eb02e fu (nI n) (nI (n + k)) 0 S).bind (fun q => (f_J7_fill_bad5a fu (nI n) (q.2.1 64 2) 0 q.2).bind (fun q5 => some (nI n, q5.2))) = some (nI n, S') ∧ (∀ s, n ≤ s → s < n + k → S'.1 65 s = 0 ∧ S'.2.1 66 s = 0) ∧ (∀ a i : Nat, (a = 65 → i < n ∨ n + k ≤ i) → S'.1 a i = S.1 a i) ∧ (∀ a i : Nat, (a = 66 → i < n ∨ n + k ≤ i) → S'.2.1 a i = S.2.1 a i) ∧ S'.2.2 = S.2.2 := by
  obtain ⟨S1, a1, a2, a3, a4⟩ := fill65 (fu := fu) (z1 := nI n) (e := n + k) k n fu S rfl (by omega) h65 hL
  have e2 : S1.2.2 = S.2.2 := congrArg Prod.snd a4
  have e3 : S1.2.1 = S.2.1 := congrArg Prod.fst a4
  obtain ⟨S2, b1, b2, b3, b4, b5⟩ := fill66 (fu := fu) (z1 := nI n) (e := n + k) k n fu S1 rfl (by omega) (by rw [e2]; exact h66) (by rw [e2]; exact hL')
  refine ⟨S2, ?_, fun s h1 h2 => ⟨by rw [b4]; exact a2 s h1 h2, b2 s h1 h2⟩, fun a i q => by rw [b4]; exact a3 a i q, fun a i q => by rw [b3 a i q, e3], by rw [b5, e2]⟩
  unfold f_J7_fill_eb02e f_J7_fill_bad5a
  rw [rng_ok (by omega) h65 hL]
  simp only [Option.bind_some]
  rw [a1]
  simp only [Option.bind_some]
  rw [a3 64 2 (by omega), h64, e2, rng_ok (by omega) h66 hL']
  simp only [Option.bind_some]
  rw [b1]
  rfl
/-- places in the store are taken -/
theorem k_take {S : im_S} {n k : Nat} (hfu : 1000 ≤ fu) (h : StO S n) (hk : k ≤ 900) (hb : n + k ≤ 524288) : ∃ S' : im_S, f_X8_take fu (nI k) S = some (nI n, S') ∧ StO S' (n + k) ∧ (∀ s, n ≤ s → s < n + k → S'.1 65 s = 0 ∧ S'.2.1 66 s = 0) ∧ (∀ a i : Nat, (a = 64 → i ≠ 2) → (a = 65 → i < n) → S'.1 a i = S.1 a i) ∧ (∀ a i : Nat, (a = 66 → i < n) → S'.2.1 a i = S.2.1 a i) ∧ (∀ a, a ≠ 65 → a ≠ 66 → S'.2.2 a = S.2.2 a) ∧ S.2.2 65 ≤ S'.2.2 65 ∧ S'.2.2 65 ≤ 524288 ∧ S'.2.2 66 = S'.2.2 65 ∧ S.2.2 66 = S.2.2 65 := by
  obtain ⟨h1, ⟨a, ha, h2, h3⟩, h4, h5⟩ := h
  have h9 : (2 : Nat) ^ a ≤ 2 ^ 9 := p2_le ha
  have h9' : (2 : Nat) ^ 9 = 512 := rfl
  have hL : S.2.2 65 ≤ 524288 := by omega
  have h23 : S.2.2 66 = S.2.2 65 := by omega
  have hby := gby_i.mp h5
  have f0 : fits .byte (.int (0 : Int32)) = true := fits5 0 (by omega)
  obtain ⟨S0, hS0⟩ : ∃ S0, S0 = uI S 64 2 (nI (n + k)) := ⟨_, rfl⟩
  have p0 : ∀ a i : Nat, (a = 64 → i ≠ 2) → S0.1 a i = S.1 a i := fun a i q => by rw [hS0, uI_ne (by omega)]
  have p64 : S0.1 64 2 = nI (n + k) := by rw [hS0, uI_eq]
  have p2 : S0.2 = S.2 := by rw [hS0]; rfl
  have p22 : S0.2.2 = S.2.2 := congrArg Prod.snd p2
  have p21 : S0.2.1 = S.2.1 := congrArg Prod.fst p2
  have hle : nI (n + k) ≤ Int32.ofNat (S.2.2 65) ↔ n + k ≤ S.2.2 65 := mI_le (a := n + k) (b := S.2.2 65) (by omega) (by omega)
  by_cases c : n + k ≤ S.2.2 65
  · obtain ⟨S', g1, g2, g3, g4, g5⟩ := fills (fu := fu) (S := S0) (n := n) (k := k) hfu hk (by rw [p22]; exact c) (by rw [p22]; omega) (by rw [p22]; omega) (by rw [p22]; omega) p64
    have e5 : S'.2.2 = S.2.2 := g5.trans p22
    refine ⟨S', ?_, ⟨by rw [g3 64 2 (by omega)]; exact p64, ⟨a, ha, by rw [e5]; exact h2, by rw [e5]; exact h3⟩, by rw [e5]; exact c, gby_i.mpr (fun i hi => ?_)⟩, g2, fun a i q1 q2 => by rw [g3 a i (by omega)]; exact p0 a i q1, fun a i q => by rw [g4 a i (by omega), p21], fun a _ _ => by rw [e5], by rw [e5]; exact Nat.le_refl _, by rw [e5]; omega, by rw [e5]; exact h23, h23⟩
    · unfold f_X8_take
      rw [h1, nI_add, if_pos (hle.mpr c), ← hS0]
      exact g1
    · rw [e5] at hi
      by_cases c2 : n ≤ i ∧ i < n + k
      · rw [(g2 i c2.1 c2.2).1]
        exact f0
      · rw [g3 65 i (by omega), p0 65 i (by omega)]
        exact hby i hi
  · have ha9 : a < 9 := by
      refine Classical.byContradiction (fun q => ?_)
      have : a = 9 := by omega
      subst this
      omega
    have hd : 1024 * 2 ^ (a + 1) = 2 * S.2.2 65 := by rw [Nat.pow_succ, h2]; omega
    have h1024 : 1024 ≤ S.2.2 65 := by
      have := Nat.one_le_two_pow (n := a)
      omega
    have hd9 : 2 * S.2.2 65 ≤ 524288 := by
      have : (2 : Nat) ^ (a + 1) ≤ 2 ^ 9 := p2_le (by omega)
      omega
    obtain ⟨N, hN⟩ : ∃ N, N = 2 * S.2.2 65 := ⟨_, rfl⟩
    have eN : (if ((nI (n + k)) : Int32) < (2 * (Int32.ofNat (S.2.2 65))) then (2 * (Int32.ofNat (S.2.2 65))) else nI (n + k)) = nI N := by
      have e1 : (2 : Int32) * Int32.ofNat (S.2.2 65) = nI (2 * S.2.2 65) := nI_mul 2 (S.2.2 65)
      rw [e1, ← hN, if_pos ((mI_lt (a := n + k) (b := N) (by omega) (by omega)).mpr (by omega))]
    have eNc : (nI N).toNatClampNeg = N := nI_clamp (by omega)
    have eNi : (nI N).toInt = N := nI_toInt (by omega)
    have gk65 : gok S0 65 (nI N) = true := by
      unfold gok
      rw [p22, eNc, eNi]
      exact decide_eq_true ⟨by omega, by omega, by omega, by omega⟩
    have gb65 : gby S0 65 = true := gby_i.mpr (fun i hi => by rw [p22] at hi; rw [p0 65 i (by omega)]; exact hby i hi)
    obtain ⟨S1, hS1⟩ : ∃ S1, S1 = gI S0 65 N := ⟨_, rfl⟩
    have q1 : ∀ a i : Nat, (a = 65 → i < S.2.2 65) → S1.1 a i = S0.1 a i := fun a i q => by
      rw [hS1]
      show va_up S0.1 65 (fun k => if k < S0.2.2 65 then S0.1 65 k else 0) a i = _
      by_cases c3 : a = 65
      · subst c3
        rw [va_up_self]
        show (if i < S0.2.2 65 then S0.1 65 i else 0) = _
        rw [p22, if_pos (q rfl)]
      · rw [va_up_ne _ _ c3]
    have q1' : ∀ i : Nat, S.2.2 65 ≤ i → S1.1 65 i = 0 := fun i q => by
      rw [hS1]
      show va_up S0.1 65 (fun k => if k < S0.2.2 65 then S0.1 65 k else 0) 65 i = _
      rw [va_up_self]
      show (if i < S0.2.2 65 then S0.1 65 i else 0) = _
      rw [p22, if_neg (by omega)]
    have q2 : S1.2.1 = S.2.1 := by rw [hS1]; exact p21
    have q3 : ∀ a, a ≠ 65 → S1.2.2 a = S.2.2 a := fun a q => by
      rw [hS1]
      show va_up S0.2.2 65 N a = _
      rw [va_up_ne _ _ q, p22]
    have q4 : S1.2.2 65 = N := by
      rw [hS1]
      show va_up S0.2.2 65 N 65 = _
      rw [va_up_self]
    have gk66 : gok S1 66 (nI N) = true := by
      unfold gok
      rw [q3 66 (by omega), h23, eNc, eNi]
      exact decide_eq_true ⟨by omega, by omega, by omega, by omega⟩
    obtain ⟨S2, hS2⟩ : ∃ S2, S2 = gJ S1 66 N := ⟨_, rfl⟩
    have r1 : S2.1 = S1.1 := by rw [hS2]; rfl
    have r2 : ∀ a i : Nat, (a = 66 → i < S.2.2 65) → S2.2.1 a i = S.2.1 a i := fun a i q => by
      rw [hS2]
      show va_up S1.2.1 66 (fun k => if k < S1.2.2 66 then S1.2.1 66 k else 0) a i = _
      by_cases c3 : a = 66
      · subst c3
        rw [va_up_self]
        show (if i < S1.2.2 66 then S1.2.1 66 i else 0) = _
        rw [q3 66 (by omega), h23, if_pos (q rfl), q2]
      · rw [va_up_ne _ _ c3, q2]
    have r3 : ∀ a, a ≠ 65 → a ≠ 66 → S2.2.2 a = S.2.2 a := fun a q q' => by
      rw [hS2]
      show va_up S1.2.2 66 N a = _
      rw [va_up_ne _ _ q', q3 a q]
    have r4 : S2.2.2 65 = N ∧ S2.2.2 66 = N := by
      rw [hS2]
      refine ⟨?_, ?_⟩
      · show va_up S1.2.2 66 N 65 = _
        rw [va_up_ne _ _ (by omega), q4]
      · show va_up S1.2.2 66 N 66 = _
        rw [va_up_self]
    have s64 : S2.1 64 2 = nI (n + k) := by rw [r1, q1 64 2 (by omega)]; exact p64
    obtain ⟨S', g1, g2, g3, g4, g5⟩ := fills (fu := fu) (S := S2) (n := n) (k := k) hfu hk (by rw [r4.1]; omega) (by rw [r4.2]; omega) (by rw [r4.1]; omega) (by rw [r4.2]; omega) s64
    refine ⟨S', ?_, ⟨by rw [g3 64 2 (by omega)]; exact s64, ⟨a + 1, by omega, by rw [g5, r4.1, hN, hd], by rw [g5, r4.2, hN, hd]⟩, by rw [g5, r4.1]; omega, gby_i.mpr (fun i hi => ?_)⟩, g2, fun a i u1 u2 => ?_, fun a i u => ?_, fun a u1 u2 => by rw [g5]; exact r3 a u1 u2, by rw [g5, r4.1]; omega, by rw [g5, r4.1]; omega, by rw [g5, r4.1, r4.2], h23⟩
    · unfold f_X8_take
      rw [h1, nI_add, if_neg (fun q => c (hle.mp q)), eN, ← hS0]
      unfold f_gr65 f_gr66
      rw [gk65, gb65]
      simp only [gd_t, Option.bind_some]
      rw [eNc, ← hS1, gk66]
      simp only [gd_t, Option.bind_some]
      rw [← hS2, s64]
      exact g1
    · by_cases c2 : n ≤ i ∧ i < n + k
      · rw [(g2 i c2.1 c2.2).1]
        exact f0
      · rw [g3 65 i (by omega), r1]
        by_cases c3 : i < S.2.2 65
        · rw [q1 65 i (by omega), p0 65 i (by omega)]
          exact hby i c3
        · rw [q1' i (by omega)]
          exact f0
    · rw [g3 a i (by omega), r1, q1 a i (by omega)]
      exact p0 a i u1
    · rw [g4 a i (by omega), r2 a i (by omega)]
end CMM
