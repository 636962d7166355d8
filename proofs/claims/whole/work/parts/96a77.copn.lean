/-! the class opens a frame and enters a region -/
section OPN
variable {fu sz nS nF : Nat} {fre awk : List Nat} {wt : Nat → List Nat} {hs : Nat → Nat} {isL : Nat → Prop} {S : im_S}
theorem k_slot {f k b s : Nat} (hf : f < S.2.2 68) (hl : S.2.2 68 < 2 ^ 31) (hk : k < 512) (h1 : S.1 68 f = nI b) (h2 : S.1 52 k = nI s) : f_X5_slotOf (nI f) (nI k) S = some (nI (b + s), S) := by
  unfold f_X5_slotOf
  rw [mI_in (a := f) (n := S.2.2 68) (by omega) hf, mI_in (a := k) (n := 512) (by omega) hk, nI_clamp (show f < 2 ^ 31 by omega), nI_clamp (show k < 2 ^ 31 by omega), h1, h2, nI_add]
  rfl
/-- a frame is opened -/
theorem k_open {R T w : Nat} {o x : Int32} (hfu : 1000 ≤ fu) (hO : StO S nS) (hF : FrO S nF) (hR : R < 512) (hT : T < 512) (h61 : S.1 61 R = nI T) (h62 : S.1 62 T = nI w) (hw : w ≤ 900) (hb : nS + w ≤ 524288) (hn : nF < 32768) : ∃ S' : im_S, f_X5_openFrame fu (nI R) o x S = some (nI nF, S') ∧ StO S' (nS + w) ∧ FrO S' (nF + 1) ∧ S'.1 68 nF = nI nS ∧ S'.1 69 nF = o ∧ S'.1 70 nF = x ∧ S'.1 71 nF = 0 ∧ (∀ s, nS ≤ s → s < nS + w → S'.1 65 s = 0 ∧ S'.2.1 66 s = 0) ∧ (∀ a i : Nat, (a = 64 → i ≠ 2) → (a = 65 → i < nS) → (a = 67 → i ≠ 4) → (68 ≤ a → a ≤ 71 → i < nF) → S'.1 a i = S.1 a i) ∧ (∀ a i : Nat, (a = 66 → i < nS) → S'.2.1 a i = S.2.1 a i) ∧ (∀ a, (a < 65 ∨ a = 67 ∨ 71 < a) → S'.2.2 a = S.2.2 a) ∧ (S.2.2 65 ≤ S'.2.2 65 ∧ S'.2.2 65 ≤ 524288 ∧ S'.2.2 66 = S'.2.2 65 ∧ S.2.2 66 = S.2.2 65) ∧ (S.2.2 68 ≤ S'.2.2 68 ∧ S'.2.2 68 ≤ 32768 ∧ (S'.2.2 69 = S'.2.2 68 ∧ S'.2.2 70 = S'.2.2 68 ∧ S'.2.2 71 = S'.2.2 68) ∧ S.2.2 69 = S.2.2 68 ∧ S.2.2 70 = S.2.2 68 ∧ S.2.2 71 = S.2.2 68) := by
  obtain ⟨S1, a1, a2, a3, a4, a5, a6, a7, a8, a9, a10⟩ := k_take (fu := fu) hfu hO hw hb
  have hF1 : FrO S1 nF := by
    obtain ⟨f1, ⟨a, ha, l1, l2, l3, l4⟩, f3⟩ := hF
    exact ⟨(a4 67 4 (by omega) (by omega)).trans f1, ⟨a, ha, by rw [a6 68 (by omega) (by omega)]; exact l1, by rw [a6 69 (by omega) (by omega)]; exact l2, by rw [a6 70 (by omega) (by omega)]; exact l3, by rw [a6 71 (by omega) (by omega)]; exact l4⟩, by rw [a6 68 (by omega) (by omega)]; exact f3⟩
  obtain ⟨S2, b1, b2, b3, b4, b5, b6, b7, b8, b9, b10, b11, b12, b13, b14, b15⟩ := k_fadd (x1 := nI nS) (x2 := o) (x3 := x) hF1 hn
  have e65 : S2.2.2 65 = S1.2.2 65 := b9 65 (by omega)
  have e66 : S2.2.2 66 = S1.2.2 66 := b9 66 (by omega)
  refine ⟨S2, ?_, ?_, b2, b3, b4, b5, b6, fun s h1 h2 => ⟨by rw [b7 65 s (by omega) (by omega)]; exact (a3 s h1 h2).1, by rw [b8]; exact (a3 s h1 h2).2⟩, fun a i q1 q2 q3 q4 => by rw [b7 a i q3 q4]; exact a4 a i q1 q2, fun a i q => by rw [b8]; exact a5 a i q, fun a q => by rw [b9 a (by omega)]; exact a6 a (by omega) (by omega), ⟨by rw [e65]; exact a7, by rw [e65]; exact a8, by rw [e65, e66]; exact a9, a10⟩, ?_⟩
  · unfold f_X5_openFrame
    rw [mI_in (a := R) (n := 512) (by omega) hR, nI_clamp (show R < 2 ^ 31 by omega), h61, mI_in (a := T) (n := 512) (by omega) hT, nI_clamp (show T < 2 ^ 31 by omega), h62, a1]
    simp only [gd_t, Option.bind_some]
    rw [b1]
    rfl
  · obtain ⟨o1, ⟨a, ha, l1, l2⟩, o3, o4⟩ := a2
    refine ⟨(b7 64 2 (by omega) (by omega)).trans o1, ⟨a, ha, by rw [e65]; exact l1, by rw [e66]; exact l2⟩, by rw [e65]; exact o3, gby_i.mpr (fun i hi => ?_)⟩
    rw [e65] at hi
    rw [b7 65 i (by omega) (by omega)]
    exact gby_i.mp o4 i hi
  · rw [a6 68 (by omega) (by omega)] at b10 b13 b14 b15
    rw [a6 69 (by omega) (by omega)] at b13
    rw [a6 70 (by omega) (by omega)] at b14
    rw [a6 71 (by omega) (by omega)] at b15
    exact ⟨b10, b11, b12, b13, b14, b15⟩
/-- more slots, nobody waits there -/
theorem CHN_open {S' : im_S} {nS' : Nat} {isL' : Nat → Prop} (h : CHN S sz fre awk wt hs nS isL) (hf : ∀ a i : Nat, a = 72 ∨ a = 73 ∨ a = 74 ∨ a = 38 → S'.1 a i = S.1 a i) (hl : S'.2.2 73 = S.2.2 73 ∧ S'.2.2 74 = S.2.2 74) (h65 : ∀ s, s < nS → S'.1 65 s = S.1 65 s ∧ S'.2.1 66 s = S.2.1 66 s) (hn : ∀ s, nS ≤ s → s < nS' → S'.2.1 66 s = 0 ∧ wt s = []) (hL : ∀ s, s < nS → isL s → isL' s) : CHN S' sz fre awk wt hs nS' isL' := by
  obtain ⟨⟨d1, d2, d3, d4, d5, d6, d7⟩, c2, ⟨c3, c4, c5⟩, c6⟩ := h
  have cg : ∀ {w : Int32} {ks : List Nat}, Lkd S w ks → Lkd S' w ks := fun {w ks} q => Lkd_cg (S := S) ks w (fun k _ => hf 74 k (by omega)) q
  refine ⟨⟨(hf 72 2 (by omega)).trans d1, d2, by rw [hf 72 3 (by omega)]; exact cg d3, d4, d5, by rw [hl.1, hl.2]; exact d6, by rw [hl.1]; exact d7⟩, c2, ⟨by rw [hf 38 10 (by omega)]; exact cg c3, c4, c5⟩, fun s q1 q2 q3 => ?_⟩
  rcases Nat.lt_or_ge s nS with c | c
  · rw [(h65 s c).1] at q2
    obtain ⟨w, w1, w2, w3, w4⟩ := c6 s c q2 (fun e => q3 (hL s c e))
    exact ⟨w, by rw [(h65 s c).2]; exact w1, cg w2, w3, w4⟩
  · obtain ⟨e1, e2⟩ := hn s c q1
    rw [e2]
    exact ⟨0, e1, rfl, List.nodup_nil, fun k hk => absurd hk List.not_mem_nil⟩
/-- a chain of leaves in the machine's graph -/
def SgL (S : im_S) (NN : Nat → Nat) : Int32 → List Nat → Prop
  | w, [] => w = -1
  | w, t :: l => w = nI (NN t) ∧ SgL S NN (S.1 50 (NN t)) l
theorem SgL_cg {S S' : im_S} {NN : Nat → Nat} (h : ∀ k, S'.1 50 k = S.1 50 k) : ∀ (l : List Nat) (w : Int32), SgL S NN w l → SgL S' NN w l := by
  intro l
  induction l with
  | nil => intro w q; exact q
  | cons t l ih =>
    intro w q
    refine ⟨q.1, ?_⟩
    rw [h]
    exact ih _ q.2
/-- the leaves of a region are put to the awake ones -/
theorem k_ent {f : Nat} {z2 : Int32} {NN : Nat → Nat} (hf : f < 32768) (hNN : ∀ t, NN t < 512) : ∀ (l : List Nat) (nf i sz : Nat) (S : im_S) (fre awk : List Nat) (hs : Nat → Nat) (w : Int32), l.length + i ≤ 511 → l.length < nf → sz + l.length < 524288 → CHN S sz fre awk wt hs nS isL → COV S sz fre awk wt nS isL → SgL S NN w l → ∃ (S' : im_S) (sz' : Nat) (fre' awl : List Nat) (hs' : Nat → Nat), f_X5_enter_L16 fu nf (nI f) z2 w (nI i) S = some ((), S') ∧ CHN S' sz' fre' (awl ++ awk) wt hs' nS isL ∧ COV S' sz' fre' (awl ++ awk) wt nS isL ∧ (sz ≤ sz' ∧ sz' ≤ sz + l.length) ∧ awl.map (fun k => S'.1 73 k) = l.reverse.map (fun t => nI (f * 512 + NN t)) ∧ (∀ k, k ∈ awl → ¬ k ∈ awk) ∧ (∀ a i : Nat, (a = 72 → i ≠ 2 ∧ i ≠ 3) → (a = 38 → i ≠ 10) → (a = 73 ∨ a = 74 → i < sz ∧ ¬ i ∈ fre) → S'.1 a i = S.1 a i) ∧ S'.2.1 = S.2.1 ∧ (∀ a, a ≠ 73 → a ≠ 74 → S'.2.2 a = S.2.2 a) ∧ S.2.2 73 ≤ S'.2.2 73 ∧ S'.2.2 73 ≤ 524288 ∧ S'.2.2 74 = S'.2.2 73 := by
  intro l
  induction l with
  | nil =>
    intro nf i sz S fre awk hs w hi hnf hz hC hV hw
    obtain ⟨nf, rfl⟩ : ∃ q, nf = q + 1 := ⟨nf - 1, by omega⟩
    have hi : 0 + i ≤ 511 := hi
    have hw : w = -1 := hw
    obtain ⟨-, -, -, -, -, ⟨a, ha, l1, l2⟩, -⟩ := hC.1
    have h11 : (2 : Nat) ^ a ≤ 2 ^ 11 := p2_le ha
    have h11' : (2 : Nat) ^ 11 = 2048 := rfl
    refine ⟨S, sz, fre, [], hs, ?_, hC, hV, ⟨Nat.le_refl _, Nat.le_refl _⟩, rfl, fun k hk => absurd hk List.not_mem_nil, fun _ _ _ _ _ => rfl, rfl, fun _ _ _ => rfl, Nat.le_refl _, by omega, by omega⟩
    have hlt : ¬ (512 : Int32) ≤ nI i := fun q => by
      have := (mI_le (a := 512) (b := i) (by omega) (by omega)).mp q
      omega
    rw [f_X5_enter_L16, if_neg hlt, if_pos hw]
  | cons t l ih =>
    intro nf i sz S fre awk hs w hi hnf hz hC hV hw
    obtain ⟨nf, rfl⟩ : ∃ q, nf = q + 1 := ⟨nf - 1, by omega⟩
    have hi : l.length + 1 + i ≤ 511 := hi
    have hnf : l.length + 1 < nf + 1 := hnf
    have hz : sz + (l.length + 1) < 524288 := hz
    obtain ⟨w1, w2⟩ := hw
    have ht := hNN t
    obtain ⟨S1, k, sz1, fre1, a1, a2, a3, a4, a5, a6, a7, a8, a9, a10, a11, a12, a13⟩ := k_wake (who := nI (f * 512 + NN t)) hC (by omega)
    obtain ⟨S2, hS2⟩ : ∃ S2, S2 = uI S1 38 10 (nI k) := ⟨_, rfl⟩
    rw [← hS2] at a2
    have f2 : ∀ a i : Nat, (a = 38 → i ≠ 10) → S2.1 a i = S1.1 a i := fun a i q => by rw [hS2, uI_ne (by omega)]
    have hs1 : sz ≤ sz1 ∧ sz1 ≤ sz + 1 := by
      rcases a3 with ⟨e1, e2⟩ | ⟨e1, e2, e3, e4⟩ <;> omega
    have hkf : ¬ k ∈ fre1 := fun q => by
      have := a2.2.1 k q
      rw [upN_eq] at this
      omega
    have hfk : ∀ j, j < sz → ¬ j ∈ fre → j ≠ k ∧ ¬ j ∈ fre1 := fun j q1 q2 => by
      rcases a3 with ⟨e1, e2⟩ | ⟨e1, e2, e3, e4⟩
      · rw [e1] at q2
        exact ⟨fun e => q2 (by rw [e]; exact List.mem_cons_self), fun e => q2 (List.mem_cons_of_mem _ e)⟩
      · rw [e2]
        exact ⟨by omega, List.not_mem_nil⟩
    have h50 : ∀ j, S2.1 50 j = S.1 50 j := fun j => by rw [f2 50 j (by omega), a7 50 j (by omega) (by omega)]
    have hV2 : COV S2 sz1 fre1 (k :: awk) wt nS isL := COV_wake hV a3 (fun s hs => by rw [f2 65 s (by omega), a7 65 s (by omega) (by omega)])
    obtain ⟨S', sz', fre', awl, hs', b1, b2, b3, b4, b5, b6, b7, b8, b9, b10, b11, b12⟩ := ih nf (i + 1) sz1 S2 fre1 (k :: awk) (upN hs k 1) (S2.1 50 (NN t)) (by omega) (by omega) (by omega) a2 hV2 (by rw [h50]; exact SgL_cg h50 _ _ w2)
    have e73 : S'.1 73 k = nI (f * 512 + NN t) := by
      rw [b7 73 k (by omega) (by omega) (fun _ => ⟨a5, hkf⟩), f2 73 k (by omega)]
      exact a6
    refine ⟨S', sz', fre', awl ++ [k], hs', ?_, by rw [List.append_assoc]; exact b2, by rw [List.append_assoc]; exact b3, ⟨by omega, by show sz' ≤ sz + (l.length + 1); omega⟩, ?_, fun k' q => ?_, fun a i q1 q2 q3 => ?_, ?_, fun a q1 q2 => ?_, ?_, b11, b12⟩
    · have hlt : ¬ (512 : Int32) ≤ nI i := fun q => by
        have := (mI_le (a := 512) (b := i) (by omega) (by omega)).mp q
        omega
      have hwho : nI f * 512 + nI (NN t) = nI (f * 512 + NN t) := by
        rw [show nI f * 512 = nI (f * 512) from nI_mul f 512, nI_add]
      rw [f_X5_enter_L16, if_neg hlt, w1, if_neg (nI_m1 (show NN t < 2 ^ 31 by omega)), hwho, a1]
      simp only [Option.bind_some]
      rw [mI_in (a := NN t) (n := 512) (by omega) ht, nI_clamp (show NN t < 2 ^ 31 by omega), ← hS2, show S1.1 50 (NN t) = S2.1 50 (NN t) from (f2 50 _ (by omega)).symm, show nI i + 1 = nI (i + 1) from nI_add i 1]
      exact b1
    · rw [List.map_append, b5, List.reverse_cons, List.map_append]
      show _ ++ [S'.1 73 k] = _ ++ [nI (f * 512 + NN t)]
      rw [e73]
    · rcases List.mem_append.mp q with q | q
      · exact fun e => b6 k' q (List.mem_cons_of_mem _ e)
      · rw [List.mem_singleton.mp q]
        exact a4
    · rw [b7 a i q1 q2 (fun e => ⟨by have := (q3 e).1; omega, (hfk i (q3 e).1 (q3 e).2).2⟩), f2 a i q2, a7 a i q1 (fun e => ⟨(hfk i (q3 e).1 (q3 e).2).1, (q3 e).1⟩)]
    · rw [b8, hS2]
      exact a8
    · rw [b9 a q1 q2, hS2]
      exact a9 a q1 q2
    · have e2 : S2.2.2 = S1.2.2 := by rw [hS2]; rfl
      rw [e2] at b10
      omega
end OPN
