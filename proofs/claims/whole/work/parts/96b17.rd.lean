/-! reading the machine's memory -/
section RDX
variable {K pl : Nat → Nat} {V : Nat → Int64} {y : TR} {e : Nat} {N M L : Nat → Nat} {n ρ τ : Nat} {G : im_S} {sl tO sO kO : Nat → Nat} {S : im_S} {nS nF fu : Nat} {fb : Nat → Nat} {fp : Nat → TPth} {fi : TPth → Nat} {tf : TPth → Nat → Nat} {tb : TPth → Nat → Option Nat} {ow si fo : Nat → Int32} {lw : Nat → Int64} {cv vr : TPth → Nat → Option TVal} {cc : TPth → Option TVal} {Aw : TPth → Nat → Prop} {WV : TPth → Nat → TPth → Nat → Prop} {WC : TPth → TPth → Nat → Prop}
theorem x_len (h : MX V y e N L sl tO sO kO S nS nF fb fp fi tf tb ow si fo lw cv vr cc Aw WV WC) : nS ≤ 523264 ∧ nS ≤ S.2.2 65 ∧ S.2.2 66 = S.2.2 65 ∧ S.2.2 65 ≤ 524288 ∧ nF ≤ S.2.2 68 ∧ S.2.2 68 ≤ 32768 ∧ S.2.2 69 = S.2.2 68 ∧ S.2.2 70 = S.2.2 68 ∧ S.2.2 71 = S.2.2 68 := by
  obtain ⟨ct, isL, aw, wa, sow, m1, -⟩ := h
  have k1 := ms_nF m1
  obtain ⟨o1, ⟨a, ha, l1, l2⟩, o3, o4⟩ := m1.1.1
  have h9 : (2 : Nat) ^ a ≤ 2 ^ 9 := p2_le ha
  have h9' : (2 : Nat) ^ 9 = 512 := rfl
  exact ⟨m1.1.2, o3, by rw [l1, l2], by omega, k1.2.1, k1.2.2.1, k1.2.2.2.1, k1.2.2.2.2.1, k1.2.2.2.2.2⟩
theorem x_ly (h : MX V y e N L sl tO sO kO S nS nF fb fp fi tf tb ow si fo lw cv vr cc Aw WV WC) : ∃ sow, LY V y L sl nS nF fb fp fi tf tb sow := by
  obtain ⟨ct, isL, aw, wa, sow, m1, m2, m3, -⟩ := h
  exact ⟨sow, m3⟩
theorem x_frd (h : MX V y e N L sl tO sO kO S nS nF fb fp fi tf tb ow si fo lw cv vr cc Aw WV WC) {f : Nat} (hf : f < nF) : S.1 68 f = nI (fb f) ∧ S.1 69 f = ow f ∧ S.1 70 f = si f ∧ S.1 71 f = fo f := by
  obtain ⟨ct, isL, aw, wa, sow, m1, -⟩ := h
  exact m1.2.2.1 f hf
theorem x_slot (C : CGd K pl V y e N M L n ρ τ G) (hS : SLy G n τ sl tO sO kO) (hA : CAg G S) (h : MX V y e N L sl tO sO kO S nS nF fb fp fi tf tb ow si fo lw cv vr cc Aw WV WC) {f t : Nat} (hf : f < nF) (ht : TkF N L e tO (fp f) t) : f_X5_slotOf (nI f) (nI (N t)) S = some (nI (fb f + sO (N t)), S) := by
  have hl := x_len h
  have w1 := tk_sl C hS ht
  refine k_slot (by omega) (by omega) (by omega) (x_frd h hf).1 ?_
  rw [(hA 18 (N t) (by omega) (by omega)).1]
  exact w1.2.2.1
/-- a node's slot -/
theorem x_rn (C : CGd K pl V y e N M L n ρ τ G) (hS : SLy G n τ sl tO sO kO) (h : MX V y e N L sl tO sO kO S nS nF fb fp fi tf tb ow si fo lw cv vr cc Aw WV WC) {P : TPth} (hP : OP V y nF fp fi P) {z : TR × List Nat × Nat} (hz : z ∈ scP y) (hr : z.2.2 = hdR P) (hb : rtk z.1 = otk z.1) : fb (fi (fpt y P)) + sO (N (otk z.1)) < nS ∧ SlC S tf (fb (fi (fpt y P)) + sO (N (otk z.1))) (cv P (otk z.1)) ∧ ∀ a, cv P (otk z.1) = some a → a.1 = 3 → ∃ m, tb a.2.2.1 a.2.2.2 = some m ∧ a.2.1 = Int64.ofNat m := by
  obtain ⟨ct, isL, aw, wa, sow, m1, m2, m3, m4, m5, m6, -⟩ := h
  have hs := (cd_g C hS m3 hP ⟨_, hz, hr, rfl, hb⟩).2.2.1
  have he := m5.1 P z hP hz hr hb
  refine ⟨hs, ?_, fun a q => m6 _ a (he.trans q)⟩
  rw [← he]
  exact m1.2.2.2.1 _ hs
/-- by the root of any X -/
theorem x_rx (C : CGd K pl V y e N M L n ρ τ G) (hS : SLy G n τ sl tO sO kO) (h : MX V y e N L sl tO sO kO S nS nF fb fp fi tf tb ow si fo lw cv vr cc Aw WV WC) {P : TPth} (hP : OP V y nF fp fi P) {x : TR} {γ : List Nat} {r : Nat} (hz : (x, γ, r) ∈ scP y) (hr : r = hdR P) : TkF N L e tO (fp (fi (fpt y P))) (rtk x) ∧ fb (fi (fpt y P)) + sO (N (rtk x)) < nS ∧ SlC S tf (fb (fi (fpt y P)) + sO (N (rtk x))) (cv P (rtk x)) ∧ ∀ a, cv P (rtk x) = some a → a.1 = 3 → ∃ m, tb a.2.2.1 a.2.2.2 = some m ∧ a.2.1 = Int64.ofNat m := by
  obtain ⟨x', v1, v2, v3, v4, -⟩ := rt_sc (V := V) C.1 (tsz x) x γ r (Nat.le_refl _) hz
  have hb : rtk x' = otk x' := v3.trans v2.symm
  have k1 := x_rn C hS h hP v1 hr hb
  have k2 := (op_tk C hS hP v1 hr hb).1
  have v2 : otk x' = rtk x := v2
  have k1 : fb (fi (fpt y P)) + sO (N (otk x')) < nS ∧ SlC S tf (fb (fi (fpt y P)) + sO (N (otk x'))) (cv P (otk x')) ∧ ∀ a, cv P (otk x') = some a → a.1 = 3 → ∃ m, tb a.2.2.1 a.2.2.2 = some m ∧ a.2.1 = Int64.ofNat m := k1
  have k2 : TkF N L e tO (fp (fi (fpt y P))) (otk x') := k2
  rw [v2] at k1 k2
  exact ⟨k2, k1⟩
theorem x_rv (C : CGd K pl V y e N M L n ρ τ G) (hS : SLy G n τ sl tO sO kO) (hL : ∀ j fs c ns g γ r, (.tag 7 (.tag j (.append fs (.append c (.append ns g)))), γ, r) ∈ scP y → LL fs ∧ LL ns) (h : MX V y e N L sl tO sO kO S nS nF fb fp fi tf tb ow si fo lw cv vr cc Aw WV WC) {f b : Nat} (hf : f < nF) (hv : VT V y (fp f) b) : TkF N L e tO (fp f) b ∧ fb f + sO (N b) < nS ∧ SlC S tf (fb f + sO (N b)) (vr (fp f) b) ∧ ∀ a, vr (fp f) b = some a → a.1 = 3 → ∃ m, tb a.2.2.1 a.2.2.2 = some m ∧ a.2.1 = Int64.ofNat m := by
  obtain ⟨ct, isL, aw, wa, sow, m1, m2, m3, m4, m5, m6, -⟩ := h
  have k1 := (vt_tk C hS hL m3 hf hv).1
  have w1 := (tk_sl C hS k1).1
  have wp := wk_pos (kO (N b))
  have hs : fb f + sO (N b) < nS := ((m3.1 f hf).2.2.2.2 (sO (N b)) (by omega)).1
  have he := m5.2.1 f b hf hv
  refine ⟨k1, hs, ?_, fun a q => m6 _ a (he.trans q)⟩
  rw [← he]
  exact m1.2.2.2.1 _ hs
theorem x_rc (h : MX V y e N L sl tO sO kO S nS nF fb fp fi tf tb ow si fo lw cv vr cc Aw WV WC) {P : TPth} {t m i : Nat} (hb : tb P t = some m) (hi : i < m) : tf P t + i < nS ∧ SlC S tf (tf P t + i) (cc ((4 * t, i) :: P)) ∧ m ≤ 20 ∧ ∀ a, cc ((4 * t, i) :: P) = some a → a.1 = 3 → ∃ m, tb a.2.2.1 a.2.2.2 = some m ∧ a.2.1 = Int64.ofNat m := by
  obtain ⟨ct, isL, aw, wa, sow, m1, m2, m3, m4, m5, m6, -⟩ := h
  have hs := ((m3.2 P t m hb).2 i hi).1
  have he := m5.2.2 P t m i hb hi
  refine ⟨hs, ?_, (m3.2 P t m hb).1.1, fun a q => m6 _ a (he.trans q)⟩
  rw [← he]
  exact m1.2.2.2.1 _ hs
theorem x_rt (h : MX V y e N L sl tO sO kO S nS nF fb fp fi tf tb ow si fo lw cv vr cc Aw WV WC) {P : TPth} {t m : Nat} (hb : tb P t = some m) : m ≤ 20 ∧ tf P t ≤ nS := by
  obtain ⟨ct, isL, aw, wa, sow, m1, m2, m3, -⟩ := h
  exact (m3.2 P t m hb).1
theorem x_rl (C : CGd K pl V y e N M L n ρ τ G) (hS : SLy G n τ sl tO sO kO) (h : MX V y e N L sl tO sO kO S nS nF fb fp fi tf tb ow si fo lw cv vr cc Aw WV WC) {P : TPth} (hP : OP V y nF fp fi P) {z : TR × List Nat × Nat} (hz : z ∈ scP y) (hr : z.2.2 = hdR P) (hb : rtk z.1 = otk z.1) (hk : kdN z.1 = 8 ∨ kdN z.1 = 9) : fb (fi (fpt y P)) + sO (N (otk z.1)) + 1 < nS ∧ S.2.1 66 (fb (fi (fpt y P)) + sO (N (otk z.1)) + 1) = lw (fb (fi (fpt y P)) + sO (N (otk z.1)) + 1) := by
  obtain ⟨ct, isL, aw, wa, sow, m1, m2, m3, m4, -⟩ := h
  obtain ⟨k1, k2⟩ := op_tk C hS hP hz hr hb
  have hl : isL (fb (fi (fpt y P)) + sO (N (otk z.1)) + 1) := (m4 _).mpr ⟨_, _, hP.2.2.1, k1, by rw [k2]; unfold wk; rw [if_pos hk], rfl⟩
  exact (m1.2.2.2.2.1 _ hl).2
/-- other names for the same -/
theorem MX_cg {Aw' : TPth → Nat → Prop} {WV' : TPth → Nat → TPth → Nat → Prop} {WC' : TPth → TPth → Nat → Prop} (h : MX V y e N L sl tO sO kO S nS nF fb fp fi tf tb ow si fo lw cv vr cc Aw WV WC) (h1 : ∀ P t, Aw' P t ↔ Aw P t) (h2 : ∀ F b P t, WV' F b P t ↔ WV F b P t) (h3 : ∀ C P t, WC' C P t ↔ WC C P t) : MX V y e N L sl tO sO kO S nS nF fb fp fi tf tb ow si fo lw cv vr cc Aw' WV' WC' := by
  have e1 : Aw' = Aw := funext (fun P => funext (fun t => propext (h1 P t)))
  have e2 : WV' = WV := funext (fun F => funext (fun b => funext (fun P => funext (fun t => propext (h2 F b P t)))))
  have e3 : WC' = WC := funext (fun C => funext (fun P => funext (fun t => propext (h3 C P t))))
  rw [e1, e2, e3]
  exact h
/-- the machine's registers and its list of what is ready leave memory alone -/
theorem MX_reg {S' : im_S} (h : MX V y e N L sl tO sO kO S nS nF fb fp fi tf tb ow si fo lw cv vr cc Aw WV WC) (h1 : ∀ a i : Nat, 64 ≤ a → a ≤ 74 → S'.1 a i = S.1 a i) (h10 : S'.1 38 10 = S.1 38 10) (h2 : ∀ i, S'.2.1 66 i = S.2.1 66 i) (h3 : S'.2.2 = S.2.2) : MX V y e N L sl tO sO kO S' nS nF fb fp fi tf tb ow si fo lw cv vr cc Aw WV WC := by
  obtain ⟨ct, isL, aw, wa, sow, ⟨⟨k1, k1'⟩, k2, k3, k4, k5, sz, fre, awk, wt, hs', c1, c2, c3, c4, c5⟩, mr⟩ := h
  have cg : ∀ {x : Int32} {ks : List Nat}, Lkd S x ks → Lkd S' x ks := fun {x ks} q => Lkd_cg (S := S) ks x (fun k _ => h1 74 k (by omega) (by omega)) q
  refine ⟨ct, isL, aw, wa, sow, ⟨⟨st_cg k1 (h1 64 2 (by omega) (by omega)) (by rw [h3]) (by rw [h3]) (fun i => h1 65 i (by omega) (by omega)), k1'⟩, fr_cg k2 (h1 67 4 (by omega) (by omega)) (fun a _ _ => by rw [h3]), fun f hf => ?_, fun s q => sl_cg (k4 s q) (h1 65 s (by omega) (by omega)) (fun _ => h2 s), fun s q => ⟨(k5 s q).1, (k5 s q).2.1, (h2 s).trans (k5 s q).2.2⟩, sz, fre, awk, wt, hs', ?_, fun k q1 q2 => ?_, c3, ?_, fun s q1 q2 q3 => ?_⟩, mr⟩
  · rw [h1 68 f (by omega) (by omega), h1 69 f (by omega) (by omega), h1 70 f (by omega) (by omega), h1 71 f (by omega) (by omega)]
    exact k3 f hf
  · obtain ⟨⟨d1, d2, d3, d4, d5, d6, d7⟩, e2, ⟨e3, e4, e5⟩, e6⟩ := c1
    refine ⟨⟨(h1 72 2 (by omega) (by omega)).trans d1, d2, by rw [h1 72 3 (by omega) (by omega)]; exact cg d3, d4, d5, by rw [h3]; exact d6, by rw [h3]; exact d7⟩, e2, ⟨by rw [h10]; exact cg e3, e4, e5⟩, fun s' q1 q2 q3 => ?_⟩
    rw [h1 65 s' (by omega) (by omega)] at q2
    obtain ⟨x, x1, x2, x3, x4⟩ := e6 s' q1 q2 q3
    exact ⟨x, (h2 s').trans x1, cg x2, x3, x4⟩
  · rcases c2 k q1 q2 with q | q | ⟨s', v1, v2, v3, v4⟩
    · exact .inl q
    · exact .inr (.inl q)
    · exact .inr (.inr ⟨s', v1, (h1 65 s' (by omega) (by omega)).trans v2, v3, v4⟩)
  · rw [← c4]
    exact List.map_congr_left (fun k' q => h1 73 k' (by omega) (by omega))
  · rw [← c5 s q1 q2 q3]
    exact List.map_congr_left (fun k' q => h1 73 k' (by omega) (by omega))
end RDX
