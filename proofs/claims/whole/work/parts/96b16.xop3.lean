/-! what the machine does to its memory, told by paths: frames and tables -/
section XO3
variable {K pl : Nat → Nat} {V : Nat → Int64} {y : TR} {e : Nat} {N M L : Nat → Nat} {n ρ τ : Nat} {G : im_S} {sl tO sO kO : Nat → Nat} {S : im_S} {nS nF fu : Nat} {fb : Nat → Nat} {fp : Nat → TPth} {fi : TPth → Nat} {tf tf' : TPth → Nat → Nat} {tb : TPth → Nat → Option Nat} {ow si fo : Nat → Int32} {lw : Nat → Int64} {cv vr : TPth → Nat → Option TVal} {cc : TPth → Option TVal} {Aw : TPth → Nat → Prop} {WV : TPth → Nat → TPth → Nat → Prop} {WC : TPth → TPth → Nat → Prop}
theorem ms_tf {ct : Nat → Option TVal} {isL : Nat → Prop} {aw : List Nat} {wa : Nat → List Nat} (h : MS S nS nF fb ow si fo ct tf isL lw aw wa) (ht : ∀ s a w, ct s = some a → EcW tf a w → EcW tf' a w) : MS S nS nF fb ow si fo ct tf' isL lw aw wa := by
  obtain ⟨h1, h2, h3, h4, h5⟩ := h
  refine ⟨h1, h2, h3, fun s q => ?_, h5⟩
  have := h4 s q
  cases hc : ct s with
  | none => rw [hc] at this; exact this
  | some a => rw [hc] at this; exact ⟨this.1, this.2.1, ht s a _ hc this.2.2⟩
theorem x_fol (h : MX V y e N L sl tO sO kO S nS nF fb fp fi tf tb ow si fo lw cv vr cc Aw WV WC) {f : Nat} {v : Int32} : MX V y e N L sl tO sO kO (uI S 71 f v) nS nF fb fp fi tf tb ow si (upN fo f v) lw cv vr cc Aw WV WC ∧ MK S (uI S 71 f v) := by
  obtain ⟨ct, isL, aw, wa, sow, ⟨⟨h1, h1'⟩, h2, h3, h4, h5, sz, fre, awk, wt, hs', c1, c2, c3, c4, c5⟩, mr⟩ := h
  have ne : ∀ {b i : Nat}, b ≠ 71 → (uI S 71 f v).1 b i = S.1 b i := fun q => uI_ne (.inl q)
  have cg : ∀ {x : Int32} {ks : List Nat}, Lkd S x ks → Lkd (uI S 71 f v) x ks := fun {x ks} q => Lkd_cg (S := S) ks x (fun k _ => ne (by omega)) q
  refine ⟨⟨ct, isL, aw, wa, sow, ⟨⟨st_cg h1 (ne (by omega)) rfl rfl (fun i => ne (by omega)), h1'⟩, fr_cg h2 (ne (by omega)) (fun _ _ _ => rfl), fun f' hf => ?_, fun s q => sl_cg (h4 s q) (ne (by omega)) (fun _ => rfl), h5, sz, fre, awk, wt, hs', ?_, fun k q1 q2 => ?_, c3, ?_, fun s q1 q2 q3 => ?_⟩, mr⟩, fun b i q1 q2 => ne (by omega), fun b i q => rfl, fun b q => rfl⟩
  · obtain ⟨k1, k2, k3, k4⟩ := h3 f' hf
    refine ⟨(ne (by omega)).trans k1, (ne (by omega)).trans k2, (ne (by omega)).trans k3, ?_⟩
    by_cases e : f' = f
    · subst e
      rw [upN_eq, uI_eq]
    · rw [upN_ne e, uI_ne (.inr e)]
      exact k4
  · obtain ⟨⟨d1, d2, d3, d4, d5, d6, d7⟩, e2, ⟨e3, e4, e5⟩, e6⟩ := c1
    refine ⟨⟨(ne (by omega)).trans d1, d2, by rw [ne (by omega)]; exact cg d3, d4, d5, d6, d7⟩, e2, ⟨by rw [ne (by omega)]; exact cg e3, e4, e5⟩, fun s' q1 q2 q3 => ?_⟩
    rw [ne (by omega)] at q2
    obtain ⟨x, x1, x2, x3, x4⟩ := e6 s' q1 q2 q3
    exact ⟨x, x1, cg x2, x3, x4⟩
  · rcases c2 k q1 q2 with q | q | ⟨s', v1, v2, v3, v4⟩
    · exact .inl q
    · exact .inr (.inl q)
    · exact .inr (.inr ⟨s', v1, (ne (by omega)).trans v2, v3, v4⟩)
  · rw [← c4]
    exact List.map_congr_left (fun k' q => ne (by omega))
  · rw [← c5 s q1 q2 q3]
    exact List.map_congr_left (fun k' q => ne (by omega))
/-- a frame is made for the path F -/
theorem x_frm (hfu : 1000 ≤ fu) (C : CGd K pl V y e N M L n ρ τ G) (hS : SLy G n τ sl tO sO kO) (h : MX V y e N L sl tO sO kO S nS nF fb fp fi tf tb ow si fo lw cv vr cc Aw WV WC) {F : TPth} {R : Nat} {o x : Int32} (hF : POk V y F ∧ Z0 y F ∧ ifr y (hdR F)) (hn : ∀ f, f < nF → fp f ≠ F) (hR : R < 512) (h61 : S.1 61 R = nI (L (hdR F / 4))) (h62 : S.1 62 (L (hdR F / 4)) = nI (sl (L (hdR F / 4)))) (hb : nS + sl (L (hdR F / 4)) ≤ 523264) (hnF : nF < 32768)
    (hcv : ∀ P z, POk V y P → Z0 y P → fpt y P = F → z ∈ scP y → z.2.2 = hdR P → rtk z.1 = otk z.1 → cv P (otk z.1) = none) (hvr : ∀ b, VT V y F b → vr F b = none) (hWV : ∀ b P t, ¬ WV F b P t) (hL : ∀ j fs c ns g γ r, (.tag 7 (.tag j (.append fs (.append c (.append ns g)))), γ, r) ∈ scP y → LL fs ∧ LL ns) :
    ∃ S' : im_S, f_X5_openFrame fu (nI R) o x S = some (nI nF, S') ∧ MX V y e N L sl tO sO kO S' (nS + sl (L (hdR F / 4))) (nF + 1) (upN fb nF nS) (upN fp nF F) (fun Q => if Q = F then nF else fi Q) tf tb (upN ow nF o) (upN si nF x) (upN fo nF 0) (fun s => if s < nS then lw s else 0) cv vr cc Aw WV WC ∧ MK S S' := by
  obtain ⟨ct, isL, aw, wa, sow, m1, m2, m3, m4, m5, m6, m7, m8, m9, m10, m11⟩ := h
  obtain ⟨T, hT⟩ : ∃ T, T = L (hdR F / 4) := ⟨_, rfl⟩
  rw [← hT] at h61 h62 hb ⊢
  have hfF : fpt y F = F := by
    cases F with
    | nil => exact hF.1.elim
    | cons c Q => exact fpt_y hF.2.2
  have hTt : T < τ := by
    have := (dp_P C F hF.1).2.2
    rw [hfF, ← hT] at this
    exact this
  have hτ := C.2.2.2.2.2.2.1
  have hslT : sl T ≤ 500 := Nat.le_trans (sm_le hTt) hS.2.1
  obtain ⟨S', g1, g2, g3, g4, g5, g6, g7, g8, g9, g10, g11, g12, g13⟩ := k_open (o := o) (x := x) hfu m1.1.1 m1.2.1 hR (by omega) h61 h62 (by omega) (by omega) hnF
  have of : ∀ {f : Nat}, f < nF → upN fp nF F f = fp f ∧ upN fb nF nS f = fb f := fun q => ⟨upN_ne (by omega), upN_ne (by omega)⟩
  have fin : ∀ {Q : TPth}, Q ≠ F → (if Q = F then nF else fi Q) = fi Q := fun q => if_neg q
  have op_ne : ∀ {P : TPth}, OP V y nF fp fi P → fpt y P ≠ F := fun q q' => hn _ q.2.2.1 (q.2.2.2.trans q')
  have opN : ∀ {P : TPth}, OP V y (nF + 1) (upN fp nF F) (fun Q => if Q = F then nF else fi Q) P → (OP V y nF fp fi P ∧ fpt y P ≠ F) ∨ fpt y P = F := fun {P} q => by
    by_cases c : fpt y P = F
    · exact .inr c
    · obtain ⟨q1, q2, q3, q4⟩ := q
      have e1 : (if fpt y P = F then nF else fi (fpt y P)) = fi (fpt y P) := if_neg c
      have q3 : (if fpt y P = F then nF else fi (fpt y P)) < nF + 1 := q3
      have q4 : upN fp nF F (if fpt y P = F then nF else fi (fpt y P)) = fpt y P := q4
      rw [e1] at q3 q4
      have hlt : fi (fpt y P) < nF := by
        rcases Nat.lt_or_ge (fi (fpt y P)) nF with u | u
        · exact u
        · have : fi (fpt y P) = nF := by omega
          rw [this, upN_eq] at q4
          exact absurd q4.symm c
      rw [(of hlt).1] at q4
      exact .inl ⟨⟨q1, q2, hlt, q4⟩, c⟩
  have opO : ∀ {P : TPth}, OP V y nF fp fi P → OP V y (nF + 1) (upN fp nF F) (fun Q => if Q = F then nF else fi Q) P := fun {P} q => by
    have e1 : (if fpt y P = F then nF else fi (fpt y P)) = fi (fpt y P) := if_neg (op_ne q)
    refine ⟨q.1, q.2.1, ?_, ?_⟩
    · show (if fpt y P = F then nF else fi (fpt y P)) < nF + 1
      rw [e1]
      have := q.2.2.1
      omega
    · show upN fp nF F (if fpt y P = F then nF else fi (fpt y P)) = fpt y P
      rw [e1, (of q.2.2.1).1]
      exact q.2.2.2
  have cdO : ∀ {P : TPth} {t : Nat}, OP V y nF fp fi P → (if fpt y P = F then nF else fi (fpt y P)) * 512 + N t = fi (fpt y P) * 512 + N t := fun {P t} q => by rw [if_neg (op_ne q)]
  have ctlt : ∀ {s : Nat}, s < nS → (if s < nS then ct s else none) = ct s := fun q => if_pos q
  have ctge : ∀ {s : Nat}, nS ≤ s → (if s < nS then ct s else none) = none := fun q => if_neg (by omega)
  have sn : ∀ {P : TPth} {z : TR × List Nat × Nat}, OP V y nF fp fi P → z ∈ scP y → z.2.2 = hdR P → rtk z.1 = otk z.1 → fb (fi (fpt y P)) + sO (N (otk z.1)) < nS := fun q1 q2 q3 q4 => (cd_g C hS m3 q1 ⟨_, q2, q3, rfl, q4⟩).2.2.1
  have sv : ∀ {f b : Nat}, f < nF → VT V y (fp f) b → fb f + sO (N b) < nS := fun {f b} q1 q2 => by
    have k1 := vt_tk C hS hL m3 q1 q2
    have w1 := (tk_sl C hS k1.1).1
    have wp := wk_pos (kO (N b))
    exact ((m3.1 f q1).2.2.2.2 (sO (N b)) (by omega)).1
  have waO : ∀ {s : Nat}, s < nS → (if s < nS then wa s else []) = wa s := fun q => if_pos q
  have isLlt : ∀ s, isL s → s < nS := fun s q => (m1.2.2.2.2.1 s q).2.1
  have nl : ∀ {t : Nat}, TkF N L e tO F t → wk (kO (N t)) = 2 → sO (N t) + 1 < sl T := fun {t} q1 q2 => by
    have := (tk_sl C hS q1).1
    rw [← hT] at this
    omega
  refine ⟨S', g1, ⟨fun s => if s < nS then ct s else none, fun s => isL s ∨ ∃ t, TkF N L e tO F t ∧ wk (kO (N t)) = 2 ∧ s = nS + sO (N t) + 1, aw, fun s => if s < nS then wa s else [], fun s => if s < nS then sow s else (0, F, s - nS), ?_, ?_, ⟨fun f q => ?_, fun P t m q => ?_⟩, fun s => ⟨fun q => ?_, fun q => ?_⟩, ⟨fun P z q1 q2 q3 q4 => ?_, fun f b q1 q2 => ?_, fun P t m i q1 q2 => ?_⟩, fun s a q => ?_, fun c => ⟨fun q => ?_, fun q => ?_⟩, fun f b c q1 q2 q3 => ?_, fun P t m i c q1 q2 q3 => ?_, fun s q1 q2 q3 => ?_, fun P t q => ⟨opO (m11 P t q).1, (m11 P t q).2⟩⟩, fun a i q1 q2 => g9 a i (by omega) (by omega) (by omega) (by omega), fun a i q => g10 a i (by omega), fun a q => g11 a (by omega)⟩
  · refine o_grow m1 g2 g3 (by omega) hb (fun f hf => ?_) g8 (fun s q => ⟨g9 65 s (by omega) (by omega) (by omega) (by omega), g10 66 s (by omega)⟩) (fun a i q => g9 a i (by omega) (by omega) (by omega) (by omega)) ⟨g11 73 (by omega), g11 74 (by omega)⟩ (fun s q => ctlt q) (fun s q _ => ctge q) (fun s q => ⟨fun q' => ?_, .inl⟩) (fun s q => ?_) (fun s q => if_pos q) (fun s q => if_neg (by omega))
    · by_cases c : f = nF
      · subst c
        rw [upN_eq, upN_eq, upN_eq, upN_eq]
        exact ⟨g4, g5, g6, g7⟩
      · rw [upN_ne c, upN_ne c, upN_ne c, upN_ne c, g9 68 f (by omega) (by omega) (by omega) (by omega), g9 69 f (by omega) (by omega) (by omega) (by omega), g9 70 f (by omega) (by omega) (by omega) (by omega), g9 71 f (by omega) (by omega) (by omega) (by omega)]
        exact m1.2.2.1 f (by omega)
    · rcases q' with q' | ⟨t, -, -, q'⟩
      · exact q'
      · omega
    · rcases q with q | ⟨t, q', q'', q⟩
      · have := isLlt s q
        omega
      · have := nl q' q''
        omega
  · refine lk_gr m2 (by omega) (fun s q => ctlt q) (fun s q => ⟨fun q' => ?_, .inl⟩) (fun c q => ?_)
    · rcases q' with q' | ⟨t, -, -, q'⟩
      · exact q'
      · omega
    · have hlt : c / 512 < nF := by
        have lv : ∃ P t, OP V y nF fp fi P ∧ (∃ z, NdA y P t z) ∧ c = fi (fpt y P) * 512 + N t := by
          rcases q with q | ⟨s, q1, q2, q3, q4⟩
          · obtain ⟨P, t, u1, u2⟩ := (m7 c).mp q
            exact ⟨P, t, (m11 P t (.inl u1)).1, (m11 P t (.inl u1)).2, u2⟩
          · rcases m10 s q1 q2 (fun q => by rw [q] at q4; exact absurd q4 List.not_mem_nil) with ⟨f, b, v1, v2, v3⟩ | ⟨P, t, n', i, v1, v2, v3⟩
            · subst v3
              obtain ⟨P, t, u1, u2⟩ := (m8 f b c v1 v2 q2).mp q4
              exact ⟨P, t, (m11 P t (.inr (.inl ⟨_, _, u1⟩))).1, (m11 P t (.inr (.inl ⟨_, _, u1⟩))).2, u2⟩
            · subst v3
              obtain ⟨P', t', u1, u2⟩ := (m9 P t n' i c v1 v2 q2).mp q4
              exact ⟨P', t', (m11 P' t' (.inr (.inr ⟨_, u1⟩))).1, (m11 P' t' (.inr (.inr ⟨_, u1⟩))).2, u2⟩
        obtain ⟨P, t, u1, u2, u3⟩ := lv
        have := cd_g C hS m3 u1 u2
        rw [u3, this.1]
        exact u1.2.2.1
      show upN fb nF nS (c / 512) + sO (c % 512) = fb (c / 512) + sO (c % 512)
      rw [(of hlt).2]
  · by_cases c : f = nF
    · subst c
      rw [upN_eq, upN_eq]
      refine ⟨if_pos rfl, hF.1, hF.2.1, hF.2.2, fun o' ho => ⟨?_, ?_⟩⟩
      · rw [← hT] at ho
        omega
      · show (if nS + o' < nS then sow (nS + o') else (0, F, nS + o' - nS)) = (0, F, o')
        rw [if_neg (by omega), show nS + o' - nS = o' by omega]
    · have hf : f < nF := by omega
      rw [(of hf).1, (of hf).2]
      obtain ⟨a1, a2, a3, a4, a5⟩ := m3.1 f hf
      refine ⟨(if_neg (hn f hf)).trans a1, a2, a3, a4, fun o' ho => ⟨?_, ?_⟩⟩
      · have := (a5 o' ho).1
        omega
      · show (if fb f + o' < nS then sow (fb f + o') else (0, F, fb f + o' - nS)) = (0, fp f, o')
        rw [if_pos (a5 o' ho).1]
        exact (a5 o' ho).2
  · obtain ⟨a1, a2⟩ := m3.2 P t m q
    refine ⟨⟨a1.1, by have := a1.2; omega⟩, fun i hi => ⟨?_, ?_⟩⟩
    · have := (a2 i hi).1
      omega
    · show (if tf P t + i < nS then sow (tf P t + i) else (0, F, tf P t + i - nS)) = (1, (4 * t, i) :: P, 0)
      rw [if_pos (a2 i hi).1]
      exact (a2 i hi).2
  · rcases q with q | ⟨t, q1, q2, q3⟩
    · obtain ⟨f, t, q1, q2, q3, q4⟩ := (m4 s).mp q
      exact ⟨f, t, by omega, by rw [(of q1).1]; exact q2, q3, by rw [(of q1).2]; exact q4⟩
    · exact ⟨nF, t, by omega, by rw [upN_eq]; exact q1, q2, by rw [upN_eq]; exact q3⟩
  · obtain ⟨f, t, q1, q2, q3, q4⟩ := q
    by_cases c : f = nF
    · subst c
      rw [upN_eq] at q2 q4
      exact .inr ⟨t, q2, q3, q4⟩
    · have hf : f < nF := by omega
      rw [(of hf).1] at q2
      rw [(of hf).2] at q4
      exact .inl ((m4 s).mpr ⟨f, t, hf, q2, q3, q4⟩)
  · show (if upN fb nF nS (if fpt y P = F then nF else fi (fpt y P)) + sO (N (otk z.1)) < nS then ct (upN fb nF nS (if fpt y P = F then nF else fi (fpt y P)) + sO (N (otk z.1))) else none) = cv P (otk z.1)
    rcases opN q1 with ⟨u, c⟩ | c
    · rw [if_neg c, (of u.2.2.1).2, if_pos (sn u q2 q3 q4)]
      exact m5.1 P z u q2 q3 q4
    · rw [if_pos c, upN_eq, if_neg (by omega), hcv P z q1.1 q1.2.1 c q2 q3 q4]
  · show (if upN fb nF nS f + sO (N b) < nS then ct (upN fb nF nS f + sO (N b)) else none) = vr (upN fp nF F f) b
    by_cases c : f = nF
    · subst c
      rw [upN_eq] at q2
      rw [upN_eq, upN_eq, if_neg (by omega), hvr b q2]
    · have hf : f < nF := by omega
      rw [(of hf).1] at q2
      rw [(of hf).1, (of hf).2, if_pos (sv hf q2)]
      exact m5.2.1 f b hf q2
  · show (if tf P t + i < nS then ct (tf P t + i) else none) = cc ((4 * t, i) :: P)
    rw [if_pos ((m3.2 P t m q1).2 i q2).1]
    exact m5.2.2 P t m i q1 q2
  · have q : (if s < nS then ct s else none) = some a := q
    by_cases c : s < nS
    · rw [if_pos c] at q
      exact m6 s a q
    · rw [if_neg c] at q
      cases q
  · obtain ⟨P, t, u1, u2⟩ := (m7 c).mp q
    exact ⟨P, t, u1, by rw [u2]; exact (cdO (m11 P t (.inl u1)).1).symm⟩
  · obtain ⟨P, t, u1, u2⟩ := q
    exact (m7 c).mpr ⟨P, t, u1, by rw [u2]; exact cdO (m11 P t (.inl u1)).1⟩
  · have q3 : (if upN fb nF nS f + sO (N b) < nS then ct (upN fb nF nS f + sO (N b)) else none) = none := q3
    show c ∈ (if upN fb nF nS f + sO (N b) < nS then wa (upN fb nF nS f + sO (N b)) else []) ↔ ∃ P t, WV (upN fp nF F f) b P t ∧ c = (if fpt y P = F then nF else fi (fpt y P)) * 512 + N t
    by_cases cf : f = nF
    · subst cf
      rw [upN_eq] at q2
      rw [upN_eq, upN_eq, if_neg (by omega)]
      refine ⟨fun q => absurd q List.not_mem_nil, fun ⟨P, t, u1, u2⟩ => ?_⟩
      exact absurd u1 (hWV b P t)
    · have hf : f < nF := by omega
      rw [(of hf).1] at q2
      have hlt := sv hf q2
      rw [(of hf).2] at q3 ⊢
      rw [(of hf).1, if_pos hlt]
      rw [if_pos hlt] at q3
      rw [m8 f b c hf q2 q3]
      refine ⟨fun ⟨P, t, u1, u2⟩ => ⟨P, t, u1, by rw [u2]; exact (cdO (m11 P t (.inr (.inl ⟨_, _, u1⟩))).1).symm⟩, fun ⟨P, t, u1, u2⟩ => ⟨P, t, u1, by rw [u2]; exact cdO (m11 P t (.inr (.inl ⟨_, _, u1⟩))).1⟩⟩
  · have hlt := ((m3.2 P t m q1).2 i q2).1
    have q3 : (if tf P t + i < nS then ct (tf P t + i) else none) = none := q3
    show c ∈ (if tf P t + i < nS then wa (tf P t + i) else []) ↔ ∃ P' t', WC ((4 * t, i) :: P) P' t' ∧ c = (if fpt y P' = F then nF else fi (fpt y P')) * 512 + N t'
    rw [if_pos hlt] at q3 ⊢
    rw [m9 P t m i c q1 q2 q3]
    refine ⟨fun ⟨P', t', u1, u2⟩ => ⟨P', t', u1, by rw [u2]; exact (cdO (m11 P' t' (.inr (.inr ⟨_, u1⟩))).1).symm⟩, fun ⟨P', t', u1, u2⟩ => ⟨P', t', u1, by rw [u2]; exact cdO (m11 P' t' (.inr (.inr ⟨_, u1⟩))).1⟩⟩
  · have q2 : (if s < nS then ct s else none) = none := q2
    have q3 : (if s < nS then wa s else []) ≠ [] := q3
    by_cases c : s < nS
    · rw [if_pos c] at q2 q3
      rcases m10 s c q2 q3 with ⟨f, b, v1, v2, v3⟩ | u
      · exact .inl ⟨f, b, by omega, by rw [(of v1).1]; exact v2, by rw [(of v1).2]; exact v3⟩
      · exact .inr u
    · rw [if_neg c] at q3
      exact absurd rfl q3
/-- the cells of a new table -/
theorem x_take (hfu : 1000 ≤ fu) (C : CGd K pl V y e N M L n ρ τ G) (hS : SLy G n τ sl tO sO kO) (hL : ∀ j fs c ns g γ r, (.tag 7 (.tag j (.append fs (.append c (.append ns g)))), γ, r) ∈ scP y → LL fs ∧ LL ns) (h : MX V y e N L sl tO sO kO S nS nF fb fp fi tf tb ow si fo lw cv vr cc Aw WV WC) {P0 : TPth} {t0 m0 : Nat} (hm : m0 ≤ 20) (hb : nS + m0 ≤ 523264) (hn : tb P0 t0 = none) (hc : ∀ i, i < m0 → cc ((4 * t0, i) :: P0) = none) (hW : ∀ i P t, i < m0 → ¬ WC ((4 * t0, i) :: P0) P t) :
    ∃ S' : im_S, f_X8_take fu (nI m0) S = some (nI nS, S') ∧ MX V y e N L sl tO sO kO S' (nS + m0) nF fb fp fi (fun P t => if P = P0 ∧ t = t0 then nS else tf P t) (fun P t => if P = P0 ∧ t = t0 then some m0 else tb P t) ow si fo (fun s => if s < nS then lw s else 0) cv vr cc Aw WV WC ∧ MK S S' := by
  obtain ⟨ct, isL, aw, wa, sow, m1, m2, m3, m4, m5, m6, m7, m8, m9, m10, m11⟩ := h
  obtain ⟨S', g1, g2, g3, g4, g5, g6, g7, g8, g9, g10⟩ := k_take (fu := fu) (k := m0) hfu m1.1.1 (by omega) (by omega)
  have ctlt : ∀ {s : Nat}, s < nS → (if s < nS then ct s else none) = ct s := fun q => if_pos q
  have ctge : ∀ {s : Nat}, nS ≤ s → (if s < nS then ct s else none) = none := fun q => if_neg (by omega)
  have tfO : ∀ {P : TPth} {t m : Nat}, tb P t = some m → (if P = P0 ∧ t = t0 then nS else tf P t) = tf P t := fun {P t m} q => if_neg (fun ⟨e1, e2⟩ => by rw [e1, e2, hn] at q; cases q)
  have tbN : ∀ {P : TPth} {t m : Nat}, (if P = P0 ∧ t = t0 then some m0 else tb P t) = some m → (P = P0 ∧ t = t0 ∧ m = m0) ∨ (tb P t = some m ∧ ¬ (P = P0 ∧ t = t0)) := fun {P t m} q => by
    by_cases c : P = P0 ∧ t = t0
    · rw [if_pos c] at q
      exact .inl ⟨c.1, c.2, (Option.some.inj q).symm⟩
    · rw [if_neg c] at q
      exact .inr ⟨q, c⟩
  have tbO : ∀ {P : TPth} {t m : Nat}, tb P t = some m → (if P = P0 ∧ t = t0 then some m0 else tb P t) = some m := fun {P t m} q => (if_neg (fun ⟨e1, e2⟩ => by rw [e1, e2, hn] at q; cases q)).trans q
  have isLlt : ∀ s, isL s → s < nS := fun s q => (m1.2.2.2.2.1 s q).2.1
  have hfO : FrO S' nF := fr_cg m1.2.1 (g4 67 4 (by omega) (by omega)) (fun a q1 q2 => g6 a (by omega) (by omega))
  have m1' := ms_tf (tf' := fun P t => if P = P0 ∧ t = t0 then nS else tf P t) m1 (fun s a w q1 q2 => ⟨fun q3 => by
    obtain ⟨m, k1, k2⟩ := m6 s a q1 q3
    obtain ⟨m', k3, k4, k5⟩ := q2.1 q3
    refine ⟨m', k3, k4, ?_⟩
    show w = Int64.ofNat ((if a.2.2.1 = P0 ∧ a.2.2.2 = t0 then nS else tf a.2.2.1 a.2.2.2) * 32 + m')
    rw [tfO k1]
    exact k5, q2.2⟩)
  have svlt : ∀ {f t : Nat}, f < nF → TkF N L e tO (fp f) t → fb f + sO (N t) < nS := fun {f t} q1 q2 => by
    have w1 := (tk_sl C hS q2).1
    have wp := wk_pos (kO (N t))
    exact ((m3.1 f q1).2.2.2.2 (sO (N t)) (by omega)).1
  refine ⟨S', g1, ⟨fun s => if s < nS then ct s else none, isL, aw, fun s => if s < nS then wa s else [], fun s => if s < nS then sow s else (1, (4 * t0, s - nS) :: P0, 0), ?_, ?_, ⟨fun f q => ?_, fun P t m q => ?_⟩, m4, ⟨fun P z q1 q2 q3 q4 => ?_, fun f b q1 q2 => ?_, fun P t m i q1 q2 => ?_⟩, fun s a q q3 => ?_, m7, fun f b c q1 q2 q3 => ?_, fun P t m i c q1 q2 q3 => ?_, fun s q1 q2 q3 => ?_, m11⟩, fun a i q1 q2 => g4 a i (by omega) (by omega), fun a i q => g5 a i (by omega), fun a q => g6 a (by omega) (by omega)⟩
  · refine o_grow m1' g2 hfO (by omega) hb (fun f hf => ?_) g3 (fun s q => ⟨g4 65 s (by omega) (by omega), g5 66 s (by omega)⟩) (fun a i q => g4 a i (by omega) (by omega)) ⟨g6 73 (by omega) (by omega), g6 74 (by omega) (by omega)⟩ (fun s q => ctlt q) (fun s q _ => ctge q) (fun s q => Iff.rfl) (fun s q => by have := isLlt s q; omega) (fun s q => if_pos q) (fun s q => if_neg (by omega))
    rw [g4 68 f (by omega) (by omega), g4 69 f (by omega) (by omega), g4 70 f (by omega) (by omega), g4 71 f (by omega) (by omega)]
    exact m1.2.2.1 f hf
  · exact lk_gr m2 (by omega) (fun s q => ctlt q) (fun s q => Iff.rfl) (fun c q => rfl)
  · obtain ⟨a1, a2, a3, a4, a5⟩ := m3.1 f q
    refine ⟨a1, a2, a3, a4, fun o' ho => ⟨?_, ?_⟩⟩
    · have := (a5 o' ho).1
      omega
    · show (if fb f + o' < nS then sow (fb f + o') else _) = (0, fp f, o')
      rw [if_pos (a5 o' ho).1]
      exact (a5 o' ho).2
  · rcases tbN q with ⟨q1, q2, q3⟩ | ⟨q1, q2⟩
    · subst q1
      subst q2
      subst q3
      refine ⟨⟨hm, by show (if P = P ∧ t = t then nS else tf P t) ≤ nS + m; rw [if_pos ⟨rfl, rfl⟩]; omega⟩, fun i hi => ?_⟩
      show (if P = P ∧ t = t then nS else tf P t) + i < nS + m ∧ (if (if P = P ∧ t = t then nS else tf P t) + i < nS then sow ((if P = P ∧ t = t then nS else tf P t) + i) else (1, (4 * t, (if P = P ∧ t = t then nS else tf P t) + i - nS) :: P, 0)) = (1, (4 * t, i) :: P, 0)
      rw [show (if P = P ∧ t = t then nS else tf P t) = nS from if_pos ⟨rfl, rfl⟩, if_neg (by omega), show nS + i - nS = i by omega]
      exact ⟨by omega, rfl⟩
    · obtain ⟨a1, a2⟩ := m3.2 P t m q1
      refine ⟨⟨a1.1, by show (if P = P0 ∧ t = t0 then nS else tf P t) ≤ nS + m0; rw [if_neg q2]; have := a1.2; omega⟩, fun i hi => ?_⟩
      show (if P = P0 ∧ t = t0 then nS else tf P t) + i < nS + m0 ∧ (if (if P = P0 ∧ t = t0 then nS else tf P t) + i < nS then sow ((if P = P0 ∧ t = t0 then nS else tf P t) + i) else (1, (4 * t0, (if P = P0 ∧ t = t0 then nS else tf P t) + i - nS) :: P0, 0)) = (1, (4 * t, i) :: P, 0)
      rw [if_neg q2, if_pos (a2 i hi).1]
      exact ⟨by have := (a2 i hi).1; omega, (a2 i hi).2⟩
  · show (if fb (fi (fpt y P)) + sO (N (otk z.1)) < nS then ct (fb (fi (fpt y P)) + sO (N (otk z.1))) else none) = cv P (otk z.1)
    rw [if_pos (svlt q1.2.2.1 (op_tk C hS q1 q2 q3 q4).1)]
    exact m5.1 P z q1 q2 q3 q4
  · show (if fb f + sO (N b) < nS then ct (fb f + sO (N b)) else none) = vr (fp f) b
    rw [if_pos (svlt q1 (vt_tk C hS hL m3 q1 q2).1)]
    exact m5.2.1 f b q1 q2
  · rcases tbN q1 with ⟨e1, e2, e3⟩ | ⟨e1, e2⟩
    · subst e1
      subst e2
      subst e3
      show (if (if P = P ∧ t = t then nS else tf P t) + i < nS then ct ((if P = P ∧ t = t then nS else tf P t) + i) else none) = cc ((4 * t, i) :: P)
      rw [show (if P = P ∧ t = t then nS else tf P t) = nS from if_pos ⟨rfl, rfl⟩, if_neg (by omega), hc i q2]
    · show (if (if P = P0 ∧ t = t0 then nS else tf P t) + i < nS then ct ((if P = P0 ∧ t = t0 then nS else tf P t) + i) else none) = cc ((4 * t, i) :: P)
      rw [if_neg e2, if_pos ((m3.2 P t m e1).2 i q2).1]
      exact m5.2.2 P t m i e1 q2
  · have q : (if s < nS then ct s else none) = some a := q
    by_cases c : s < nS
    · rw [if_pos c] at q
      obtain ⟨m, k1, k2⟩ := m6 s a q q3
      exact ⟨m, tbO k1, k2⟩
    · rw [if_neg c] at q
      cases q
  · have q3 : (if fb f + sO (N b) < nS then ct (fb f + sO (N b)) else none) = none := q3
    have hlt := svlt q1 (vt_tk C hS hL m3 q1 q2).1
    show c ∈ (if fb f + sO (N b) < nS then wa (fb f + sO (N b)) else []) ↔ _
    rw [if_pos hlt] at q3 ⊢
    exact m8 f b c q1 q2 q3
  · rcases tbN q1 with ⟨e1, e2, e3⟩ | ⟨e1, e2⟩
    · subst e1
      subst e2
      subst e3
      show c ∈ (if (if P = P ∧ t = t then nS else tf P t) + i < nS then wa ((if P = P ∧ t = t then nS else tf P t) + i) else []) ↔ _
      rw [show (if P = P ∧ t = t then nS else tf P t) = nS from if_pos ⟨rfl, rfl⟩, if_neg (by omega)]
      exact ⟨fun q => absurd q List.not_mem_nil, fun ⟨P', t', u1, _⟩ => absurd u1 (hW i P' t' q2)⟩
    · have hlt := ((m3.2 P t m e1).2 i q2).1
      have q3 : (if (if P = P0 ∧ t = t0 then nS else tf P t) + i < nS then ct ((if P = P0 ∧ t = t0 then nS else tf P t) + i) else none) = none := q3
      show c ∈ (if (if P = P0 ∧ t = t0 then nS else tf P t) + i < nS then wa ((if P = P0 ∧ t = t0 then nS else tf P t) + i) else []) ↔ _
      rw [if_neg e2, if_pos hlt] at q3 ⊢
      exact m9 P t m i c e1 q2 q3
  · have q2 : (if s < nS then ct s else none) = none := q2
    have q3 : (if s < nS then wa s else []) ≠ [] := q3
    by_cases c : s < nS
    · rw [if_pos c] at q2 q3
      rcases m10 s c q2 q3 with u | ⟨P, t, m, i, v1, v2, v3⟩
      · exact .inl u
      · exact .inr ⟨P, t, m, i, tbO v1, v2, by rw [v3]; show tf P t + i = (if P = P0 ∧ t = t0 then nS else tf P t) + i; rw [tfO v1]⟩
    · rw [if_neg c] at q3
      exact absurd rfl q3
end XO3
