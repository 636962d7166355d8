/-! a run begins, in the class -/
/-- the lengths of the arrays that grow -/
def LnG (S : im_S) : Prop := (∃ a, a ≤ 9 ∧ S.2.2 65 = 1024 * 2 ^ a ∧ S.2.2 66 = 1024 * 2 ^ a) ∧ gby S 65 = true ∧ (∃ a, a ≤ 9 ∧ S.2.2 68 = 64 * 2 ^ a ∧ S.2.2 69 = 64 * 2 ^ a ∧ S.2.2 70 = 64 * 2 ^ a ∧ S.2.2 71 = 64 * 2 ^ a) ∧ ∃ a, a ≤ 11 ∧ S.2.2 73 = 256 * 2 ^ a ∧ S.2.2 74 = 256 * 2 ^ a
section BEG
variable {K pl : Nat → Nat} {V : Nat → Int64} {y : TR} {e : Nat} {N M L : Nat → Nat} {n ρ τ : Nat} {G : im_S} {sl tO sO kO crt : Nat → Nat} {f : Nat} {W : Nat → Int32 × Int32 × Int32} {ν : Nat → Nat} {q0 cnt : Nat} {xf : TR} {ar : Nat → Int64} {S S' : im_S} {En : TPth → Prop} {cv vr vr' : TPth → Nat → Option TVal} {cc : TPth → Option TVal} {Aw : TPth → Nat → Prop} {WV : TPth → Nat → TPth → Nat → Prop} {WC2 : TPth → TPth → Nat → Prop} {nS nF fu : Nat} {fb : Nat → Nat} {fp : Nat → TPth} {fi : TPth → Nat} {tf : TPth → Nat → Nat} {tb : TPth → Nat → Option Nat} {ow si fo : Nat → Int32} {lw : Nat → Int64} {F : TPth} {a : TVal} {w : Int64} {fl : Prop}
theorem AB_0 (B : SBd K V y e f W ν) (hq : (q0, cnt, xf) ∈ fuP y) (hty : ∀ z, z < cnt → tvV (V (q0 + 2 + 2 * z)) = 1) (hvr : ∀ F b v, vr F b = some v ↔ F = [(4 * q0, 0)] ∧ ∃ z, z < cnt ∧ b = q0 + 2 + 2 * z ∧ v = mkN (ar z)) : AB K V y q0 ar (fun P => P = [(4 * q0, 0)]) (fun _ _ => none) vr none (fun P t => P = [(4 * q0, 0)] ∧ ∃ z, NdA y P t z ∧ lfK z.1 = true) (fun _ _ _ _ => False) (fun _ _ _ _ => False) [] [] fl := by
  have hk : POk V y [(4 * q0, 0)] := ⟨q0, cnt, xf, hq, rfl⟩
  have hnV : ∀ P t a, ¬ Vm (fun _ _ => none) none P t a := fun P t a q => by
    rcases q with q | q
    · cases q
    · cases q
  have hAW : ∀ P t, AwW (fun P t => P = [(4 * q0, 0)] ∧ ∃ z, NdA y P t z ∧ lfK z.1 = true) (fun _ _ _ _ => False) (fun _ _ _ _ => False) P t → P = [(4 * q0, 0)] ∧ ∃ z, NdA y P t z ∧ lfK z.1 = true := fun P t q => by
    rcases q with q | ⟨F, b, q⟩ | ⟨D, t', q⟩
    · exact q
    · exact q.elim
    · exact q.elim
  have hE1 : ∀ (P : TPth) (c : Nat × Nat), P = [(4 * q0, 0)] → ¬ c :: P = [(4 * q0, 0)] := fun P c q1 q => by
    have := (List.cons.inj q).2
    rw [q1] at this
    cases this
  refine ⟨⟨rfl, fun P q => ?_, fun c Q q hQ => absurd (List.cons.inj q).2 hQ, fun c q => (List.cons.inj q).1⟩, ⟨fun P t a q => absurd q (hnV P t a), fun P t a q => (by cases q), List.nodup_nil, fun P t i q => ?_, fun P t q => ?_, fun _ _ _ _ q => q.elim, fun _ _ _ _ q => q.elim, fun P t _ => ⟨fun _ _ q => q, fun _ _ q => q⟩, fun P t x x' γ r q1 q2 => ?_⟩, fun En2 Va2 De2 C => ⟨fun P q => ?_, fun P t a q => absurd q (hnV P t a), fun e q => ?_⟩, ⟨fun cnt' x' z q1 q2 => ?_, fun F b a q => ?_⟩, fun P z q1 q2 q3 => ?_, fun _ P z q1 q2 q3 => ?_⟩
  · have q : P = [(4 * q0, 0)] := q
    rw [q]
    exact ⟨hk, fun c hc _ => by rw [List.mem_singleton.mp hc]⟩
  · rcases q with q | q
    · exact absurd q List.not_mem_nil
    · exact absurd q List.not_mem_nil
  · obtain ⟨h1, z, h2, -⟩ := hAW P t q
    exact ⟨h1, z, h2⟩
  · obtain ⟨-, z, ⟨z1, z2, z3, z4⟩, hl⟩ := q1
    have := (ou_P B.1).2 z z1 (.tag 10 (.tag t (.append x x')), γ, r) q2 z3
    rw [this] at hl
    cases hl
  · have q : P = [(4 * q0, 0)] := q
    rw [q]
    exact C.1
  · rcases q with q | q
    · exact absurd q List.not_mem_nil
    · exact absurd q List.not_mem_nil
  · obtain ⟨e1, -⟩ := fn_uq B.1 q0 cnt' x' cnt xf q1 hq
    rw [e1] at q2
    exact ⟨(hvr _ _ _).mpr ⟨rfl, z, q2, rfl, rfl⟩, hty z q2⟩
  · obtain ⟨h1, z, h2, h3, h4⟩ := (hvr F b a).mp q
    exact .inl ⟨cnt, xf, z, hq, h2, h1, h3⟩
  · have q1 : P = [(4 * q0, 0)] := q1
    have hs := ((tl_P B.1) z q2).2.1
    refine NQ_init hs (fun t a => hnV P t a) (fun t i q => ?_) (fun c => hE1 P c q1) (fun c c' q => ?_) (fun F b q => ?_) (fun q => ?_)
    · rcases q with q | q
      · exact absurd q List.not_mem_nil
      · exact absurd q List.not_mem_nil
    · have := (List.cons.inj q).2
      cases this
    · cases hc : vr F b with
      | none => rfl
      | some v =>
        obtain ⟨h1, zz, h2, h3, -⟩ := (hvr F b v).mp hc
        exact (Bd_0 B q2 (by rw [q1]; exact fun q => by cases q) q hq h2 h1 h3).elim
    · obtain ⟨-, z', ⟨z1, z2, z3, z4⟩, hl⟩ := hAW _ _ q
      rw [← (ou_P B.1).2 z' z1 z q2 z3]
      exact hl
  · have q1 : P = [(4 * q0, 0)] := q1
    have hs := ((tl_P B.1) z q2).2.1
    refine NP_init B.1 B.2.2.2.2.2.1 q2 q3 (by rw [q1]; exact hk) (fun _ => rfl) (fun _ _ => rfl) (fun _ _ _ => rfl) (fun c => hE1 P c q1) (fun hl => ⟨q1, z, ⟨q2, q3, rfl, lf_rt hs hl⟩, hl⟩)
theorem mx_0 (hln : LnG S) (h64 : S.1 64 2 = 0) (h67 : S.1 67 4 = 0) (h72 : S.1 72 2 = 1) (h73 : S.1 72 3 = 0) (h10 : S.1 38 10 = 0) : MX V y e N L sl tO sO kO S 0 0 fb fp fi tf (fun _ _ => none) ow si fo lw (fun _ _ => none) (fun _ _ => none) cc (fun _ _ => False) (fun _ _ _ _ => False) (fun _ _ _ => False) := by
  obtain ⟨l1, l2, l3, a, l4, l5, l6⟩ := hln
  have hp : 1 ≤ 2 ^ a := Nat.one_le_two_pow
  refine ⟨fun _ => none, fun _ => False, [], fun _ => [], fun _ => (0, [], 0), ⟨⟨⟨h64, l1, Nat.zero_le _, l2⟩, Nat.zero_le _⟩, ⟨h67, l3, Nat.zero_le _⟩, fun f q => absurd q (Nat.not_lt_zero _), fun s q => absurd q (Nat.not_lt_zero _), fun s q => q.elim, 1, [], [], fun _ => [], fun _ => 0, ⟨⟨h72, Nat.le_refl 1, h73, fun k q => absurd q List.not_mem_nil, List.nodup_nil, ⟨a, l4, l5, l6⟩, by omega⟩, fun k q => absurd q List.not_mem_nil, ⟨h10, List.nodup_nil, fun k q => absurd q List.not_mem_nil⟩, fun s q => absurd q (Nat.not_lt_zero _)⟩, fun k q1 q2 => absurd q2 (by omega), Nat.le_refl 1, rfl, fun s q => absurd q (Nat.not_lt_zero _)⟩, ⟨List.nodup_nil, fun s q => absurd q (Nat.not_lt_zero _), fun s c q => absurd q (Nat.not_lt_zero _), fun s s' c q => absurd q (Nat.not_lt_zero _), fun c q => ?_, fun c c' q => ?_⟩, ⟨fun f q => absurd q (Nat.not_lt_zero _), fun P t n q => (by cases q)⟩, fun s => ⟨fun q => q.elim, fun ⟨f, t, q, _⟩ => absurd q (Nat.not_lt_zero _)⟩, ⟨fun P z _ _ _ _ => rfl, fun f b q => absurd q (Nat.not_lt_zero _), fun P t n i q => (by cases q)⟩, fun s a q => (by cases q), fun c => ⟨fun q => absurd q List.not_mem_nil, fun ⟨P, t, q, _⟩ => q.elim⟩, fun f b c q => absurd q (Nat.not_lt_zero _), fun P t n i c q => (by cases q), fun s q => absurd q (Nat.not_lt_zero _), fun P t q => ?_⟩
  · rcases q with q | ⟨s, q, -⟩
    · exact absurd q List.not_mem_nil
    · exact absurd q (Nat.not_lt_zero _)
  · rcases q with q | ⟨s, q, -⟩
    · exact absurd q List.not_mem_nil
    · exact absurd q (Nat.not_lt_zero _)
  · rcases q with q | ⟨F, b, q⟩ | ⟨D, q⟩
    · exact q.elim
    · exact q.elim
    · exact q.elim
theorem mx_ln (h : MX V y e N L sl tO sO kO S nS nF fb fp fi tf tb ow si fo lw cv vr cc Aw WV WC2) : LnG S := by
  obtain ⟨ct, isL, aw, wa, sow, ⟨⟨⟨-, m1, -, m2⟩, -⟩, ⟨-, m3, -⟩, -, -, -, sz, fre, awk, wt, hs, ⟨⟨-, -, -, -, -, m4, -⟩, -⟩, -⟩, -⟩ := h
  exact ⟨m1, m2, m3, m4⟩
/-- a variable for which nobody waits gets its value -/
theorem x_putv {f0 b0 : Nat} (hfu : 600000 ≤ fu) (C : CGd K pl V y e N M L n ρ τ G) (hS : SLy G n τ sl tO sO kO) (hL : ∀ j fs c ns g γ r, (.tag 7 (.tag j (.append fs (.append c (.append ns g)))), γ, r) ∈ scP y → LL fs ∧ LL ns) (h : MX V y e N L sl tO sO kO S nS nF fb fp fi tf tb ow si fo lw cv vr cc Aw WV WC2) (hf0 : f0 < nF) (hv0 : VT V y (fp f0) b0) (h0 : vr (fp f0) b0 = none) (ha : 1 ≤ a.1 ∧ a.1 ≤ 4) (hE : EcW tf a w) (ht : a.1 = 3 → ∃ m, tb a.2.2.1 a.2.2.2 = some m ∧ a.2.1 = Int64.ofNat m) (hvr : ∀ F b, vr' F b = if F = fp f0 ∧ b = b0 then some a else vr F b) (hW : ∀ F b P t, ¬ WV F b P t) :
    ∃ S' : im_S, f_X8_put (nI (fb f0 + sO (N b0))) (nI a.1) w S = some ((), S') ∧ MX V y e N L sl tO sO kO S' nS nF fb fp fi tf tb ow si fo lw cv vr' cc Aw WV WC2 ∧ MK S S' := by
  obtain ⟨S', g1, g2, g3⟩ := x_setv hfu C hS hL h hf0 hv0 h0 ha hE ht hvr
  refine ⟨S', ?_, MX_cg g2 (fun P t => ⟨.inl, fun q => q.elim id (fun q => absurd q (hW _ _ _ _))⟩) (fun F b P t => ⟨fun q => absurd q (hW _ _ _ _), fun q => q.1⟩) (fun _ _ _ => Iff.rfl), g3⟩
  have hl := x_len h
  have hr := (x_rv C hS hL h hf0 hv0).2.1
  obtain ⟨ct, isL, aw, wa, sow, m1, m2, m3, m4, m5, m6, m7, m8, m9, m10, m11⟩ := h
  have k1 := vt_tk C hS hL m3 hf0 hv0
  have wp := wk_pos (kO (N b0))
  have hct : ct (fb f0 + sO (N b0)) = none := by rw [m5.2.1 f0 b0 hf0 hv0]; exact h0
  have hnl : ¬ isL (fb f0 + sO (N b0)) := fun q => by
    obtain ⟨f', t', q1, q2, q3, q4⟩ := (m4 _).mp q
    have := ly_ff C hS m3 hf0 q1 k1.1 q2 wp (show 1 < wk (kO (N t')) by omega) (show fb f0 + (sO (N b0) + 0) = fb f' + (sO (N t') + 1) by omega)
    omega
  have hwa : wa (fb f0 + sO (N b0)) = [] := by
    cases hq : wa (fb f0 + sO (N b0)) with
    | nil => rfl
    | cons c l =>
      obtain ⟨P, t, q, -⟩ := (m8 f0 b0 c hf0 hv0 hct).mp (by rw [hq]; exact List.mem_cons_self)
      exact absurd q (hW _ _ _ _)
  obtain ⟨-, -, -, n4, -, sz, fre, awk, wt, hs, c1, c2, c3, c4, c5⟩ := m1
  have h65 : S.1 65 (fb f0 + sO (N b0)) = 0 := by
    have := n4 _ hr
    rw [hct] at this
    exact this
  have hwt : wt (fb f0 + sO (N b0)) = [] := by
    have := c5 _ hr hct hnl
    rw [hwa] at this
    exact List.map_eq_nil_iff.mp this
  obtain ⟨ww, d1, d2, -⟩ := c1.2.2.2 _ hr h65 hnl
  rw [hwt] at d2
  have d2 : ww = 0 := d2
  have h66 : S.2.1 66 (fb f0 + sO (N b0)) = 0 := by rw [d1, d2]; rfl
  unfold f_X5_settle at g1
  rw [mI_in (a := fb f0 + sO (N b0)) (n := S.2.2 66) (by omega) (by omega), nI_clamp (show fb f0 + sO (N b0) < 2 ^ 31 by omega), h66] at g1
  obtain ⟨fv, hfv⟩ : ∃ fv, fu = fv + 1 := ⟨fu - 1, by omega⟩
  have g1 : f_X5_settle_L15 fu fu (nI (fb f0 + sO (N b0))) (nI a.1) w 0 0 S = some ((), S') := g1
  have e1 : f_X5_settle_L15 fu fu (nI (fb f0 + sO (N b0))) (nI a.1) w 0 0 S = f_X8_put (nI (fb f0 + sO (N b0))) (nI a.1) w S := by
    conv => lhs; rw [hfv]
    rw [f_X5_settle_L15, if_neg (show ¬ (16777216 : Int32) ≤ 0 by decide), if_pos (show (0 : Int32) = 0 from rfl), bd_u]
  rw [e1] at g1
  exact g1
set_option maxHeartbeats 4000000 in
/-- the parameters get their values -/
theorem x_pars (hfu : 600000 ≤ fu) (X : XB K pl V y e N M L n ρ τ G sl tO sO kO crt f W ν) (hq : (q0, cnt, xf) ∈ fuP y) (hc4 : cnt ≤ 4) (hFe : F = [(4 * q0, 0)]) (hF : fi F < nF) (hF2 : fp (fi F) = F) (hPk : POk V y F) (hif : ifr y (hdR F)) (hW : ∀ F b P t, ¬ WV F b P t) {z1 z3 : Int32} : ∀ (d u nf : Nat) (S : im_S) (vr0 : TPth → Nat → Option TVal) (w : Int32), d + u = cnt → d < nf → Chn G w ((pms (q0 + 2 + 2 * u) d).map N) → CAg G S → MX V y e N L sl tO sO kO S nS nF fb fp fi tf tb ow si fo lw cv vr0 cc Aw WV WC2 → (∀ z, z < 4 → S.2.1 2 z = ar z) → (∀ z, u ≤ z → vr0 F (q0 + 2 + 2 * z) = none) → ∃ (S' : im_S) (vr1 : TPth → Nat → Option TVal), f_X5_begin_L90 fu nf z1 z3 (nI (fi F)) w (nI u) S = (f_X5_enter fu (nI (fi F)) z3 S').bind (fun q => (f_X5_flow fu q.2).bind (fun q' => some ((), q'.2))) ∧ MX V y e N L sl tO sO kO S' nS nF fb fp fi tf tb ow si fo lw cv vr1 cc Aw WV WC2 ∧ MK S S' ∧ ∀ F' b' v, vr1 F' b' = some v ↔ vr0 F' b' = some v ∨ (F' = F ∧ ∃ z, u ≤ z ∧ z < cnt ∧ b' = q0 + 2 + 2 * z ∧ v = mkN (ar z)) := by
  have C := X.1
  have hS := X.2.1
  have hL := X.2.2.1.2.2.2.2.1
  intro d
  induction d with
  | zero =>
    intro u nf S vr0 w hd hnf hch hA hX har hv
    obtain ⟨nf, rfl⟩ : ∃ q, nf = q + 1 := ⟨nf - 1, by omega⟩
    have hw : w = -1 := hch
    refine ⟨S, vr0, ?_, hX, MK_r, fun F' b' v => ⟨.inl, fun q => q.elim id (fun ⟨_, z, q1, q2, _⟩ => absurd q1 (by omega))⟩⟩
    rw [f_X5_begin_L90]
    by_cases c4 : (4 : Int32) ≤ nI u
    · rw [if_pos c4]
    · rw [if_neg c4, if_pos hw]
  | succ d ih =>
    intro u nf S vr0 w hd hnf hch hA hX har hv
    obtain ⟨nf, rfl⟩ : ∃ q, nf = q + 1 := ⟨nf - 1, by omega⟩
    obtain ⟨hw, hN, hch⟩ := hch
    have hw : w = nI (N (q0 + 2 + 2 * u)) := hw
    have hN : N (q0 + 2 + 2 * u) < 512 := hN
    have hch : Chn G (G.1 14 (N (q0 + 2 + 2 * u))) ((pms (q0 + 2 + 2 * u + 2) d).map N) := hch
    have n4 : ¬ (4 : Int32) ≤ nI u := fun q => by
      have := (mI_le (a := 4) (b := u) (by omega) (by omega)).mp q
      omega
    have hvt : VT V y F (q0 + 2 + 2 * u) := .inl ⟨q0, cnt, xf, u, hq, by omega, rfl, by rw [hFe]; rfl⟩
    have hkp := (tk_v C hS hL hvt hPk hif).1
    have hsl := x_slot C hS hA hX hF (t := q0 + 2 + 2 * u) (by rw [hF2]; exact hkp)
    have h0 : vr0 F (q0 + 2 + 2 * u) = none := hv u (Nat.le_refl _)
    obtain ⟨S1, g1, g2, g3⟩ := x_putv (a := mkN (ar u)) (w := ar u) (vr' := fun F1 b => if F1 = F ∧ b = q0 + 2 + 2 * u then some (mkN (ar u)) else vr0 F1 b) hfu C hS hL hX hF (by rw [hF2]; exact hvt) (by rw [hF2]; exact h0) ⟨Nat.le_refl _, by show 1 ≤ 4; omega⟩ (ecw_n (v := mkN (ar u)) (show ¬ 1 = 3 by decide)) (fun q => absurd q (show ¬ 1 = 3 by decide)) (fun F1 b => by rw [hF2]) hW
    have hA1 := cag_mk hA g3
    obtain ⟨S', vr1, k1, k2, k3, k4⟩ := ih (u + 1) nf S1 _ (G.1 14 (N (q0 + 2 + 2 * u))) (by omega) (by omega) (by rw [show q0 + 2 + 2 * (u + 1) = q0 + 2 + 2 * u + 2 by omega]; exact hch) hA1 g2 (fun z q => (g3.2.1 2 z (by omega)).trans (har z q)) (fun z q => (if_neg (fun q' => by have := q'.2; omega)).trans (hv z (by omega)))
    refine ⟨S', vr1, ?_, k2, MK_t g3 k3, fun F' b' v => ?_⟩
    · rw [hw, f_X5_begin_L90, if_neg n4, if_neg (nI_m1 (show N (q0 + 2 + 2 * u) < 2 ^ 31 by omega)), hsl]
      simp only [Option.bind_some]
      have g1 : f_X8_put (nI (fb (fi F) + sO (N (q0 + 2 + 2 * u)))) 1 (ar u) S = some ((), S1) := g1
      rw [mI_in (a := u) (n := 4) (by omega) (by omega), nI_clamp (show u < 2 ^ 31 by omega), har u (by omega), g1]
      simp only [gd_t, Option.bind_some]
      rw [mI_in (a := N (q0 + 2 + 2 * u)) (n := 512) (by omega) hN, nI_clamp (show N (q0 + 2 + 2 * u) < 2 ^ 31 by omega), (hA1 14 (N (q0 + 2 + 2 * u)) (by omega) (by omega)).1, show nI u + 1 = nI (u + 1) from nI_add u 1]
      simp only [gd_t]
      exact k1
    · rw [k4 F' b' v]
      show (if F' = F ∧ b' = q0 + 2 + 2 * u then some (mkN (ar u)) else vr0 F' b') = some v ∨ _ ↔ _
      by_cases cb : F' = F ∧ b' = q0 + 2 + 2 * u
      · rw [if_pos cb]
        refine ⟨fun q => ?_, fun q => ?_⟩
        · rcases q with q | ⟨q1, z, q2, q3, q4, q5⟩
          · exact .inr ⟨cb.1, u, Nat.le_refl _, by omega, cb.2, (Option.some.inj q).symm⟩
          · exact .inr ⟨q1, z, by omega, q3, q4, q5⟩
        · rcases q with q | ⟨q1, z, q2, q3, q4, q5⟩
          · rw [cb.1, cb.2, h0] at q
            cases q
          · have : z = u := by have := cb.2; omega
            rw [q5, this]
            exact .inl rfl
      · rw [if_neg cb]
        refine ⟨fun q => q.imp id (fun ⟨q1, z, q2, q3, q4, q5⟩ => ⟨q1, z, by omega, q3, q4, q5⟩), fun q => q.imp id (fun ⟨q1, z, q2, q3, q4, q5⟩ => ⟨q1, z, ?_, q3, q4, q5⟩)⟩
        rcases Nat.lt_or_ge u z with q6 | q6
        · exact q6
        · have : z = u := by omega
          rw [this] at q4
          exact absurd ⟨q1, q4⟩ cb
end BEG
