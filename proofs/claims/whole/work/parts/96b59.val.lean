/-! the law's steps: value, cell -/
/-- what both know of a run that has ended -/
def EndR (S S' : im_S) : Prop := ∃ (s nT : Nat) (a : TVal) (Mt : Nat → TPth × Nat), f_X11_rootSlot 0 S' = some (nI s, S') ∧ s < 496496 ∧ Sl S' Mt nT s (some a) ∧ nT ≤ 1000 ∧ S.1 38 3 = nI a.1 ∧ (a.1 ≠ 3 → S.2.1 38 4 = a.2.1) ∧ (a.1 = 3 → ∃ m f0 T g : Nat, m ≤ 20 ∧ f0 < 2 ^ 24 ∧ S.2.1 38 4 = Int64.ofNat (f0 * 32 + m) ∧ a.2.1 = Int64.ofNat m ∧ T < nT ∧ S'.2.1 127 s = (nI T).toInt64 ∧ S'.1 130 T = nI m ∧ S'.1 129 T = nI g ∧ ∀ i, i < m → ∃ (o : Option TVal) (tf : TPth → Nat → Nat) (s2 : Nat), f0 + i < S.2.2 65 ∧ f0 + i < S.2.2 66 ∧ SlC S tf (f0 + i) o ∧ f_X11_rootSlot (nI (g + i)) (uI S' 75 0 0) = some (nI s2, uI S' 75 0 0) ∧ s2 < 496496 ∧ Sl (uI S' 75 0 0) Mt nT s2 o ∧ ∀ b, o = some b → b.1 ≠ 3)
section VAL
variable {fu : Nat} {c : Nat → Int32} {S S' : im_S}
set_option maxHeartbeats 4000000 in
theorem rb_all (h : LwI S) (w1 : ∀ a i : Nat, 75 ≤ a → (a = 75 → i ≠ 0) → S'.1 a i = S.1 a i) (w2 : ∀ a i : Nat, 75 ≤ a → a ≠ 134 → S'.2.1 a i = S.2.1 a i) : ∃ k : Int32, f_X5_condition S = some (k, S) ∧ f_X11_stateOf S' = some (k, S') ∧ (k = 2 → EndR S S') := by
  rcases h.2.2.2.2 with hr | hr
  · refine ⟨0, ?_, ?_, fun q => absurd q (by decide)⟩
    · unfold f_X5_condition
      rw [hr.1, if_neg (by decide)]
    · unfold f_X11_stateOf
      rw [w1 75 73 (by omega) (by omega), hr.2, if_neg (by decide)]
  · obtain ⟨K, pl, V, m, y, e, N, M, L, n, ρ, τ, fr, n', r', ν, ρ', W, G, sl, tO, sO, kO, crt, q0, cnt, xf, ar, ev, nA, nB, nT, A, b, vals, lk, Mt, Lv, f1, f2, ⟨T, X, g2, g3, g4⟩, ⟨u1, u2, u3, u4⟩, I, I2, I3⟩ := hr
    have Rd : RHd K pl V m fr y e n' r' ν ρ' W S' := RHd_ag g3 (fun a i q1 q2 => ⟨w1 a i (by omega) (by omega), w2 a i (by omega) (by omega)⟩) (fun a i q => ⟨w1 a i (by omega) (by omega), w2 a i (by omega) (by omega)⟩) (fun a i q => w1 a i (by omega) (by omega)) (fun i q => w1 75 i (by omega) (by omega))
    have I' := RI_c2 (S' := S') I (fun i q => w1 75 i (by omega) (by omega)) (fun a i q1 q2 => w1 a i (by omega) (by omega)) (fun i => w2 127 i (by omega) (by omega))
    have Rd0 : RHd K pl V m fr y e n' r' ν ρ' W (uI S' 75 0 0) := RHd_ag Rd (fun a i q1 q2 => ⟨uI_ne (by omega), rfl⟩) (fun a i q => ⟨uI_ne (by omega), rfl⟩) (fun a i q => uI_ne (by omega)) (fun i q => uI_ne (by omega))
    have I0 := RI_c2 (S' := uI S' 75 0 0) I' (fun i q => uI_ne (by omega)) (fun a i q1 q2 => uI_ne (by omega)) (fun i => rfl)
    have h73 : S'.1 75 73 ≠ 0 := by rw [w1 75 73 (by omega) (by omega), u3]; decide
    have h74 : S'.1 75 74 = nI ev := (w1 75 74 (by omega) (by omega)).trans u4
    rcases st_cmp T X Rd I' I2 I3 u1 h73 h74 u2 with ⟨-, c1, c2⟩ | ⟨-, ⟨c1, c2⟩ | ⟨c1, c2⟩ | ⟨c1, c2, -⟩⟩
    · exact ⟨1, c1, c2, fun q => absurd q (by decide)⟩
    · exact ⟨4, c1, c2, fun q => absurd q (by decide)⟩
    · exact ⟨3, c1, c2, fun q => absurd q (by decide)⟩
    · refine ⟨2, c1, c2, fun _ => ?_⟩
      obtain ⟨-, -, -, -, -, r6, -, hLn, hRs, hcnt⟩ := id I'
      obtain ⟨En, cv, vr, Aw, WV, WC, R, H, nS, nF, fb, fp, fi, tf, tb, ow, si, fo, lw, ⟨hM, hAw, hcv, htb, her⟩, v9, v2, p1, p2, p3⟩ := u2
      obtain ⟨r1, r2, r3⟩ := rn_le X hLn (fun En' Va' De' C => (hRs En' Va' De' C).2.2) I3 hM hAw p1 p2 p3
      obtain ⟨-, -, v8, vl, -⟩ := id hM.2.2.2.1
      obtain ⟨d1, d2, d3⟩ := cnd_1 v9 v8 v2 vl p3
      have cR : R = [] := Classical.byContradiction (fun q => by
        by_cases ce : ev = 1000
        · have := d2 q ce
          rw [c1] at this
          exact absurd (congrArg Prod.fst (Option.some.inj this)) (show ¬ (2 : Int32) = 4 by decide)
        · have := d1 q (by omega)
          rw [c1] at this
          exact absurd (congrArg Prod.fst (Option.some.inj this)) (show ¬ (2 : Int32) = 1 by decide))
      obtain ⟨k1, k2, k3⟩ := r2 cR
      have hev : ev = min Lv.length 1000 := by rw [Nat.min_eq_left k3]; exact k1
      obtain ⟨s, t1, t2, t3, t4⟩ := ((ref_st T Rd I' I2 u1 h73 h74 r1).2 hev).2 k3
      subst cR
      have hcd := d3 rfl
      have hw := Rd.1
      have hcv2 := cmp_v X hM hAw hRs (I3 k3)
      have hmr := hM.2.2.2.2.2.2.2.2.1 cnt xf u1
      obtain ⟨-, hsc, -⟩ := fu_sc hw q0 cnt xf u1
      obtain ⟨b0, e0, wx, -⟩ := fu_wt hw q0 cnt xf u1
      have hz := hsc _ (hd_in wx _ _)
      have hat : ∀ (D : TPth) (x : TR) (γ : List Nat) (r : Nat), (x, γ, r) ∈ scP y → r = hdR D → cv D (rtk x) = vals D (otk x) := fun D x γ r q1 q2 => by
        have key : ∀ a, cv D (rtk x) = some a ↔ vals D (otk x) = some a := fun a => by
          have := VaC_at (cv := cv) (P := D) (a := a) hw q1 q2
          exact this.symm.trans (hcv2 _ _ a)
        cases hc : cv D (rtk x) with
        | none =>
          cases hv : vals D (otk x) with
          | none => rfl
          | some a =>
            rw [(key a).mpr hv] at hc
            cases hc
        | some a => exact ((key a).mp hc).symm
      rw [← hat [(4 * q0, 0)] xf _ _ hz rfl] at t3
      have hnT : nT ≤ 1000 := by
        have := hcnt.2.2
        omega
      cases hcx : cv [(4 * q0, 0)] (rtk xf) with
      | none =>
        rw [if_neg (fun q => q (hmr.1 hcx))] at hcd
        rw [c1] at hcd
        exact absurd (congrArg Prod.fst (Option.some.inj hcd)) (show ¬ (2 : Int32) = 3 by decide)
      | some a =>
        obtain ⟨h3, hE⟩ := hmr.2 a hcx
        rw [hcx] at t3
        refine ⟨s, nT, a, Mt, t1, t2, t3, hnT, h3, hE.2, fun ha3 => ?_⟩
        obtain ⟨m0, v1, v2'⟩ := hM.2.2.2.2.2.2.1.1 _ _ a (.inl hcx) ha3
        obtain ⟨n0, z1, z2, z3⟩ := hE.1 ha3
        have hrt := x_rt hM.2.1 v1
        have hxl := x_len hM.2.1
        have en : n0 = m0 := of20 n0 m0 z1 hrt.1 (z2.symm.trans v2')
        rw [en] at z3
        obtain ⟨Ti, y1, y2, y3, y4⟩ := t3.2.2.2.2 ha3
        obtain ⟨g, ng, x1, x2, x3, x4, q, q', γ1, rr, x5⟩ := r6 Ti y1
        have eg : ng = m0 := by
          rw [x2, nI64 (by omega), v2'] at y4
          exact (of20 m0 ng hrt.1 x3 y4).symm
        rw [eg] at x2 x4
        have ep : (Mt Ti).1 = a.2.2.1 := by rw [y3]
        have et : (Mt Ti).2 = a.2.2.2 := by rw [y3]
        rw [et] at x5
        refine ⟨m0, tf a.2.2.1 a.2.2.2, Ti, g, hrt.1, by omega, z3, v2', y1, y2, x2, x1, fun i hi => ?_⟩
        obtain ⟨j1, j2⟩ := x4 i hi
        rw [et, ep] at j2
        obtain ⟨l1, l2, -, -⟩ := x_rc hM.2.1 v1 hi
        have hin : (4 * a.2.2.2, nds q', some (otk q')) ∈ rgP y := in_P hw _ x5
        obtain ⟨⟨pp, ee, wz1⟩, -, htr1⟩ := (tl_P hw) _ x5
        obtain ⟨-, -, -, bb, wq, wq'⟩ := wz1
        have hzq := htr1 _ (mc _ (mr _ (hd_in wq' _ _)))
        obtain ⟨s2, e1, e2, e3, e4⟩ := rt_at T Rd0 I0 k3 (x1 := g + i) j1 hzq (by rw [j2]; rfl) hin
        rw [j2] at e3 e4
        rw [← hat ((4 * a.2.2.2, i) :: a.2.2.1) q' _ _ hzq rfl] at e3 e4
        have hcr : crt a.2.2.2 = rtk q' := X.2.2.2.2.1 _ _ _ _ _ x5
        have l2 : SlC S tf (tf a.2.2.1 a.2.2.2 + i) (cv ((4 * a.2.2.2, i) :: a.2.2.1) (crt (4 * a.2.2.2 / 4))) := l2
        rw [show 4 * a.2.2.2 / 4 = a.2.2.2 by omega, hcr] at l2
        refine ⟨cv ((4 * a.2.2.2, i) :: a.2.2.1) (rtk q'), tf, s2, by omega, by omega, l2, e1, e2, e3, fun b hb q3 => ?_⟩
        have hty := e4 b hb
        have hgd : tvV (V (a.2.2.2 + 1)) = 3 ∧ tvV (V (a.2.2.2 + 3)) = 1 ∧ tyV K V q = 1 ∧ tyV K V q' = 1 := X.2.2.1.2.2.2.2.2.1 _ x5
        rw [hgd.2.2.2] at hty
        have := hty.2 (by omega)
        omega
end VAL
