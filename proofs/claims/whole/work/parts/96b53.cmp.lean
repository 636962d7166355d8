/-! the class and the reference: the same values, the same state -/
section CMP
variable {K pl : Nat → Nat} {V : Nat → Int64} {y : TR} {e m : Nat} {N M L : Nat → Nat} {n ρ τ : Nat} {G : im_S} {sl tO sO kO crt : Nat → Nat} {f fr n' r' : Nat} {W : Nat → Int32 × Int32 × Int32} {ν ρ' : Nat → Nat} {q0 cnt : Nat} {xf : TR} {ar : Nat → Int64} {S S' : im_S} {En : TPth → Prop} {cv vr : TPth → Nat → Option TVal} {Aw : TPth → Nat → Prop} {WV WC : TPth → Nat → TPth → Nat → Prop} {R H Lv : List TEv} {nS nF ev : Nat} {fb : Nat → Nat} {fp : Nat → TPth} {fi : TPth → Nat} {tf : TPth → Nat → Nat} {tb : TPth → Nat → Option Nat} {ow si fo : Nat → Int32} {lw : Nat → Int64} {nA nB nT : Nat} {A : Nat → TPth} {b : Nat → Nat} {vals : TPth → Nat → Option TVal} {lk : TPth → Nat → Option TPth} {Mt : Nat → TPth × Nat} {f1 f2 : Nat → Nat}
/-- nothing is ready: the same values -/
theorem cmp_v (X : XB K pl V y e N M L n ρ τ G sl tO sO kO crt f W ν) (h : MI K V y e N L G sl tO sO kO crt q0 ar S En cv vr none Aw WV WC [] H nS nF fb fp fi tf tb ow si fo lw) (hAw : ∀ P t, ¬ Aw P t) (hRs : RIs K V y q0 ar nA A vals Lv) (hc : CloA K V y q0 ar (EnA nA A) (Vf vals) (fun e => e ∈ Lv)) : ∀ P t a, VaC y cv P t a ↔ vals P t = some a := fun P t a => by
  obtain ⟨u1, u2, u3⟩ := h.1.2.2.1 _ _ _ hc
  exact ⟨fun q => va_C X.1.1 h.1.1 (fun P t a q => (h.1.2.1.1 P t a (.inl q)).1) hc u1 (fun P t a q => u2 P t a (.inl q)) q, fun q => (hRs _ _ _ (cls_clo X h hAw)).2.1 P t a q⟩
/-- the reference's state -/
theorem ref_st (T : TH K pl V m) (Rd : RHd K pl V m fr y e n' r' ν ρ' W S) (I : RI K V y q0 ar ν ρ' S nA nB nT A b vals lk Mt Lv f1 f2) (hl : Lv.length ≤ 1021) (hq : (q0, cnt, xf) ∈ fuP y) (h73 : S.1 75 73 ≠ 0) (h74 : S.1 75 74 = nI ev) (hev : ev ≤ min Lv.length 1000) : (ev < min Lv.length 1000 → f_X11_stateOf S = some (1, S)) ∧ (ev = min Lv.length 1000 → (1000 < Lv.length → f_X11_stateOf S = some (4, S)) ∧ (Lv.length ≤ 1000 → ∃ s, f_X11_rootSlot 0 S = some (nI s, S) ∧ s < 496496 ∧ Sl S Mt nT s (vals [(4 * q0, 0)] (otk xf)) ∧ f_X11_stateOf S = if S.1 126 s = 0 then some (3, S) else some (2, S))) := by
  obtain ⟨⟨-, -, -, h72⟩, ⟨hA0, hA1⟩, -⟩ := id I
  have hmn : min Lv.length 1000 ≤ 1000 := Nat.min_le_right _ _
  have hlim : f_X11_limit S = some (nI (min Lv.length 1000), S) := by
    unfold f_X11_limit
    rw [h72]
    by_cases c : Lv.length ≤ 1000
    · rw [if_pos (show nI Lv.length ≤ 1000 from (mI_le (a := Lv.length) (b := 1000) (by omega) (by omega)).mpr c), Nat.min_eq_left c]
    · rw [if_neg (show ¬ nI Lv.length ≤ 1000 from fun q => c ((mI_le (a := Lv.length) (b := 1000) (by omega) (by omega)).mp q)), Nat.min_eq_right (by omega)]
      rfl
  have hst : f_X11_stateOf S = (if nI (min Lv.length 1000) ≤ nI ev then (if nI Lv.length ≤ 1000 then ((f_X11_rootSlot 0 S).bind (fun qS7 => gd (in_b qS7.1 520000) (if ((qS7.2.1 126) qS7.1.toNatClampNeg : Int32) = 0 then (some (3, qS7.2)) else (some (2, qS7.2))))) else (some (4, S))) else (some (1, S))) := by
    unfold f_X11_stateOf
    rw [if_pos h73, hlim]
    simp only [Option.bind_some]
    rw [h72, h74]
  refine ⟨fun q => ?_, fun q => ⟨fun q1 => ?_, fun q1 => ?_⟩⟩
  · rw [hst, if_neg (fun q' => by
      have := (mI_le (a := min Lv.length 1000) (b := ev) (by omega) (by omega)).mp q'
      omega)]
  · rw [hst, if_pos ((mI_le (a := min Lv.length 1000) (b := ev) (by omega) (by omega)).mpr (by omega)), if_neg (show ¬ nI Lv.length ≤ 1000 from fun q => by
      have := (mI_le (a := Lv.length) (b := 1000) (by omega) (by omega)).mp q
      omega)]
  · obtain ⟨⟨b0, e0, wx⟩, hsc, hg⟩ := fu_sc Rd.1 q0 cnt xf hq
    obtain ⟨s, s1, s2, s3, s4⟩ := rt_at T Rd I q1 (x1 := 0) hA0 (hsc _ (hd_in wx _ _)) (by rw [hA1]; rfl) hg
    rw [hA1] at s3
    have s1 : f_X11_rootSlot 0 S = some (nI s, S) := s1
    refine ⟨s, s1, s2, s3, ?_⟩
    rw [hst, if_pos ((mI_le (a := min Lv.length 1000) (b := ev) (by omega) (by omega)).mpr (by omega)), if_pos (show nI Lv.length ≤ 1000 from (mI_le (a := Lv.length) (b := 1000) (by omega) (by omega)).mpr q1), s1]
    simp only [Option.bind_some]
    rw [mI_in (a := s) (n := 520000) (by omega) (by omega), nI_clamp (show s < 2 ^ 31 by omega)]
    simp only [gd_t]
/-- THE SAME STATE -/
theorem st_cmp (T : TH K pl V m) (X : XB K pl V y e N M L n ρ τ G sl tO sO kO crt f W ν) (Rd : RHd K pl V m fr y e n' r' ν ρ' W S') (I : RI K V y q0 ar ν ρ' S' nA nB nT A b vals lk Mt Lv f1 f2) (hl : Lv.length ≤ 1021) (hc : Lv.length ≤ 1000 → CloA K V y q0 ar (EnA nA A) (Vf vals) (fun e => e ∈ Lv)) (hq : (q0, cnt, xf) ∈ fuP y) (h73 : S'.1 75 73 ≠ 0) (h74 : S'.1 75 74 = nI ev) (Q : RnI K V y e N L G sl tO sO kO crt q0 ar S ev) :
    (ev < min Lv.length 1000 ∧ f_X5_condition S = some (1, S) ∧ f_X11_stateOf S' = some (1, S')) ∨ (ev = min Lv.length 1000 ∧ ((f_X5_condition S = some (4, S) ∧ f_X11_stateOf S' = some (4, S')) ∨ (f_X5_condition S = some (3, S) ∧ f_X11_stateOf S' = some (3, S')) ∨ (f_X5_condition S = some (2, S) ∧ f_X11_stateOf S' = some (2, S') ∧ ∃ s a, f_X11_rootSlot 0 S' = some (nI s, S') ∧ s < 496496 ∧ Sl S' Mt nT s (some a) ∧ S.1 38 3 = nI a.1 ∧ ∃ tf, EcW tf a (S.2.1 38 4)))) := by
  obtain ⟨-, -, -, -, -, -, -, hLn, hRs, -⟩ := id I
  obtain ⟨En, cv, vr, Aw, WV, WC, R, H, nS, nF, fb, fp, fi, tf, tb, ow, si, fo, lw, ⟨h, hAw, hcv, htb, her⟩, v9, v2, p1, p2, p3⟩ := Q
  obtain ⟨r1, r2, r3⟩ := rn_le X hLn (fun En' Va' De' C => (hRs En' Va' De' C).2.2) hc h hAw p1 p2 p3
  obtain ⟨-, -, v8, vl, -⟩ := id h.2.2.2.1
  obtain ⟨c1, c2, c3⟩ := cnd_1 v9 v8 v2 vl p3
  obtain ⟨s1, s2⟩ := ref_st T Rd I hl hq h73 h74 r1
  by_cases cR : R = []
  · obtain ⟨k1, k2, k3⟩ := r2 cR
    have hev : ev = min Lv.length 1000 := by rw [Nat.min_eq_left k3]; exact k1
    obtain ⟨s, t1, t2, t3, t4⟩ := (s2 hev).2 k3
    subst cR
    have hcd := c3 rfl
    have hw := Rd.1
    have hcv2 := cmp_v X h hAw hRs (hc k3)
    have hmr := h.2.2.2.2.2.2.2.2.1 cnt xf hq
    obtain ⟨-, hsc, -⟩ := fu_sc hw q0 cnt xf hq
    obtain ⟨b0, e0, wx, -⟩ := fu_wt hw q0 cnt xf hq
    have hz := hsc _ (hd_in wx _ _)
    have hat : ∀ a, cv [(4 * q0, 0)] (rtk xf) = some a ↔ vals [(4 * q0, 0)] (otk xf) = some a := fun a => by
      have := VaC_at (cv := cv) (P := [(4 * q0, 0)]) (a := a) hw hz (show 4 * q0 = hdR [(4 * q0, 0)] from rfl)
      exact this.symm.trans (hcv2 _ _ a)
    refine .inr ⟨hev, .inr ?_⟩
    cases hcx : cv [(4 * q0, 0)] (rtk xf) with
    | none =>
      have h3 := hmr.1 hcx
      have hvn : vals [(4 * q0, 0)] (otk xf) = none := by
        cases hvx : vals [(4 * q0, 0)] (otk xf) with
        | none => rfl
        | some a =>
          rw [(hat a).mpr hvx] at hcx
          cases hcx
      rw [hvn] at t3
      have t3 : S'.1 126 s = 0 := t3
      rw [if_pos t3] at t4
      rw [if_neg (fun q => q h3)] at hcd
      exact .inl ⟨hcd, t4⟩
    | some a =>
      obtain ⟨h3, hE⟩ := hmr.2 a hcx
      rw [(hat a).mp hcx] at t3
      have hn0 : ¬ S'.1 126 s = 0 := fun q => by
        have k1 := t3.1
        rw [q] at k1
        have := (nI_eq (a := 0) (b := a.1) (by omega) (by have := t3.2.2.1; omega)).mp k1
        have := t3.2.1
        omega
      have hn3 : S.1 38 3 ≠ 0 := fun q => by
        rw [q] at h3
        have := (nI_eq (a := 0) (b := a.1) (by omega) (by have := t3.2.2.1; omega)).mp h3
        have := t3.2.1
        omega
      rw [if_neg hn0] at t4
      rw [if_pos hn3] at hcd
      exact .inr ⟨hcd, t4, s, a, t1, t2, t3, h3, tf, hE⟩
  · by_cases ce : ev = 1000
    · have hm1 : min Lv.length 1000 = 1000 := by
        have := Nat.min_le_right Lv.length 1000
        omega
      refine .inr ⟨by omega, .inl ⟨c2 cR ce, (s2 (by omega)).1 ?_⟩⟩
      rcases Nat.lt_or_ge 1000 Lv.length with u | u
      · exact u
      · have hR : 1 ≤ R.length := by
          cases R with
          | nil => exact absurd rfl cR
          | cons a R => rw [List.length_cons]; omega
        have := (rn_cmp X hLn (fun En' Va' De' C => (hRs En' Va' De' C).2.2) hc h hAw).1 u
        rw [Nat.min_eq_left u] at hm1
        omega
    · have hlt := r3 cR (by omega)
      exact .inl ⟨hlt, c1 cR (by omega), s1 hlt⟩
end CMP
