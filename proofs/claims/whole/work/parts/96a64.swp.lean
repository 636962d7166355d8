/-! a sweep of the reference over an activation -/
def RX (K pl : Nat → Nat) (V : Nat → Int64) (m fr : Nat) (y : TR) (e n' r' q0 : Nat) (ar : Nat → Int64) (ν ρ : Nat → Nat) (W : Nat → Int32 × Int32 × Int32) (S : im_S) : Prop := TH K pl V m ∧ RHd K pl V m fr y e n' r' ν ρ W S ∧ (∀ z, z ∈ scP y → GdN K V (ftP y) z) ∧ (∀ q cnt x, (q, cnt, x) ∈ fuP y → tyV K V x = tvV (V q)) ∧ LB V y ∧ (∀ z, z < 4 → S.2.1 131 z = ar z) ∧ ∀ cnt x, (q0, cnt, x) ∈ fuP y → ∀ z, z < cnt → tvV (V (q0 + 2 + 2 * z)) = 1
def uvc (S : im_S) (b0 len : Nat) : Nat := tot (fun k => if S.1 126 (b0 + k) = 0 then 1 else 0) len
def CNt (y : TR) (S : im_S) (nA : Nat) (A : Nat → TPth) (b : Nat → Nat) : Prop := ∀ x, x < nA → S.1 123 x = nI (uvc S (b x) (rgL y (hdR (A x))).length)
def muv (S : im_S) (nA nS : Nat) : Nat := nA + tot (fun s => if S.1 126 s = 0 then 0 else 1) nS
section SWP
variable {K pl : Nat → Nat} {V : Nat → Int64} {m fr e n' r' fu : Nat} {y : TR} {q0 : Nat} {ar : Nat → Int64} {ν ρ : Nat → Nat} {W : Nat → Int32 × Int32 × Int32} {S S' : im_S} {nA nS nT : Nat} {A : Nat → TPth} {b : Nat → Nat} {vals : TPth → Nat → Option TVal} {lk : TPth → Nat → Option TPth} {M : Nat → TPth × Nat} {Lv : List TEv} {f1 f2 : Nat → Nat} {x0 k0 : Nat}
theorem tot_z : ∀ d, tot (fun _ => 0) d = 0 := by
  intro d
  induction d with
  | zero => rfl
  | succ d ih => show tot (fun _ => 0) d + 0 = 0; omega
theorem RX_rf (X : RX K pl V m fr y e n' r' q0 ar ν ρ W S) (h : RF S S') : RX K pl V m fr y e n' r' q0 ar ν ρ W S' := by
  obtain ⟨x1, x2, x3, x4, x5, x6, x7⟩ := X
  exact ⟨x1, RHd_rf x2 h, x3, x4, x5, fun z hz => (h.2 131 z (by omega) (by omega)).trans (x6 z hz), x7⟩
theorem st_all (hfu : 30000 ≤ fu) (X : RX K pl V m fr y e n' r' q0 ar ν ρ W S) (I : RI K V y q0 ar ν ρ S nA nS nT A b vals lk M Lv f1 f2) (h : Lv.length ≤ 1000) (hx0 : x0 < nA) {z : TR × List Nat × Nat} (hz : z ∈ scP y) (hr : z.2.2 = hdR (A x0)) (hk0 : (rgL y (hdR (A x0)))[k0]? = some (otk z.1)) (hv0 : vals (A x0) (otk z.1) = none) : ∃ ans S', f_X11_step fu (nI x0) (nI (ν (otk z.1))) S = some (ans, S') ∧ SO K V y q0 ar ν ρ S nA nS nT A b vals lk M Lv f1 f2 x0 k0 z ans S' := by
  obtain ⟨T, R, hG, hF, hLB, har, hq0⟩ := X
  have hs := ((tl_P R.1) z hz).2.1
  obtain ⟨x, γ, r⟩ := z
  have hs : shp x := hs
  rcases hs with ⟨j, rfl⟩ | ⟨j, rfl⟩ | ⟨j, rfl⟩ | ⟨j, as, rfl⟩ | ⟨j, a, c, rfl⟩ | ⟨j, a, c, d, rfl⟩ | ⟨j, fs, c, ns, g, rfl⟩ | ⟨j, a, rfl⟩ | ⟨j, a, c, rfl⟩ | ⟨j, a, c, rfl⟩ | ⟨j, a, c, rfl⟩ | ⟨j, a, rfl⟩
  · exact st_1 T R I h hx0 hz hr hk0 hv0
  · exact st_2 T R I h hx0 hz hr hk0 hv0
  · exact st_3 T hfu R I h hG har hq0 hx0 hz hr hk0 hv0
  · exact st_4 T hfu R I h hG hF hLB hx0 hz hr hk0 hv0
  · exact st_5 T R I h hx0 hz hr hk0 hv0
  · exact st_6 T hfu R I h hG hLB hx0 hz hr hk0 hv0
  · exact st_7 T hfu R I h hG hLB hx0 hz hr hk0 hv0
  · exact st_8 T R I h hG hx0 hz hr hk0 hv0
  · exact st_9 T R I h hG hx0 hz hr hk0 hv0
  · exact st_10 T R I h hG hx0 hz hr hk0 hv0
  · exact st_11 T hfu R I h hG hLB hx0 hz hr hk0 hv0
  · exact st_12 T R I h hx0 hz hr hk0 hv0
theorem RI_cg (I : RI K V y q0 ar ν ρ S nA nS nT A b vals lk M Lv f1 f2) (h1 : ∀ a i : Nat, a ≠ 123 → (a = 75 → i ≠ 81 ∧ i ≠ 82) → S'.1 a i = S.1 a i) (h2 : ∀ i, S'.2.1 127 i = S.2.1 127 i) : RI K V y q0 ar ν ρ S' nA nS nT A b vals lk M Lv f1 f2 := by
  obtain ⟨⟨c1, c2, c3, c4⟩, r2, r3, r4, r5, r6, r7, r8, r9, r10⟩ := I
  refine ⟨⟨(h1 75 57 (by omega) (by omega)).trans c1, (h1 75 64 (by omega) (by omega)).trans c2, (h1 75 68 (by omega) (by omega)).trans c3, (h1 75 72 (by omega) (by omega)).trans c4⟩, r2, fun x hx => ?_, r4, r5, fun T hT => ?_, r7, r8, r9, r10⟩
  · obtain ⟨a1, a2, a3, a4, a5, a6, a7⟩ := r3 x hx
    refine ⟨a1, (h1 120 x (by omega) (by omega)).trans a2, (h1 122 x (by omega) (by omega)).trans a3, a4, ?_, a6, fun k t hk => ?_⟩
    · intro c Q hc
      rw [h1 121 x (by omega) (by omega), h1 124 x (by omega) (by omega), h1 125 x (by omega) (by omega)]
      exact a5 c Q hc
    · obtain ⟨b1, b2⟩ := a7 k t hk
      refine ⟨Sl_mono b1 (h1 126 _ (by omega) (by omega)) (h2 _) (Nat.le_refl _) (fun T hT => ⟨rfl, h1 130 T (by omega) (by omega)⟩), ?_⟩
      cases hl : lk (A x) t with
      | none =>
        rw [hl] at b2
        exact (h1 128 _ (by omega) (by omega)).trans b2
      | some P' =>
        rw [hl] at b2
        obtain ⟨x', u1, u2, u3⟩ := b2
        exact ⟨x', u1, u2, (h1 128 _ (by omega) (by omega)).trans u3⟩
  · obtain ⟨f, n, t1, t2, t3, t4, t5⟩ := r6 T hT
    exact ⟨f, n, (h1 129 T (by omega) (by omega)).trans t1, (h1 130 T (by omega) (by omega)).trans t2, t3, t4, t5⟩
theorem SgN_cg (h : ∀ k, S'.1 108 k = S.1 108 k) : ∀ (l : List Nat) (w e : Int32), SgN S w l e → SgN S' w l e := by
  intro l
  induction l with
  | nil => intro w e q; exact q
  | cons k l ih =>
    intro w e q
    refine ⟨q.1, ?_⟩
    rw [h k]
    exact ih _ _ q.2
theorem uvc_cg {b0 len : Nat} (h : ∀ k, k < len → S'.1 126 (b0 + k) = S.1 126 (b0 + k)) : uvc S' b0 len = uvc S b0 len := tot_cg _ (fun k hk => by rw [h k hk])
theorem uvc_dn {b0 len k : Nat} (hk : k < len) (h : ∀ k', k' < len → k' ≠ k → S'.1 126 (b0 + k') = S.1 126 (b0 + k')) (h0 : S.1 126 (b0 + k) = 0) (h1 : S'.1 126 (b0 + k) ≠ 0) : uvc S' b0 len + 1 = uvc S b0 len := by
  have := tot_up (f := fun k => if S.1 126 (b0 + k) = 0 then 1 else 0) (g := fun k => if S'.1 126 (b0 + k) = 0 then 1 else 0) (s := k) len hk (fun i hi hik => by rw [h i hi hik])
  rw [if_pos h0, if_neg h1] at this
  exact this
theorem uvc_all {b0 : Nat} : ∀ len, (∀ k, k < len → S.1 126 (b0 + k) = 0) → uvc S b0 len = len := by
  intro len
  induction len with
  | zero => intro _; rfl
  | succ len ih =>
    intro h
    show uvc S b0 len + (if S.1 126 (b0 + len) = 0 then 1 else 0) = len + 1
    rw [ih (fun k hk => h k (by omega)), if_pos (h len (by omega))]
theorem uvc_0 {b0 : Nat} : ∀ len, uvc S b0 len = 0 → ∀ k, k < len → S.1 126 (b0 + k) ≠ 0 := by
  intro len
  induction len with
  | zero => intro _ k hk; omega
  | succ len ih =>
    intro h k hk
    have h : uvc S b0 len + (if S.1 126 (b0 + len) = 0 then 1 else 0) = 0 := h
    by_cases c : k = len
    · subst c
      intro q
      rw [if_pos q] at h
      omega
    · exact ih (by omega) k (by omega)
theorem uvc_le {b0 len : Nat} : uvc S b0 len ≤ len := tot_le _ (fun i _ => by split <;> omega)
/-- counts and measure behind a step -/
theorem so_cn (I : RI K V y q0 ar ν ρ S nA nS nT A b vals lk M Lv f1 f2) (hC : CNt y S nA A b) (hx0 : x0 < nA) {t : Nat} (hk0 : (rgL y (hdR (A x0)))[k0]? = some t) (hs0 : S.1 126 (b x0 + k0) = 0) {nA' nS' nT' : Nat} {A' : Nat → TPth} {b' : Nat → Nat} {vals' : TPth → Nat → Option TVal} {lk' : TPth → Nat → Option TPth} {M' : Nat → TPth × Nat} {Lv' : List TEv} {f1' f2' : Nat → Nat} (I' : RI K V y q0 ar ν ρ S' nA' nS' nT' A' b' vals' lk' M' Lv' f1' f2') (h123 : ∀ x, x < nA → S'.1 123 x = S.1 123 x) (h126 : ∀ s, s < nS → s ≠ b x0 + k0 → S'.1 126 s = S.1 126 s) (hA : nA ≤ nA') (hS : nS ≤ nS') (hAb : ∀ x, x < nA → A' x = A x ∧ b' x = b x) (hn : ∀ x, nA ≤ x → x < nA' → S'.1 123 x = nI (rgL y (hdR (A' x))).length ∧ nS ≤ b' x) (hz : ∀ s, nS ≤ s → s < nS' → S'.1 126 s = 0) :
    (S'.1 126 (b x0 + k0) = 0 → CNt y S' nA' A' b' ∧ muv S' nA' nS' = muv S nA nS + (nA' - nA)) ∧ (S'.1 126 (b x0 + k0) ≠ 0 → CNt y (uI S' 123 x0 (S'.1 123 x0 - 1)) nA' A' b' ∧ muv (uI S' 123 x0 (S'.1 123 x0 - 1)) nA' nS' = muv S nA nS + (nA' - nA) + 1) := by
  have i3 := I.2.2.1
  have i4 := I.2.2.2.1
  have i3' := I'.2.2.1
  have hl := (List.getElem?_eq_some_iff.mp hk0).1
  have hsl := (i3 x0 hx0).2.2.2.1
  have hsN : b x0 + k0 < nS := by omega
  have hdis : ∀ x, x < nA → x ≠ x0 → ∀ k, k < (rgL y (hdR (A x))).length → b x + k < nS ∧ b x + k ≠ b x0 + k0 := fun x hx hne k hk => by
    have u := (i3 x hx).2.2.2.1
    refine ⟨by omega, fun q => ?_⟩
    rcases Nat.lt_trichotomy x x0 with c | c | c
    · have := (i4 x x0 c hx0).1
      omega
    · exact hne c
    · have := (i4 x0 x c hx).1
      omega
  have hnewz : ∀ x, nA ≤ x → x < nA' → ∀ k, k < (rgL y (hdR (A' x))).length → S'.1 126 (b' x + k) = 0 := fun x q1 q2 k hk => by
    have u := (i3' x q2).2.2.2.1
    have := (hn x q1 q2).2
    exact hz _ (by omega) (by omega)
  have mu0 : S'.1 126 (b x0 + k0) = 0 → muv S' nA' nS' = muv S nA nS + (nA' - nA) := fun q => by
    unfold muv
    obtain ⟨d, hd⟩ : ∃ d, nS' = nS + d := ⟨nS' - nS, by omega⟩
    subst hd
    rw [tot_add, tot_cg (g := fun s => if S.1 126 s = 0 then 0 else 1) nS (fun s hs => by
      by_cases c : s = b x0 + k0
      · rw [c, if_pos q, if_pos hs0]
      · rw [h126 s hs c]), tot_cg (g := fun _ => 0) d (fun i hi => by rw [if_pos (hz _ (by omega) (by omega))]), tot_z]
    omega
  have mu1 : S'.1 126 (b x0 + k0) ≠ 0 → muv S' nA' nS' = muv S nA nS + (nA' - nA) + 1 := fun q => by
    unfold muv
    obtain ⟨d, hd⟩ : ∃ d, nS' = nS + d := ⟨nS' - nS, by omega⟩
    subst hd
    have hu := tot_up (f := fun s => if S.1 126 s = 0 then 0 else 1) (g := fun s => if S'.1 126 s = 0 then 0 else 1) (s := b x0 + k0) nS hsN (fun i hi hik => by rw [h126 i hi hik])
    rw [if_pos hs0, if_neg q] at hu
    rw [tot_add, tot_cg (f := fun i => if S'.1 126 (nS + i) = 0 then 0 else 1) (g := fun _ => 0) d (fun i hi => by rw [if_pos (hz _ (by omega) (by omega))]), tot_z]
    omega
  refine ⟨fun q => ⟨fun x hx => ?_, mu0 q⟩, fun q => ⟨fun x hx => ?_, ?_⟩⟩
  · rcases Nat.lt_or_ge x nA with c | c
    · rw [h123 x c, (hAb x c).1, (hAb x c).2, hC x c]
      congr 1
      refine (uvc_cg (fun k hk => ?_)).symm
      by_cases hx : x = x0
      · subst hx
        by_cases hkk : k = k0
        · rw [hkk, q, hs0]
        · exact h126 _ (by omega) (by omega)
      · exact h126 _ (hdis x c hx k hk).1 (hdis x c hx k hk).2
    · rw [(hn x c hx).1, uvc_all _ (hnewz x c hx)]
  · have e126 : ∀ s, (uI S' 123 x0 (S'.1 123 x0 - 1)).1 126 s = S'.1 126 s := fun s => uI_ne (by omega)
    have eu : ∀ b0 len, uvc (uI S' 123 x0 (S'.1 123 x0 - 1)) b0 len = uvc S' b0 len := fun b0 len => uvc_cg (fun k _ => e126 _)
    rw [eu]
    rcases Nat.lt_or_ge x nA with c | c
    · by_cases hx : x = x0
      · subst hx
        rw [uI_eq, h123 x c, hC x c, (hAb x c).1, (hAb x c).2]
        have hdn := uvc_dn (S := S) (S' := S') (b0 := b x) (len := (rgL y (hdR (A x))).length) hl (fun k' h1 h2 => h126 _ (by omega) (by omega)) hs0 q
        rw [← hdn]
        exact nI_sub (a := uvc S' (b x) (rgL y (hdR (A x))).length + 1) (b := 1) (by omega)
      · rw [uI_ne (by omega), h123 x c, (hAb x c).1, (hAb x c).2, hC x c]
        congr 1
        exact (uvc_cg (fun k hk => h126 _ (hdis x c hx k hk).1 (hdis x c hx k hk).2)).symm
    · rw [uI_ne (by omega), (hn x c hx).1, uvc_all _ (hnewz x c hx)]
  · have : muv (uI S' 123 x0 (S'.1 123 x0 - 1)) nA' nS' = muv S' nA' nS' := by
      unfold muv
      rw [tot_cg (f := fun s => if (uI S' 123 x0 (S'.1 123 x0 - 1)).1 126 s = 0 then 0 else 1) (g := fun s => if S'.1 126 s = 0 then 0 else 1) nS' (fun s _ => by rw [uI_ne (by omega)])]
    rw [this]
    exact mu1 q
end SWP
