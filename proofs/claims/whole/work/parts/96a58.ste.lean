/-! steps of the reference: one path is entered; calls -/
def LB (V : Nat → Int64) (y : TR) : Prop := (∀ P, POk V y P → 1 + cwR 0 1 y (hdR P) ≤ 21) ∧ ∀ z, z ∈ scP y → lpK z.1 = true → 2 + cwR 0 1 y (4 * otk z.1 + 1) + cwR 0 1 y (4 * otk z.1) ≤ 21
section STE
variable {K pl : Nat → Nat} {V : Nat → Int64} {m fr e n' r' fu : Nat} {y : TR} {q0 : Nat} {ar : Nat → Int64} {ν ρ : Nat → Nat} {W : Nat → Int32 × Int32 × Int32} {S S1 : im_S} {nA nS nT : Nat} {A : Nat → TPth} {b : Nat → Nat} {vals : TPth → Nat → Option TVal} {lk : TPth → Nat → Option TPth} {M : Nat → TPth × Nat} {Lv evs : List TEv} {f1 f2 : Nat → Nat} {x0 k0 j r : Nat} {γ : List Nat}
theorem RHd_rf (R : RHd K pl V m fr y e n' r' ν ρ W S) (h : RF S S1) : RHd K pl V m fr y e n' r' ν ρ W S1 := by
  refine RHd_ag R (fun a i q1 q2 => ⟨h.1 a i (by omega) (by omega), h.2 a i (by omega) (by omega)⟩) (fun a i q => ⟨h.1 a i (by omega) (by omega), h.2 a i (by omega) (by omega)⟩) (fun a i q => h.1 a i (by omega) (by omega)) (fun i q => h.1 75 i (by omega) (by omega))
theorem RF_72 {v : Int32} : RF S (uI S 75 72 v) := ⟨fun a i q1 q2 => uI_ne (by omega), fun _ _ _ _ => rfl⟩
theorem so_e1 (T : TH K pl V m) (hfu : 30000 ≤ fu) (R : RHd K pl V m fr y e n' r' ν ρ W S) (I : RI K V y q0 ar ν ρ S nA nS nT A b vals lk M Lv f1 f2) (h : Lv.length ≤ 1000) {z0 : TR × List Nat × Nat} (hx0 : x0 < nA) (hz0 : z0 ∈ scP y) (hr0 : z0.2.2 = hdR (A x0)) (hk0 : (rgL y (hdR (A x0)))[k0]? = some (otk z0.1)) (hv0 : vals (A x0) (otk z0.1) = none)
    (hR1 : RF S S1) (h1 : ∀ a i : Nat, (a = 75 → i ≠ 72) → S1.1 a i = S.1 a i) (h2 : S1.2.1 = S.2.1) (h72 : S1.1 75 72 = nI (evs.length + Lv.length))
    {g1 g2 : Nat → Nat} (hf : ∀ s, s < nS → s ≠ b x0 + k0 → g1 s = f1 s ∧ g2 s = f2 s) {P' : TPth} {o x3 x4 : Int32} (hP' : POk V y P') (hown : own y P' = (A x0, otk z0.1)) (hnE : ¬ EnA nA A P')
    (hp : nS + tot g1 nS + cwR 1 0 y (hdR P') ≤ 496 * (evs.length + Lv.length + 1) ∧ nA + 1 + tot g2 nS + cwR 0 1 y (hdR P') ≤ 21 * (evs.length + Lv.length + 1)) (hel : evs.length ≤ 1)
    (hAL : ∀ (S'' : im_S) (A'' : Nat → TPth), A'' nA = P' → (∀ x, x < nA → A'' x = A x) → S''.1 121 nA = o → S''.1 124 nA = x3 → S''.1 125 nA = x4 → AL y ν S'' A'' nA)
    (hev : ∀ e, e ∈ evs → ∃ i, e = (A x0, otk z0.1, i)) (hnv : (evs ++ Lv).Nodup)
    (hNI : ∀ A'' : Nat → TPth, A'' nA = P' → (∀ x, x < nA → A'' x = A x) → NI K V y ar (EnA (nA + 1) A'') vals (fun e => e ∈ evs ++ Lv) (A x0) (some P') z0)
    (hs : ∀ En' Va' De', CloA K V y q0 ar En' Va' De' → (∀ x, x < nA → En' (A x)) → (∀ P t a, vals P t = some a → Va' P t a) → En' P' ∧ ∀ e, e ∈ evs → De' e) :
    ∃ S3, f_X11_enter fu (nI (ρ (hdR P'))) o x3 x4 S1 = some (nI nA, S3) ∧ SO K V y q0 ar ν ρ S nA nS nT A b vals lk M Lv f1 f2 x0 k0 z0 1 (uI S3 128 (b x0 + k0) (nI nA)) := by
  have hb := RI_b I h
  have R1 := RHd_rf R hR1
  have hlen := rgL_le R.1 (by have := T.m_; have := R.2.1; omega) hP'
  have I' := I
  obtain ⟨⟨d1, d2, d3, d4⟩, i2, i3, i4, i5, i6, i7, i8, i9, i10⟩ := I'
  have hE0 : EnL y ρ S1 S1 nA nS 0 nS A b (fun _ => 0) (fun _ => 0) (fun _ => 0) g1 g2 0 0 := EnL_nil ((h1 75 57 (by omega)).trans d1) ((h1 75 64 (by omega)).trans d2)
  obtain ⟨S3, v1, v2⟩ := EnL_sn (fu := fu) T (by omega) R1 hE0 hP' (o := o) (x3 := x3) (x4 := x4) (by omega) (by omega)
  refine ⟨S3, v1, ?_⟩
  have v2' := v2
  obtain ⟨-, -, -, -, -, -, -, -, w1, w2⟩ := v2'
  have e1 : tot (exF 1 0 y g1 nS (hdR P')) nS = tot g1 nS := tot_cg _ (fun i hi => exF_lo hi)
  have e2 : tot (exF 0 1 y g2 nS (hdR P')) nS = tot g2 nS := tot_cg _ (fun i hi => exF_lo hi)
  rw [e1] at w1
  rw [e2] at w2
  refine so_ent (n := 1) R.1 I hx0 hz0 hr0 hk0 (rgL_nd R) hv0 h1 h2 h72 v2 (by omega) (fun x hx => ⟨upN_ne (by omega), upN_ne (by omega)⟩) (fun s q1 q2 => ?_) (fun x q1 q2 => ?_) (fun x x' q1 q2 q3 => absurd q3 (by omega)) (fun S'' hS'' x q1 q2 => ?_) hev hnv ?_ (fun En' Va' De' hcl s1 s2 => ⟨fun x q1 q2 => ?_, (hs En' Va' De' hcl s1 s2).2⟩) ⟨?_, ?_⟩ (by omega)
  · rw [exF_lo q1, exF_lo q1]
    exact hf s q1 q2
  · have hu : upN A (nA + 0) P' x = P' := if_pos (by omega)
    rw [hu]
    exact ⟨hown, hnE, hP'⟩
  · have hx : x = nA := by omega
    obtain ⟨a1, a2, a3⟩ := hS'' _ q1 q2
    rw [show upN (fun _ => (0 : Int32)) (nA + 0) o x = o from if_pos (by omega)] at a1
    rw [show upN (fun _ => (0 : Int32)) (nA + 0) x3 x = x3 from if_pos (by omega)] at a2
    rw [show upN (fun _ => (0 : Int32)) (nA + 0) x4 x = x4 from if_pos (by omega)] at a3
    rw [hx] at a1 a2 a3 ⊢
    exact hAL S'' _ (if_pos (by omega)) (fun x hx => upN_ne (by omega)) a1 a2 a3
  · show NI K V y ar (EnA (nA + 1) (upN A (nA + 0) P')) vals (fun e => e ∈ evs ++ Lv) (A x0) (some (upN A (nA + 0) P' (nA + 0))) z0
    rw [upN_eq]
    exact hNI _ (if_pos (by omega)) (fun x hx => upN_ne (by omega))
  · have hu : upN A (nA + 0) P' x = P' := if_pos (by omega)
    rw [hu]
    exact (hs En' Va' De' hcl s1 s2).1
  · omega
  · omega
theorem st_4 (T : TH K pl V m) (hfu : 30000 ≤ fu) (R : RHd K pl V m fr y e n' r' ν ρ W S) (I : RI K V y q0 ar ν ρ S nA nS nT A b vals lk M Lv f1 f2) (h : Lv.length ≤ 1000) (hG : ∀ z, z ∈ scP y → GdN K V (ftP y) z) (hF : ∀ q cnt x, (q, cnt, x) ∈ fuP y → tyV K V x = tvV (V q)) (hLB : LB V y) (hx0 : x0 < nA) {as : TR} (hz : (.tag 4 (.tag j as), γ, r) ∈ scP y) (hr : r = hdR (A x0)) (hk0 : (rgL y (hdR (A x0)))[k0]? = some j) (hv0 : vals (A x0) j = none) : ∃ ans S', f_X11_step fu (nI x0) (nI (ν j)) S = some (ans, S') ∧ SO K V y q0 ar ν ρ S nA nS nT A b vals lk M Lv f1 f2 x0 k0 (.tag 4 (.tag j as), γ, r) ans S' := by
  have hb := RI_b I h
  have w := R.1
  obtain ⟨u1, u2, u3, u4, u5⟩ := sl_at T R I h hx0 hk0
  obtain ⟨⟨⟨h81, -⟩, -⟩, -, -, hBN⟩ := rs_P T R _ hz
  obtain ⟨i, pf, cnt, x, c1, c2, c3, c4⟩ := call_at T R hG hz
  have h84 : S.1 84 (ν j) = nI (fr + i) := hBN i c1
  have hP := (I.2.2.1 x0 hx0).1
  have hfm := List.mem_of_getElem? c2
  obtain ⟨⟨b1, e1, wx⟩, hsc, hreg⟩ := fu_sc w pf cnt x hfm
  have hzx : (x, (pms (pf + 2) cnt).reverse, 4 * pf) ∈ scP y := hsc _ (hd_in wx _ _)
  have hn := (I.2.2.2.2.2.2.1 x0 hx0 _ hz hr).1
  have hun : f_X11_step fu (nI x0) (nI (ν j)) S = (f_X11_call fu (nI x0) (nI (ν j)) (nI (b x0 + k0)) S).bind (fun q => gd (z_b q.1) (some (q.1, q.2))) := by
    unfold f_X11_step
    rw [u1]
    simp only [Option.bind_some]
    rw [mI_in (a := ν j) (n := 1200) (by omega) u3, nI_clamp (show ν j < 2 ^ 31 by omega), h81]
    simp only [gd_t]
    rw [if_neg (by decide), if_neg (by decide), if_neg (by decide), if_pos (by decide)]
  rw [hun]
  have gs : in_b (nI (b x0 + k0)) 520000 = true := mI_in (a := b x0 + k0) (n := 520000) (by omega) (by omega)
  have gc : (nI (b x0 + k0)).toNatClampNeg = b x0 + k0 := nI_clamp (by omega)
  cases hlk : lk (A x0) j with
  | none =>
    rw [hlk] at u5
    have u5 : S.1 128 (b x0 + k0) = -1 := u5
    obtain ⟨n1, n2, n3⟩ := hn.1 hlk
    have hAne : ∃ c' Q', A x0 = c' :: Q' := by
      cases hA : A x0 with
      | nil => rw [hA] at hP; exact absurd hP id
      | cons c' Q' => exact ⟨c', Q', rfl⟩
    obtain ⟨c', Q', hA⟩ := hAne
    have hP' : POk V y ((4 * pf, j) :: A x0) := by
      rw [hA] at hP ⊢
      refine ⟨.inl ⟨as, γ, i, pf, cnt, x, ?_, c1, c2, rfl⟩, hP⟩
      rw [hr, hA] at hz
      exact hz
    have hown : own y ((4 * pf, j) :: A x0) = (A x0, j) := own_call w hfm j (A x0)
    have hnE : ¬ EnA nA A ((4 * pf, j) :: A x0) := fun c => n2 _ c hown
    obtain ⟨ -, fb, fc⟩ := FA_fu w fr R.2.2.2.2.2.2.2.2.2.1 i pf cnt x c2
    have hi8 : i < 8 := by have := R.2.2.2.2.2.2.1; omega
    have h96 : S.1 96 i = nI (ρ (4 * pf)) := by
      rw [R.2.2.2.2.2.2.2.2.2.2.2.2.2.2 i (by have := R.2.2.2.2.2.1; omega), List.getD_eq_getElem?_getD, fc]
      rfl
    have hc1 := cwR_le w (by have := T.m_; have := R.2.1; omega) hP'
    have hc2 := hLB.1 _ hP'
    have i10 := I.2.2.2.2.2.2.2.2.2
    have hNI4 : ∀ A'' : Nat → TPth, A'' nA = (4 * pf, j) :: A x0 → (∀ x, x < nA → A'' x = A x) → NI K V y ar (EnA (nA + 1) A'') vals (fun e => e ∈ [(A x0, j, 0)] ++ Lv) (A x0) (some ((4 * pf, j) :: A x0)) (.tag 4 (.tag j as), γ, r) := by
      intro A'' a1 a2
      refine ⟨fun q => ?_, fun P' q => ?_⟩
      · cases q
      · cases q
        refine ⟨i, pf, cnt, x, c1, c2, rfl, ⟨nA, by omega, a1⟩, List.mem_cons_self, fun a qa => ?_⟩
        rw [hv0] at qa
        cases qa
    obtain ⟨S3, v1, v2⟩ := so_e1 (fu := fu) (S1 := uI S 75 72 (S.1 75 72 + 1)) (evs := [(A x0, j, 0)]) (g1 := f1) (g2 := f2) (o := -1) (x3 := nI x0) (x4 := nI (ν j)) T hfu R I h hx0 hz hr hk0 hv0 RF_72 (fun a i q => uI_ne (by omega)) rfl (by
      rw [uI_eq, I.1.2.2.2]
      show nI Lv.length + nI 1 = nI (1 + Lv.length)
      rw [nI_add, Nat.add_comm]) (fun s _ _ => ⟨rfl, rfl⟩) hP' hown hnE (by
      show _ ≤ 496 * (1 + Lv.length + 1) ∧ _ ≤ 21 * (1 + Lv.length + 1)
      omega) (Nat.le_refl _) (fun S'' A'' a1 a2 a3 a4 a5 => by
      intro c Q hc
      rw [a1] at hc
      cases hc
      refine ⟨fun _ => ⟨fun q => ?_, fun _ => ⟨x0, hx0, a2 x0 hx0, a4, a5⟩⟩, fun q => ?_, fun z hz2 q1 q2 => ?_, fun j2 a b γ2 r2 hz2 q2 => ?_⟩
      · rw [hA] at q
        cases q
      · have hin : 4 * pf / 4 ∈ (ftP y).map Prod.fst := by
          rw [show 4 * pf / 4 = pf by omega]
          exact fu_ft w hfm
        exact absurd hin q
      · have q2 : 4 * pf = 4 * otk z.1 := q2
        exact absurd (show otk z.1 = pf by omega) ((ft_fu w).2.2 pf (fu_ft w hfm) z hz2)
      · have q2 : 4 * pf = 4 * j2 := q2
        have q3 : otk (.tag 11 (.tag j2 (.append a b))) = pf := by
          show j2 = pf
          omega
        exact absurd q3 ((ft_fu w).2.2 pf (fu_ft w hfm) _ hz2)) (fun e he => ⟨0, List.mem_singleton.mp he⟩) (List.nodup_cons.mpr ⟨fun q => n3 0 q, I.2.2.2.2.2.2.2.1⟩) hNI4 (fun En' Va' De' hcl s1 s2 => by
      have := clo_at hcl (s1 x0 hx0) hP hz hr i pf cnt x c1 c2
      exact ⟨this.2.1, fun e he => by rw [List.mem_singleton.mp he]; exact this.1⟩)
    refine ⟨1, _, ?_, v2⟩
    unfold f_X11_call
    rw [gs, gc, mI_in (a := ν j) (n := 1200) (by omega) u3, nI_clamp (show ν j < 2 ^ 31 by omega), h84, R.2.2.2.2.2.2.2.2.1, nI_sub (show fr ≤ fr + i by omega), show fr + i - fr = i by omega, mI_in (a := i) (n := 16) (by omega) (by omega), nI_clamp (show i < 2 ^ 31 by omega), h96]
    simp only [gd_t]
    rw [if_pos u5]
    have v1 : f_X11_enter fu (nI (ρ (4 * pf))) (-1) (nI x0) (nI (ν j)) (uI S 75 72 (S.1 75 72 + 1)) = some (nI nA, S3) := v1
    rw [v1]
    rfl
  | some P' =>
    rw [hlk] at u5
    obtain ⟨x1, y1, y2, y3⟩ := u5
    obtain ⟨i', q', cnt', x', d1, d2, d3, d4, d5, d6⟩ := hn.2 P' hlk
    rw [c1] at d1
    cases d1
    rw [c2] at d2
    cases d2
    obtain ⟨s', z1, z2, z3, z4⟩ := rt_at T R I h y1 hzx (by rw [y2, d3]; rfl) hreg
    rw [y2] at z3 z4
    have htyx : tyV K V x = tyV K V (.tag 4 (.tag j as)) := by
      rw [hF _ _ _ hfm, c3]
      rfl
    have hNI5 : ∀ a, vals P' (otk x) = some a → NI K V y ar (EnA nA A) (upV vals (A x0) j (some a)) (fun e => e ∈ Lv) (A x0) (lk (A x0) j) (.tag 4 (.tag j as), γ, r) := by
      intro a qa
      rw [hlk]
      refine ⟨fun q => ?_, fun P2 q => ?_⟩
      · cases q
      · cases q
        refine ⟨i, pf, cnt, x, c1, c2, d3, d4, d5, fun a' qa' => ?_⟩
        rw [upV_eq] at qa'
        rw [← Option.some.inj qa']
        exact upV_mono hv0 qa
    obtain ⟨ans, S', p1, p2, p3⟩ := so_pass w T R I h hx0 hz hr hk0 hv0 z2 z3 (fun a qa => by have := z4 a qa; rw [htyx] at this; exact this) (fun qn => ⟨P', hlk, fun i2 p2 cnt2 x2 k1 k2 => by
      rw [c1] at k1
      cases k1
      rw [c2] at k2
      cases k2
      exact qn⟩) hNI5 (fun a qa En' Va' De' hcl s1 s2 => by
      have := clo_at hcl (s1 x0 hx0) hP hz hr i pf cnt x c1 c2
      exact this.2.2 a (by rw [← d3]; exact s2 _ _ _ qa))
    refine ⟨ans, S', ?_, p3⟩
    unfold f_X11_call
    rw [gs, gc, y3]
    simp only [gd_t]
    rw [if_neg (nI_m1 (show x1 < 2 ^ 31 by omega)), z1]
    simp only [Option.bind_some]
    rw [p1]
    simp only [Option.bind_some]
    rw [p2]
    simp only [gd_t, Option.bind_some]
    rw [p2]
    rfl
end STE
