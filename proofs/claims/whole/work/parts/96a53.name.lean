/-! the reference finds a name -/
theorem nI64 {i : Nat} (h : i < 2 ^ 31) : (nI i).toInt64 = Int64.ofNat i := by
  apply Int64.toInt_inj.mp
  rw [Int32.toInt_toInt64, Int64.toInt_ofNat_of_lt (Nat.lt_of_lt_of_le h (by decide)), nI_toInt h]
section NME
variable {K pl : Nat → Nat} {V : Nat → Int64} {m fr e n' r' fu : Nat} {y : TR} {q0 : Nat} {ar : Nat → Int64} {ν ρ : Nat → Nat} {W : Nat → Int32 × Int32 × Int32} {S : im_S} {nA nS nT : Nat} {A : Nat → TPth} {b : Nat → Nat} {vals : TPth → Nat → Option TVal} {lk : TPth → Nat → Option TPth} {M : Nat → TPth × Nat} {Lv : List TEv} {f1 f2 : Nat → Nat}
theorem fu_uq {p e : Nat} (w : PW K y p e) : ∀ q a a', (q, a) ∈ fuP y → (q, a') ∈ fuP y → a = a' := by
  refine PW_ind (K := K) (P := fun y p e => ∀ q a a', (q, a) ∈ fuP y → (q, a') ∈ fuP y → a = a') ?_ ?_ (tsz y) y p e (Nat.le_refl _) w
  · intro p cnt x b e0 _ _ _ w1 hb q a a' h h'
    have h := List.mem_singleton.mp h
    have h' := List.mem_singleton.mp h'
    cases h
    cases h'
    rfl
  · intro p cnt x r b e0 e _ _ _ w1 hb _ w2 ih q a a' h h'
    have hlt := Wt_lt w1
    have hr : ∀ {a : Nat × TR}, (q, a) ∈ fuP r → e0 + 1 ≤ q := fun {a} h => ((ft_fu w2).2.1 q (by rw [(ft_fu w2).1]; exact List.mem_map.mpr ⟨_, h, rfl⟩)).1
    rcases List.mem_cons.mp h with h | h
    · cases h
      rcases List.mem_cons.mp h' with h' | h'
      · cases h'
        rfl
      · have := hr h'
        omega
    · rcases List.mem_cons.mp h' with h' | h'
      · cases h'
        have := hr h
        omega
      · exact ih q a a' h h'
theorem ag_at {rlo rhi : Nat} : ∀ x : TR, LL x → ∀ i z, RwA S rlo rhi ν x i → z < tln x → ∃ xz, agX x z = some xz ∧ S.1 95 (i + z) = nI (ν (otk xz)) ∧ i + z < rhi := by
  refine LL_ind (fun i z _ h => absurd h (by show ¬ z < 0; omega)) (fun p x r _ ih i z h hz => ?_)
  obtain ⟨h1, h2, h3, h4⟩ := h
  cases z with
  | zero => exact ⟨x, rfl, h3, h2⟩
  | succ z =>
    have hz : z + 1 < tln r + 1 := hz
    obtain ⟨xz, u1, u2, u3⟩ := ih (i + 1) z h4 (by omega)
    refine ⟨xz, u1, ?_, by omega⟩
    rw [show i + (z + 1) = i + 1 + z by omega]
    exact u2
theorem ag_in : ∀ x : TR, LL x → ∀ p e l z b' xz, x = .nil ∨ Wt K x p e 101 → AgT K V x l → l[z]? = some b' → agX x z = some xz → (∀ γ r, (xz, γ, r) ∈ sbc x γ r) ∧ tyV K V xz = tvV (V b') := by
  refine LL_ind (fun p e l z b' xz _ _ _ h => by cases h) (fun p' x r hr ih p e l z b' xz w ht hl h => ?_)
  rcases w with w | w
  · cases w
  obtain ⟨-, -, -, b, w1, w2⟩ := w
  cases l with
  | nil => cases hl
  | cons a l =>
    cases z with
    | zero =>
      have hl : some a = some b' := hl
      have h : some x = some xz := h
      cases hl
      cases h
      exact ⟨fun γ r' => ml _ (hd_in w1 γ r'), ht.1⟩
    | succ z =>
      have := ih (b + 1) e l z b' xz (by rcases w2 with w2 | w2; exact .inl w2.1; exact .inr w2.2) ht.2 hl h
      exact ⟨fun γ r' => mr _ (this.1 γ r'), this.2⟩
theorem PW_cnt {p e : Nat} (w : PW K y p e) : ∀ q cnt x, (q, cnt, x) ∈ fuP y → cnt ≤ 4 := by
  refine PW_ind (K := K) (P := fun y p e => ∀ q cnt x, (q, cnt, x) ∈ fuP y → cnt ≤ 4) ?_ ?_ (tsz y) y p e (Nat.le_refl _) w
  · intro p cnt x b e0 _ hc _ w1 hb q cnt' x' h
    have h := List.mem_singleton.mp h
    cases h
    exact hc
  · intro p cnt x r b e0 e _ hc _ w1 hb _ w2 ih q cnt' x' h
    rcases List.mem_cons.mp h with h | h
    · cases h
      exact hc
    · exact ih q cnt' x' h
theorem Wb_at {w : Int32} : ∀ x : TR, LL x → ∀ (i k q : Nat), WbL W w x i → (tks x)[k]? = some q → W q = (3, w, nI (i + k)) := by
  refine LL_ind (fun i k q _ h => by cases h) (fun p x r _ ih i k q h hk => ?_)
  cases k with
  | zero =>
    have hk : some p = some q := hk
    cases hk
    exact h.1
  | succ k =>
    rw [show i + (k + 1) = i + 1 + k by omega]
    exact ih (i + 1) k q h.2 hk
theorem ar_81 {z1 z2 r v : Int32} : ∀ (nf : Nat) (z3 : Int32), f_X11_around_L2 fu nf z1 z2 z3 S = some (r, S) → f_X11_around_L2 fu nf z1 z2 z3 (uI S 75 81 v) = some (r, uI S 75 81 v) := by
  intro nf
  induction nf with
  | zero => intro z3 h; cases h
  | succ nf ih =>
    intro z3 h
    rw [f_X11_around_L2] at h ⊢
    rw [uI_ne (by omega), uI_ne (by omega)]
    by_cases g : in_b z3 24000 = true
    · rw [g] at h ⊢
      simp only [gd_t] at h ⊢
      by_cases c : S.1 120 z3.toNatClampNeg = z2
      · rw [if_pos c] at h ⊢
        cases h
        rfl
      · rw [if_neg c] at h ⊢
        exact ih _ h
    · rw [Bool.not_eq_true] at g
      rw [g] at h
      cases h
theorem root_q (I : RI K V y q0 ar ν ρ S nA nS nT A b vals lk M Lv f1 f2) {x p : Nat} (hx : x < nA) (h : A x = [(4 * p, 0)]) : p = q0 := by
  obtain ⟨-, i2, i3, -⟩ := I
  rcases (i3 x hx).2.2.2.2.2.1 with c | ⟨x', c1, c2⟩
  · subst c
    rw [i2.2] at h
    have : 4 * q0 = 4 * p := congrArg (fun l : TPth => hdR l) h
    omega
  · rw [h, own_one] at c2
    have := (i3 x' c1).1
    rw [c2] at this
    exact absurd this id
/-- what a call's node holds, and what it calls -/
theorem call_at (T : TH K pl V m) (R : RHd K pl V m fr y e n' r' ν ρ W S) (hG : ∀ z, z ∈ scP y → GdN K V (ftP y) z) {j : Nat} {as : TR} {γ : List Nat} {r : Nat} (hz : (.tag 4 (.tag j as), γ, r) ∈ scP y) : ∃ i q cnt x, idx V ((ftP y).map Prod.fst) j = some i ∧ (fuP y)[i]? = some (q, cnt, x) ∧ V q = V j ∧ ∃ i1, S.1 89 (ν j) = nI i1 ∧ ∀ z, z < cnt → ∃ xz, agX as z = some xz ∧ S.1 95 (i1 + z) = nI (ν (otk xz)) ∧ i1 + z < 1200 ∧ (xz, γ, r) ∈ scP y ∧ tyV K V xz = tvV (V (q + 2 + 2 * z)) := by
  have w := R.1
  obtain ⟨l, g1, g2, g3⟩ := hG _ hz
  obtain ⟨i, q, cnt, x, u1, u2, u3, u4⟩ := pm_fu w j l g1
  obtain ⟨⟨hnd, i1, j89, j90, jas, Las⟩, hν, -, -⟩ := rs_P T R _ hz
  obtain ⟨⟨p', e', wz⟩, -, htr⟩ := (tl_P w) _ hz
  refine ⟨i, q, cnt, x, u1, u2, u4, i1, j89, fun z hzc => ?_⟩
  rw [u3, pms_len, rts_LL as Las] at g2
  obtain ⟨xz, v1, v2, v3⟩ := ag_at as Las i1 z jas (by omega)
  have hrh : r' ≤ 1200 := by
    have := R.2.2.2.1
    have := R.2.2.2.2.1
    omega
  have hlz : l[z]? = some (q + 2 + 2 * z) := by rw [u3]; exact pms_at cnt (q + 2) z hzc
  have hw : ∃ p e, as = .nil ∨ Wt K as p e 101 := by
    obtain ⟨-, -, wz⟩ := wz
    rcases wz with wz | ⟨b, -, wz, -⟩
    · exact ⟨0, 0, .inl wz.1⟩
    · exact ⟨_, _, .inr wz⟩
  obtain ⟨p, e, hw⟩ := hw
  obtain ⟨v4, v5⟩ := ag_in as Las p e l z _ xz hw g3 hlz v1
  exact ⟨xz, v1, v2, by omega, htr _ (mc _ (v4 γ r)), v5⟩
set_option maxHeartbeats 4000000 in
theorem rr_name (T : TH K pl V m) (hfu : 30000 ≤ fu) (R : RHd K pl V m fr y e n' r' ν ρ W S) (I : RI K V y q0 ar ν ρ S nA nS nT A b vals lk M Lv f1 f2) (h : Lv.length ≤ 1000) (hG : ∀ z, z ∈ scP y → GdN K V (ftP y) z) (har : ∀ z, z < 4 → S.2.1 131 z = ar z) (hq0 : ∀ cnt x, (q0, cnt, x) ∈ fuP y → ∀ z, z < cnt → tvV (V (q0 + 2 + 2 * z)) = 1) {x0 j r : Nat} {γ : List Nat} (hx0 : x0 < nA) (hz : (.tag 3 (.tag j .nil), γ, r) ∈ scP y) (hr : r = hdR (A x0)) :
    ∃ b' o kk w, fnd V γ j = some b' ∧ VrP V y ar (A x0) b' o ∧ f_X11_name fu (nI x0) (nI (ν j)) S = some ((), uJ (uI S 75 81 kk) 75 82 w) ∧ FV S M nT vals o kk w ∧ ∀ a, AtP (Vf vals) o a → tyO (tvV (V j)) a := by
  have hb := RI_b I h
  have w := R.1
  have hm := T.m_
  have he := R.2.1
  have R' := R
  obtain ⟨h1, h2, h3, h4, h5, h6, h7, h8, h9, h10, h11, h12, h13, h14, h15⟩ := R'
  have I' := I
  obtain ⟨i1, i2, i3, i4, i5, i6, i7, i8, i9, i10⟩ := I'
  obtain ⟨b', hb'⟩ := hG _ hz
  obtain ⟨-, hν, -, hBN⟩ := rs_P T R _ hz
  have hν : ν j < 1200 := hν
  obtain ⟨B1, B2, B3⟩ := hBN b' hb'
  have hVb := fnd_V _ _ _ hb'
  obtain ⟨x1, x2, x3, x4, x5, x6, x7⟩ := i3 x0 hx0
  have hVr : VrS y (A x0) b' := by
    cases hA : A x0 with
    | nil => rw [hA] at x1; exact absurd x1 id
    | cons c Q =>
      rw [hA] at hr x1
      have hr : r = c.1 := hr
      have := vr_P (V := V) w hz c.2 Q (show POk V y ((r, c.2) :: Q) by rw [hr]; exact x1) b' (fnd_in _ _ _ hb')
      have this : VrS y ((r, c.2) :: Q) b' := this
      rw [hr] at this
      exact this
  have g1200 : in_b (nI (ν j)) 1200 = true := mI_in (a := ν j) (n := 1200) (by omega) hν
  have gcl : (nI (ν j)).toNatClampNeg = ν j := nI_clamp (show ν j < 2 ^ 31 by omega)
  have hn := wn_P w fr h11
  rcases hVr with ⟨p, cnt, x, z, a1, a2, a3, a4⟩ | ⟨j', x, x', γ', r1, a1, a2, a3⟩ | ⟨j', fs, c', ns, g, γ', r1, a1, a2, a3⟩ | ⟨j', x, x', γ', r1, a1, a2, a3⟩ | ⟨j', x, x', γ', r1, a1, a2, a3⟩
  · obtain ⟨c, c1, c2, c3, c4⟩ := wp_P w fr h11 p cnt x a1
    have c4 := c4 z a2
    rw [← a3] at c4
    rw [c4] at B1 B2 B3
    have hreg := (fu_sc w p cnt x a1).2.2
    obtain ⟨xa, ia, Qa, v1, v2, v3, v4⟩ := r_arnd (fu := fu) T hfu R I h hreg hx0 a4
    obtain ⟨-, fb, fc⟩ := FA_fu w fr h10 (c - fr) p cnt x c3
    have hcl : c - fr < (ftP y).length := by omega
    have h96 : S.1 96 (c - fr) = nI (ρ (4 * p)) := by
      rw [h15 _ hcl, List.getD_eq_getElem?_getD, fc]
      rfl
    obtain ⟨y1, y2, y3, y4, y5, y6, y7⟩ := i3 xa v1
    rw [v2] at y1
    obtain ⟨l1, -, -, -⟩ := y5 _ _ v2
    have hft : 4 * p / 4 ∈ (ftP y).map Prod.fst := by
      rw [show 4 * p / 4 = p by omega]
      exact fu_ft w a1
    obtain ⟨l2, l3⟩ := l1 hft
    have hun : ∀ X : Int32 × im_S → Option (Unit × im_S), f_X11_name fu (nI x0) (nI (ν j)) S = (f_X11_around fu (nI x0) (nI (ρ (4 * p))) S).bind (fun qS2 => gd (in_b qS2.1 24000) (if ((qS2.2.1 124) qS2.1.toNatClampNeg : Int32) ≠ (-1) then (gd (in_b qS2.1 24000) (gd (in_b qS2.1 24000) (gd (in_b ((qS2.2.1 125) qS2.1.toNatClampNeg) 1200) (gd (in_b (nI (ν j)) 1200) (gd (in_b (((qS2.2.1 89) (((qS2.2.1 125) qS2.1.toNatClampNeg).toNatClampNeg)) + ((qS2.2.1 115) (nI (ν j)).toNatClampNeg)) 1200) ((f_X11_slot ((qS2.2.1 124) qS2.1.toNatClampNeg) ((qS2.2.1 95) ((((qS2.2.1 89) (((qS2.2.1 125) qS2.1.toNatClampNeg).toNatClampNeg)) + ((qS2.2.1 115) (nI (ν j)).toNatClampNeg)).toNatClampNeg)) qS2.2).bind (fun qS6 => (f_X11_foundAt qS6.1 qS6.2).bind (fun qS9 => some ((), qS9.2))))))))) else (gd (in_b (nI (ν j)) 1200) (gd (in_b ((qS2.2.1 115) (nI (ν j)).toNatClampNeg) 4) (some ((), (uJ (uI qS2.2 75 81 1) 75 82 ((qS2.2.2.1 131) (((qS2.2.1 115) (nI (ν j)).toNatClampNeg).toNatClampNeg))))))))) := fun _ => by
      unfold f_X11_name
      rw [g1200, gcl, B1, B2, h9, nI_sub c1, mI_in (a := c - fr) (n := 16) (by omega) (by omega), nI_clamp (show c - fr < 2 ^ 31 by omega), h96]
      simp only [gd_t]
      rw [if_pos trivial]
    rw [hun (fun _ => none), v4]
    simp only [Option.bind_some]
    rw [mI_in (a := xa) (n := 24000) (by omega) (by omega), nI_clamp (show xa < 2 ^ 31 by omega), g1200, gcl, B3]
    simp only [gd_t]
    have hz4 : z < 4 := by
      have := PW_cnt w p cnt x a1
      omega
    by_cases hQ : Qa = []
    · subst hQ
      have e0 : ia = 0 := by
        obtain ⟨q, cnt', x', u1, u2⟩ := y1
        exact congrArg Prod.snd u2
      subst e0
      rw [l2 rfl, if_neg (fun q => q rfl), mI_in (a := z) (n := 4) (by omega) hz4, nI_clamp (show z < 2 ^ 31 by omega), har z hz4]
      refine ⟨b', .inr (mkN (ar z)), 1, ar z, hb', .inl ⟨p, cnt, x, z, a1, a2, a3, .inl ⟨v3, rfl⟩⟩, rfl, fv_n, fun a qa => ?_⟩
      have qa : a = mkN (ar z) := qa
      subst qa
      have hroot : p = q0 := by
        have hA0 := i2.2
        have : upP (4 * p) (A x0) = [(4 * p, 0)] := v3
        exact root_q I v1 v2
      rw [← hVb, a3, hroot]
      rw [hroot] at a1
      rw [hq0 cnt x a1 z a2]
      exact ty_n
    · obtain ⟨xq, q1, q2, q3, q4⟩ := l3 hQ
      rw [q3, if_pos (nI_m1 (show xq < 2 ^ 31 by omega)), q4]
      cases Qa with
      | nil => exact absurd rfl hQ
      | cons c' Qb =>
        rcases y1.1 with ⟨as, γc, ic, qc, cntc, xc, d1, d2, d3, d4⟩ | ⟨zz, d1, d2⟩
        · have d4 : 4 * p = 4 * qc := d4
          have hpq : p = qc := by omega
          subst hpq
          have hcx := fu_uq w p _ _ a1 (List.mem_of_getElem? d3)
          have hcc : cnt = cntc := congrArg Prod.fst hcx
          subst hcc
          obtain ⟨ic', qc', cntc', xc', k1, k2, k3, k4, k5, k6⟩ := call_at T R hG d1
          rw [d2] at k1
          cases k1
          rw [d3] at k2
          cases k2
          obtain ⟨xz, m1, m2, m3, m4, m5⟩ := k6 z a2
          obtain ⟨-, hνi, -, -⟩ := rs_P T R _ d1
          have hνi : ν ia < 1200 := hνi
          have k5 : S.1 89 (ν ia) = nI k4 := k5
          rw [mI_in (a := ν ia) (n := 1200) (by omega) hνi, nI_clamp (show ν ia < 2 ^ 31 by omega), k5, nI_add, mI_in (a := k4 + z) (n := 1200) (by omega) m3, nI_clamp (show k4 + z < 2 ^ 31 by omega), m2]
          simp only [gd_t]
          obtain ⟨kk, hkk⟩ := sub_AtN (A := A) w m4 q2 rfl m5
          obtain ⟨s1, s2, s3⟩ := sl_fd T R I h (by omega) hkk
          refine ⟨b', .inl (c' :: Qb, otk xz), _, _, hb', .inl ⟨p, cnt, x, z, a1, a2, a3, .inr ⟨ia, c' :: Qb, as, γc, c'.1, xz, v3, hQ, d1, m1, rfl⟩⟩, s1, s2, fun a qa => ?_⟩
          have := s3 a qa
          rw [← a3, hVb] at this
          exact this
        · have := par_ot ((tl_P w) zz d1).2.1 d2
          have this : 4 * p / 4 = otk zz.1 := this
          exact absurd this.symm ((ft_fu w).2.2 _ hft zz d1)
  · have hW : W (j' + 1) = (2, nI (ν j'), 0) := hn _ a1
    rw [← a2] at hW
    rw [hW] at B1 B2 B3
    obtain ⟨⟨hnd', j83, j84⟩, hν', -, -⟩ := rs_P T R _ a1
    have hν' : ν j' < 1200 := hν'
    obtain ⟨⟨p', e', wz⟩, -, htr⟩ := (tl_P w) _ a1
    obtain ⟨-, -, bb, w1, w2⟩ := wz
    obtain ⟨kx, hkx⟩ := rgL_sc w a1
    obtain ⟨l0, rt0, hreg⟩ := rgL_no (y := y) (r := r1) (fun q => by rw [show (rgL y r1) = [] from q] at hkx; cases hkx)
    obtain ⟨ra, rb, rc, rd, re, rf⟩ := rg_at R T hreg
    rw [show rgL y r1 = l0 from ra] at hkx
    have h103 := (rf kx _ hkx).2.1
    have h103 : S.1 103 (ν j') = nI (ρ r1) := h103
    obtain ⟨xa, ia, Qa, v1, v2, v3, v4⟩ := r_arnd (fu := fu) T hfu R I h hreg hx0 a3
    have hzx : (x, γ', r1) ∈ scP y := htr _ (mc _ (ml _ (hd_in w1 γ' r1)))
    obtain ⟨kk, hkk⟩ := sub_AtN (A := A) (ty := tvV (V (j' + 1))) w hzx v2 rfl (hG _ a1)
    obtain ⟨s1, s2, s3⟩ := sl_fd T R I h v1 hkk
    refine ⟨b', .inl ((r1, ia) :: Qa, otk x), _, _, hb', .inr (.inl ⟨j', x, x', γ', r1, a1, a2, by rw [v3]⟩), ?_, s2, fun a qa => ?_⟩
    · unfold f_X11_name
      rw [g1200, gcl, B1, B2, mI_in (a := ν j') (n := 1200) (by omega) hν', nI_clamp (show ν j' < 2 ^ 31 by omega), h103, v4]
      simp only [gd_t, Option.bind_some]
      rw [if_neg (by decide), if_pos trivial, j83]
      exact s1
    · have := s3 a qa
      rw [← a2, hVb] at this
      exact this
  · have hW0 : WbL W (nI (ν j')) fs 0 := hn _ a1
    obtain ⟨⟨hnd', ⟨i0, j89, j90, jfs, Lfs⟩, -⟩, hν', hIN, -⟩ := rs_P T R _ a1
    have hν' : ν j' < 1200 := hν'
    obtain ⟨kq, hkq⟩ := List.getElem?_of_mem a2
    have hW : W b' = (3, nI (ν j'), nI kq) := by
      have := Wb_at fs Lfs 0 kq b' hW0 hkq
      rw [Nat.zero_add] at this
      exact this
    rw [hW] at B1 B2 B3
    have hin := in_P w _ a1
    obtain ⟨xa, ia, Qa, v1, v2, v3, v4⟩ := r_arnd (fu := fu) T hfu R I h hin.1 hx0 a3
    obtain ⟨pl', p1, xb, kb, p2, p3, p4⟩ := r_ln (fu := fu) (z1 := nI xa) T hfu R I h a1 (hG _ a1) hkq xa fu ia v1 (by omega) v2
    obtain ⟨s1, s2, s3⟩ := sl_fd T R I h p2 p3
    refine ⟨b', .inl pl', _, _, hb', .inr (.inr (.inl ⟨j', fs, c', ns, g, γ', r1, ia, Qa, pl', a1, a2, v3, p1, rfl⟩)), ?_, s2, fun a qa => ?_⟩
    · unfold f_X11_name
      rw [g1200, gcl, B1, B2, mI_in (a := ν j') (n := 1200) (by omega) hν', nI_clamp (show ν j' < 2 ^ 31 by omega), hIN.1, v4]
      simp only [gd_t, Option.bind_some]
      rw [if_neg (by decide), if_neg (by decide), if_pos trivial, B3]
      show (f_X11_loopName_L3 fu fu (nI xa) (nI (ν j')) (nI kq) (nI xa) S).bind _ = _
      rw [p4]
      rfl
    · have := s3 a qa
      rw [hVb] at this
      exact this
  · have hW : W (j' + 1) = (5, nI (ν j'), 0) ∧ W (j' + 3) = (4, nI (ν j'), 0) := hn _ a1
    have hW := hW.2
    rw [← a2] at hW
    rw [hW] at B1 B2 B3
    obtain ⟨-, hν', hIN, -⟩ := rs_P T R _ a1
    have hν' : ν j' < 1200 := hν'
    have hIN : S.1 110 (ν j') = nI (ρ (4 * j')) := hIN
    have hin : (4 * j', nds x', some (otk x')) ∈ rgP y := in_P w _ a1
    obtain ⟨xa, ia, Qa, v1, v2, v3, v4⟩ := r_arnd (fu := fu) T hfu R I h hin hx0 a3
    obtain ⟨y1, y2, y3, y4, y5, y6, y7⟩ := i3 xa v1
    have h125 := (y5 _ _ v2).2.2.2 _ _ _ _ _ a1 rfl
    have hia : ia < 2 ^ 31 := by have : ia < 20 := h125.2; omega
    have h125 : S.1 125 xa = nI ia := h125.1
    refine ⟨b', .inr (mkN (Int64.ofNat ia)), 1, Int64.ofNat ia, hb', .inr (.inr (.inr (.inl ⟨j', x, x', γ', r1, ia, Qa, a1, a2, v3, rfl⟩))), ?_, fv_n, fun a qa => ?_⟩
    · have v5 : f_X11_around fu (nI x0) (nI (ρ (4 * j'))) (uI S 75 81 1) = some (nI xa, uI S 75 81 1) := ar_81 fu (nI x0) v4
      unfold f_X11_name
      rw [g1200, gcl, B1, B2, mI_in (a := ν j') (n := 1200) (by omega) hν', nI_clamp (show ν j' < 2 ^ 31 by omega), hIN, v5]
      simp only [gd_t, Option.bind_some]
      rw [if_neg (by decide), if_neg (by decide), if_neg (by decide), if_pos trivial, mI_in (a := xa) (n := 24000) (by omega) (by omega), nI_clamp (show xa < 2 ^ 31 by omega), uI_ne (by omega), h125, nI64 hia]
      rfl
    · have qa : a = mkN _ := qa
      subst qa
      rw [← hVb, a2, (hG _ a1).2.1]
      exact ty_n
  · have hW : W (j' + 1) = (5, nI (ν j'), 0) ∧ W (j' + 3) = (4, nI (ν j'), 0) := hn _ a1
    have hW := hW.1
    rw [← a2] at hW
    rw [hW] at B1 B2 B3
    obtain ⟨-, hν', -, -⟩ := rs_P T R _ a1
    have hν' : ν j' < 1200 := hν'
    obtain ⟨kx, hkx⟩ := rgL_sc w a1
    obtain ⟨l0, rt0, hreg⟩ := rgL_no (y := y) (r := r1) (fun q => by rw [show (rgL y r1) = [] from q] at hkx; cases hkx)
    obtain ⟨ra, rb, rc, rd, re, rf⟩ := rg_at R T hreg
    have hkx' := hkx
    rw [show rgL y r1 = l0 from ra] at hkx'
    have h103 := (rf kx _ hkx').2.1
    have h103 : S.1 103 (ν j') = nI (ρ r1) := h103
    obtain ⟨xa, ia, Qa, v1, v2, v3, v4⟩ := r_arnd (fu := fu) T hfu R I h hreg hx0 a3.1
    obtain ⟨kk, hkk⟩ := sub_AtN (A := A) (ty := 3) w a1 v2 rfl rfl
    have hkk : AtN K V y A xa kk j' 3 ((r1, ia) :: Qa) := hkk
    obtain ⟨s1, s2, s3⟩ := sl_fd T R I h v1 hkk
    refine ⟨b', .inl ((r1, ia) :: Qa, j'), _, _, hb', .inr (.inr (.inr (.inr ⟨j', x, x', γ', r1, a1, a2, by rw [v3]⟩))), ?_, s2, fun a qa => ?_⟩
    · unfold f_X11_name
      rw [g1200, gcl, B1, B2, mI_in (a := ν j') (n := 1200) (by omega) hν', nI_clamp (show ν j' < 2 ^ 31 by omega), h103, v4]
      simp only [gd_t, Option.bind_some]
      rw [if_neg (by decide), if_neg (by decide), if_neg (by decide), if_neg (by decide)]
      exact s1
    · have := s3 a qa
      rw [← (hG _ a1).1, ← a2, hVb] at this
      exact this
end NME
