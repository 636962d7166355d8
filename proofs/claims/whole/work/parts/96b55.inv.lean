/-! the law's invariant -/
section INV
variable {K pl : Nat → Nat} {V : Nat → Int64} {y : TR} {e m : Nat} {N M L : Nat → Nat} {n ρ τ : Nat} {G : im_S} {sl tO sO kO crt : Nat → Nat} {f fr n' r' : Nat} {W : Nat → Int32 × Int32 × Int32} {ν ρ' : Nat → Nat} {q0 : Nat} {ar : Nat → Int64} {S S' : im_S} {cv vr : TPth → Nat → Option TVal} {cc : TPth → Option TVal} {Aw : TPth → Nat → Prop} {WV : TPth → Nat → TPth → Nat → Prop} {WC : TPth → TPth → Nat → Prop} {Lv : List TEv} {nS nF ev fu : Nat} {fb : Nat → Nat} {fp : Nat → TPth} {fi : TPth → Nat} {tf : TPth → Nat → Nat} {tb : TPth → Nat → Option Nat} {ow si fo : Nat → Int32} {lw : Nat → Int64} {nA nB nT : Nat} {A : Nat → TPth} {b : Nat → Nat} {vals : TPth → Nat → Option TVal} {lk : TPth → Nat → Option TPth} {Mt : Nat → TPth × Nat} {f1 f2 : Nat → Nat}
theorem MX_r2 (h : MX V y e N L sl tO sO kO S nS nF fb fp fi tf tb ow si fo lw cv vr cc Aw WV WC) (h1 : ∀ a i : Nat, 64 ≤ a → a ≤ 74 → S'.1 a i = S.1 a i) (h10 : S'.1 38 10 = S.1 38 10) (h2 : ∀ i, S'.2.1 66 i = S.2.1 66 i) (h3 : ∀ a, 64 ≤ a → a ≤ 74 → S'.2.2 a = S.2.2 a) : MX V y e N L sl tO sO kO S' nS nF fb fp fi tf tb ow si fo lw cv vr cc Aw WV WC := by
  obtain ⟨ct, isL, aw, wa, sow, ⟨⟨k1, k1'⟩, k2, k3, k4, k5, sz, fre, awk, wt, hs', c1, c2, c3, c4, c5⟩, mr⟩ := h
  have cg : ∀ {x : Int32} {ks : List Nat}, Lkd S x ks → Lkd S' x ks := fun {x ks} q => Lkd_cg (S := S) ks x (fun k _ => h1 74 k (by omega) (by omega)) q
  refine ⟨ct, isL, aw, wa, sow, ⟨⟨st_cg k1 (h1 64 2 (by omega) (by omega)) (h3 65 (by omega) (by omega)) (h3 66 (by omega) (by omega)) (fun i => h1 65 i (by omega) (by omega)), k1'⟩, fr_cg k2 (h1 67 4 (by omega) (by omega)) (fun a q1 q2 => h3 a (by omega) (by omega)), fun f hf => ?_, fun s q => sl_cg (k4 s q) (h1 65 s (by omega) (by omega)) (fun _ => h2 s), fun s q => ⟨(k5 s q).1, (k5 s q).2.1, (h2 s).trans (k5 s q).2.2⟩, sz, fre, awk, wt, hs', ?_, fun k q1 q2 => ?_, c3, ?_, fun s q1 q2 q3 => ?_⟩, mr⟩
  · rw [h1 68 f (by omega) (by omega), h1 69 f (by omega) (by omega), h1 70 f (by omega) (by omega), h1 71 f (by omega) (by omega)]
    exact k3 f hf
  · obtain ⟨⟨d1, d2, d3, d4, d5, d6, d7⟩, e2, ⟨e3, e4, e5⟩, e6⟩ := c1
    refine ⟨⟨(h1 72 2 (by omega) (by omega)).trans d1, d2, by rw [h1 72 3 (by omega) (by omega)]; exact cg d3, d4, d5, by rw [h3 73 (by omega) (by omega), h3 74 (by omega) (by omega)]; exact d6, by rw [h3 73 (by omega) (by omega)]; exact d7⟩, e2, ⟨by rw [h10]; exact cg e3, e4, e5⟩, fun s' q1 q2 q3 => ?_⟩
    rw [h1 65 s' (by omega) (by omega)] at q2
    obtain ⟨x, x1, x2, x3, x4⟩ := e6 s' q1 q2 q3
    exact ⟨x, (h2 s').trans x1, cg x2, x3, x4⟩
  · rcases c2 k q1 q2 with q | q | ⟨s', v1, v2, v3, v4⟩
    · exact .inl q
    · exact .inr (.inl q)
    · exact .inr (.inr ⟨s', v1, (h1 65 s' (by omega) (by omega)).trans v2, v3, v4⟩)
  · rw [← c4]
    exact List.map_congr_left (fun k' q => h1 73 k' (by omega) (by omega))
  · rw [← c5 s q1 q2 q3]
    exact List.map_congr_left (fun k' q => h1 73 k' (by omega) (by omega))
theorem RI_c2 (I : RI K V y q0 ar ν ρ' S nA nB nT A b vals lk Mt Lv f1 f2) (h75 : ∀ i : Nat, i = 57 ∨ i = 64 ∨ i = 68 ∨ i = 72 → S'.1 75 i = S.1 75 i) (h1 : ∀ a i : Nat, 120 ≤ a → a ≤ 130 → S'.1 a i = S.1 a i) (h2 : ∀ i, S'.2.1 127 i = S.2.1 127 i) : RI K V y q0 ar ν ρ' S' nA nB nT A b vals lk Mt Lv f1 f2 := by
  obtain ⟨⟨c1, c2, c3, c4⟩, r2, r3, r4, r5, r6, r7, r8, r9, r10⟩ := I
  refine ⟨⟨(h75 57 (by omega)).trans c1, (h75 64 (by omega)).trans c2, (h75 68 (by omega)).trans c3, (h75 72 (by omega)).trans c4⟩, r2, fun x hx => ?_, r4, r5, fun T hT => ?_, r7, r8, r9, r10⟩
  · obtain ⟨a1, a2, a3, a4, a5, a6, a7⟩ := r3 x hx
    refine ⟨a1, (h1 120 x (by omega) (by omega)).trans a2, (h1 122 x (by omega) (by omega)).trans a3, a4, ?_, a6, fun k t hk => ?_⟩
    · intro c Q hc
      rw [h1 121 x (by omega) (by omega), h1 124 x (by omega) (by omega), h1 125 x (by omega) (by omega)]
      exact a5 c Q hc
    · obtain ⟨b1, b2⟩ := a7 k t hk
      refine ⟨Sl_mono b1 (h1 126 _ (by omega) (by omega)) (h2 _) (Nat.le_refl _) (fun T hT => ⟨rfl, h1 130 T (by omega) (by omega)⟩), ?_⟩
      cases hl : lk (A x) t with
      | none =>
        rw [hl] at b2
        exact (h1 128 _ (by omega) (by omega)).trans b2
      | some P' =>
        rw [hl] at b2
        obtain ⟨x', u1, u2, u3⟩ := b2
        exact ⟨x', u1, u2, (h1 128 _ (by omega) (by omega)).trans u3⟩
  · obtain ⟨f, n, t1, t2, t3, t4, t5⟩ := r6 T hT
    exact ⟨f, n, (h1 129 T (by omega) (by omega)).trans t1, (h1 130 T (by omega) (by omega)).trans t2, t3, t4, t5⟩
theorem rni_cg (Q : RnI K V y e N L G sl tO sO kO crt q0 ar S ev) (h1 : ∀ a i : Nat, 38 ≤ a → a ≤ 74 → S'.1 a i = S.1 a i ∧ S'.2.1 a i = S.2.1 a i) (h3 : ∀ a, 64 ≤ a → a ≤ 74 → S'.2.2 a = S.2.2 a) : RnI K V y e N L G sl tO sO kO crt q0 ar S' ev := by
  obtain ⟨En, cv, vr, Aw, WV, WC, R, H, nS, nF, fb, fp, fi, tf, tb, ow, si, fo, lw, ⟨h, hAw, hcv, htb, her⟩, v9, v2, p⟩ := Q
  refine ⟨En, cv, vr, Aw, WV, WC, R, H, nS, nF, fb, fp, fi, tf, tb, ow, si, fo, lw, ⟨⟨h.1, MX_r2 h.2.1 (fun a i q1 q2 => (h1 a i (by omega) (by omega)).1) (h1 38 10 (by omega) (by omega)).1 (fun i => (h1 66 i (by omega) (by omega)).2) h3, cag_k h.2.2.1 (fun a i q1 q2 => (h1 a i (by omega) (by omega)).1) (fun a i q1 q2 => (h1 a i (by omega) (by omega)).2), ?_, h.2.2.2.2.1, h.2.2.2.2.2.1, h.2.2.2.2.2.2.1, h.2.2.2.2.2.2.2.1, mrs_k h.2.2.2.2.2.2.2.2.1 (h1 38 3 (by omega) (by omega)).1 (h1 38 4 (by omega) (by omega)).2, h.2.2.2.2.2.2.2.2.2⟩, hAw, hcv, htb, her⟩, (h1 38 9 (by omega) (by omega)).1.trans v9, (h1 38 2 (by omega) (by omega)).1.trans v2, p⟩
  obtain ⟨g1, g2, g3, g4, g5⟩ := h.2.2.2.1
  exact ⟨fun q => (h1 38 11 (by omega) (by omega)).1.trans (g1 q), fun P t a q => (by cases q), (h1 38 8 (by omega) (by omega)).1.trans g3, g4, fun k ev q => (h1 39 k (by omega) (by omega)).1.trans (g5 k ev q)⟩
end INV
/-- a run that both hold -/
def RunB (S : im_S) : Prop := ∃ (K pl : Nat → Nat) (V : Nat → Int64) (m : Nat) (y : TR) (e : Nat) (N M L : Nat → Nat) (n ρ τ fr n' r' : Nat) (ν ρ' : Nat → Nat) (W : Nat → Int32 × Int32 × Int32) (G : im_S) (sl tO sO kO crt : Nat → Nat) (q0 cnt : Nat) (xf : TR) (ar : Nat → Int64) (ev nA nB nT : Nat) (A : Nat → TPth) (b : Nat → Nat) (vals : TPth → Nat → Option TVal) (lk : TPth → Nat → Option TPth) (Mt : Nat → TPth × Nat) (Lv : List TEv) (f1 f2 : Nat → Nat),
  (TH K pl V m ∧ XB K pl V y e N M L n ρ τ G sl tO sO kO crt fr W ν ∧ CAg G S ∧ RHd K pl V m fr y e n' r' ν ρ' W S ∧ FA (fun _ _ _ x => nl x ≤ 20) y 0 ∧ nlP y ≤ 20) ∧ ((q0, cnt, xf) ∈ fuP y ∧ RnI K V y e N L G sl tO sO kO crt q0 ar S ev ∧ S.1 75 73 = 1 ∧ S.1 75 74 = nI ev) ∧ RI K V y q0 ar ν ρ' S nA nB nT A b vals lk Mt Lv f1 f2 ∧ Lv.length ≤ 1021 ∧ (Lv.length ≤ 1000 → CloA K V y q0 ar (EnA nA A) (Vf vals) (fun e => e ∈ Lv))
/-- what holds between two calls -/
def LwI (S : im_S) : Prop := (Ty S ∧ (∃ s, s ≤ 1 ∧ S.1 75 37 = nI s) ∧ S.1 5 0 = S.1 75 3 ∧ S.1 5 1 = S.1 75 4) ∧ (S.1 56 3 = S.1 75 35 ∧ S.1 38 2 = S.1 75 74 ∧ S.1 0 5 = S.1 75 75 ∧ S.1 0 6 = S.1 75 76 ∧ ∃ t, t ≤ 5000 ∧ S.1 75 75 = nI t) ∧ LnG S ∧ (PgI S ∨ S.1 75 35 = 0) ∧ ((S.1 38 9 = 0 ∧ S.1 75 73 = 0) ∨ RunB S)
section INW
variable {S S' : im_S}
theorem lng_cg (h : LnG S) (h1 : ∀ i : Nat, S'.1 65 i = S.1 65 i) (h3 : ∀ a, 64 ≤ a → a ≤ 74 → S'.2.2 a = S.2.2 a) : LnG S' := by
  obtain ⟨l1, l2, l3, l4⟩ := h
  refine ⟨by rw [h3 65 (by omega) (by omega), h3 66 (by omega) (by omega)]; exact l1, ?_, by rw [h3 68 (by omega) (by omega), h3 69 (by omega) (by omega), h3 70 (by omega) (by omega), h3 71 (by omega) (by omega)]; exact l3, by rw [h3 73 (by omega) (by omega), h3 74 (by omega) (by omega)]; exact l4⟩
  rw [gby_i]
  intro k hk
  rw [h1 k]
  exact gby_i.mp l2 k (by rw [h3 65 (by omega) (by omega)] at hk; exact hk)
theorem ln_gP (h : LnG S) : gP S ≤ lw_B := by
  obtain ⟨⟨a, a1, a2, a3⟩, -, ⟨b, b1, b2, b3, b4, b5⟩, c, c1, c2, c3⟩ := h
  have p1 : 2 ^ a ≤ 2 ^ 9 := p2_le a1
  have p2 : 2 ^ b ≤ 2 ^ 9 := p2_le b1
  have p3 : 2 ^ c ≤ 2 ^ 11 := p2_le c1
  unfold gP lw_B
  rw [a2, a3, b2, b3, b4, b5, c2, c3]
  omega
theorem lwi_cg (h : LwI S) (hT : Ty S') (h1 : ∀ a i : Nat, a ≠ 1 → a ≠ 76 → (a = 0 → i ≠ 4) → (a = 75 → i ≠ 0 ∧ i ≠ 2) → S'.1 a i = S.1 a i) (h2 : ∀ a i : Nat, a ≠ 134 → S'.2.1 a i = S.2.1 a i) (h3 : S'.2.2 = S.2.2) : LwI S' := by
  obtain ⟨⟨-, ⟨s, s1, s2⟩, e1, e2⟩, ⟨e3, e4, e5, e6, t, t1, t2⟩, hl, hp, hr⟩ := h
  have x : ∀ a i : Nat, a ≠ 0 → a ≠ 1 → a ≠ 75 → a ≠ 76 → S'.1 a i = S.1 a i := fun a i q1 q2 q3 q4 => h1 a i q2 q4 (fun q => absurd q q1) (fun q => absurd q q3)
  have z : ∀ i : Nat, i ≠ 0 → i ≠ 2 → S'.1 75 i = S.1 75 i := fun i q1 q2 => h1 75 i (by omega) (by omega) (by omega) (fun _ => ⟨q1, q2⟩)
  have w : ∀ i : Nat, i ≠ 4 → S'.1 0 i = S.1 0 i := fun i q => h1 0 i (by omega) (by omega) (fun _ => q) (by omega)
  have ca : ∀ {G : im_S}, CAg G S → CAg G S' := fun {G} q => cag_k q (fun a i q1 q2 => x a i (by omega) (by omega) (by omega) (by omega)) (fun a i q1 q2 => h2 a i (by omega))
  have rh : ∀ {K pl : Nat → Nat} {V : Nat → Int64} {m fr : Nat} {y : TR} {e n' r' : Nat} {ν ρ : Nat → Nat} {W : Nat → Int32 × Int32 × Int32}, RHd K pl V m fr y e n' r' ν ρ W S → RHd K pl V m fr y e n' r' ν ρ W S' := fun {K pl V m fr y e n' r' ν ρ W} q => RHd_ag q (fun a i q1 q2 => ⟨x a i (by omega) (by omega) (by omega) (by omega), h2 a i (by omega)⟩) (fun a i q => ⟨x a i (by omega) (by omega) (by omega) (by omega), h2 a i (by omega)⟩) (fun a i q => x a i (by omega) (by omega) (by omega) (by omega)) (fun i q => z i (by omega) (by omega))
  refine ⟨⟨hT, ⟨s, s1, (z 37 (by omega) (by omega)).trans s2⟩, by rw [x 5 0 (by omega) (by omega) (by omega) (by omega), z 3 (by omega) (by omega)]; exact e1, by rw [x 5 1 (by omega) (by omega) (by omega) (by omega), z 4 (by omega) (by omega)]; exact e2⟩, ⟨by rw [x 56 3 (by omega) (by omega) (by omega) (by omega), z 35 (by omega) (by omega)]; exact e3, by rw [x 38 2 (by omega) (by omega) (by omega) (by omega), z 74 (by omega) (by omega)]; exact e4, by rw [w 5 (by omega), z 75 (by omega) (by omega)]; exact e5, by rw [w 6 (by omega), z 76 (by omega) (by omega)]; exact e6, t, t1, (z 75 (by omega) (by omega)).trans t2⟩, lng_cg hl (fun i => x 65 i (by omega) (by omega) (by omega) (by omega)) (fun a _ _ => by rw [h3]), ?_, ?_⟩
  · rcases hp with ⟨K, pl, V, m, y, e, N, M, L, n, ρ, τ, fr, n', r', ν, ρ', W, G, T, g1, g2, g3, g4⟩ | hp
    · exact .inl ⟨K, pl, V, m, y, e, N, M, L, n, ρ, τ, fr, n', r', ν, ρ', W, G, T, g1, ca g2, rh g3, g4⟩
    · exact .inr ((z 35 (by omega) (by omega)).trans hp)
  · rcases hr with hr | hr
    · exact .inl ⟨(x 38 9 (by omega) (by omega) (by omega) (by omega)).trans hr.1, (z 73 (by omega) (by omega)).trans hr.2⟩
    · obtain ⟨K, pl, V, m, y, e, N, M, L, n, ρ, τ, fr, n', r', ν, ρ', W, G, sl, tO, sO, kO, crt, q0, cnt, xf, ar, ev, nA, nB, nT, A, b, vals, lk, Mt, Lv, f1, f2, ⟨T, X, g2, g3, g4⟩, ⟨u1, u2, u3, u4⟩, I, I2⟩ := hr
      exact .inr ⟨K, pl, V, m, y, e, N, M, L, n, ρ, τ, fr, n', r', ν, ρ', W, G, sl, tO, sO, kO, crt, q0, cnt, xf, ar, ev, nA, nB, nT, A, b, vals, lk, Mt, Lv, f1, f2, ⟨T, X, ca g2, rh g3, g4⟩, ⟨u1, rni_cg u2 (fun a i q1 q2 => ⟨x a i (by omega) (by omega) (by omega) (by omega), h2 a i (by omega)⟩) (fun a _ _ => by rw [h3]), (z 73 (by omega) (by omega)).trans u3, (z 74 (by omega) (by omega)).trans u4⟩, RI_c2 I (fun i q => z i (by omega) (by omega)) (fun a i q1 q2 => x a i (by omega) (by omega) (by omega) (by omega)) (fun i => h2 127 i (by omega)), I2⟩
theorem lwi_th (h : LwI S) (v : Int32) : LwI (uI S 75 0 v) := lwi_cg h (by
  obtain ⟨t, h1, h2, h3, h4⟩ := h.1.1
  refine ⟨t, h1, ?_, ?_, fun k hk => ?_⟩
  · rw [uI_ne (by omega)]; exact h2
  · rw [uI_ne (by omega)]; exact h3
  · rw [uI_ne (by omega), uI_ne (by omega)]; exact h4 k hk) (fun a i q1 q2 q3 q4 => uI_ne (by omega)) (fun a i q => rfl) rfl
theorem lwi_o (h : LwI S) (v : Int64) : LwI (uJ S 134 (0 : Int32).toNatClampNeg v) := lwi_cg h h.1.1 (fun a i q1 q2 q3 q4 => rfl) (fun a i q => uJ_ne (.inl q)) rfl
end INW
