/-! the reference looks at a call -/
section LKC
variable {K pl : Nat → Nat} {V : Nat → Int64} {m fu fr : Nat} {ft : List (Nat × Nat)} {W : Nat → Int32 × Int32 × Int32} {lo hi rlo rhi : Nat} {ν : Nat → Nat}
theorem pms_nx {p cnt i : Nat} (h : i < cnt) : pms (p + 2 * i) (cnt - i) = (p + 2 * i) :: pms (p + 2 * (i + 1)) (cnt - (i + 1)) := by
  obtain ⟨c, hc⟩ : ∃ c, cnt - i = c + 1 := ⟨cnt - i - 1, by omega⟩
  rw [hc, show cnt - (i + 1) = c by omega, show p + 2 * (i + 1) = p + 2 * i + 2 by omega]
  rfl
theorem pms_mem : ∀ (cnt p z : Nat), z < cnt → p + 2 * z ∈ pms p cnt := by
  intro cnt
  induction cnt with
  | zero => intro p z h; omega
  | succ c ih =>
    intro p z h
    cases z with
    | zero => exact List.mem_cons_self
    | succ z =>
      rw [show p + 2 * (z + 1) = p + 2 + 2 * z by omega]
      exact List.mem_cons_of_mem _ (ih (p + 2) z (by omega))
theorem tln_le {x : TR} {p e md : Nat} (w : Wt K x p e md) : tln x + p ≤ e ∧ (md ≠ 0 → 2 * tln x + p ≤ e + 1) ∧ (md = 102 → 3 * tln x + p ≤ e + 1) := by
  refine Wt_ind (K := K) (P := fun x p e md => tln x + p ≤ e ∧ (md ≠ 0 → 2 * tln x + p ≤ e + 1) ∧ (md = 102 → 3 * tln x + p ≤ e + 1)) ?_ ?_ ?_ ?_ ?_ ?_ ?_ ?_ ?_ ?_ ?_ ?_ ?_ ?_ ?_ (tsz x) x p e md (Nat.le_refl _) w
  · intro p md _; show 0 + p ≤ _ ∧ (_ → 2 * 0 + p ≤ _) ∧ (_ → 3 * 0 + p ≤ _); omega
  · intro p md _; show 0 + p ≤ _ ∧ (_ → 2 * 0 + p ≤ _) ∧ (_ → 3 * 0 + p ≤ _); omega
  · intro p md _; show 0 + p ≤ _ ∧ (_ → 2 * 0 + p ≤ _) ∧ (_ → 3 * 0 + p ≤ _); omega
  · intro p md _; show 0 + p ≤ _ ∧ (_ → 2 * 0 + p ≤ _) ∧ (_ → 3 * 0 + p ≤ _); omega
  · intro p as b md _ _ w1 _; have := Wt_lt w1; show 0 + p ≤ _ ∧ (_ → 2 * 0 + p ≤ _) ∧ (_ → 3 * 0 + p ≤ _); omega
  · intro p x y b e md _ w1 w2 _ _; have := Wt_lt w1; have := Wt_lt w2; show 0 + p ≤ _ ∧ (_ → 2 * 0 + p ≤ _) ∧ (_ → 3 * 0 + p ≤ _); omega
  · intro p x y z b c e md w1 w2 w3 _ _ _; have := Wt_lt w1; have := Wt_lt w2; have := Wt_lt w3; show 0 + p ≤ _ ∧ (_ → 2 * 0 + p ≤ _) ∧ (_ → 3 * 0 + p ≤ _); omega
  · intro p fs c ns g b d f e md _ _ w1 w2 w3 w4 _ _ _ _; have := Wt_lt w1; have := Wt_lt w2; have := Wt_lt w3; have := Wt_lt w4; show 0 + p ≤ _ ∧ (_ → 2 * 0 + p ≤ _) ∧ (_ → 3 * 0 + p ≤ _); omega
  · intro p x e md _ w1 _; have := Wt_lt w1; show 0 + p ≤ _ ∧ (_ → 2 * 0 + p ≤ _) ∧ (_ → 3 * 0 + p ≤ _); omega
  · intro p j x y e md _ w1 w2 _ _; have := Wt_lt w1; have := Wt_lt w2; show 0 + p ≤ _ ∧ (_ → 2 * 0 + p ≤ _) ∧ (_ → 3 * 0 + p ≤ _); omega
  · intro p j x y b md w1 w2 _ _; have := Wt_lt w1; have := Wt_lt w2; show 0 + p ≤ _ ∧ (_ → 2 * 0 + p ≤ _) ∧ (_ → 3 * 0 + p ≤ _); omega
  · intro p x y b e md _ _ w1 w2 _ _; have := Wt_lt w1; have := Wt_lt w2; show 0 + p ≤ _ ∧ (_ → 2 * 0 + p ≤ _) ∧ (_ → 3 * 0 + p ≤ _); omega
  · intro p x b md w1 _; have := Wt_lt w1; show 0 + p ≤ _ ∧ (_ → 2 * 0 + p ≤ _) ∧ (_ → 3 * 0 + p ≤ _); omega
  · intro p x b md hmd _ w1 _
    have l1 := Wt_lt w1
    show 0 + 1 + p ≤ _ ∧ (_ → 2 * (0 + 1) + p ≤ _) ∧ (_ → 3 * (0 + 1) + p ≤ _)
    rcases hmd with rfl | rfl
    · rw [if_pos rfl] at l1; omega
    · rw [if_neg (by omega)] at l1; omega
  · intro p x l b e md hmd _ _ w1 w2 _ ih
    have l1 := Wt_lt w1
    have l2 := Wt_lt w2
    show tln l + 1 + p ≤ _ ∧ (_ → 2 * (tln l + 1) + p ≤ _) ∧ (_ → 3 * (tln l + 1) + p ≤ _)
    rcases hmd with rfl | rfl
    · rw [if_pos rfl] at l1; omega
    · rw [if_neg (by omega)] at l1; omega
theorem Wt_rts {x : TR} {p e : Nat} (w : Wt K x p e 101) : (rts x).length = tln x := by
  refine Wt_ind (K := K) (P := fun x p e md => (rts x).length = tln x) ?_ ?_ ?_ ?_ ?_ ?_ ?_ ?_ ?_ ?_ ?_ ?_ ?_ ?_ ?_ (tsz x) x p e 101 (Nat.le_refl _) w
  · intros; rfl
  · intros; rfl
  · intros; rfl
  · intros; rfl
  · intros; rfl
  · intros; rfl
  · intros; rfl
  · intros; rfl
  · intros; rfl
  · intros; rfl
  · intros; rfl
  · intros; rfl
  · intros; rfl
  · intros; rfl
  · intro p x l b e md _ _ _ _ _ _ ih
    show (rts l).length + 1 = tln l + 1
    rw [ih]
/-- which function, and what parameters are left from the i-th on -/
def PaR (V : Nat → Int64) (S : im_S) (z2 : Int32) (i : Nat) (ps : List Nat) : Prop := (z2 = -1 ∧ ps = []) ∨ ∃ q p0 cnt : Nat, z2 = nI q ∧ q < 16 ∧ S.1 99 q = nI cnt ∧ cnt ≤ 4 ∧ (∀ z, z < cnt → S.2.1 100 (4 * q + z) = V (p0 + 2 * z) ∧ Nam (V (p0 + 2 * z))) ∧ ps = pms (p0 + 2 * i) (cnt - i)
theorem PaR_fl {S S' : im_S} {p e n i : Nat} {z2 : Int32} {ps : List Nat} (F : FLk pl S S' p e n) (h : PaR V S z2 i ps) : PaR V S' z2 i ps := by
  rcases h with h | ⟨q, p0, cnt, h1, h2, h3, h4, h5, h6⟩
  · exact Or.inl h
  · exact Or.inr ⟨q, p0, cnt, h1, h2, by rw [F.1 99 q (by omega) (by omega) (by omega) (by omega) (by omega)]; exact h3, h4, fun z hz => ⟨by rw [F.2 100 _ (by omega)]; exact (h5 z hz).1, (h5 z hz).2⟩, h6⟩
def LAh (K pl : Nat → Nat) (V : Nat → Int64) (fu fr : Nat) (ft : List (Nat × Nat)) (W : Nat → Int32 × Int32 × Int32) (lo hi rlo rhi : Nat) (ν : Nat → Nat) (as : TR) (p e : Nat) : Prop := ∀ (d : Nat) (S : im_S) (γ : List Nat) (f i i0 k n nf j : Nat) (z2 : Int32) (ps : List Nat), 3 * (e - p) ≤ d → 2 * γ.length ≤ p → LkS V fr ft W S γ f → OKs K pl V S lo hi rlo rhi ν as → WOKs W ν as → RwA S rlo rhi ν as (i0 + i) → i + tln as = n → n ≤ 500 → k < 1200 → S.1 90 k = nI n → S.1 89 k = nI i0 → S.2.1 87 k = V j → Nam (V j) → tln as < nf → PaR V S z2 i ps → ∃ S' : im_S, f_X11_lookCall_L51 (rc_look fu (d + 1)) fu nf (nI k) z2 (nI i) S = some (nI (tvV (V j)), S') ∧ LkS V fr ft W S' γ (min f (lfc K pl V ft as γ 101 [] ps)) ∧ FLk pl S S' p e γ.length ∧ BL V W fr ft ν S' as γ
theorem la_nil (hfu : 600 ≤ fu) (p e : Nat) : LAh K pl V fu fr ft W lo hi rlo rhi ν .nil p e := by
  intro d S γ f i i0 k n nf j z2 ps hd hγ H o wo rw_ hn hn5 hk h90 h89 h87 hN hnf hP
  have hn : i + 0 = n := hn
  obtain ⟨nf, rfl⟩ : ∃ z, nf = z + 1 := ⟨nf - 1, by omega⟩
  refine ⟨S, ?_, ?_, FLk_refl _ _ _ _, fun r c hc => absurd hc List.not_mem_nil⟩
  · rw [f_X11_lookCall_L51, mI_in (a := k) (n := 1200) (by omega) hk, nI_clamp (show k < 2 ^ 31 by omega), h90, if_pos ((mI_le (a := n) (b := i) (by omega) (by omega)).mpr (by omega)), h87, r_ty (by omega) hN]
    rfl
  · have : lfc K pl V ft .nil γ 101 [] ps = 4000 := rfl
    rw [this, Nat.min_eq_left H.2.1]
    exact H
theorem la_cons (T : TH K pl V m) (hfu : 600 ≤ fu) (hhi : hi ≤ 1200 ∧ 75 * fr ≤ lo ∧ hi ≤ 75 * fr + 600) (hrh : rhi ≤ 1200) {x l : TR} {p b b2 e : Nat} (w1 : Wt K x p b 0) (hb : b ≤ b2) (hbe : b2 ≤ e) (hem : e ≤ m) (ih : LXh K pl V fu fr ft W lo hi rlo rhi ν x p b) (il : LAh K pl V fu fr ft W lo hi rlo rhi ν l b2 e) : LAh K pl V fu fr ft W lo hi rlo rhi ν (.append (.tag p x) l) p e := by
  intro d S γ f i i0 k n nf j z2 ps hd hγ H o wo rw_ hn hn5 hk h90 h89 h87 hN hnf hP
  have l1 := Wt_lt w1
  have hn : i + (tln l + 1) = n := hn
  have hnf : tln l + 1 < nf := hnf
  obtain ⟨nf, rfl⟩ : ∃ z, nf = z + 1 := ⟨nf - 1, by omega⟩
  obtain ⟨q1, q2, q3, q4⟩ := rw_
  obtain ⟨o1, o2⟩ := fm_a.mp o
  obtain ⟨wo1, wo2⟩ := fm_a.mp wo
  have e0 : f_X11_lookCall_L51 (rc_look fu (d + 1)) fu (nf + 1) (nI k) z2 (nI i) S = f_X11_lookCall_L51 (rc_look fu (d + 1)) fu (nf + 1) (nI k) z2 (nI i) S := rfl
  conv at e0 => rhs; unfold f_X11_lookCall_L51
  rw [mI_in (a := k) (n := 1200) (by omega) hk, nI_clamp (show k < 2 ^ 31 by omega), h90, h89, show nI i0 + nI i = nI (i0 + i) from nI_add i0 i, mI_in (a := i0 + i) (n := 1200) (by omega) (by omega), nI_clamp (show i0 + i < 2 ^ 31 by omega), q3, if_neg (fun z => by have := (mI_le (a := n) (b := i) (by omega) (by omega)).mp z; omega), show nI i + 1 = nI (i + 1) from nI_add i 1] at e0
  simp only [gd_t] at e0
  have go : ∀ (S1 : im_S) (f1 : Nat) (ps1 : List Nat), LkS V fr ft W S1 γ f1 → FLk pl S S1 p b γ.length → BL V W fr ft ν S1 x γ → PaR V S z2 (i + 1) ps1 → ∃ S' : im_S, f_X11_lookCall_L51 (rc_look fu (d + 1)) fu nf (nI k) z2 (nI (i + 1)) S1 = some (nI (tvV (V j)), S') ∧ LkS V fr ft W S' γ (min f1 (lfc K pl V ft l γ 101 [] ps1)) ∧ FLk pl S S' p e γ.length ∧ BL V W fr ft ν S' (.append (.tag p x) l) γ := by
    intro S1 f1 ps1 h2 h3 h4 h5
    obtain ⟨S2, u1, u2, u3, u4⟩ := il d S1 γ f1 (i + 1) i0 k n nf j z2 ps1 (by omega) (by omega) h2 (OKs_fl h3 o2) wo2 (RwA_fl h3 _ _ q4) (by omega) hn5 hk (by rw [h3.1 90 k (by omega) (by omega) (by omega) (by omega) (by omega)]; exact h90) (by rw [h3.1 89 k (by omega) (by omega) (by omega) (by omega) (by omega)]; exact h89) (by rw [h3.2 87 k (by omega)]; exact h87) hN (by omega) (PaR_fl h3 h5)
    refine ⟨S2, u1, u2, FLk_trans h3 u3 (Nat.le_refl _) (by omega) (by omega) (Nat.le_refl _) (Nat.le_refl _) (Nat.le_refl _), fun r c hc => ?_⟩
    rcases List.mem_append.mp hc with hc | hc
    · exact BL_fl T w1 (OKs_fl h3 o1) u3 (Or.inl (by omega)) (by omega) hem h4 r c hc
    · exact u4 r c hc
  rcases hP with ⟨rfl, rfl⟩ | ⟨q, p0, cnt, rfl, hq, h99, hc4, h100, rfl⟩
  · obtain ⟨S1, g1, g2, g3, g4⟩ := ih (d + 1) S γ f (by omega) (by omega) H o1 wo1
    rw [if_pos rfl, g1] at e0
    simp only [Option.bind_some] at e0
    obtain ⟨S2, u1, u2, u3, u4⟩ := go S1 _ [] g2 g3 g4 (Or.inl ⟨rfl, rfl⟩)
    refine ⟨S2, e0.trans u1, ?_, u3, u4⟩
    have : min f (lfc K pl V ft (.append (.tag p x) l) γ 101 [] []) = min (min f (lfc K pl V ft x γ 0 [] [])) (lfc K pl V ft l γ 101 [] []) := by
      show min f (min (lfc K pl V ft x γ 0 [] []) (min 4000 (lfc K pl V ft l γ 101 [] []))) = _
      have hf := H.2.1
      omega
    rw [this]
    exact u2
  · rw [if_neg (fun z => absurd z (nI_m1 (show q < 2 ^ 31 by omega))), mI_in (a := q) (n := 16) (by omega) hq, nI_clamp (show q < 2 ^ 31 by omega), h99] at e0
    simp only [gd_t] at e0
    by_cases hic : i < cnt
    · obtain ⟨t1, t2⟩ := h100 i hic
      have ht := tvV_r (V (p0 + 2 * i))
      obtain ⟨S1, g1, g2, g3, g4⟩ := LX_w T w1 (by omega) hhi (Wt_ms w1) ih (d := d) (t := tvV (V (p0 + 2 * i))) (by omega) (by omega) (by omega) H o1 wo1
      rw [if_pos ((mI_lt (a := i) (b := cnt) (by omega) (by omega)).mpr hic), show (4 : Int32) * nI q + nI i = nI (4 * q + i) from by rw [show (4 : Int32) = nI 4 from rfl, nI_mul, nI_add], mI_in (a := 4 * q + i) (n := 64) (by omega) (by omega), nI_clamp (show 4 * q + i < 2 ^ 31 by omega), t1, r_ty (by omega) t2] at e0
      simp only [gd_t, Option.bind_some] at e0
      rw [g1] at e0
      simp only [Option.bind_some] at e0
      obtain ⟨S2, u1, u2, u3, u4⟩ := go S1 _ (pms (p0 + 2 * (i + 1)) (cnt - (i + 1))) g2 g3 g4 (Or.inr ⟨q, p0, cnt, rfl, hq, h99, hc4, h100, rfl⟩)
      refine ⟨S2, e0.trans u1, ?_, u3, u4⟩
      have : min f (lfc K pl V ft (.append (.tag p x) l) γ 101 [] (pms (p0 + 2 * i) (cnt - i))) = min (min f (min (lfc K pl V ft x γ 0 [] []) (ckX K pl V x (tvV (V (p0 + 2 * i)))))) (lfc K pl V ft l γ 101 [] (pms (p0 + 2 * (i + 1)) (cnt - (i + 1)))) := by
        rw [pms_nx hic]
        show min f (min (lfc K pl V ft x γ 0 [] []) (min (ckX K pl V x (tvV (V (p0 + 2 * i)))) (lfc K pl V ft l γ 101 [] (pms (p0 + 2 * (i + 1)) (cnt - (i + 1)))))) = _
        ac_rfl
      rw [this]
      exact u2
    · obtain ⟨S1, g1, g2, g3, g4⟩ := ih (d + 1) S γ f (by omega) (by omega) H o1 wo1
      rw [if_neg (fun z => hic ((mI_lt (a := i) (b := cnt) (by omega) (by omega)).mp z)), g1] at e0
      simp only [Option.bind_some] at e0
      obtain ⟨S2, u1, u2, u3, u4⟩ := go S1 _ (pms (p0 + 2 * (i + 1)) (cnt - (i + 1))) g2 g3 g4 (Or.inr ⟨q, p0, cnt, rfl, hq, h99, hc4, h100, rfl⟩)
      refine ⟨S2, e0.trans u1, ?_, u3, u4⟩
      rw [show cnt - (i + 1) = 0 by omega] at u2
      rw [show cnt - i = 0 by omega]
      have : min f (lfc K pl V ft (.append (.tag p x) l) γ 101 [] (pms (p0 + 2 * i) 0)) = min (min f (lfc K pl V ft x γ 0 [] [])) (lfc K pl V ft l γ 101 [] []) := by
        show min f (min (lfc K pl V ft x γ 0 [] []) (min 4000 (lfc K pl V ft l γ 101 [] []))) = _
        have hf := H.2.1
        omega
      rw [this]
      exact u2
theorem lx_4 (T : TH K pl V m) (hfu : 600 ≤ fu) (hhi : hi ≤ 1200 ∧ 75 * fr ≤ lo ∧ hi ≤ 75 * fr + 600) (hft : ∀ j b, b ∈ (pmF V ft j).getD [] → Nam (V b)) {as : TR} {p b e : Nat} (hK : K p = 1) (hpb : p + 2 ≤ b) (hbe : b + 1 = e) (hem : e ≤ m) (htl : tln as ≤ 500) (hrt : (rts as).length = tln as) (hsb : aCal p as ∈ sbs (aCal p as)) (il : LAh K pl V fu fr ft W lo hi rlo rhi ν as (p + 2) b) : LXh K pl V fu fr ft W lo hi rlo rhi ν (aCal p as) p e := by
  refine LXh_of (by omega) hhi hsb (fun d S γ f hd hγ H o wo => ?_)
  obtain ⟨⟨⟨a1, i0, a2, a3, a4, -⟩, b1, b2⟩, o2⟩ := fm_c.mp o
  have wo2 := (fm_c.mp wo).2
  have b2 : ν p < hi := b2
  have b1 : lo ≤ ν p := b1
  have hm := T.m_
  have hN := T.nam (show p < m by omega) hK
  obtain ⟨d, rfl⟩ : ∃ d', d = d' + 2 := ⟨d - 2, by omega⟩
  have h87 : S.2.1 87 (ν p) = V p := a1.2.2.1 (by omega)
  have h82 : S.1 82 (ν p) = nI (pl p) := a1.2.1 (by omega) (by omega)
  have hpp := T.pl_ (show p ≤ m by omega)
  have hfo := r_fof (fu := fu) hfu H.2.2.2.2.2.2.1 H.2.2.2.2.2.1 H.2.2.2.2.2.2.2.1 H.2.2.2.2.1 rfl p
  obtain ⟨lk1, lk2⟩ := rft_look (j := p) ft fr H.2.2.2.2.1
  have ty : ∀ r : Option (Int32 × im_S), f_X11_lookCall (rc_look fu (d + 1)) fu (nI (ν p)) S = r → (∀ v S', r = some (v, S') → f_X11_typed (rc_look fu (d + 2)) fu (nI (ν p)) S = some (v, S')) := by
    intro r hr v S' hr2
    unfold f_X11_typed
    rw [mI_in (a := ν p) (n := 1200) (by omega) (by omega), nI_clamp (show ν p < 2 ^ 31 by omega), a1.1]
    simp only [gd_t]
    rw [if_neg (show ¬ (nI 4 : Int32) = 1 by decide), if_neg (show ¬ (nI 4 : Int32) = 2 by decide), if_neg (show ¬ (nI 4 : Int32) = 3 by decide), if_pos (show (nI 4 : Int32) = 4 from rfl)]
    show (f_X11_lookCall (rc_look fu (d + 1)) fu (nI (ν p)) S).bind _ = _
    rw [hr, hr2]
    rfl
  have fin : ∀ (S1 : im_S) (f1 : Nat) (z2 : Int32) (ps : List Nat), LkS V fr ft W S1 γ f1 → (∀ a i : Nat, (a ≠ 75 ∨ (i ≠ 3 ∧ i ≠ 4)) → S1.1 a i = S.1 a i) → S1.2.1 = S.2.1 → PaR V S z2 0 ps → (∀ k, idx V (ft.map Prod.fst) p = some k → z2 = nI (fr + k)) → ∃ S' : im_S, f_X11_lookCall_L51 (rc_look fu (d + 1)) fu fu (nI (ν p)) z2 0 (uI S1 84 (ν p) z2) = some (nI (tvV (V p)), S') ∧ LkS V fr ft W S' γ (min f1 (lfc K pl V ft as γ 101 [] ps)) ∧ FLk pl S S' p e γ.length ∧ BL V W fr ft ν S' (aCal p as) γ := by
    intro S1 f1 z2 ps h1 h2 h3 h4 h5
    have F : FLk pl S (uI S1 84 (ν p) z2) p (p + 1) γ.length := by
      refine ⟨fun a i q1 q2 q3 q4 q5 => ?_, fun a i _ => by rw [uI_21, h3]⟩
      by_cases ha : a = 84 ∧ i = ν p
      · obtain ⟨rfl, rfl⟩ := ha
        rcases q3 rfl with u | u
        · exact absurd a1.1 u
        · exact absurd h82 (u p (by omega) (by omega))
      · rw [uI_ne (by omega)]; exact h2 a i (by omega)
    have H1 : LkS V fr ft W (uI S1 84 (ν p) z2) γ f1 := LkS_cp h1 (by unfold RFS; rw [uI_ne (by omega), uI_ne (by omega)]; exact h1.1) h1.2.1 (fun a i _ => uI_ne (by omega)) (fun _ _ _ => rfl) (Pq_ag h1.2.2.2.2.2.2.2.2 (fun a i q => uI_ne (by unfold Pr at q; omega)) (fun _ _ _ => rfl))
    obtain ⟨S2, u1, u2, u3, u4⟩ := il d _ γ f1 0 i0 (ν p) (tln as) fu p z2 ps (by omega) (by omega) H1 (OKs_fl F o2) wo2 (RwA_fl F _ _ a4) (by omega) htl (by omega) (by rw [uI_ne (by omega), h2 90 _ (by omega)]; exact a3) (by rw [uI_ne (by omega), h2 89 _ (by omega)]; exact a2) (by rw [uI_21, h3]; exact h87) hN (by omega) (PaR_fl F h4)
    refine ⟨S2, u1, u2, FLk_trans F u3 (Nat.le_refl _) (by omega) (by omega) (by omega) (Nat.le_refl _) (Nat.le_refl _), fun r c hc => ?_⟩
    rcases List.mem_cons.mp hc with rfl | hc
    · intro k hk
      have e82 : (uI S1 84 (ν p) z2).1 82 (ν p) = nI (pl p) := by rw [FLk_pl F (by omega)]; exact h82
      rw [u3.1 84 (ν p) (by omega) (by omega) (fun _ => Or.inr (fun j' v1 v2 z => ?_)) (by omega) (by omega), uI_eq]
      · exact h5 k hk
      · rw [e82] at z
        have := T.inj (show p ≤ m by omega) (by omega) z
        omega
    · exact u4 r c hc
  have e0 : f_X11_lookCall (rc_look fu (d + 1)) fu (nI (ν p)) S = f_X11_lookCall (rc_look fu (d + 1)) fu (nI (ν p)) S := rfl
  conv at e0 => rhs; unfold f_X11_lookCall
  rw [mI_in (a := ν p) (n := 1200) (by omega) (by omega), nI_clamp (show ν p < 2 ^ 31 by omega), h87, hfo] at e0
  simp only [gd_t, Option.bind_some] at e0
  obtain ⟨Sn, n1, n2, n3, n4⟩ := LkS_note (k := 2) (p' := pl p) H (by omega) (by omega) hpp
  have n1 : f_X11_note 2 (nI (pl p)) S = some ((), Sn) := n1
  have hlf : lfc K pl V ft (aCal p as) γ 0 [] [] = min (if (pmF V ft p).isSome ∧ ((pmF V ft p).getD []).length = (rts as).length then 4000 else 4 * pl p + 2) (lfc K pl V ft as γ 101 [] ((pmF V ft p).getD [])) := rfl
  have hf := H.2.1
  rcases hidx : idx V (ft.map Prod.fst) p with _ | kf
  · rw [hidx] at e0
    simp only at e0
    rw [if_pos trivial, h82, n1] at e0
    simp only [Option.bind_some] at e0
    have hpm := lk1 hidx
    obtain ⟨S2, u1, u2, u3, u4⟩ := fin Sn _ (-1) [] n2 n3 n4 (Or.inl ⟨rfl, rfl⟩) (fun k hk => by rw [hidx] at hk; cases hk)
    refine ⟨S2, ty _ e0 _ _ u1, ?_, u3, u4⟩
    rw [hlf, hpm, if_neg (fun z => absurd (show false = true from z.1) (by decide)), ← Nat.min_assoc]
    exact u2
  · rw [hidx] at e0
    simp only at e0
    obtain ⟨p0, cnt, j1, j2, j3, j4⟩ := lk2 kf hidx
    have hkl : kf < ft.length := by
      have := idx_lt _ _ _ hidx
      rw [List.length_map] at this
      exact this
    have h16 := H.2.2.2.2.2.2.2.1
    have hnm : ∀ z, z < cnt → Nam (V (p0 + 2 + 2 * z)) := fun z hz => hft p _ (by rw [j1]; exact pms_mem cnt (p0 + 2) z hz)
    have hP : PaR V S (nI (fr + kf)) 0 (pms (p0 + 2) cnt) := Or.inr ⟨fr + kf, p0 + 2, cnt, rfl, by omega, j2, j3, fun z hz => ⟨j4 z hz, hnm z hz⟩, rfl⟩
    rw [if_neg (fun z => absurd z (nI_m1 (show fr + kf < 2 ^ 31 by omega))), mI_in (a := fr + kf) (n := 16) (by omega) (by omega), nI_clamp (show fr + kf < 2 ^ 31 by omega), j2, a3] at e0
    simp only [gd_t] at e0
    have hlen : ((pmF V ft p).getD []).length = cnt := by rw [j1]; exact pms_len cnt (p0 + 2)
    by_cases hct : cnt = tln as
    · rw [if_pos (by rw [hct])] at e0
      obtain ⟨S2, u1, u2, u3, u4⟩ := fin S _ (nI (fr + kf)) _ H (fun _ _ _ => rfl) rfl hP (fun k hk => by rw [hidx] at hk; cases hk; rfl)
      refine ⟨S2, ty _ e0 _ _ u1, ?_, u3, u4⟩
      rw [hlf, hlen, if_pos ⟨by rw [j1]; rfl, by omega⟩, j1, ← Nat.min_assoc, Nat.min_eq_left hf]
      exact u2
    · rw [if_neg (fun z => hct ((nI_eq (by omega) (by omega)).mp z)), h82, n1] at e0
      simp only [Option.bind_some] at e0
      obtain ⟨S2, u1, u2, u3, u4⟩ := fin Sn _ (nI (fr + kf)) _ n2 n3 n4 hP (fun k hk => by rw [hidx] at hk; cases hk; rfl)
      refine ⟨S2, ty _ e0 _ _ u1, ?_, u3, u4⟩
      rw [hlf, hlen, if_neg (fun z => hct (by have := z.2; omega)), j1, ← Nat.min_assoc]
      exact u2
end LKC
