/-! the reference looks at an X: let and tab -/
def ltT (K : Nat → Int32 → Int32 → im_S → Option (Int32 × im_S)) (fu : Nat) (x1 r0 : Int32) (S : im_S) : Option (Int32 × im_S) := gd (in_b x1 1200) ((K 2 ((S.1 83) x1.toNatClampNeg) 1 S).bind (fun qS9 => gd (in_b r0 1200) (gd (in_b r0 1200) ((f_X11_know fu ((qS9.2.2.1 93) r0.toNatClampNeg) ((qS9.2.1 94) r0.toNatClampNeg) 5 x1 0 qS9.2).bind (fun qS12 => gd (in_b (r0 + 1) 1200) (gd (in_b (r0 + 1) 1200) ((f_X11_know fu ((qS12.2.2.1 93) ((r0 + 1).toNatClampNeg)) ((qS12.2.1 94) ((r0 + 1).toNatClampNeg)) 4 x1 0 qS12.2).bind (fun qS15 => gd (in_b x1 1200) ((K 2 ((qS15.2.1 84) x1.toNatClampNeg) 1 qS15.2).bind (fun qS18 => some (3, (uI qS18.2 75 52 ((qS18.2.1 75 52) - 2)))))))))))))
def ltC (fu : Nat) (t r0 : Int32) (A : im_S → Option (Int32 × im_S)) (S : im_S) : Option (Int32 × im_S) := gd (in_b r0 1200) ((f_X11_typeOf fu ((S.2.1 93) r0.toNatClampNeg) S).bind (fun qS1 => if (qS1.1 : Int32) = t then A qS1.2 else gd (in_b r0 1200) ((f_X11_note 3 ((qS1.2.1 94) r0.toNatClampNeg) qS1.2).bind (fun q => A q.2))))
theorem lt_eq (K : Nat → Int32 → Int32 → im_S → Option (Int32 × im_S)) (fu : Nat) (x1 : Int32) (S : im_S) : f_X11_lookTable K fu x1 S = gd (in_b x1 1200) (ltC fu 3 ((S.1 89) x1.toNatClampNeg) (ltC fu 1 ((S.1 89) x1.toNatClampNeg + 1) (ltT K fu x1 ((S.1 89) x1.toNatClampNeg))) S) := rfl
section LKL
variable {K pl : Nat → Nat} {V : Nat → Int64} {m fu fr : Nat} {ft : List (Nat × Nat)} {W : Nat → Int32 × Int32 × Int32} {lo hi rlo rhi : Nat} {ν : Nat → Nat} {S : im_S} {γ : List Nat} {f : Nat}
theorem FLk_e {S S' : im_S} {n : Nat} (F : FLk pl S S' 0 0 n) (p e : Nat) : FLk pl S S' p e n := ⟨fun a i q1 q2 _ _ q5 => F.1 a i q1 q2 (fun _ => Or.inr (fun j h1 h2 => by omega)) (fun _ _ j h1 h2 => by omega) q5, F.2⟩
theorem LkS_note (H : LkS V fr ft W S γ f) {k p' : Nat} (hk1 : 1 ≤ k) (hk : k ≤ 3) (hp : p' ≤ 500) : ∃ S' : im_S, f_X11_note (nI k) (nI p') S = some ((), S') ∧ LkS V fr ft W S' γ (min f (4 * p' + k)) ∧ (∀ a i : Nat, (a ≠ 75 ∨ (i ≠ 3 ∧ i ≠ 4)) → S'.1 a i = S.1 a i) ∧ S'.2.1 = S.2.1 := by
  obtain ⟨S1, n1, n2, n3, n4⟩ := r_note H.1 hk1 hk hp
  have := H.2.1
  exact ⟨S1, n1, LkS_cp H n2 (by omega) (fun a i u => n3 a i (by omega)) (fun a i _ => by rw [n4]) (Pq_ag H.2.2.2.2.2.2.2.2 (fun a i q => n3 a i (Or.inl (by have := Pr_a q; omega))) (fun a i _ => by rw [n4])), n3, n4⟩
theorem lt_ck (hfu : 600 ≤ fu) {A : im_S → Option (Int32 × im_S)} {i j t : Nat} (H : LkS V fr ft W S γ f) (hi : i < 1200) (h93 : S.2.1 93 i = V j) (h94 : S.1 94 i = nI (pl j)) (hN : Nam (V j)) (hp : pl j ≤ 500) (ht : t < 100) :
    ∃ S' : im_S, ltC fu (nI t) (nI i) A S = A S' ∧ LkS V fr ft W S' γ (min f (ctk pl V j t)) ∧ (∀ a k : Nat, (a ≠ 75 ∨ (k ≠ 3 ∧ k ≠ 4)) → S'.1 a k = S.1 a k) ∧ S'.2.1 = S.2.1 := by
  unfold ltC ctk
  rw [mI_in (a := i) (n := 1200) (by omega) hi, nI_clamp (show i < 2 ^ 31 by omega), h93, r_ty (by omega) hN]
  simp only [gd_t, Option.bind_some]
  have hv := tvV_r (V j)
  by_cases h : tvV (V j) = t
  · rw [if_pos h, if_pos (by rw [h])]
    exact ⟨S, rfl, by rw [Nat.min_eq_left H.2.1]; exact H, fun _ _ _ => rfl, rfl⟩
  · obtain ⟨S1, n1, n2, n3, n4⟩ := LkS_note (k := 3) (p' := pl j) H (by omega) (by omega) hp
    have n1 : f_X11_note 3 (nI (pl j)) S = some ((), S1) := n1
    rw [if_neg h, if_neg (fun z => h ((nI_eq (by omega) (by omega)).mp z)), h94, n1]
    exact ⟨S1, rfl, n2, n3, n4⟩
theorem LkS_know (hfu : 600 ≤ fu) (H : LkS V fr ft W S γ f) (hl : γ.length < 260) {j : Nat} {w1 w2 w3 : Int32} (hp : pl j ≤ 500) (hW : W j = (w1, w2, w3)) :
    ∃ S' : im_S, f_X11_know fu (V j) (nI (pl j)) w1 w2 w3 S = some ((), S') ∧ LkS V fr ft W S' (j :: γ) (min f (kb pl V γ j)) ∧ FLk pl S S' 0 0 γ.length := by
  obtain ⟨S1, k1, k2, k3, k4, k5, k6⟩ := r_know (pl := pl) hfu H.2.2.1 hl H.2.2.2.1 H.1 H.2.1 hp hW
  obtain ⟨q1, q2, q3, q4, q5, q6, q7, q8⟩ := H
  have hf : min f (kb pl V γ j) ≤ 4000 := by omega
  refine ⟨S1, k1, ⟨k2, hf, k3, k4, RFt_cp (fun k => k5 99 k (by omega) (by omega)) (fun k => ⟨k6 97 k (by omega), k6 100 k (by omega)⟩) ft fr q5, by rw [k5 75 36 (by omega) (by omega)]; exact q6, by rw [k5 75 37 (by omega) (by omega)]; exact q7, q8.1, Pq_ag q8.2 (fun a i q => k5 a i (by have := Pr_a q; omega) (by have := Pr_a q; omega)) (fun a i q => k6 a i (by have := Pr_a q; omega))⟩, FLk_s (fun a i u1 u2 u3 => k5 a i (by omega) (by omega)) (fun a i u => k6 a i (by omega))⟩
theorem RKn_app {S : im_S} : ∀ δ : List Nat, RKn V W S (δ ++ γ) → RKn V W S γ := by
  intro δ
  induction δ with
  | nil => exact fun h => h
  | cons b δ ih => exact fun h => ih h.2.2.2.2
theorem LkS_pop {δ : List Nat} {v : Int32} (H : LkS V fr ft W S (δ ++ γ) f) (hv : v = nI γ.length) : LkS V fr ft W (uI S 75 52 v) γ f := by
  obtain ⟨q1, q2, q3, q4, q5, q6, q7, q8⟩ := H
  refine ⟨by unfold RFS; rw [uI_ne (by omega), uI_ne (by omega)]; exact q1, q2, by rw [uI_eq]; exact hv, RKn_cp (S := S) γ (fun i _ => ⟨rfl, uI_ne (by omega), uI_ne (by omega), uI_ne (by omega)⟩) (RKn_app δ q4), RFt_cp (fun k => uI_ne (by omega)) (fun k => ⟨rfl, rfl⟩) ft fr q5, by rw [uI_ne (by omega)]; exact q6, by rw [uI_ne (by omega)]; exact q7, q8.1, Pq_ag q8.2 (fun a i q => uI_ne (by have := Pr_a q; omega)) (fun _ _ _ => rfl)⟩
theorem FLk_pop {S' : im_S} {p e n : Nat} {v : Int32} (F : FLk pl S S' p e n) : FLk pl S (uI S' 75 52 v) p e n := ⟨fun a i q1 q2 q3 q4 q5 => by rw [uI_ne (by omega)]; exact F.1 a i q1 q2 q3 q4 q5, F.2⟩
theorem TH.nam (T : TH K pl V m) {j : Nat} (h : j < m) (hK : K j = 1) : Nam (V j) := (T.2.2.1 j h).2.2.2 hK
theorem lx_5 (T : TH K pl V m) (hfu : 600 ≤ fu) (hhi : hi ≤ 1200 ∧ 75 * fr ≤ lo ∧ hi ≤ 75 * fr + 600) {x y : TR} {p b e : Nat} (hK : K (p + 1) = 1) (w1 : Wt K x (p + 3) b 0) (w2 : Wt K y (b + 1) e 0) (hem : e ≤ m) (i1 : LXh K pl V fu fr ft W lo hi rlo rhi ν x (p + 3) b) (i2 : LXh K pl V fu fr ft W lo hi rlo rhi ν y (b + 1) e) : LXh K pl V fu fr ft W lo hi rlo rhi ν (aLet p x y) p e := by
  have l1 := Wt_lt w1
  have l2 := Wt_lt w2
  have hm := T.m_
  refine LXh_of (by omega) hhi List.mem_cons_self (fun d S γ f hd hγ H o wo => ?_)
  obtain ⟨⟨⟨a1, a2, a3⟩, b1, b2⟩, o2⟩ := fm_c.mp o
  obtain ⟨o2, o3⟩ := fm_a.mp o2
  obtain ⟨wo1, wo2⟩ := fm_c.mp wo
  obtain ⟨wo2, wo3⟩ := fm_a.mp wo2
  have b2 : ν p < hi := b2
  have hn := T.nam (show p + 1 < m by omega) hK
  obtain ⟨h87, h86⟩ := a1.2.2.2.2.1 rfl
  obtain ⟨d, rfl⟩ : ∃ d', d = d' + 2 := ⟨d - 2, by omega⟩
  have ht := tvV_r (V (p + 1))
  obtain ⟨S1, g1, g2, g3, g4⟩ := LX_w T w1 (by omega) hhi (Wt_ms w1) i1 (d := d) (t := tvV (V (p + 1))) (by omega) (by omega) (by omega) H o2 wo2
  obtain ⟨S2, k1, k2, k3⟩ := LkS_know (pl := pl) hfu g2 (by omega) (j := p + 1) (w1 := 2) (w2 := nI (ν p)) (w3 := 0) (T.pl_ (by omega)) wo1
  have g23 := FLk_trans g3 (FLk_e k3 (p + 3) (p + 3)) (show p ≤ p + 3 by omega) (show b ≤ e by omega) (show p ≤ p + 3 by omega) (show p + 3 ≤ e by omega) (Nat.le_refl _) (Nat.le_refl _)
  obtain ⟨S3, u1, u2, u3, u4⟩ := i2 (d + 1) S2 ((p + 1) :: γ) _ (by omega) (by show 2 * (γ.length + 1) ≤ b + 1; omega) k2 (OKs_fl g23 o3) wo3
  have hl : ((p + 1) :: γ).length = γ.length + 1 := rfl
  have e84 : S2.1 84 (ν p) = nI (ν (otk y)) := by rw [g23.1 84 (ν p) (by omega) (by omega) (fun _ => Or.inl (L81 a1 (by omega) (by omega))) (by omega) (by omega)]; exact a3
  have f87 : S1.2.1 87 (ν p) = V (p + 1) := by rw [g3.2 87 (ν p) (by omega)]; exact h87
  have f86 : S1.1 86 (ν p) = nI (pl (p + 1)) := by rw [g3.1 86 (ν p) (by omega) (by omega) (by omega) (by omega) (by omega)]; exact h86
  have h52 : S3.1 75 52 - 1 = nI γ.length := by
    rw [u2.2.2.1, hl]
    show nI (γ.length + 1) - nI 1 = _
    rw [nI_sub (by omega), Nat.add_sub_cancel]
  refine ⟨uI S3 75 52 (S3.1 75 52 - 1), ?_, ?_, FLk_pop (FLk_trans g23 u3 (Nat.le_refl _) (Nat.le_refl _) (by omega) (Nat.le_refl _) (Nat.le_refl _) (by omega)), ?_⟩
  · show f_X11_typed (rc_look fu (d + 2)) fu (nI (ν p)) S = some (nI (tyk K (tv V) y), _)
    unfold f_X11_typed
    rw [mI_in (a := ν p) (n := 1200) (by omega) (by omega), nI_clamp (show ν p < 2 ^ 31 by omega), a1.1]
    simp only [gd_t]
    rw [if_neg (show ¬ (nI 5 : Int32) = 1 by decide), if_neg (show ¬ (nI 5 : Int32) = 2 by decide), if_neg (show ¬ (nI 5 : Int32) = 3 by decide), if_neg (show ¬ (nI 5 : Int32) = 4 by decide), if_pos (show (nI 5 : Int32) = 5 from rfl)]
    show (f_X11_lookLet (rc_look fu (d + 1)) fu (nI (ν p)) S).bind _ = _
    unfold f_X11_lookLet
    rw [mI_in (a := ν p) (n := 1200) (by omega) (by omega), nI_clamp (show ν p < 2 ^ 31 by omega), h87, r_ty (by omega) hn]
    simp only [gd_t, Option.bind_some]
    rw [a2, g1]
    simp only [Option.bind_some]
    rw [f87, f86, k1]
    simp only [Option.bind_some]
    rw [e84, u1]
    rfl
  · have e0 : min f (lfc K pl V ft (aLet p x y) γ 0 [] []) = min (min (min f (min (lfc K pl V ft x γ 0 [] []) (ckX K pl V x (tvV (V (p + 1)))))) (kb pl V γ (p + 1))) (lfc K pl V ft y ((p + 1) :: γ) 0 [] []) := by
      show min f (min (kb pl V γ (p + 1)) (min (lfc K pl V ft x γ 0 [] []) (min (ckX K pl V x (tvV (V (p + 1)))) (lfc K pl V ft y ((p + 1) :: γ) 0 [] [])))) = _
      ac_rfl
    rw [e0]
    exact LkS_pop (δ := [p + 1]) u2 h52
  · refine BL_cp (S := S3) (fun a i q => uI_ne (by omega)) (fun r c hc => ?_)
    rcases List.mem_cons.mp hc with rfl | hc
    · trivial
    rcases List.mem_append.mp hc with hc | hc
    · exact BL_fl T w1 (OKs_fl g23 o2) u3 (Or.inl (by omega)) (by omega) hem (BL_fl T w1 (OKs_fl g3 o2) k3 (Or.inr (by omega)) (by omega) (by omega) g4) r c hc
    · exact u4 _ c hc

set_option maxHeartbeats 1000000 in
theorem lx_11 (T : TH K pl V m) (hfu : 600 ≤ fu) (hhi : hi ≤ 1200 ∧ 75 * fr ≤ lo ∧ hi ≤ 75 * fr + 600) (hrh : rhi ≤ 1200) {x y : TR} {p b e : Nat} (hK : K (p + 1) = 1) (hK3 : K (p + 3) = 1) (w1 : Wt K x (p + 5) b 0) (w2 : Wt K y (b + 2) e 0) (hem : e ≤ m) (i1 : LXh K pl V fu fr ft W lo hi rlo rhi ν x (p + 5) b) (i2 : LXh K pl V fu fr ft W lo hi rlo rhi ν y (b + 2) e) : LXh K pl V fu fr ft W lo hi rlo rhi ν (aTab p x y) p e := by
  have l1 := Wt_lt w1
  have l2 := Wt_lt w2
  have hm := T.m_
  refine LXh_of (by omega) hhi List.mem_cons_self (fun d S γ f hd hγ H o wo => ?_)
  obtain ⟨⟨⟨a1, a2, a3, i, r1, r2, r3, r4, r5, r6, r7⟩, b1, b2⟩, o2⟩ := fm_c.mp o
  obtain ⟨o2, o3⟩ := fm_a.mp o2
  obtain ⟨⟨wo1, wo1'⟩, wo2⟩ := fm_c.mp wo
  obtain ⟨wo2, wo3⟩ := fm_a.mp wo2
  have b2 : ν p < hi := b2
  have hn1 := T.nam (show p + 1 < m by omega) hK
  have hn3 := T.nam (show p + 3 < m by omega) hK3
  obtain ⟨d, rfl⟩ : ∃ d', d = d' + 2 := ⟨d - 2, by omega⟩
  obtain ⟨Sa, c1, c2, c3, c4⟩ := lt_ck (pl := pl) hfu (A := ltC fu 1 (nI i + 1) (ltT (rc_look fu (d + 1)) fu (nI (ν p)) (nI i))) (t := 3) H (by omega) r4 r5 hn1 (T.pl_ (by omega)) (by omega)
  obtain ⟨Sb, c5, c6, c7, c8⟩ := lt_ck (pl := pl) hfu (A := ltT (rc_look fu (d + 1)) fu (nI (ν p)) (nI i)) (i := i + 1) (j := p + 3) (t := 1) c2 (by omega) (by rw [c4]; exact r6) (by rw [c3 94 _ (by omega)]; exact r7) hn3 (T.pl_ (by omega)) (by omega)
  have Fb : FLk pl S Sb 0 0 γ.length := FLk_s (fun a i u1 u2 u3 => by rw [c7 a i (by omega), c3 a i (by omega)]) (fun a i _ => by rw [c8, c4])
  obtain ⟨S1, g1, g2, g3, g4⟩ := LX_w T w1 (by omega) hhi (Wt_ms w1) i1 (d := d) (t := 1) (by omega) (by omega) (by omega) c6 (OKs_fl Fb o2) wo2
  have F1 := FLk_trans (FLk_e Fb (p + 5) (p + 5)) g3 (show p ≤ p + 5 by omega) (show p + 5 ≤ e by omega) (show p ≤ p + 5 by omega) (show b ≤ e by omega) (Nat.le_refl γ.length) (Nat.le_refl _)
  obtain ⟨S2, k1, k2, k3⟩ := LkS_know (pl := pl) hfu g2 (by omega) (j := p + 1) (w1 := 5) (w2 := nI (ν p)) (w3 := 0) (T.pl_ (by omega)) wo1
  obtain ⟨S3, m1, m2, m3⟩ := LkS_know (pl := pl) hfu k2 (by show γ.length + 1 < 260; omega) (j := p + 3) (w1 := 4) (w2 := nI (ν p)) (w3 := 0) (T.pl_ (by omega)) wo1'
  have hl : ((p + 1) :: γ).length = γ.length + 1 := rfl
  have hl2 : ((p + 3) :: (p + 1) :: γ).length = γ.length + 2 := rfl
  have km : FLk pl S1 S3 0 0 γ.length := FLk_trans k3 m3 (Nat.le_refl _) (Nat.le_refl _) (Nat.le_refl _) (Nat.le_refl _) (Nat.le_refl _) (by omega)
  have F2 := FLk_trans F1 (FLk_e k3 (p + 5) (p + 5)) (Nat.le_refl p) (Nat.le_refl e) (show p ≤ p + 5 by omega) (show p + 5 ≤ e by omega) (Nat.le_refl _) (Nat.le_refl _)
  have F3 := FLk_trans F1 (FLk_e km (p + 5) (p + 5)) (Nat.le_refl p) (Nat.le_refl e) (show p ≤ p + 5 by omega) (show p + 5 ≤ e by omega) (Nat.le_refl _) (Nat.le_refl _)
  obtain ⟨S4, u1, u2, u3, u4⟩ := LX_w T w2 hem hhi (Wt_ms w2) i2 (d := d) (t := 1) (by omega) (by omega) (by omega) m2 (OKs_fl F3 o3) wo3
  have z : ∀ {a i' : Nat} {Sx : im_S}, FLk pl S Sx p e γ.length → a = 83 ∨ a = 89 ∨ a = 94 → Sx.1 a i' = S.1 a i' := fun {a i' Sx} F q => F.1 a i' (by omega) (by omega) (by omega) (by omega) (by omega)
  have e83 : Sb.1 83 (ν p) = nI (ν (otk x)) := by rw [c7 83 _ (by omega), c3 83 _ (by omega)]; exact a2
  have e84 : S3.1 84 (ν p) = nI (ν (otk y)) := by rw [F3.1 84 (ν p) (by omega) (by omega) (fun _ => Or.inl (L81 a1 (by omega) (by omega))) (by omega) (by omega)]; exact a3
  have h52 : S4.1 75 52 - 2 = nI γ.length := by
    rw [u2.2.2.1, hl2]
    show nI (γ.length + 2) - nI 2 = _
    rw [nI_sub (by omega), Nat.add_sub_cancel]
  refine ⟨uI S4 75 52 (S4.1 75 52 - 2), ?_, ?_, FLk_pop (FLk_trans F3 u3 (Nat.le_refl _) (Nat.le_refl _) (by omega) (Nat.le_refl _) (Nat.le_refl _) (by omega)), ?_⟩
  · show f_X11_typed (rc_look fu (d + 2)) fu (nI (ν p)) S = some (nI 3, _)
    unfold f_X11_typed
    rw [mI_in (a := ν p) (n := 1200) (by omega) (by omega), nI_clamp (show ν p < 2 ^ 31 by omega), a1.1]
    simp only [gd_t]
    rw [if_neg (show ¬ (nI 11 : Int32) = 1 by decide), if_neg (show ¬ (nI 11 : Int32) = 2 by decide), if_neg (show ¬ (nI 11 : Int32) = 3 by decide), if_neg (show ¬ (nI 11 : Int32) = 4 by decide), if_neg (show ¬ (nI 11 : Int32) = 5 by decide), if_neg (show ¬ (nI 11 : Int32) = 6 by decide), if_neg (show ¬ (nI 11 : Int32) = 7 by decide), if_neg (show ¬ (nI 11 : Int32) = 8 by decide), if_neg (show ¬ (nI 11 : Int32) = 9 by decide), if_neg (show ¬ (nI 11 : Int32) = 10 by decide), if_pos (show (nI 11 : Int32) = 11 from rfl)]
    show (f_X11_lookTable (rc_look fu (d + 1)) fu (nI (ν p)) S).bind _ = _
    rw [lt_eq, mI_in (a := ν p) (n := 1200) (by omega) (by omega), nI_clamp (show ν p < 2 ^ 31 by omega), r1]
    simp only [gd_t]
    have c1 : ltC fu 3 (nI i) (ltC fu 1 (nI i + 1) (ltT (rc_look fu (d + 1)) fu (nI (ν p)) (nI i))) S = ltC fu 1 (nI i + 1) (ltT (rc_look fu (d + 1)) fu (nI (ν p)) (nI i)) Sa := c1
    have ei : nI i + 1 = nI (i + 1) := nI_add i 1
    rw [ei] at c1 ⊢
    have c5 : ltC fu 1 (nI (i + 1)) (ltT (rc_look fu (d + 1)) fu (nI (ν p)) (nI i)) Sa = ltT (rc_look fu (d + 1)) fu (nI (ν p)) (nI i) Sb := c5
    rw [c1, c5]
    unfold ltT
    rw [ei, mI_in (a := ν p) (n := 1200) (by omega) (by omega), nI_clamp (show ν p < 2 ^ 31 by omega), mI_in (a := i) (n := 1200) (by omega) (by omega), nI_clamp (show i < 2 ^ 31 by omega), mI_in (a := i + 1) (n := 1200) (by omega) (by omega), nI_clamp (show i + 1 < 2 ^ 31 by omega), e83]
    simp only [gd_t]
    have g1 : rc_look fu (d + 1) 2 (nI (ν (otk x))) 1 Sb = some (0, S1) := g1
    have u1 : rc_look fu (d + 1) 2 (nI (ν (otk y))) 1 S3 = some (0, S4) := u1
    rw [g1]
    simp only [Option.bind_some]
    rw [F1.2 93 i (by omega), z F1 (a := 94) (by omega), r4, r5, k1]
    simp only [Option.bind_some]
    rw [F2.2 93 (i + 1) (by omega), z F2 (a := 94) (by omega), r6, r7, m1]
    simp only [Option.bind_some]
    rw [e84, u1]
    rfl
  · have e0 : min f (lfc K pl V ft (aTab p x y) γ 0 [] []) = min (min (min (min (min (min f (ctk pl V (p + 1) 3)) (ctk pl V (p + 3) 1)) (min (lfc K pl V ft x γ 0 [] []) (ckX K pl V x 1))) (kb pl V γ (p + 1))) (kb pl V ((p + 1) :: γ) (p + 3))) (min (lfc K pl V ft y ((p + 3) :: (p + 1) :: γ) 0 [] []) (ckX K pl V y 1)) := by
      show min f (min (kb pl V γ (p + 1)) (min (ctk pl V (p + 1) 3) (min (kb pl V ((p + 1) :: γ) (p + 3)) (min (ctk pl V (p + 3) 1) (min (lfc K pl V ft x γ 0 [] []) (min (ckX K pl V x 1) (min (lfc K pl V ft y ((p + 3) :: (p + 1) :: γ) 0 [] []) (ckX K pl V y 1)))))))) = _
      ac_rfl
    rw [e0]
    exact LkS_pop (δ := [p + 3, p + 1]) u2 h52
  · refine BL_cp (S := S4) (fun a i q => uI_ne (by omega)) (fun r c hc => ?_)
    rcases List.mem_cons.mp hc with rfl | hc
    · trivial
    rcases List.mem_append.mp hc with hc | hc
    · exact BL_fl T w1 (OKs_fl F3 o2) u3 (Or.inl (by omega)) (by omega) hem (BL_fl T w1 (OKs_fl F1 o2) km (Or.inr (by omega)) (by omega) (by omega) g4) r c hc
    · exact u4 _ c hc
end LKL
