/-! the reference looks at all functions -/
def Lk0 (V : Nat → Int64) (fr : Nat) (ft : List (Nat × Nat)) (S : im_S) (f : Nat) : Prop := RFS S f ∧ f ≤ 4000 ∧ RFt V S fr ft ∧ S.1 75 36 = nI ft.length ∧ 8 * (1 - S.1 75 37) = nI fr ∧ fr + ft.length ≤ 16 ∧ Pq (75 * fr) V S
/-- a function as the reference holds it -/
def FD (K pl : Nat → Nat) (V : Nat → Int64) (lo hi rlo rhi : Nat) (ν : Nat → Nat) (S : im_S) (c p cnt : Nat) (x : TR) : Prop := S.2.1 97 c = V p ∧ S.1 98 c = nI (pl p) ∧ S.1 99 c = nI cnt ∧ (∀ i, i < cnt → S.2.1 100 (4 * c + i) = V (p + 2 + 2 * i) ∧ S.1 101 (4 * c + i) = nI (pl (p + 2 + 2 * i))) ∧ S.1 102 c = nI (ν (otk x)) ∧ OKs K pl V S lo hi rlo rhi ν x
def rP (K pl : Nat → Nat) (V : Nat → Int64) (ft : List (Nat × Nat)) : TR → List Nat → Nat
  | .append (.tag p (.append (.tag cnt _) x)) r, fns => min (min (ffd pl V fns p) (min (fpa pl V [] (p + 2) cnt) (min (lfc K pl V ft x (pms (p + 2) cnt).reverse 0 [] []) (ckX K pl V x (tvV (V p)))))) (rP K pl V ft r (fns ++ [p]))
  | _, _ => 4000
section LKP
variable {K pl : Nat → Nat} {V : Nat → Int64} {m fu fr : Nat} {ft : List (Nat × Nat)} {W : Nat → Int32 × Int32 × Int32} {lo hi rlo rhi : Nat} {ν : Nat → Nat}
theorem FD_fl {S S' : im_S} {p' e n c p cnt : Nat} {x : TR} (F : FLk pl S S' p' e n) (h : FD K pl V lo hi rlo rhi ν S c p cnt x) : FD K pl V lo hi rlo rhi ν S' c p cnt x := by
  obtain ⟨h1, h2, h3, h4, h5, h6⟩ := h
  have z : ∀ {a i : Nat}, 96 ≤ a → a ≤ 102 → S'.1 a i = S.1 a i := fun {a i} u1 u2 => F.1 a i (by omega) (by omega) (by omega) (by omega) (by omega)
  exact ⟨by rw [F.2 97 c (by omega)]; exact h1, by rw [z (by omega) (by omega)]; exact h2, by rw [z (by omega) (by omega)]; exact h3, fun i hi => ⟨by rw [F.2 100 _ (by omega)]; exact (h4 i hi).1, by rw [z (by omega) (by omega)]; exact (h4 i hi).2⟩, by rw [z (by omega) (by omega)]; exact h5, OKs_fl F h6⟩
theorem Lk0_of {S : im_S} {γ : List Nat} {f : Nat} (h : LkS V fr ft W S γ f) : Lk0 V fr ft S f := ⟨h.1, h.2.1, h.2.2.2.2.1, h.2.2.2.2.2.1, h.2.2.2.2.2.2.1, h.2.2.2.2.2.2.2⟩
theorem Lk0_to {S : im_S} {f : Nat} (h : Lk0 V fr ft S f) : LkS V fr ft W (uI S 75 52 0) [] f := by
  obtain ⟨q1, q2, q5, q6, q7, q8⟩ := h
  exact ⟨by unfold RFS; rw [uI_ne (by omega), uI_ne (by omega)]; exact q1, q2, by rw [uI_eq]; rfl, trivial, RFt_cp (fun k => uI_ne (by omega)) (fun k => ⟨rfl, rfl⟩) ft fr q5, by rw [uI_ne (by omega)]; exact q6, by rw [uI_ne (by omega)]; exact q7, q8.1, Pq_ag q8.2 (fun a i q => uI_ne (by have := Pr_a q; omega)) (fun _ _ _ => rfl)⟩
theorem Lk0_note {S : im_S} {f : Nat} (h : Lk0 V fr ft S f) {k p' : Nat} (hk1 : 1 ≤ k) (hk : k ≤ 3) (hp : p' ≤ 500) : ∃ S' : im_S, f_X11_note (nI k) (nI p') S = some ((), S') ∧ Lk0 V fr ft S' (min f (4 * p' + k)) ∧ (∀ a i : Nat, (a ≠ 75 ∨ (i ≠ 3 ∧ i ≠ 4)) → S'.1 a i = S.1 a i) ∧ S'.2.1 = S.2.1 := by
  obtain ⟨q1, q2, q5, q6, q7, q8⟩ := h
  obtain ⟨S1, n1, n2, n3, n4⟩ := r_note q1 hk1 hk hp
  exact ⟨S1, n1, ⟨n2, by omega, RFt_cp (fun k => n3 99 k (by omega)) (fun k => ⟨by rw [n4], by rw [n4]⟩) ft fr q5, by rw [n3 75 36 (by omega)]; exact q6, by rw [n3 75 37 (by omega)]; exact q7, q8.1, Pq_ag q8.2 (fun a i q => n3 a i (Or.inl (by have := Pr_a q; omega))) (fun a i _ => by rw [n4])⟩, n3, n4⟩
theorem lk54 (T : TH K pl V m) (hfu : 600 ≤ fu) {K12 : Int32 → Int32 → im_S → Option (Unit × im_S)} {q p cnt : Nat} {x : TR} (hq : q < 16) (hc4 : cnt ≤ 4) (hKp : K p = 1) (hpm : p + 2 + 2 * cnt ≤ m) (hpm1 : p < m) (hW : ∀ z, z < cnt → W (p + 2 + 2 * z) = (1, nI q, nI z)) : ∀ (d i : Nat) (S : im_S) (γ : List Nat) (f nf : Nat), i + d = cnt → γ.length = i → LkS V fr ft W S γ f → FD K pl V lo hi rlo rhi ν S q p cnt x → d < nf → ∃ S' : im_S, f_X11_lookAll_L54 fu K12 nf (nI fr) (nI q) (nI i) S = (g_X11_wants fu (nI (ν (otk x))) (nI (tvV (V p))) S').bind (fun q5 => K12 (nI fr) (nI q + 1) q5.2) ∧ LkS V fr ft W S' ((pms (p + 2 + 2 * i) d).reverse ++ γ) (min f (fpa pl V γ (p + 2 + 2 * i) d)) ∧ FLk pl S S' 0 0 0 := by
  have hm := T.m_
  intro d
  induction d with
  | zero =>
    intro i S γ f nf hi hg H hF hnf
    obtain ⟨h1, h2, h3, h4, h5, h6⟩ := hF
    obtain ⟨nf, rfl⟩ : ∃ z, nf = z + 1 := ⟨nf - 1, by omega⟩
    refine ⟨S, ?_, ?_, FLk_refl _ _ _ _⟩
    · rw [f_X11_lookAll_L54, mI_in (a := q) (n := 16) (by omega) hq, nI_clamp (show q < 2 ^ 31 by omega), h3, if_pos ((mI_le (a := cnt) (b := i) (by omega) (by omega)).mpr (by omega)), h1, r_ty (by omega) (T.nam hpm1 hKp), h5]
      rfl
    · have : fpa pl V γ (p + 2 + 2 * i) 0 = 4000 := rfl
      rw [this, Nat.min_eq_left H.2.1]
      exact H
  | succ d ih =>
    intro i S γ f nf hi hg H hF hnf
    obtain ⟨h1, h2, h3, h4, h5, h6⟩ := id hF
    obtain ⟨nf, rfl⟩ : ∃ z, nf = z + 1 := ⟨nf - 1, by omega⟩
    obtain ⟨t1, t2⟩ := h4 i (by omega)
    obtain ⟨S1, k1, k2, k3⟩ := LkS_know (pl := pl) hfu H (by omega) (j := p + 2 + 2 * i) (w1 := 1) (w2 := nI q) (w3 := nI i) (T.pl_ (by omega)) (hW i (by omega))
    obtain ⟨S2, u1, u2, u3⟩ := ih (i + 1) S1 ((p + 2 + 2 * i) :: γ) _ nf (by omega) (by show γ.length + 1 = i + 1; omega) k2 (FD_fl k3 hF) (by omega)
    refine ⟨S2, ?_, ?_, FLk_trans k3 u3 (Nat.le_refl _) (Nat.le_refl _) (Nat.le_refl _) (Nat.le_refl _) (by omega) (Nat.le_refl _)⟩
    · rw [f_X11_lookAll_L54, mI_in (a := q) (n := 16) (by omega) hq, nI_clamp (show q < 2 ^ 31 by omega), h3, if_neg (fun z => by have := (mI_le (a := cnt) (b := i) (by omega) (by omega)).mp z; omega), show (4 : Int32) * nI q + nI i = nI (4 * q + i) from by rw [show (4 : Int32) = nI 4 from rfl, nI_mul, nI_add], mI_in (a := 4 * q + i) (n := 64) (by omega) (by omega), nI_clamp (show 4 * q + i < 2 ^ 31 by omega), t1, t2, k1, show nI i + 1 = nI (i + 1) from nI_add i 1]
      simp only [gd_t, Option.bind_some]
      exact u1
    · have e1 : (pms (p + 2 + 2 * i) (d + 1)).reverse ++ γ = (pms (p + 2 + 2 * (i + 1)) d).reverse ++ ((p + 2 + 2 * i) :: γ) := by
        show ((p + 2 + 2 * i) :: pms (p + 2 + 2 * i + 2) d).reverse ++ γ = _
        rw [List.reverse_cons, List.append_assoc, show p + 2 + 2 * (i + 1) = p + 2 + 2 * i + 2 by omega]
        rfl
      have e2 : min f (fpa pl V γ (p + 2 + 2 * i) (d + 1)) = min (min f (kb pl V γ (p + 2 + 2 * i))) (fpa pl V ((p + 2 + 2 * i) :: γ) (p + 2 + 2 * (i + 1)) d) := by
        show min f (min (kb pl V γ (p + 2 + 2 * i)) (fpa pl V ((p + 2 + 2 * i) :: γ) (p + 2 + 2 * i + 2) d)) = _
        rw [show p + 2 + 2 * (i + 1) = p + 2 + 2 * i + 2 by omega]
        ac_rfl
      rw [e1, e2]
      exact u2
theorem idx_at {p : Nat} {r : List Nat} : ∀ l : List Nat, ((fnd V l p).isSome = false → idx V (l ++ p :: r) p = some l.length) ∧ ((fnd V l p).isSome = true → ∃ k, idx V (l ++ p :: r) p = some k ∧ k < l.length) := by
  intro l
  induction l with
  | nil => exact ⟨fun _ => by show (if V p = V p then some 0 else _) = _; rw [if_pos rfl]; rfl, fun h => absurd (show false = true from h) (by decide)⟩
  | cons b l ih =>
    have e : idx V ((b :: l) ++ p :: r) p = if V b = V p then some 0 else (idx V (l ++ p :: r) p).map (· + 1) := rfl
    have e2 : fnd V (b :: l) p = if V b = V p then some b else fnd V l p := rfl
    rw [e, e2]
    by_cases h : V b = V p
    · rw [if_pos h, if_pos h]
      exact ⟨fun z => absurd (show true = false from z) (by decide), fun _ => ⟨0, rfl, Nat.succ_pos _⟩⟩
    · rw [if_neg h, if_neg h]
      refine ⟨fun z => by rw [ih.1 z]; rfl, fun z => ?_⟩
      obtain ⟨k, h1, h2⟩ := ih.2 z
      exact ⟨k + 1, by rw [h1]; rfl, by show k + 1 < l.length + 1; omega⟩
def LPh (K pl : Nat → Nat) (V : Nat → Int64) (m fu fr : Nat) (ft : List (Nat × Nat)) (W : Nat → Int32 × Int32 × Int32) (lo hi rlo rhi : Nat) (ν : Nat → Nat) (y : TR) (p e : Nat) : Prop := e ≤ m → ∀ (S : im_S) (f nf : Nat) (fns : List (Nat × Nat)), ft = fns ++ ftP y → Lk0 V fr ft S f → FA (FD K pl V lo hi rlo rhi ν S) y (fr + fns.length) → FA (WPs W ν) y (fr + fns.length) → (ftP y).length < nf → ∃ S' : im_S, f_X11_lookAll_L12 fu nf (nI fr) (nI (fr + fns.length)) S = some ((), S') ∧ Lk0 V fr ft S' (min f (rP K pl V ft y (fns.map Prod.fst))) ∧ FLk pl S S' p e 0 ∧ FA (fun _ p cnt x => BL V W fr ft ν S' x (pms (p + 2) cnt).reverse) y (fr + fns.length)
theorem lkP_one (T : TH K pl V m) (hfu : 600 ≤ fu) (hhi : hi ≤ 1200 ∧ 75 * fr ≤ lo ∧ hi ≤ 75 * fr + 600) (hrh : rhi ≤ 1200) (hft : ∀ j b, b ∈ (pmF V ft j).getD [] → Nam (V b)) {p cnt b e0 : Nat} {x : TR} (hK : K p = 1) (hc4 : cnt ≤ 4) (w1 : Wt K x b e0 0) (hb : p + 4 + 2 * cnt ≤ b + 1) (hem : e0 + 1 ≤ m) {S : im_S} {f nf : Nat} {fns r : List (Nat × Nat)} (hf : ft = fns ++ (p, cnt) :: r) (H : Lk0 V fr ft S f) (hF : FD K pl V lo hi rlo rhi ν S (fr + fns.length) p cnt x) (hW : WPs W ν (fr + fns.length) p cnt x) :
    ∃ S' : im_S, f_X11_lookAll_L12 fu (nf + 1) (nI fr) (nI (fr + fns.length)) S = f_X11_lookAll_L12 fu nf (nI fr) (nI (fr + (fns ++ [(p, cnt)]).length)) S' ∧ Lk0 V fr ft S' (min f (min (ffd pl V (fns.map Prod.fst) p) (min (fpa pl V [] (p + 2) cnt) (min (lfc K pl V ft x (pms (p + 2) cnt).reverse 0 [] []) (ckX K pl V x (tvV (V p))))))) ∧ FLk pl S S' b e0 0 ∧ BL V W fr ft ν S' x (pms (p + 2) cnt).reverse := by
  have hm := T.m_
  have l1 := Wt_lt w1
  have hlen : ft.length = fns.length + (r.length + 1) := by rw [hf, List.length_append]; rfl
  have h16 := H.2.2.2.2.2.1
  have hmap : ft.map Prod.fst = fns.map Prod.fst ++ p :: r.map Prod.fst := by rw [hf, List.map_append]; rfl
  obtain ⟨f1, f2, f3, f4, f5, f6⟩ := id hF
  have hfo := r_fof (fu := fu) hfu H.2.2.2.2.1 H.2.2.2.1 h16 H.2.2.1 rfl p
  have hpp := T.pl_ (show p ≤ m by omega)
  have ex : ∀ (S1 : im_S) (f1 : Nat), Lk0 V fr ft S1 f1 → FLk pl S S1 0 0 0 → ∃ S' : im_S, f_X11_lookAll_L54 fu (f_X11_lookAll_L12 fu nf) fu (nI fr) (nI (fr + fns.length)) 0 (uI S1 75 52 0) = f_X11_lookAll_L12 fu nf (nI fr) (nI (fr + (fns ++ [(p, cnt)]).length)) S' ∧ Lk0 V fr ft S' (min f1 (min (fpa pl V [] (p + 2) cnt) (min (lfc K pl V ft x (pms (p + 2) cnt).reverse 0 [] []) (ckX K pl V x (tvV (V p)))))) ∧ FLk pl S S' b e0 0 ∧ BL V W fr ft ν S' x (pms (p + 2) cnt).reverse := by
    intro S1 g1 H1 F1
    have F2 : FLk pl S (uI S1 75 52 0) 0 0 0 := FLk_pop F1
    obtain ⟨S2, u1, u2, u3⟩ := lk54 (W := W) (ft := ft) (fr := fr) T hfu (K12 := f_X11_lookAll_L12 fu nf) (q := fr + fns.length) (x := x) (by omega) hc4 hK (by omega) (by omega) hW.1 cnt 0 (uI S1 75 52 0) [] g1 fu (by omega) rfl (Lk0_to H1) (FD_fl F2 hF) (by omega)
    rw [List.append_nil] at u2
    have hgl : (pms (p + 2) cnt).reverse.length = cnt := by rw [List.length_reverse, pms_len]
    have F3 : FLk pl S S2 0 0 0 := FLk_trans F2 u3 (Nat.le_refl _) (Nat.le_refl _) (Nat.le_refl _) (Nat.le_refl _) (Nat.le_refl _) (Nat.le_refl _)
    have ht := tvV_r (V p)
    obtain ⟨S3, v1, v2, v3, v4⟩ := LX_w T w1 (by omega) hhi (Wt_ms w1) ((lk_all (fr := fr) (W := W) (lo := lo) (rlo := rlo) (ν := ν) (pl := pl) T hfu hhi hrh hft w1 (by omega)).1 (Wt_tag w1)) (d := 1899) (t := tvV (V p)) (by omega) (by omega) (by rw [hgl]; omega) u2 (OKs_fl F3 f6) hW.2
    refine ⟨S3, ?_, ?_, FLk_trans (FLk_e F3 (b) (b)) v3 (Nat.le_refl _) (by omega) (Nat.le_refl _) (Nat.le_refl _) (Nat.le_refl _) (by omega), v4⟩
    · have u1 : f_X11_lookAll_L54 fu (f_X11_lookAll_L12 fu nf) fu (nI fr) (nI (fr + fns.length)) 0 (uI S1 75 52 0) = (g_X11_wants fu (nI (ν (otk x))) (nI (tvV (V p))) S2).bind (fun q5 => f_X11_lookAll_L12 fu nf (nI fr) (nI (fr + fns.length) + 1) q5.2) := u1
      have v1 : g_X11_wants fu (nI (ν (otk x))) (nI (tvV (V p))) S2 = some (0, S3) := v1
      rw [u1, v1]
      simp only [Option.bind_some]
      rw [List.length_append, show nI (fr + fns.length) + 1 = nI (fr + fns.length + 1) from nI_add _ 1]
      rfl
    · have := Lk0_of v2
      rw [Nat.min_assoc] at this
      exact this
  have e0 : f_X11_lookAll_L12 fu (nf + 1) (nI fr) (nI (fr + fns.length)) S = f_X11_lookAll_L12 fu (nf + 1) (nI fr) (nI (fr + fns.length)) S := rfl
  conv at e0 => rhs; unfold f_X11_lookAll_L12
  rw [H.2.2.2.1, show nI fr + nI ft.length = nI (fr + ft.length) from nI_add _ _, if_neg (fun z => by have := (mI_le (a := fr + ft.length) (b := fr + fns.length) (by omega) (by omega)).mp z; omega), mI_in (a := fr + fns.length) (n := 16) (by omega) (by omega), nI_clamp (show fr + fns.length < 2 ^ 31 by omega), f1, hfo, hmap] at e0
  simp only [gd_t, Option.bind_some] at e0
  have hf4 := H.2.1
  obtain ⟨ia, ib⟩ := idx_at (V := V) (p := p) (r := r.map Prod.fst) (fns.map Prod.fst)
  have hml : (fns.map Prod.fst).length = fns.length := List.length_map _
  cases hfd : (fnd V (fns.map Prod.fst) p).isSome with
  | false =>
    rw [ia hfd, hml] at e0
    simp only at e0
    first | rw [if_pos rfl] at e0 | rw [if_pos trivial] at e0
    obtain ⟨S2, u1, u2, u3, u4⟩ := ex S f H (FLk_refl _ _ _ _)
    refine ⟨S2, e0.trans u1, ?_, u3, u4⟩
    unfold ffd
    rw [hfd, if_neg (by decide), ← Nat.min_assoc f 4000, Nat.min_eq_left hf4]
    exact u2
  | true =>
    obtain ⟨k, k1, k2⟩ := ib hfd
    rw [hml] at k2
    rw [k1] at e0
    simp only at e0
    obtain ⟨Sn, n1, n2, n3, n4⟩ := Lk0_note (k := 2) (p' := pl p) H (by omega) (by omega) hpp
    have n1 : f_X11_note 2 (nI (pl p)) S = some ((), Sn) := n1
    rw [if_neg (fun z => by have := (nI_eq (a := fr + k) (b := fr + fns.length) (by omega) (by omega)).mp z; omega), f2, n1] at e0
    simp only [Option.bind_some] at e0
    obtain ⟨S2, u1, u2, u3, u4⟩ := ex Sn _ n2 (FLk_s (fun a i q1 q2 q3 => n3 a i (by omega)) (fun a i _ => by rw [n4]))
    refine ⟨S2, e0.trans u1, ?_, u3, u4⟩
    unfold ffd
    rw [hfd, if_pos rfl, ← Nat.min_assoc f (4 * pl p + 2)]
    exact u2
theorem FA_ag {P Q : Nat → Nat → Nat → TR → Prop} {y : TR} {p e : Nat} (w : PW K y p e) : ∀ c0 : Nat, (∀ c q cnt x b e0, Wt K x b e0 0 → p ≤ q → q + 2 + 2 * cnt ≤ b → e0 + 1 ≤ e → P c q cnt x → Q c q cnt x) → FA P y c0 → FA Q y c0 := by
  refine PW_ind (K := K) (P := fun y p e => ∀ c0 : Nat, (∀ c q cnt x b e0, Wt K x b e0 0 → p ≤ q → q + 2 + 2 * cnt ≤ b → e0 + 1 ≤ e → P c q cnt x → Q c q cnt x) → FA P y c0 → FA Q y c0) ?_ ?_ (tsz y) y p e (Nat.le_refl _) w
  · intro p cnt x b e0 _ _ _ w1 hb c0 h hf
    exact ⟨h _ _ _ _ b e0 w1 (Nat.le_refl _) (by omega) (Nat.le_refl _) hf.1, trivial⟩
  · intro p cnt x r b e0 e _ _ _ w1 hb _ w2 ih c0 h hf
    have := PW_lt w2
    have := Wt_lt w1
    exact ⟨h _ _ _ _ b e0 w1 (Nat.le_refl _) (by omega) (by omega) hf.1, ih (c0 + 1) (fun c q cnt' x' b' e' v1 v2 v3 v4 v5 => h c q cnt' x' b' e' v1 (by omega) v3 v4 v5) hf.2⟩
theorem lk_P (T : TH K pl V m) (hfu : 600 ≤ fu) (hhi : hi ≤ 1200 ∧ 75 * fr ≤ lo ∧ hi ≤ 75 * fr + 600) (hrh : rhi ≤ 1200) (hft : ∀ j b, b ∈ (pmF V ft j).getD [] → Nam (V b)) {y : TR} {p e : Nat} (w : PW K y p e) : LPh K pl V m fu fr ft W lo hi rlo rhi ν y p e := by
  refine PW_ind (K := K) (P := fun y p e => LPh K pl V m fu fr ft W lo hi rlo rhi ν y p e) ?_ ?_ (tsz y) y p e (Nat.le_refl _) w
  · intro p cnt x b e0 hK hc4 _ w1 hb hem S f nf fns hf H hF hW hnf
    have hnf : 0 + 1 < nf := hnf
    obtain ⟨nf, rfl⟩ : ∃ z, nf = z + 2 := ⟨nf - 2, by omega⟩
    obtain ⟨S1, u1, u2, u3, u4⟩ := lkP_one (nf := nf + 1) T hfu hhi hrh hft hK hc4 w1 hb hem (r := []) hf H hF.1 hW.1
    have hlen : ft.length = (fns ++ [(p, cnt)]).length := by rw [hf]; rfl
    have h16 := H.2.2.2.2.2.1
    refine ⟨S1, ?_, ?_, FLk_wk u3 (by omega) (by omega) (Nat.le_refl _), u4, trivial⟩
    · rw [u1, f_X11_lookAll_L12, u2.2.2.2.1, show nI fr + nI ft.length = nI (fr + ft.length) from nI_add _ _, if_pos ((mI_le (a := fr + ft.length) (b := fr + (fns ++ [(p, cnt)]).length) (by omega) (by omega)).mpr (by omega))]
    · have : rP K pl V ft (.append (.tag p (.append (.tag cnt .nil) x)) .nil) (fns.map Prod.fst) = min (ffd pl V (fns.map Prod.fst) p) (min (fpa pl V [] (p + 2) cnt) (min (lfc K pl V ft x (pms (p + 2) cnt).reverse 0 [] []) (ckX K pl V x (tvV (V p))))) := by
        show min (min (ffd pl V (fns.map Prod.fst) p) (min (fpa pl V [] (p + 2) cnt) (min (lfc K pl V ft x (pms (p + 2) cnt).reverse 0 [] []) (ckX K pl V x (tvV (V p)))))) 4000 = _
        have h4 : ffd pl V (fns.map Prod.fst) p ≤ 4000 := by
          unfold ffd
          have := T.pl_ (show p ≤ m by have := Wt_lt w1; omega)
          split <;> omega
        omega
      rw [this]
      exact u2
  · intro p cnt x r b e0 e hK hc4 _ w1 hb _ w2 ih hem S f nf fns hf H hF hW hnf
    have hnf : (ftP r).length + 1 < nf := hnf
    have l1 := Wt_lt w1
    have l2 := PW_lt w2
    obtain ⟨nf, rfl⟩ : ∃ z, nf = z + 1 := ⟨nf - 1, by omega⟩
    obtain ⟨S1, u1, u2, u3, u4⟩ := lkP_one (nf := nf) T hfu hhi hrh hft hK hc4 w1 hb (by omega) (r := ftP r) hf H hF.1 hW.1
    have hl1 : (fns ++ [(p, cnt)]).length = fns.length + 1 := by rw [List.length_append]; rfl
    obtain ⟨S2, v1, v2, v3, v4⟩ := ih hem S1 _ nf (fns ++ [(p, cnt)]) (by rw [hf, List.append_assoc]; rfl) u2 (by rw [hl1]; exact FA_mp (fun c p cnt x => FD_fl u3) (tsz r) r _ (Nat.le_refl _) hF.2) (by rw [hl1]; exact hW.2) (by omega)
    refine ⟨S2, u1.trans v1, ?_, FLk_trans u3 v3 (by omega) (by omega) (by omega) (Nat.le_refl _) (Nat.le_refl _) (Nat.le_refl _), ?_, ?_⟩
    · have : min f (rP K pl V ft (.append (.tag p (.append (.tag cnt .nil) x)) r) (fns.map Prod.fst)) = min (min f (min (ffd pl V (fns.map Prod.fst) p) (min (fpa pl V [] (p + 2) cnt) (min (lfc K pl V ft x (pms (p + 2) cnt).reverse 0 [] []) (ckX K pl V x (tvV (V p))))))) (rP K pl V ft r ((fns ++ [(p, cnt)]).map Prod.fst)) := by
        rw [List.map_append]
        show min f (min (min (ffd pl V (fns.map Prod.fst) p) (min (fpa pl V [] (p + 2) cnt) (min (lfc K pl V ft x (pms (p + 2) cnt).reverse 0 [] []) (ckX K pl V x (tvV (V p)))))) (rP K pl V ft r (fns.map Prod.fst ++ [p]))) = min (min f (min (ffd pl V (fns.map Prod.fst) p) (min (fpa pl V [] (p + 2) cnt) (min (lfc K pl V ft x (pms (p + 2) cnt).reverse 0 [] []) (ckX K pl V x (tvV (V p))))))) (rP K pl V ft r (fns.map Prod.fst ++ [p]))
        ac_rfl
      rw [this]
      exact v2
    · exact BL_fl T w1 (OKs_fl u3 hF.1.2.2.2.2.2) v3 (Or.inl (by omega)) (by omega) hem u4
    · rw [hl1] at v4
      exact v4
theorem rP_eq (T : TH K pl V m) {y : TR} {p e : Nat} (w : PW K y p e) : e ≤ m → ∀ fns : List Nat, rP K pl V ft y fns = min (fP K pl V y fns) (cfL K pl V ft (clP y)) := by
  have one : ∀ (p cnt b e0 : Nat) (x : TR) (fns : List Nat), Wt K x b e0 0 → e0 ≤ m → min (ffd pl V fns p) (min (fpa pl V [] (p + 2) cnt) (min (lfc K pl V ft x (pms (p + 2) cnt).reverse 0 [] []) (ckX K pl V x (tvV (V p))))) = min (fF K pl V fns p cnt x) (cfL K pl V ft (cls x)) := by
    intro p cnt b e0 x fns w1 h1
    unfold fF
    rw [lfc_eq T w1 h1]
    ac_rfl
  refine PW_ind (K := K) (P := fun y p e => e ≤ m → ∀ fns : List Nat, rP K pl V ft y fns = min (fP K pl V y fns) (cfL K pl V ft (clP y))) ?_ ?_ (tsz y) y p e (Nat.le_refl _) w
  · intro p cnt x b e0 _ _ _ w1 _ hem fns
    show min (min (ffd pl V fns p) (min (fpa pl V [] (p + 2) cnt) (min (lfc K pl V ft x (pms (p + 2) cnt).reverse 0 [] []) (ckX K pl V x (tvV (V p)))))) 4000 = min (min (fF K pl V fns p cnt x) 4000) (cfL K pl V ft (cls x ++ []))
    rw [one p cnt b e0 x fns w1 (by omega), List.append_nil]
    ac_rfl
  · intro p cnt x r b e0 e _ _ _ w1 _ _ w2 ih hem fns
    have := PW_lt w2
    show min (min (ffd pl V fns p) (min (fpa pl V [] (p + 2) cnt) (min (lfc K pl V ft x (pms (p + 2) cnt).reverse 0 [] []) (ckX K pl V x (tvV (V p)))))) (rP K pl V ft r (fns ++ [p])) = min (min (fF K pl V fns p cnt x) (fP K pl V r (fns ++ [p]))) (cfL K pl V ft (cls x ++ clP r))
    rw [one p cnt b e0 x fns w1 (by omega), ih hem (fns ++ [p]), cfL_app]
    ac_rfl
end LKP
