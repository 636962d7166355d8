/-! the reference looks at a loop -/
def lfW (K pl : Nat → Nat) (V : Nat → Int64) (ft : List (Nat × Nat)) : TR → List Nat → Nat
  | .append (.tag p x) r, γ => min (lfc K pl V ft x γ 0 [] []) (min (ckX K pl V x (tvV (V p))) (lfW K pl V ft r γ))
  | _, _ => 4000
def kbL (pl : Nat → Nat) (V : Nat → Int64) : TR → List Nat → Nat
  | .append (.tag p _) r, γ => min (kb pl V γ p) (kbL pl V r (p :: γ))
  | _, _ => 4000
section LKO
variable {K pl : Nat → Nat} {V : Nat → Int64} {m fu fr : Nat} {ft : List (Nat × Nat)} {W : Nat → Int32 × Int32 × Int32} {lo hi rlo rhi : Nat} {ν : Nat → Nat}
theorem LL_ind {P : TR → Prop} (h0 : P .nil) (h1 : ∀ p x r, LL r → P r → P (.append (.tag p x) r)) : ∀ x : TR, LL x → P x := by
  intro x
  induction x with
  | nil => intro _; exact h0
  | append a r iha ihr =>
    intro h
    cases a with
    | tag p y => exact h1 p y r h (ihr h)
    | _ => exact (show False from h).elim
  | _ => intro h; exact (show False from h).elim
theorem fnd_or (p : Nat) : ∀ l1 l2 : List Nat, (fnd V (l1 ++ l2) p).isSome ↔ (fnd V l1 p).isSome ∨ (fnd V l2 p).isSome := by
  intro l1
  induction l1 with
  | nil => intro l2; exact ⟨fun h => Or.inr h, fun h => h.resolve_left (fun z => absurd (show false = true from z) (by decide))⟩
  | cons b l1 ih =>
    intro l2
    have e1 : fnd V (b :: l1 ++ l2) p = if V b = V p then some b else fnd V (l1 ++ l2) p := rfl
    have e2 : fnd V (b :: l1) p = if V b = V p then some b else fnd V l1 p := rfl
    rw [e1, e2]
    by_cases h : V b = V p
    · rw [if_pos h, if_pos h]; exact ⟨fun _ => Or.inl rfl, fun _ => rfl⟩
    · rw [if_neg h, if_neg h]; exact ih l2
theorem fnd_mem (p : Nat) : ∀ l : List Nat, (fnd V l p).isSome ↔ ∃ b, b ∈ l ∧ V b = V p := by
  intro l
  induction l with
  | nil => exact ⟨fun h => absurd (show false = true from h) (by decide), fun ⟨b, h, _⟩ => absurd h List.not_mem_nil⟩
  | cons b l ih =>
    unfold fnd
    by_cases h : V b = V p
    · rw [if_pos h]; exact ⟨fun _ => ⟨b, List.mem_cons_self, h⟩, fun _ => rfl⟩
    · rw [if_neg h]
      refine ih.trans ⟨fun ⟨c, h1, h2⟩ => ⟨c, List.mem_cons_of_mem _ h1, h2⟩, fun ⟨c, h1, h2⟩ => ?_⟩
      rcases List.mem_cons.mp h1 with rfl | h1
      · exact absurd h2 h
      · exact ⟨c, h1, h2⟩
theorem lfc_102 : ∀ x : TR, LL x → ∀ γ pre : List Nat, lfc K pl V ft x γ 102 pre [] = min (lfW K pl V ft x γ) (kbL pl V x (pre ++ γ)) := by
  refine LL_ind (fun γ pre => rfl) (fun p x r _ ih γ pre => ?_)
  show min (if (fnd V pre p).isSome ∨ (fnd V γ p).isSome then 4 * pl p + 2 else 4000) (min (lfc K pl V ft x γ 0 [] []) (min (ckX K pl V x (tvV (V p))) (lfc K pl V ft r γ 102 (p :: pre) []))) = min (min (lfc K pl V ft x γ 0 [] []) (min (ckX K pl V x (tvV (V p))) (lfW K pl V ft r γ))) (min (kb pl V (pre ++ γ) p) (kbL pl V r (p :: (pre ++ γ))))
  have e1 : (if (fnd V pre p).isSome ∨ (fnd V γ p).isSome then 4 * pl p + 2 else 4000) = kb pl V (pre ++ γ) p := by
    unfold kb
    by_cases h : (fnd V (pre ++ γ) p).isSome
    · rw [if_pos h, if_pos ((fnd_or p pre γ).mp h)]
    · rw [if_neg h, if_neg (fun z => h ((fnd_or p pre γ).mpr z))]
  rw [e1, ih γ (p :: pre)]
  show min (kb pl V (pre ++ γ) p) (min (lfc K pl V ft x γ 0 [] []) (min (ckX K pl V x (tvV (V p))) (min (lfW K pl V ft r γ) (kbL pl V r (p :: (pre ++ γ)))))) = _
  ac_rfl
theorem bnd_app : ∀ x : TR, LL x → ∀ γ : List Nat, ∃ δ : List Nat, bnd x γ = δ ++ γ ∧ δ.length = tln x := by
  refine LL_ind (fun γ => ⟨[], rfl, rfl⟩) (fun p x r _ ih γ => ?_)
  obtain ⟨δ, h1, h2⟩ := ih (p :: γ)
  refine ⟨δ ++ [p], ?_, ?_⟩
  · show bnd r (p :: γ) = _
    rw [h1, List.append_assoc]
    rfl
  · rw [List.length_append]
    show δ.length + 1 = tln r + 1
    rw [h2]
/-- the values of the first names -/
def LFh (K pl : Nat → Nat) (V : Nat → Int64) (fu fr : Nat) (ft : List (Nat × Nat)) (W : Nat → Int32 × Int32 × Int32) (lo hi rlo rhi : Nat) (ν : Nat → Nat) (fs : TR) (p e : Nat) : Prop := ∀ (d : Nat) (S : im_S) (γ : List Nat) (f i i0 k n nf : Nat), 3 * (e - p) ≤ d → 2 * γ.length ≤ p → LkS V fr ft W S γ f → OKs K pl V S lo hi rlo rhi ν fs → WOKs W ν fs → RwB pl V S rlo rhi ν fs (i0 + i) → i + tln fs = n → n ≤ 500 → k < 1200 → S.1 89 k = nI i0 → tln fs < nf → ∃ S' : im_S, f_X11_lookLoop_L9 (rc_look fu (d + 1)) fu nf (nI k) (nI n) (nI i) S = f_X11_lookLoop_L55 (rc_look fu (d + 1)) fu fu (nI k) (nI n) 0 S' ∧ LkS V fr ft W S' γ (min f (lfW K pl V ft fs γ)) ∧ FLk pl S S' p e γ.length ∧ BL V W fr ft ν S' fs γ
theorem lf_nil (p e : Nat) : LFh K pl V fu fr ft W lo hi rlo rhi ν .nil p e := by
  intro d S γ f i i0 k n nf hd hγ H o wo rw_ hn hn5 hk h89 hnf
  have hn : i + 0 = n := hn
  obtain ⟨nf, rfl⟩ : ∃ z, nf = z + 1 := ⟨nf - 1, by omega⟩
  refine ⟨S, ?_, ?_, FLk_refl _ _ _ _, fun r c hc => absurd hc List.not_mem_nil⟩
  · rw [f_X11_lookLoop_L9, if_pos ((mI_le (a := n) (b := i) (by omega) (by omega)).mpr (by omega))]
  · have : lfW K pl V ft .nil γ = 4000 := rfl
    rw [this, Nat.min_eq_left H.2.1]
    exact H
theorem lf_cons (T : TH K pl V m) (hfu : 600 ≤ fu) (hhi : hi ≤ 1200 ∧ 75 * fr ≤ lo ∧ hi ≤ 75 * fr + 600) (hrh : rhi ≤ 1200) {x l : TR} {p b b2 e : Nat} (hK : K p = 1) (w1 : Wt K x (p + 2) b 0) (hb : b ≤ b2) (hbe : b2 ≤ e) (hem : e ≤ m) (ih : LXh K pl V fu fr ft W lo hi rlo rhi ν x (p + 2) b) (il : LFh K pl V fu fr ft W lo hi rlo rhi ν l b2 e) : LFh K pl V fu fr ft W lo hi rlo rhi ν (.append (.tag p x) l) p e := by
  intro d S γ f i i0 k n nf hd hγ H o wo rw_ hn hn5 hk h89 hnf
  have l1 := Wt_lt w1
  have hn : i + (tln l + 1) = n := hn
  have hnf : tln l + 1 < nf := hnf
  obtain ⟨nf, rfl⟩ : ∃ z, nf = z + 1 := ⟨nf - 1, by omega⟩
  obtain ⟨q1, q2, q3, q4, q5, q6⟩ := rw_
  obtain ⟨o1, o2⟩ := fm_a.mp o
  obtain ⟨wo1, wo2⟩ := fm_a.mp wo
  have hN := T.nam (show p < m by omega) hK
  have ht := tvV_r (V p)
  obtain ⟨S1, g1, g2, g3, g4⟩ := LX_w T w1 (by omega) hhi (Wt_ms w1) ih (d := d) (t := tvV (V p)) (by omega) (by omega) (by omega) H o1 wo1
  obtain ⟨S2, u1, u2, u3, u4⟩ := il d S1 γ _ (i + 1) i0 k n nf (by omega) (by omega) g2 (OKs_fl g3 o2) wo2 (RwB_fl g3 _ _ q6) (by omega) hn5 hk (by rw [g3.1 89 k (by omega) (by omega) (by omega) (by omega) (by omega)]; exact h89) (by omega)
  refine ⟨S2, ?_, ?_, FLk_trans g3 u3 (by omega) (by omega) (by omega) (Nat.le_refl _) (Nat.le_refl _) (Nat.le_refl _), fun r c hc => ?_⟩
  · rw [f_X11_lookLoop_L9, if_neg (fun z => by have := (mI_le (a := n) (b := i) (by omega) (by omega)).mp z; omega), mI_in (a := k) (n := 1200) (by omega) hk, nI_clamp (show k < 2 ^ 31 by omega), h89, show nI i0 + nI i = nI (i0 + i) from nI_add i0 i, mI_in (a := i0 + i) (n := 1200) (by omega) (by omega), nI_clamp (show i0 + i < 2 ^ 31 by omega), q3, q5, r_ty (by omega) hN, show nI i + 1 = nI (i + 1) from nI_add i 1]
    simp only [gd_t, Option.bind_some]
    rw [g1]
    simp only [Option.bind_some]
    exact u1
  · have : min f (lfW K pl V ft (.append (.tag p x) l) γ) = min (min f (min (lfc K pl V ft x γ 0 [] []) (ckX K pl V x (tvV (V p))))) (lfW K pl V ft l γ) := by
      show min f (min (lfc K pl V ft x γ 0 [] []) (min (ckX K pl V x (tvV (V p))) (lfW K pl V ft l γ))) = _
      ac_rfl
    rw [this]
    exact u2
  · rcases List.mem_append.mp hc with hc | hc
    · exact BL_fl T w1 (OKs_fl g3 o1) u3 (Or.inl (by omega)) (by omega) hem g4 r c hc
    · exact u4 r c hc
/-- the names are known -/
theorem lk55 (T : TH K pl V m) (hfu : 600 ≤ fu) (hrh : rhi ≤ 1200) {Kf : Nat → Int32 → Int32 → im_S → Option (Int32 × im_S)} {k n i0 : Nat} {w : Int32} (hw : w = nI k) (hk : k < 1200) (hn5 : n ≤ 500) : ∀ x : TR, LL x → ∀ (S : im_S) (γ : List Nat) (f i nf : Nat), LkS V fr ft W S γ f → γ.length + tln x ≤ 259 → RwB pl V S rlo rhi ν x (i0 + i) → WbL W w x i → i + tln x = n → S.1 89 k = nI i0 → (∀ q, q ∈ tks x → q ≤ m) → tln x < nf → ∃ S' : im_S, f_X11_lookLoop_L55 Kf fu nf (nI k) (nI n) (nI i) S = (Kf 2 (S'.1 83 k) 2 S').bind (fun q => f_X11_lookLoop_L112 Kf fu fu (nI k) (nI n) 0 q.2) ∧ LkS V fr ft W S' (bnd x γ) (min f (kbL pl V x γ)) ∧ FLk pl S S' 0 0 γ.length := by
  refine LL_ind (fun S γ f i nf H hg rw_ hW hn h89 hq hnf => ?_) (fun p x r _ ih S γ f i nf H hg rw_ hW hn h89 hq hnf => ?_)
  · have hn : i + 0 = n := hn
    obtain ⟨nf, rfl⟩ : ∃ z, nf = z + 1 := ⟨nf - 1, by omega⟩
    refine ⟨S, ?_, ?_, FLk_refl _ _ _ _⟩
    · rw [f_X11_lookLoop_L55, if_pos ((mI_le (a := n) (b := i) (by omega) (by omega)).mpr (by omega)), mI_in (a := k) (n := 1200) (by omega) hk, nI_clamp (show k < 2 ^ 31 by omega)]
      rfl
    · have : kbL pl V .nil γ = 4000 := rfl
      rw [this, Nat.min_eq_left H.2.1]
      exact H
  · have hn : i + (tln r + 1) = n := hn
    have hnf : tln r + 1 < nf := hnf
    have hg : γ.length + (tln r + 1) ≤ 259 := hg
    obtain ⟨nf, rfl⟩ : ∃ z, nf = z + 1 := ⟨nf - 1, by omega⟩
    obtain ⟨q1, q2, q3, q4, q5, q6⟩ := rw_
    obtain ⟨hW1, hW2⟩ := hW
    obtain ⟨S1, k1, k2, k3⟩ := LkS_know (pl := pl) hfu H (by omega) (j := p) (w1 := 3) (w2 := w) (w3 := nI i) (T.pl_ (hq p List.mem_cons_self)) hW1
    obtain ⟨S2, u1, u2, u3⟩ := ih S1 (p :: γ) _ (i + 1) nf k2 (by show γ.length + 1 + tln r ≤ 259; omega) (RwB_fl k3 _ _ q6) hW2 (by omega) (by rw [k3.1 89 k (by omega) (by omega) (by omega) (by omega) (by omega)]; exact h89) (fun q h => hq q (List.mem_cons_of_mem _ h)) (by omega)
    refine ⟨S2, ?_, ?_, FLk_trans k3 u3 (Nat.le_refl _) (Nat.le_refl _) (Nat.le_refl _) (Nat.le_refl _) (Nat.le_refl _) (by show γ.length ≤ γ.length + 1; omega)⟩
    · rw [f_X11_lookLoop_L55, if_neg (fun z => by have := (mI_le (a := n) (b := i) (by omega) (by omega)).mp z; omega), mI_in (a := k) (n := 1200) (by omega) hk, nI_clamp (show k < 2 ^ 31 by omega), h89, show nI i0 + nI i = nI (i0 + i) from nI_add i0 i, mI_in (a := i0 + i) (n := 1200) (by omega) (by omega), nI_clamp (show i0 + i < 2 ^ 31 by omega), q3, q4, ← hw, k1, hw, show nI i + 1 = nI (i + 1) from nI_add i 1]
      simp only [gd_t, Option.bind_some]
      exact u1
    · have : min f (kbL pl V (.append (.tag p x) r) γ) = min (min f (kb pl V γ p)) (kbL pl V r (p :: γ)) := by
        show min f (min (kb pl V γ p) (kbL pl V r (p :: γ))) = _
        ac_rfl
      rw [this]
      exact u2
/-- behind the search for a name that is bound twice -/
def l163e (Kf : Nat → Int32 → Int32 → im_S → Option (Int32 × im_S)) (fu : Nat) (K112 : Int32 → Int32 → Int32 → im_S → Option (Int32 × im_S)) (z1 z2 z3 z4 z5 : Int32) (S : im_S) : Option (Int32 × im_S) := (if (z5 : Int32) ≠ 0 then (gd (in_b z4 1200) (gd (in_b z4 1200) ((f_X11_typeOf fu ((S.2.1 93) z4.toNatClampNeg) S).bind (fun qS3 => (Kf 2 ((S.1 95) z4.toNatClampNeg) qS3.1 qS3.2).bind (fun qS6 => K112 z1 z2 (z3 + 1) qS6.2))))) else (gd (in_b z4 1200) ((f_X11_note 2 ((S.1 94) z4.toNatClampNeg) S).bind (fun qS9 => gd (in_b z4 1200) (gd (in_b z4 1200) ((f_X11_typeOf fu ((qS9.2.2.1 93) z4.toNatClampNeg) qS9.2).bind (fun qS12 => (Kf 2 ((qS9.2.1 95) z4.toNatClampNeg) qS12.1 qS12.2).bind (fun qS15 => K112 z1 z2 (z3 + 1) qS15.2))))))))
theorem lk163 {Kf : Nat → Int32 → Int32 → im_S → Option (Int32 × im_S)} {K112 : Int32 → Int32 → Int32 → im_S → Option (Int32 × im_S)} {z1 z2 z3 : Int32} {S : im_S} {r p : Nat} (hr : r < 1200) (h93 : S.2.1 93 r = V p) : ∀ (l : List Nat) (q nf : Nat) (g : Int32), RwN V S q l → q + l.length = r → l.length < nf → (g = 0 ∨ g = 1) → f_X11_lookLoop_L163 Kf fu K112 nf z1 z2 z3 (nI r) g (nI q) S = l163e Kf fu K112 z1 z2 z3 (nI r) (if g = 1 ∧ ¬ (fnd V l p).isSome then 1 else 0) S := by
  intro l
  induction l with
  | nil =>
    intro q nf g _ hq hnf hg
    have hq : q + 0 = r := hq
    obtain ⟨nf, rfl⟩ : ∃ z, nf = z + 1 := ⟨nf - 1, by omega⟩
    rw [f_X11_lookLoop_L163, if_pos ((mI_le (a := r) (b := q) (by omega) (by omega)).mpr (by omega))]
    have : (if g = 1 ∧ ¬ (fnd V [] p).isSome then (1 : Int32) else 0) = g := by
      rcases hg with rfl | rfl
      · rfl
      · exact if_pos ⟨rfl, fun z => absurd (show false = true from z) (by decide)⟩
    rw [this]
    rfl
  | cons b l ih =>
    intro q nf g hR hq hnf hg
    have hq : q + (l.length + 1) = r := hq
    have hnf : l.length + 1 < nf := hnf
    obtain ⟨nf, rfl⟩ : ∃ z, nf = z + 1 := ⟨nf - 1, by omega⟩
    obtain ⟨r1, r2⟩ := hR
    rw [f_X11_lookLoop_L163, if_neg (fun z => by have := (mI_le (a := r) (b := q) (by omega) (by omega)).mp z; omega), show nI q + 1 = nI (q + 1) from nI_add q 1]
    have hz : (if (0 : Int32) = 1 ∧ ¬ (fnd V l p).isSome then (1 : Int32) else 0) = 0 := if_neg (fun z => absurd z.1 (by decide))
    rcases hg with rfl | rfl
    · rw [if_pos rfl, ih (q + 1) nf 0 r2 (by omega) (by omega) (Or.inl rfl), hz, if_neg (fun z => absurd z.1 (by decide))]
    · rw [if_neg (by decide), mI_in (a := q) (n := 1200) (by omega) (by omega), nI_clamp (show q < 2 ^ 31 by omega), mI_in (a := r) (n := 1200) (by omega) (by omega), nI_clamp (show r < 2 ^ 31 by omega), r1, h93]
      simp only [gd_t]
      by_cases hv : V b = V p
      · have e : (fnd V (b :: l) p).isSome := by unfold fnd; rw [if_pos hv]; rfl
        rw [if_pos ((lg_cmp_eq _ _).mpr hv), ih (q + 1) nf 0 r2 (by omega) (by omega) (Or.inl rfl), hz, if_neg (fun z => z.2 e)]
      · have e : fnd V (b :: l) p = fnd V l p := by
          show (if V b = V p then _ else _) = _
          rw [if_neg hv]
        rw [if_neg (fun z => hv ((lg_cmp_eq _ _).mp z)), ih (q + 1) nf 1 r2 (by omega) (by omega) (Or.inr rfl), e]
        simp only [eq_self, true_and]
theorem RwN_cp {S S' : im_S} (h : ∀ i, S'.2.1 93 i = S.2.1 93 i) : ∀ (l : List Nat) (i : Nat), RwN V S i l → RwN V S' i l := by
  intro l
  induction l with
  | nil => intro i _; trivial
  | cons b l ih => intro i q; exact ⟨by rw [h]; exact q.1, ih _ q.2⟩
theorem RwN_app {S : im_S} {b : Nat} : ∀ (l : List Nat) (i : Nat), RwN V S i l → S.2.1 93 (i + l.length) = V b → RwN V S i (l ++ [b]) := by
  intro l
  induction l with
  | nil => intro i _ h; exact ⟨h, trivial⟩
  | cons c l ih =>
    intro i q h
    exact ⟨q.1, ih (i + 1) q.2 (by rw [show i + 1 + l.length = i + (c :: l).length by show i + 1 + l.length = i + (l.length + 1); omega]; exact h)⟩
theorem RwB_N {S : im_S} : ∀ x : TR, LL x → ∀ i, RwB pl V S rlo rhi ν x i → RwN V S i (tks x) ∧ (tks x).length = tln x := by
  refine LL_ind (fun i _ => ⟨trivial, rfl⟩) (fun p x r _ ih i h => ?_)
  obtain ⟨h1, h2, h3, h4, h5, h6⟩ := h
  obtain ⟨u1, u2⟩ := ih (i + 1) h6
  exact ⟨⟨h3, u1⟩, by show (tks r).length + 1 = tln r + 1; rw [u2]⟩
/-- the next values -/
def LNh (K pl : Nat → Nat) (V : Nat → Int64) (fu fr : Nat) (ft : List (Nat × Nat)) (W : Nat → Int32 × Int32 × Int32) (lo hi rlo rhi : Nat) (ν : Nat → Nat) (ns : TR) (p e : Nat) : Prop := ∀ (d : Nat) (S : im_S) (γ ts pre : List Nat) (f i i0 i1 k n n2 nf : Nat), 3 * (e - p) ≤ d → 2 * γ.length ≤ p → LkS V fr ft W S γ f → OKs K pl V S lo hi rlo rhi ν ns → WOKs W ν ns → RwB pl V S rlo rhi ν ns (i1 + i) → i + tln ns = n2 → n2 ≤ 500 → k < 1200 → S.1 89 k = nI i0 → S.1 90 k = nI n → S.1 91 k = nI i1 → S.1 92 k = nI n2 → RwN V S i0 ts → ts.length = n → i0 + n ≤ 1200 → n ≤ 500 → RwN V S i1 pre → pre.length = i → tln ns < nf → ∃ S' : im_S, f_X11_lookLoop_L112 (rc_look fu (d + 1)) fu nf (nI k) (nI n) (nI i) S = (rc_look fu (d + 1) 0 (S'.1 84 k) 0 S').bind (fun q => some (q.1, uI q.2 75 52 (q.2.1 75 52 - nI n))) ∧ LkS V fr ft W S' γ (min f (lfc K pl V ft ns γ 105 pre.reverse ts)) ∧ FLk pl S S' p e γ.length ∧ BL V W fr ft ν S' ns γ
theorem ln_nil (p e : Nat) : LNh K pl V fu fr ft W lo hi rlo rhi ν .nil p e := by
  intro d S γ ts pre f i i0 i1 k n n2 nf hd hγ H o wo rw_ hn hn5 hk h89 h90 h91 h92 hts htl hi0 hnn hpre hpl hnf
  have hn : i + 0 = n2 := hn
  obtain ⟨nf, rfl⟩ : ∃ z, nf = z + 1 := ⟨nf - 1, by omega⟩
  refine ⟨S, ?_, ?_, FLk_refl _ _ _ _, fun r c hc => absurd hc List.not_mem_nil⟩
  · rw [f_X11_lookLoop_L112, mI_in (a := k) (n := 1200) (by omega) hk, nI_clamp (show k < 2 ^ 31 by omega), h92, if_pos ((mI_le (a := n2) (b := i) (by omega) (by omega)).mpr (by omega))]
    rfl
  · have : lfc K pl V ft .nil γ 105 pre.reverse ts = 4000 := rfl
    rw [this, Nat.min_eq_left H.2.1]
    exact H
set_option maxHeartbeats 1000000 in
theorem ln_cons (T : TH K pl V m) (hfu : 600 ≤ fu) (hhi : hi ≤ 1200 ∧ 75 * fr ≤ lo ∧ hi ≤ 75 * fr + 600) (hrh : rhi ≤ 1200) {x l : TR} {p b b2 e : Nat} (hK : K p = 1) (w1 : Wt K x (p + 2) b 0) (hb : b ≤ b2) (hbe : b2 ≤ e) (hem : e ≤ m) (ih : LXh K pl V fu fr ft W lo hi rlo rhi ν x (p + 2) b) (il : LNh K pl V fu fr ft W lo hi rlo rhi ν l b2 e) : LNh K pl V fu fr ft W lo hi rlo rhi ν (.append (.tag p x) l) p e := by
  intro d S γ ts pre f i i0 i1 k n n2 nf hd hγ H o wo rw_ hn hn5 hk h89 h90 h91 h92 hts htl hi0 hnn hpre hpl hnf
  have l1 := Wt_lt w1
  have hn : i + (tln l + 1) = n2 := hn
  have hnf : tln l + 1 < nf := hnf
  obtain ⟨nf, rfl⟩ : ∃ z, nf = z + 1 := ⟨nf - 1, by omega⟩
  obtain ⟨q1, q2, q3, q4, q5, q6⟩ := rw_
  obtain ⟨o1, o2⟩ := fm_a.mp o
  obtain ⟨wo1, wo2⟩ := fm_a.mp wo
  have hN := T.nam (show p < m by omega) hK
  have ht := tvV_r (V p)
  have hpp := T.pl_ (show p ≤ m by omega)
  have hf := H.2.1
  have hpo : f_X11_partOf fu (nI k) (V p) S = some (match idx V ts p with | some z => nI (0 + z) | none => -1, S) := by
    unfold f_X11_partOf
    exact r_partL (fu := fu) hk h90 h89 hi0 p ts fu 0 hts (by omega) (by omega)
  obtain ⟨c, hc⟩ : ∃ c : Int32, c = if (fnd V ts p).isSome ∧ ¬ (fnd V pre p).isSome then 1 else 0 := ⟨_, rfl⟩
  have e1 : f_X11_lookLoop_L112 (rc_look fu (d + 1)) fu (nf + 1) (nI k) (nI n) (nI i) S = l163e (rc_look fu (d + 1)) fu (f_X11_lookLoop_L112 (rc_look fu (d + 1)) fu nf) (nI k) (nI n) (nI i) (nI (i1 + i)) c S := by
    rw [f_X11_lookLoop_L112, mI_in (a := k) (n := 1200) (by omega) hk, nI_clamp (show k < 2 ^ 31 by omega), h92, if_neg (fun z => by have := (mI_le (a := n2) (b := i) (by omega) (by omega)).mp z; omega), h91, show nI i1 + nI i = nI (i1 + i) from nI_add i1 i, mI_in (a := i1 + i) (n := 1200) (by omega) (by omega), nI_clamp (show i1 + i < 2 ^ 31 by omega), q3, hpo]
    simp only [gd_t, Option.bind_some]
    have hif := idx_fnd (V := V) ts p
    rcases hidx : idx V ts p with _ | kf
    · rw [hidx] at hif
      rw [if_pos rfl, h91, lk163 (p := p) (by omega) q3 pre i1 fu 0 hpre (by omega) (by omega) (Or.inl rfl), hc, if_neg (fun z => absurd z.1 (by decide)), if_neg (fun z => absurd (hif.trans z.1) (by decide))]
    · rw [hidx] at hif
      have hlt := idx_lt _ _ _ hidx
      rw [if_neg (fun z => absurd z (nI_m1 (show 0 + kf < 2 ^ 31 by omega))), h91, lk163 (p := p) (by omega) q3 pre i1 fu 1 hpre (by omega) (by omega) (Or.inr rfl), hc]
      by_cases hq : (fnd V pre p).isSome
      · rw [if_neg (fun z => z.2 hq), if_neg (fun z => z.2 hq)]
      · rw [if_pos ⟨rfl, hq⟩, if_pos ⟨hif.symm, hq⟩]
  have go : ∀ (S0 : im_S) (f0 : Nat), LkS V fr ft W S0 γ f0 → (∀ a i : Nat, (a ≠ 75 ∨ (i ≠ 3 ∧ i ≠ 4)) → S0.1 a i = S.1 a i) → S0.2.1 = S.2.1 → ∃ S' : im_S, ((rc_look fu (d + 1) 2 (nI (ν (otk x))) (nI (tvV (V p))) S0).bind (fun q => f_X11_lookLoop_L112 (rc_look fu (d + 1)) fu nf (nI k) (nI n) (nI i + 1) q.2)) = (rc_look fu (d + 1) 0 (S'.1 84 k) 0 S').bind (fun q => some (q.1, uI q.2 75 52 (q.2.1 75 52 - nI n))) ∧ LkS V fr ft W S' γ (min (min f0 (min (lfc K pl V ft x γ 0 [] []) (ckX K pl V x (tvV (V p))))) (lfc K pl V ft l γ 105 (p :: pre.reverse) ts)) ∧ FLk pl S S' p e γ.length ∧ BL V W fr ft ν S' (.append (.tag p x) l) γ := by
    intro S0 f0 H0 h1 h2
    have F0 : FLk pl S S0 0 0 γ.length := FLk_s (fun a i u1 u2 u3 => h1 a i (by omega)) (fun a i _ => by rw [h2])
    obtain ⟨S1, g1, g2, g3, g4⟩ := LX_w T w1 (by omega) hhi (Wt_ms w1) ih (d := d) (t := tvV (V p)) (by omega) (by omega) (by omega) H0 (OKs_fl F0 o1) wo1
    have F1 := FLk_trans (FLk_e F0 (p + 2) (p + 2)) g3 (show p ≤ p + 2 by omega) (show p + 2 ≤ e by omega) (show p ≤ p + 2 by omega) (show b ≤ e by omega) (Nat.le_refl γ.length) (Nat.le_refl _)
    have z : ∀ {a : Nat}, (89 ≤ a ∧ a ≤ 92) → S1.1 a k = S.1 a k := fun {a} q => F1.1 a k (by omega) (by omega) (by omega) (by omega) (by omega)
    have z93 : ∀ i, S1.2.1 93 i = S.2.1 93 i := fun i => F1.2 93 i (by omega)
    obtain ⟨S2, u1, u2, u3, u4⟩ := il d S1 γ ts (pre ++ [p]) _ (i + 1) i0 i1 k n n2 nf (by omega) (by omega) g2 (OKs_fl F1 o2) wo2 (RwB_fl F1 _ _ q6) (by omega) hn5 hk (by rw [z (by omega)]; exact h89) (by rw [z (by omega)]; exact h90) (by rw [z (by omega)]; exact h91) (by rw [z (by omega)]; exact h92) (RwN_cp z93 _ _ hts) htl hi0 hnn (RwN_cp z93 _ _ (RwN_app pre i1 hpre (by rw [hpl]; exact q3))) (by rw [List.length_append]; show pre.length + 1 = i + 1; rw [hpl]) (by omega)
    refine ⟨S2, ?_, ?_, FLk_trans F1 u3 (Nat.le_refl _) (Nat.le_refl _) (by omega) (Nat.le_refl _) (Nat.le_refl _) (Nat.le_refl _), fun r c hc => ?_⟩
    · rw [g1]
      simp only [Option.bind_some]
      rw [show nI i + 1 = nI (i + 1) from nI_add i 1]
      exact u1
    · rw [List.reverse_append] at u2
      exact u2
    · rcases List.mem_append.mp hc with hc | hc
      · exact BL_fl T w1 (OKs_fl F1 o1) u3 (Or.inl (by omega)) (by omega) hem g4 r c hc
      · exact u4 r c hc
  have hfr : (fnd V pre.reverse p).isSome ↔ (fnd V pre p).isSome := by
    rw [fnd_mem, fnd_mem]
    exact ⟨fun ⟨b, h1, h2⟩ => ⟨b, List.mem_reverse.mp h1, h2⟩, fun ⟨b, h1, h2⟩ => ⟨b, List.mem_reverse.mpr h1, h2⟩⟩
  have hlf : lfc K pl V ft (.append (.tag p x) l) γ 105 pre.reverse ts = min (if (fnd V ts p).isSome ∧ ¬ (fnd V pre.reverse p).isSome then 4000 else 4 * pl p + 2) (min (lfc K pl V ft x γ 0 [] []) (min (ckX K pl V x (tvV (V p))) (lfc K pl V ft l γ 105 (p :: pre.reverse) ts))) := rfl
  by_cases hg : (fnd V ts p).isSome ∧ ¬ (fnd V pre p).isSome
  · rw [if_pos hg] at hc
    obtain ⟨S2, u1, u2, u3, u4⟩ := go S f H (fun _ _ _ => rfl) rfl
    refine ⟨S2, ?_, ?_, u3, u4⟩
    · rw [e1, hc]
      unfold l163e
      rw [if_pos (by decide), mI_in (a := i1 + i) (n := 1200) (by omega) (by omega), nI_clamp (show i1 + i < 2 ^ 31 by omega), q3, r_ty (by omega) hN, q5]
      simp only [gd_t, Option.bind_some]
      exact u1
    · rw [hlf, if_pos ⟨hg.1, fun z => hg.2 (hfr.mp z)⟩]
      have : min f (min 4000 (min (lfc K pl V ft x γ 0 [] []) (min (ckX K pl V x (tvV (V p))) (lfc K pl V ft l γ 105 (p :: pre.reverse) ts)))) = min (min f (min (lfc K pl V ft x γ 0 [] []) (ckX K pl V x (tvV (V p))))) (lfc K pl V ft l γ 105 (p :: pre.reverse) ts) := by
        rw [← Nat.min_assoc f 4000, Nat.min_eq_left hf]
        ac_rfl
      rw [this]
      exact u2
  · rw [if_neg hg] at hc
    obtain ⟨S0, n1, n2', n3, n4⟩ := LkS_note (k := 2) (p' := pl p) H (by omega) (by omega) hpp
    have n1 : f_X11_note 2 (nI (pl p)) S = some ((), S0) := n1
    obtain ⟨S2, u1, u2, u3, u4⟩ := go S0 _ n2' n3 n4
    refine ⟨S2, ?_, ?_, u3, u4⟩
    · rw [e1, hc]
      unfold l163e
      rw [if_neg (fun z => z rfl), mI_in (a := i1 + i) (n := 1200) (by omega) (by omega), nI_clamp (show i1 + i < 2 ^ 31 by omega), q4, n1]
      simp only [gd_t, Option.bind_some]
      rw [n4, q3, r_ty (by omega) hN, n3 95 _ (by omega), q5]
      simp only [Option.bind_some]
      exact u1
    · rw [hlf, if_neg (fun z => hg ⟨z.1, fun q => z.2 (hfr.mpr q)⟩)]
      have : min f (min (4 * pl p + 2) (min (lfc K pl V ft x γ 0 [] []) (min (ckX K pl V x (tvV (V p))) (lfc K pl V ft l γ 105 (p :: pre.reverse) ts)))) = min (min (min f (4 * pl p + 2)) (min (lfc K pl V ft x γ 0 [] []) (ckX K pl V x (tvV (V p))))) (lfc K pl V ft l γ 105 (p :: pre.reverse) ts) := by ac_rfl
      rw [this]
      exact u2
end LKO
