/-! the reference looks at an X: what needs no names -/
section LKX
variable {K pl : Nat → Nat} {V : Nat → Int64} {m fu fr : Nat} {ft : List (Nat × Nat)} {W : Nat → Int32 × Int32 × Int32} {lo hi rlo rhi : Nat} {ν : Nat → Nat}
def LXh (K pl : Nat → Nat) (V : Nat → Int64) (fu fr : Nat) (ft : List (Nat × Nat)) (W : Nat → Int32 × Int32 × Int32) (lo hi rlo rhi : Nat) (ν : Nat → Nat) (x : TR) (p e : Nat) : Prop := ∀ (d : Nat) (S : im_S) (γ : List Nat) (f : Nat), 3 * (e - p) ≤ d → 2 * γ.length ≤ p → LkS V fr ft W S γ f → OKs K pl V S lo hi rlo rhi ν x → WOKs W ν x → ∃ S' : im_S, rc_look fu d 0 (nI (ν (otk x))) 0 S = some (nI (tyk K (tv V) x), S') ∧ LkS V fr ft W S' γ (min f (lfc K pl V ft x γ 0 [] [])) ∧ FLk pl S S' p e γ.length ∧ BL V W fr ft ν S' x γ
/-- typed, of which look is made -/
def TXc (K pl : Nat → Nat) (V : Nat → Int64) (fu fr : Nat) (ft : List (Nat × Nat)) (W : Nat → Int32 × Int32 × Int32) (ν : Nat → Nat) (x : TR) (p e : Nat) (d : Nat) (S : im_S) (γ : List Nat) (f : Nat) : Prop := ∃ S' : im_S, f_X11_typed (rc_look fu d) fu (nI (ν (otk x))) S = some (nI (tyk K (tv V) x), S') ∧ LkS V fr ft W S' γ (min f (lfc K pl V ft x γ 0 [] [])) ∧ FLk pl S S' p e γ.length ∧ BL V W fr ft ν S' x γ
theorem LkS_88 {S : im_S} {γ : List Nat} {f k : Nat} {v : Int32} (hk : 75 * fr ≤ k ∧ k < 75 * fr + 600) (h : LkS V fr ft W S γ f) : LkS V fr ft W (uI S 88 k v) γ f := LkS_cp h (by unfold RFS; rw [uI_ne (by omega), uI_ne (by omega)]; exact h.1) h.2.1 (fun a i _ => uI_ne (by omega)) (fun _ _ _ => rfl) (Pq_ag h.2.2.2.2.2.2.2.2 (fun a i q => uI_ne (by unfold Pr at q; omega)) (fun _ _ _ => rfl))
theorem BN_cp {S S' : im_S} {c : TR × List Nat × Nat} (h : ∀ a i : Nat, (a = 84 ∨ (113 ≤ a ∧ a ≤ 115)) → S'.1 a i = S.1 a i) (b : BN V W fr ft ν S c) : BN V W fr ft ν S' c := by
  unfold BN at b ⊢
  split at b
  · intro k hk
    rw [h 113 _ (by omega), h 114 _ (by omega), h 115 _ (by omega)]
    exact b k hk
  · intro k hk
    rw [h 84 _ (by omega)]
    exact b k hk
  · trivial
theorem BL_cp {S S' : im_S} {x : TR} {γ : List Nat} (h : ∀ a i : Nat, (a = 84 ∨ (113 ≤ a ∧ a ≤ 115)) → S'.1 a i = S.1 a i) (b : BL V W fr ft ν S x γ) : BL V W fr ft ν S' x γ := fun r c hc => BN_cp h (b r c hc)
theorem look_w {x : TR} {p e d : Nat} {S : im_S} {γ : List Nat} {f : Nat} (hk : ν (otk x) < 1200 ∧ 75 * fr ≤ ν (otk x) ∧ ν (otk x) < 75 * fr + 600) (h : TXc K pl V fu fr ft W ν x p e d S γ f) : ∃ S' : im_S, rc_look fu (d + 2) 0 (nI (ν (otk x))) 0 S = some (nI (tyk K (tv V) x), S') ∧ LkS V fr ft W S' γ (min f (lfc K pl V ft x γ 0 [] [])) ∧ FLk pl S S' p e γ.length ∧ BL V W fr ft ν S' x γ := by
  obtain ⟨S1, h1, h2, h3, h4⟩ := h
  refine ⟨uI S1 88 (ν (otk x)) (nI (tyk K (tv V) x)), ?_, LkS_88 hk.2 h2, ⟨fun a i q1 q2 q3 q4 q5 => by rw [uI_ne (by omega)]; exact h3.1 a i q1 q2 q3 q4 q5, h3.2⟩, BL_cp (fun a i q => uI_ne (by omega)) h4⟩
  show f_X11_look (rc_look fu (d + 1)) fu (nI (ν (otk x))) S = _
  unfold f_X11_look
  have h1' : rc_look fu (d + 1) 1 (nI (ν (otk x))) 0 S = some (nI (tyk K (tv V) x), S1) := h1
  rw [h1']
  simp only [Option.bind_some]
  rw [mI_in (a := ν (otk x)) (n := 1200) (by omega) hk.1, nI_clamp (show ν (otk x) < 2 ^ 31 by omega)]
  simp only [gd_t]
  have hu : upd (S1.1 88) (ν (otk x)) (nI (tyk K (tv V) x)) (ν (otk x)) = nI (tyk K (tv V) x) := by unfold upd; exact if_pos rfl
  rw [hu]
theorem LXh_of {x : TR} {p e : Nat} (hpe : p < e) (hhi : hi ≤ 1200 ∧ 75 * fr ≤ lo ∧ hi ≤ 75 * fr + 600) (hx : x ∈ sbs x) (h : ∀ (d : Nat) (S : im_S) (γ : List Nat) (f : Nat), 3 * (e - p) ≤ d + 2 → 2 * γ.length ≤ p → LkS V fr ft W S γ f → OKs K pl V S lo hi rlo rhi ν x → WOKs W ν x → TXc K pl V fu fr ft W ν x p e d S γ f) : LXh K pl V fu fr ft W lo hi rlo rhi ν x p e := by
  intro d S γ f hd hγ H o wo
  obtain ⟨d, rfl⟩ : ∃ d', d = d' + 2 := ⟨d - 2, by omega⟩
  exact look_w (by have := (o x hx).2; omega) (h d S γ f hd hγ H o wo)
theorem tyk_lt (tv : Nat → Nat) (hv : ∀ j, tv j ≤ 3) : ∀ x : TR, tyk K tv x ≤ 3 := by
  have hs : ∀ (s : Nat) (x : TR), tsz x ≤ s → tyk K tv x ≤ 3 := by
    intro s
    induction s with
    | zero => intro x h; cases x <;> simp [tsz] at h
    | succ s ih =>
      intro x h
      unfold tyk
      split
      · omega
      · omega
      · exact hv _
      · exact hv _
      · exact ih _ (by simp only [tsz] at h; omega)
      · exact ih _ (by simp only [tsz] at h; omega)
      · exact ih _ (by simp only [tsz] at h; omega)
      · split <;> omega
      · split <;> omega
      · omega
      · omega
      · exact ih _ (by simp only [tsz] at h; omega)
      · omega
  exact fun x => hs (tsz x) x (Nat.le_refl _)
theorem tv_3 (j : Nat) : tv V j ≤ 3 := (tvV_r (V j)).2
/-- a part that must be of a type -/
theorem LX_w (T : TH K pl V m) {x : TR} {p e : Nat} (w : Wt K x p e 0) (hem : e ≤ m) (hhi : hi ≤ 1200 ∧ 75 * fr ≤ lo ∧ hi ≤ 75 * fr + 600) (hx : x ∈ sbs x) (h : LXh K pl V fu fr ft W lo hi rlo rhi ν x p e) {d : Nat} {S : im_S} {γ : List Nat} {f t : Nat} (ht : t < 100) (hd : 3 * (e - p) ≤ d) (hγ : 2 * γ.length ≤ p) (H : LkS V fr ft W S γ f) (o : OKs K pl V S lo hi rlo rhi ν x) (wo : WOKs W ν x) :
    ∃ S' : im_S, rc_look fu (d + 1) 2 (nI (ν (otk x))) (nI t) S = some (0, S') ∧ LkS V fr ft W S' γ (min f (min (lfc K pl V ft x γ 0 [] []) (ckX K pl V x t))) ∧ FLk pl S S' p e γ.length ∧ BL V W fr ft ν S' x γ := by
  obtain ⟨S1, h1, h2, h3, h4⟩ := h d S γ f hd hγ H o wo
  have r := Wt_rt w
  have hk : ν (otk x) < 1200 := Nat.lt_of_lt_of_le (o x hx).2.2 hhi.1
  have hp := plc w (OKs_fl h3 o)
  have hty := tyk_lt (K := K) (tv V) tv_3 x
  obtain ⟨S2, g1, g2, g3, g4⟩ := r_wants (fu := fu) (t := t) h1 h2 hk hp (T.pl_ (by omega)) (by omega) ht
  refine ⟨S2, ?_, ?_, ⟨fun a i q1 q2 q3 q4 q5 => ?_, fun a i q => ?_⟩, BL_cp (fun a i q => g3 a i (by omega)) h4⟩
  · show (f_X11_wants (rc_look fu d) fu (nI (ν (otk x))) (nI t) S).bind _ = _
    rw [g1]
    rfl
  · rw [← Nat.min_assoc]
    exact g2
  · rw [g3 a i (by omega)]
    exact h3.1 a i q1 q2 q3 q4 q5
  · rw [g4]
    exact h3.2 a i q
theorem Wt_ms {x : TR} {p e : Nat} (w : Wt K x p e 0) : x ∈ sbs x := by
  refine Wt_ind (K := K) (P := fun x p e md => md = 0 → x ∈ sbs x) ?_ ?_ ?_ ?_ ?_ ?_ ?_ ?_ ?_ ?_ ?_ ?_ ?_ ?_ ?_ (tsz x) x p e 0 (Nat.le_refl _) w rfl
  · intro p md _ _; exact List.mem_cons_self
  · intro p md _ _; exact List.mem_cons_self
  · intro p md _ _; exact List.mem_cons_self
  · intro p md _ _; exact List.mem_cons_self
  · intros; exact List.mem_cons_self
  · intros; exact List.mem_cons_self
  · intros; exact List.mem_cons_self
  · intros; exact List.mem_cons_self
  · intros; exact List.mem_cons_self
  · intros; exact List.mem_cons_self
  · intros; exact List.mem_cons_self
  · intros; exact List.mem_cons_self
  · intros; exact List.mem_cons_self
  · intro p x b md h1 _ _ _ h; omega
  · intro p x l b e md h1 _ _ _ _ _ _ h; omega
theorem Wt_tag {x : TR} {p e : Nat} (w : Wt K x p e 0) : ∃ c f, x = .tag c f := by
  refine Wt_ind (K := K) (P := fun x p e md => md = 0 → ∃ c f, x = .tag c f) ?_ ?_ ?_ ?_ ?_ ?_ ?_ ?_ ?_ ?_ ?_ ?_ ?_ ?_ ?_ (tsz x) x p e 0 (Nat.le_refl _) w rfl
  · intro p md _ _; exact ⟨_, _, rfl⟩
  · intro p md _ _; exact ⟨_, _, rfl⟩
  · intro p md _ _; exact ⟨_, _, rfl⟩
  · intro p md _ _; exact ⟨_, _, rfl⟩
  · intros; exact ⟨_, _, rfl⟩
  · intros; exact ⟨_, _, rfl⟩
  · intros; exact ⟨_, _, rfl⟩
  · intros; exact ⟨_, _, rfl⟩
  · intros; exact ⟨_, _, rfl⟩
  · intros; exact ⟨_, _, rfl⟩
  · intros; exact ⟨_, _, rfl⟩
  · intros; exact ⟨_, _, rfl⟩
  · intros; exact ⟨_, _, rfl⟩
  · intro p x b md h1 _ _ _ h; omega
  · intro p x l b e md h1 _ _ _ _ _ _ h; omega

theorem lx_1 (hhi : hi ≤ 1200 ∧ 75 * fr ≤ lo ∧ hi ≤ 75 * fr + 600) (p : Nat) : LXh K pl V fu fr ft W lo hi rlo rhi ν (aNum p) p (p + 1) := by
  refine LXh_of (by omega) hhi List.mem_cons_self (fun d S γ f hd hγ H o wo => ⟨S, ?_, ?_, FLk_refl _ _ _ _, fun r c hc => ?_⟩)
  · obtain ⟨⟨a1, -, -⟩, b1, b2⟩ := fm_1.mp o
    have b2 : ν p < hi := b2
    show f_X11_typed (rc_look fu d) fu (nI (ν p)) S = some (nI 1, S)
    unfold f_X11_typed
    rw [mI_in (a := ν p) (n := 1200) (by omega) (by omega), nI_clamp (show ν p < 2 ^ 31 by omega), a1.1]
    simp only [gd_t]
    rw [if_pos (show (nI 1 : Int32) = 1 from rfl)]
    rfl
  · have : lfc K pl V ft (aNum p) γ 0 [] [] = 4000 := rfl
    rw [this, Nat.min_eq_left H.2.1]
    exact H
  · obtain rfl := List.mem_singleton.mp hc
    trivial

theorem lx_2 (hhi : hi ≤ 1200 ∧ 75 * fr ≤ lo ∧ hi ≤ 75 * fr + 600) (p : Nat) : LXh K pl V fu fr ft W lo hi rlo rhi ν (aTru p) p (p + 1) := by
  refine LXh_of (by omega) hhi List.mem_cons_self (fun d S γ f hd hγ H o wo => ⟨S, ?_, ?_, FLk_refl _ _ _ _, fun r c hc => ?_⟩)
  · obtain ⟨⟨a1, -, -⟩, b1, b2⟩ := fm_1.mp o
    have b2 : ν p < hi := b2
    show f_X11_typed (rc_look fu d) fu (nI (ν p)) S = some (nI 2, S)
    unfold f_X11_typed
    rw [mI_in (a := ν p) (n := 1200) (by omega) (by omega), nI_clamp (show ν p < 2 ^ 31 by omega), a1.1]
    simp only [gd_t]
    rw [if_neg (show ¬ (nI 2 : Int32) = 1 by decide), if_pos (show (nI 2 : Int32) = 2 from rfl)]
    rfl
  · have : lfc K pl V ft (aTru p) γ 0 [] [] = 4000 := rfl
    rw [this, Nat.min_eq_left H.2.1]
    exact H
  · obtain rfl := List.mem_singleton.mp hc
    trivial

theorem lx_3 (T : TH K pl V m) (hfu : 600 ≤ fu) (hhi : hi ≤ 1200 ∧ 75 * fr ≤ lo ∧ hi ≤ 75 * fr + 600) {p : Nat} (hp : p < m) (hK : K p = 1) : LXh K pl V fu fr ft W lo hi rlo rhi ν (aNam p) p (p + 1) := by
  refine LXh_of (by omega) hhi List.mem_cons_self (fun d S γ f hd hγ H o wo => ?_)
  obtain ⟨⟨a1, -, -⟩, b1, b2⟩ := fm_1.mp o
  have b2 : ν p < hi := b2
  have b1 : lo ≤ ν p := b1
  have h82 : S.1 82 (ν p) = nI (pl p) := a1.2.1 (by omega) (by omega)
  have hm := T.m_
  obtain ⟨S1, g1, g2, g3, g4, g5⟩ := r_name (pl := pl) hfu H (by omega) (k := ν p) (j := p) (by omega) (by omega) (a1.2.2.1 (by omega)) h82 (T.pl_ (by omega)) ((T.2.2.1 p hp).2.2.2 hK)
  refine ⟨S1, ?_, g2, ⟨fun a i q1 q2 q3 q4 q5 => g3 a i (by omega) ?_, fun a i _ => by rw [g4]⟩, fun r c hc => ?_⟩
  · show f_X11_typed (rc_look fu d) fu (nI (ν p)) S = some (nI (tvV (V p)), S1)
    unfold f_X11_typed
    rw [mI_in (a := ν p) (n := 1200) (by omega) (by omega), nI_clamp (show ν p < 2 ^ 31 by omega), a1.1]
    simp only [gd_t]
    rw [if_neg (show ¬ (nI 3 : Int32) = 1 by decide), if_neg (show ¬ (nI 3 : Int32) = 2 by decide), if_pos (show (nI 3 : Int32) = 3 from rfl), g1]
    rfl
  · by_cases ha : a < 113 ∨ 115 < a
    · omega
    · refine Or.inr (Or.inr (fun z => ?_))
      rw [z] at q4
      exact q4 (by omega) (by omega) p (by omega) (by omega) h82
  · obtain rfl := List.mem_singleton.mp hc
    exact g5

theorem lx_8 (T : TH K pl V m) (hhi : hi ≤ 1200 ∧ 75 * fr ≤ lo ∧ hi ≤ 75 * fr + 600) {x : TR} {p e : Nat} (w1 : Wt K x (p + 1) e 0) (hem : e ≤ m) (hK : K p = 45 ∨ K p = 33) (ih : LXh K pl V fu fr ft W lo hi rlo rhi ν x (p + 1) e) : LXh K pl V fu fr ft W lo hi rlo rhi ν (aSig p x) p e := by
  have l1 := Wt_lt w1
  refine LXh_of (by omega) hhi List.mem_cons_self (fun d S γ f hd hγ H o wo => ?_)
  obtain ⟨⟨⟨a1, a2, a3⟩, b1, b2⟩, o2⟩ := fm_c.mp o
  have wo2 := (fm_c.mp wo).2
  have b2 : ν p < hi := b2
  obtain ⟨d, rfl⟩ : ∃ d', d = d' + 1 := ⟨d - 1, by omega⟩
  have h86 : S.1 86 (ν p) = nI (K p) := a1.2.2.2.2.2 (Or.inl rfl)
  obtain ⟨S1, g1, g2, g3, g4⟩ := LX_w T w1 hem hhi (Wt_ms w1) ih (d := d) (t := if K p = 45 then 1 else 2) (by split <;> omega) (by omega) (by omega) H o2 wo2
  refine ⟨S1, ?_, ?_, FLk_wk g3 (by omega) (Nat.le_refl _) (Nat.le_refl _), fun r c hc => ?_⟩
  · show f_X11_typed (rc_look fu (d + 1)) fu (nI (ν p)) S = some (nI (if K p = 45 then 1 else 2), S1)
    unfold f_X11_typed
    rw [mI_in (a := ν p) (n := 1200) (by omega) (by omega), nI_clamp (show ν p < 2 ^ 31 by omega), a1.1]
    simp only [gd_t]
    rw [if_neg (show ¬ (nI 8 : Int32) = 1 by decide), if_neg (show ¬ (nI 8 : Int32) = 2 by decide), if_neg (show ¬ (nI 8 : Int32) = 3 by decide), if_neg (show ¬ (nI 8 : Int32) = 4 by decide), if_neg (show ¬ (nI 8 : Int32) = 5 by decide), if_neg (show ¬ (nI 8 : Int32) = 6 by decide), if_neg (show ¬ (nI 8 : Int32) = 7 by decide), if_pos (show (nI 8 : Int32) = 8 from rfl), h86, a3]
    rcases hK with hK | hK
    · rw [if_pos hK] at g1 ⊢
      rw [hK, if_neg (show ¬ (nI 45 : Int32) ≠ 45 from fun z => z rfl)]
      have g1 : rc_look fu (d + 1) 2 (nI (ν (otk x))) 1 S = some (0, S1) := g1
      rw [g1]
      rfl
    · rw [if_neg (show ¬ K p = 45 by omega)] at g1 ⊢
      rw [hK, if_pos (show (nI 33 : Int32) ≠ 45 by decide)]
      have g1 : rc_look fu (d + 1) 2 (nI (ν (otk x))) 2 S = some (0, S1) := g1
      rw [g1]
      rfl
  · exact g2
  · rcases List.mem_cons.mp hc with rfl | hc
    · trivial
    · exact g4 r c hc

theorem lx_12 (hhi : hi ≤ 1200 ∧ 75 * fr ≤ lo ∧ hi ≤ 75 * fr + 600) {x : TR} {p b : Nat} (w1 : Wt K x (p + 1) b 0) (ih : LXh K pl V fu fr ft W lo hi rlo rhi ν x (p + 1) b) : LXh K pl V fu fr ft W lo hi rlo rhi ν (aBrk p x) p (b + 1) := by
  have l1 := Wt_lt w1
  refine LXh_of (by omega) hhi List.mem_cons_self (fun d S γ f hd hγ H o wo => ?_)
  obtain ⟨⟨⟨a1, a2, a3⟩, b1, b2⟩, o2⟩ := fm_c.mp o
  have wo2 := (fm_c.mp wo).2
  have b2 : ν p < hi := b2
  obtain ⟨S1, g1, g2, g3, g4⟩ := ih d S γ f (by omega) (by omega) H o2 wo2
  refine ⟨S1, ?_, ?_, FLk_wk g3 (by omega) (by omega) (Nat.le_refl _), fun r c hc => ?_⟩
  · show f_X11_typed (rc_look fu d) fu (nI (ν p)) S = some (nI (tyk K (tv V) x), S1)
    unfold f_X11_typed
    rw [mI_in (a := ν p) (n := 1200) (by omega) (by omega), nI_clamp (show ν p < 2 ^ 31 by omega), a1.1]
    simp only [gd_t]
    rw [if_neg (show ¬ (nI 12 : Int32) = 1 by decide), if_neg (show ¬ (nI 12 : Int32) = 2 by decide), if_neg (show ¬ (nI 12 : Int32) = 3 by decide), if_neg (show ¬ (nI 12 : Int32) = 4 by decide), if_neg (show ¬ (nI 12 : Int32) = 5 by decide), if_neg (show ¬ (nI 12 : Int32) = 6 by decide), if_neg (show ¬ (nI 12 : Int32) = 7 by decide), if_neg (show ¬ (nI 12 : Int32) = 8 by decide), if_neg (show ¬ (nI 12 : Int32) = 9 by decide), if_neg (show ¬ (nI 12 : Int32) = 10 by decide), if_neg (show ¬ (nI 12 : Int32) = 11 by decide), a3, g1]
    rfl
  · exact g2
  · rcases List.mem_cons.mp hc with rfl | hc
    · trivial
    · exact g4 r c hc

theorem lx_6 (T : TH K pl V m) (hhi : hi ≤ 1200 ∧ 75 * fr ≤ lo ∧ hi ≤ 75 * fr + 600) {x y z : TR} {p b c e : Nat} (w1 : Wt K x (p + 1) b 0) (w2 : Wt K y (b + 1) c 0) (w3 : Wt K z (c + 1) e 0) (hem : e ≤ m) (i1 : LXh K pl V fu fr ft W lo hi rlo rhi ν x (p + 1) b) (i2 : LXh K pl V fu fr ft W lo hi rlo rhi ν y (b + 1) c) (i3 : LXh K pl V fu fr ft W lo hi rlo rhi ν z (c + 1) e) : LXh K pl V fu fr ft W lo hi rlo rhi ν (aIf p x y z) p e := by
  have l1 := Wt_lt w1
  have l2 := Wt_lt w2
  have l3 := Wt_lt w3
  refine LXh_of (by omega) hhi List.mem_cons_self (fun d S γ f hd hγ H o wo => ?_)
  obtain ⟨⟨⟨a1, a2, a3, a4⟩, b1, b2⟩, o2⟩ := fm_c.mp o
  obtain ⟨o2, o3⟩ := fm_a.mp o2
  obtain ⟨o3, o4⟩ := fm_a.mp o3
  obtain ⟨wo2, wo3⟩ := fm_a.mp (fm_c.mp wo).2
  obtain ⟨wo3, wo4⟩ := fm_a.mp wo3
  have b2 : ν p < hi := b2
  obtain ⟨d, rfl⟩ : ∃ d', d = d' + 1 := ⟨d - 1, by omega⟩
  obtain ⟨S1, g1, g2, g3, g4⟩ := LX_w T w1 (by omega) hhi (Wt_ms w1) i1 (d := d) (t := 2) (by omega) (by omega) (by omega) H o2 wo2
  obtain ⟨S2, u1, u2, u3, u4⟩ := i2 (d + 1) S1 γ _ (by omega) (by omega) g2 (OKs_fl g3 o3) wo3
  have g23 := FLk_trans g3 u3 (show p ≤ p + 1 by omega) (show b ≤ e by omega) (show p ≤ b + 1 by omega) (show c ≤ e by omega) (Nat.le_refl _) (Nat.le_refl _)
  have hty := tyk_lt (K := K) (tv V) tv_3 y
  obtain ⟨S3, v1, v2, v3, v4⟩ := LX_w T w3 hem hhi (Wt_ms w3) i3 (d := d) (t := tyk K (tv V) y) (by omega) (by omega) (by omega) u2 (OKs_fl g23 o4) wo4
  have e84 : S1.1 84 (ν p) = nI (ν (otk y)) := by rw [g3.1 84 (ν p) (by omega) (by omega) (fun _ => Or.inl (L81 a1 (by omega) (by omega))) (by omega) (by omega)]; exact a3
  have e85 : S2.1 85 (ν p) = nI (ν (otk z)) := by rw [g23.1 85 (ν p) (by omega) (by omega) (by omega) (by omega) (by omega)]; exact a4
  have e81 : ∀ (S' : im_S), FLk pl S S' p e γ.length → True := fun _ _ => trivial
  refine ⟨S3, ?_, ?_, FLk_trans g23 v3 (Nat.le_refl _) (Nat.le_refl _) (by omega) (Nat.le_refl _) (Nat.le_refl _) (Nat.le_refl _), fun r c' hc => ?_⟩
  · show f_X11_typed (rc_look fu (d + 1)) fu (nI (ν p)) S = some (nI (tyk K (tv V) y), S3)
    unfold f_X11_typed
    rw [mI_in (a := ν p) (n := 1200) (by omega) (by omega), nI_clamp (show ν p < 2 ^ 31 by omega), a1.1]
    simp only [gd_t]
    rw [if_neg (show ¬ (nI 6 : Int32) = 1 by decide), if_neg (show ¬ (nI 6 : Int32) = 2 by decide), if_neg (show ¬ (nI 6 : Int32) = 3 by decide), if_neg (show ¬ (nI 6 : Int32) = 4 by decide), if_neg (show ¬ (nI 6 : Int32) = 5 by decide), if_pos (show (nI 6 : Int32) = 6 from rfl), a2]
    have g1 : rc_look fu (d + 1) 2 (nI (ν (otk x))) 2 S = some (0, S1) := g1
    rw [g1]
    simp only [Option.bind_some]
    rw [e84, u1]
    simp only [Option.bind_some]
    rw [e85, v1]
    rfl
  · have e0 : min f (lfc K pl V ft (aIf p x y z) γ 0 [] []) = min (min (min f (min (lfc K pl V ft x γ 0 [] []) (ckX K pl V x 2))) (lfc K pl V ft y γ 0 [] [])) (min (lfc K pl V ft z γ 0 [] []) (ckX K pl V z (tyk K (tv V) y))) := by
      show min f (min (lfc K pl V ft x γ 0 [] []) (min (ckX K pl V x 2) (min (lfc K pl V ft y γ 0 [] []) (min (lfc K pl V ft z γ 0 [] []) (ckX K pl V z (tyk K (tv V) y)))))) = _
      ac_rfl
    rw [e0]
    exact v2
  · rcases List.mem_cons.mp hc with rfl | hc
    · trivial
    rcases List.mem_append.mp hc with hc | hc
    · exact BL_fl T w1 (OKs_fl g23 o2) v3 (Or.inl (by omega)) (by omega) hem (BL_fl T w1 (OKs_fl g3 o2) u3 (Or.inl (by omega)) (by omega) (by omega) g4) r c' hc
    rcases List.mem_append.mp hc with hc | hc
    · exact BL_fl T w2 (OKs_fl g23 o3) v3 (Or.inl (by omega)) (by omega) hem u4 _ c' hc
    · exact v4 _ c' hc

theorem lx_9 (T : TH K pl V m) (hhi : hi ≤ 1200 ∧ 75 * fr ≤ lo ∧ hi ≤ 75 * fr + 600) {x y : TR} {p j e : Nat} (w1 : Wt K x p j 0) (w2 : Wt K y (j + 1) e 0) (hem : e ≤ m) (hK : 1 ≤ stg (K j)) (i1 : LXh K pl V fu fr ft W lo hi rlo rhi ν x p j) (i2 : LXh K pl V fu fr ft W lo hi rlo rhi ν y (j + 1) e) : LXh K pl V fu fr ft W lo hi rlo rhi ν (aBin j x y) p e := by
  have l1 := Wt_lt w1
  have l2 := Wt_lt w2
  refine LXh_of (by omega) hhi List.mem_cons_self (fun d S γ f hd hγ H o wo => ?_)
  obtain ⟨⟨⟨a1, a2, a3, a4⟩, b1, b2⟩, o2⟩ := fm_c.mp o
  obtain ⟨o2, o3⟩ := fm_a.mp o2
  obtain ⟨wo2, wo3⟩ := fm_a.mp (fm_c.mp wo).2
  have b2 : ν j < hi := b2
  obtain ⟨d, rfl⟩ : ∃ d', d = d' + 1 := ⟨d - 1, by omega⟩
  have h86 : S.1 86 (ν j) = nI (K j) := a1.2.2.2.2.2 (Or.inr rfl)
  have ht : (if stg (K j) ≤ 2 then 2 else 1) < 100 := by split <;> omega
  obtain ⟨S1, g1, g2, g3, g4⟩ := LX_w T w1 (by omega) hhi (Wt_ms w1) i1 (d := d) ht (by omega) (by omega) H o2 wo2
  obtain ⟨S2, u1, u2, u3, u4⟩ := LX_w T w2 (by omega) hhi (Wt_ms w2) i2 (d := d) ht (by omega) (by omega) g2 (OKs_fl g3 o3) wo3
  have g23 := FLk_trans g3 u3 (Nat.le_refl p) (show j ≤ e by omega) (show p ≤ j + 1 by omega) (Nat.le_refl e) (Nat.le_refl _) (Nat.le_refl _)
  have e84 : S1.1 84 (ν j) = nI (ν (otk y)) := by rw [g3.1 84 (ν j) (by omega) (by omega) (fun _ => Or.inl (L81 a1 (by omega) (by omega))) (by omega) (by omega)]; exact a3
  have e86 : S2.1 86 (ν j) = nI (K j) := by rw [g23.1 86 (ν j) (by omega) (by omega) (by omega) (by omega) (by omega)]; exact h86
  have hcs : K j = 37 ∨ K j = 38 ∨ K j = 42 ∨ K j = 43 ∨ K j = 45 ∨ K j = 47 ∨ K j = 60 ∨ K j = 61 ∨ K j = 124 := by
    unfold stg at hK
    split at hK <;> rename_i q
    · omega
    repeat (split at hK <;> rename_i q; omega)
    omega
  refine ⟨S2, ?_, ?_, g23, fun r c' hc => ?_⟩
  · show f_X11_typed (rc_look fu (d + 1)) fu (nI (ν j)) S = some (nI (if stg (K j) ≤ 3 then 2 else 1), S2)
    unfold f_X11_typed
    rw [mI_in (a := ν j) (n := 1200) (by omega) (by omega), nI_clamp (show ν j < 2 ^ 31 by omega), a1.1]
    simp only [gd_t]
    rw [if_neg (show ¬ (nI 9 : Int32) = 1 by decide), if_neg (show ¬ (nI 9 : Int32) = 2 by decide), if_neg (show ¬ (nI 9 : Int32) = 3 by decide), if_neg (show ¬ (nI 9 : Int32) = 4 by decide), if_neg (show ¬ (nI 9 : Int32) = 5 by decide), if_neg (show ¬ (nI 9 : Int32) = 6 by decide), if_neg (show ¬ (nI 9 : Int32) = 7 by decide), if_neg (show ¬ (nI 9 : Int32) = 8 by decide), if_pos (show (nI 9 : Int32) = 9 from rfl), h86, a2]
    rcases hcs with q | q | q | q | q | q | q | q | q
    all_goals
      rw [q] at g1 u1 e86 ⊢
      first
        | (rw [if_pos (show (nI 124 : Int32) = 124 from rfl)]
           have g1 : rc_look fu (d + 1) 2 (nI (ν (otk x))) 2 S = some (0, S1) := g1
           have u1 : rc_look fu (d + 1) 2 (nI (ν (otk y))) 2 S1 = some (0, S2) := u1
           rw [g1]
           simp only [Option.bind_some]
           rw [e84, u1]
           rfl)
        | (rw [if_neg (by decide), if_neg (show ¬ (nI 38 : Int32) ≠ 38 from fun z => z rfl)]
           have g1 : rc_look fu (d + 1) 2 (nI (ν (otk x))) 2 S = some (0, S1) := g1
           have u1 : rc_look fu (d + 1) 2 (nI (ν (otk y))) 2 S1 = some (0, S2) := u1
           rw [g1]
           simp only [Option.bind_some]
           rw [e84, u1]
           rfl)
        | (rw [if_neg (by decide), if_pos (by decide)]
           have g1 : rc_look fu (d + 1) 2 (nI (ν (otk x))) 1 S = some (0, S1) := g1
           have u1 : rc_look fu (d + 1) 2 (nI (ν (otk y))) 1 S1 = some (0, S2) := u1
           rw [g1]
           simp only [Option.bind_some]
           rw [e84, u1]
           simp only [Option.bind_some]
           rw [e86]
           rfl)
  · have e0 : min f (lfc K pl V ft (aBin j x y) γ 0 [] []) = min (min f (min (lfc K pl V ft x γ 0 [] []) (ckX K pl V x (if stg (K j) ≤ 2 then 2 else 1)))) (min (lfc K pl V ft y γ 0 [] []) (ckX K pl V y (if stg (K j) ≤ 2 then 2 else 1))) := by
      show min f (min (lfc K pl V ft x γ 0 [] []) (min (ckX K pl V x (if stg (K j) ≤ 2 then 2 else 1)) (min (lfc K pl V ft y γ 0 [] []) (ckX K pl V y (if stg (K j) ≤ 2 then 2 else 1))))) = _
      ac_rfl
    rw [e0]
    exact u2
  · rcases List.mem_cons.mp hc with rfl | hc
    · trivial
    rcases List.mem_append.mp hc with hc | hc
    · exact BL_fl T w1 (OKs_fl g3 o2) u3 (Or.inl (by omega)) (by omega) hem g4 r c' hc
    · exact u4 _ c' hc

theorem lx_10 (T : TH K pl V m) (hhi : hi ≤ 1200 ∧ 75 * fr ≤ lo ∧ hi ≤ 75 * fr + 600) {x y : TR} {p j b : Nat} (w1 : Wt K x p j 0) (w2 : Wt K y (j + 1) b 0) (hem : b + 1 ≤ m) (i1 : LXh K pl V fu fr ft W lo hi rlo rhi ν x p j) (i2 : LXh K pl V fu fr ft W lo hi rlo rhi ν y (j + 1) b) : LXh K pl V fu fr ft W lo hi rlo rhi ν (aCel j x y) p (b + 1) := by
  have l1 := Wt_lt w1
  have l2 := Wt_lt w2
  refine LXh_of (by omega) hhi List.mem_cons_self (fun d S γ f hd hγ H o wo => ?_)
  obtain ⟨⟨⟨a1, a2, a3, a4⟩, b1, b2⟩, o2⟩ := fm_c.mp o
  obtain ⟨o2, o3⟩ := fm_a.mp o2
  obtain ⟨wo2, wo3⟩ := fm_a.mp (fm_c.mp wo).2
  have b2 : ν j < hi := b2
  obtain ⟨d, rfl⟩ : ∃ d', d = d' + 1 := ⟨d - 1, by omega⟩
  obtain ⟨S1, g1, g2, g3, g4⟩ := LX_w T w1 (by omega) hhi (Wt_ms w1) i1 (d := d) (t := 3) (by omega) (by omega) (by omega) H o2 wo2
  obtain ⟨S2, u1, u2, u3, u4⟩ := LX_w T w2 (by omega) hhi (Wt_ms w2) i2 (d := d) (t := 1) (by omega) (by omega) (by omega) g2 (OKs_fl g3 o3) wo3
  have g23 := FLk_trans g3 u3 (Nat.le_refl p) (show j ≤ b + 1 by omega) (show p ≤ j + 1 by omega) (show b ≤ b + 1 by omega) (Nat.le_refl _) (Nat.le_refl _)
  have e84 : S1.1 84 (ν j) = nI (ν (otk y)) := by rw [g3.1 84 (ν j) (by omega) (by omega) (fun _ => Or.inl (L81 a1 (by omega) (by omega))) (by omega) (by omega)]; exact a3
  refine ⟨S2, ?_, ?_, g23, fun r c' hc => ?_⟩
  · show f_X11_typed (rc_look fu (d + 1)) fu (nI (ν j)) S = some (nI 1, S2)
    unfold f_X11_typed
    rw [mI_in (a := ν j) (n := 1200) (by omega) (by omega), nI_clamp (show ν j < 2 ^ 31 by omega), a1.1]
    simp only [gd_t]
    rw [if_neg (show ¬ (nI 10 : Int32) = 1 by decide), if_neg (show ¬ (nI 10 : Int32) = 2 by decide), if_neg (show ¬ (nI 10 : Int32) = 3 by decide), if_neg (show ¬ (nI 10 : Int32) = 4 by decide), if_neg (show ¬ (nI 10 : Int32) = 5 by decide), if_neg (show ¬ (nI 10 : Int32) = 6 by decide), if_neg (show ¬ (nI 10 : Int32) = 7 by decide), if_neg (show ¬ (nI 10 : Int32) = 8 by decide), if_neg (show ¬ (nI 10 : Int32) = 9 by decide), if_pos (show (nI 10 : Int32) = 10 from rfl), a2]
    have g1 : rc_look fu (d + 1) 2 (nI (ν (otk x))) 3 S = some (0, S1) := g1
    have u1 : rc_look fu (d + 1) 2 (nI (ν (otk y))) 1 S1 = some (0, S2) := u1
    rw [g1]
    simp only [Option.bind_some]
    rw [e84, u1]
    rfl
  · have e0 : min f (lfc K pl V ft (aCel j x y) γ 0 [] []) = min (min f (min (lfc K pl V ft x γ 0 [] []) (ckX K pl V x 3))) (min (lfc K pl V ft y γ 0 [] []) (ckX K pl V y 1)) := by
      show min f (min (lfc K pl V ft x γ 0 [] []) (min (ckX K pl V x 3) (min (lfc K pl V ft y γ 0 [] []) (ckX K pl V y 1)))) = _
      ac_rfl
    rw [e0]
    exact u2
  · rcases List.mem_cons.mp hc with rfl | hc
    · trivial
    rcases List.mem_append.mp hc with hc | hc
    · exact BL_fl T w1 (OKs_fl g3 o2) u3 (Or.inl (by omega)) (by omega) (by omega) g4 r c' hc
    · exact u4 _ c' hc

end LKX
