/-! the class's parser: new nodes, templates, regions, known names -/
theorem im_ext {S1 S2 : im_S} (h1 : ∀ a j : Nat, S1.1 a j = S2.1 a j) (h2 : ∀ a j : Nat, S1.2.1 a j = S2.2.1 a j) (h3 : S1.2.2 = S2.2.2) : S1 = S2 := by
  obtain ⟨a, b, c⟩ := S1
  obtain ⟨a', b', c'⟩ := S2
  have e1 : a = a' := funext (fun x => funext (fun y => h1 x y))
  have e2 : b = b' := funext (fun x => funext (fun y => h2 x y))
  have e3 : c = c' := h3
  rw [e1, e2, e3]
theorem mvA_cm (S : im_S) (p n T sT w : Nat) (c t pp : Int32) (v : Int64) : mvS (adA (ad6 S p) n c t pp v) n T sT w = ad6 (mvS (adA S n c t pp v) n T sT w) p := by
  refine im_ext (fun a j => ?_) (fun a j => rfl) rfl
  unfold mvS adA ad6
  by_cases h3 : a = 3
  · subst h3
    simp only [uI_at, uJ_1]
    simp
  · simp only [uI_at, uJ_1, if_neg h3]
theorem ad_cm (S : im_S) (p n c : Nat) (t pp : Int32) (v : Int64) (R T sT : Nat) : adS (ad6 S p) n c t pp v R T sT = ad6 (adS S n c t pp v R T sT) p := by
  unfold adS
  rw [mvA_cm]
  by_cases hc : c = 1 ∨ c = 2 ∨ c = 8 ∨ c = 9
  · rw [if_pos hc, if_pos hc]
    refine im_ext (fun a j => ?_) (fun a j => rfl) rfl
    unfold ad6
    by_cases h3 : a = 3
    · subst h3
      simp only [uI_at]
      simp
    · simp only [uI_at, if_neg h3]
      simp
  · rw [if_neg hc, if_neg hc]
section CAD
variable {K pl : Nat → Nat} {V : Nat → Int64} {m : Nat} {S : im_S} {N M L : Nat → Nat} {pos dep sz n ρ τ B f : Nat} {γ : List Nat} {S0 : im_S} {n0 ρ0 τ0 sz0 kn0 R0 : Nat}
theorem Fr_ad {S S' : im_S} {n ρ τ sz kn R n1 c R1 T sT : Nat} {t p : Int32} {v : Int64} (h : Fr S S' n ρ τ sz kn R) (h1 : n ≤ n1) (h2 : R1 = R ∨ ρ ≤ R1) : Fr S (adS S' n1 c t p v R1 T sT) n ρ τ sz kn R := by
  obtain ⟨a1, a2, a3, a4, a5, a6, a7, a8⟩ := h
  refine ⟨fun x k u1 u2 u3 => ?_, fun k hk => ?_, fun r hr => ⟨?_, fun hR => ?_⟩, fun t ht => ?_, fun x i u1 u2 u3 => ?_, fun i hi => ?_, ?_, fun i => ⟨?_, ?_, ?_⟩⟩
  · rw [ad_ne (by omega)]; exact a1 x k u1 u2 u3
  · rw [ad_21, if_neg (by omega)]; exact a2 k hk
  · rw [ad_ne (by omega)]; exact (a3 r hr).1
  · rw [ad_ne (by omega)]; exact (a3 r hr).2 hR
  · rw [ad_ne (by omega)]; exact a4 t ht
  · rw [ad_ne (by omega)]; exact a5 x i u1 u2 u3
  · rw [ad_ne (by omega)]; exact a6 i hi
  · rw [ad_ne (by omega)]; exact a7
  · rw [ad_ne (by omega)]; exact (a8 i).1
  · rw [ad_ne (by omega)]; exact (a8 i).2.1
  · rw [ad_21, if_neg (by omega)]; exact (a8 i).2.2
/-- token pos makes a node -/
theorem Cz_add (T : TH K pl V m) (C : Cz K pl V m S0 n0 ρ0 τ0 sz0 kn0 R0 S N M L pos dep sz γ n ρ τ B f) (hp : pos < m) {c R T0 sT : Nat} {t p : Int32} {v : Int64} (hR0 : R = R0 ∨ ρ0 ≤ R) (hn0 : n0 ≤ n) (hT2 : T0 < τ) (hs : S.1 28 T0 = nI sT) (hs2 : sT < 2 ^ 30) (hB : B < 2 ^ 30) (hc : c < 100) :
    Cz K pl V m S0 n0 ρ0 τ0 sz0 kn0 R0 (ad6 (adS S n c t p v R T0 sT) (pos + 1)) (ex N pos (n + 1)) (ex M pos ρ) (ex L pos τ) (pos + 1) dep sz γ (n + 1) ρ τ (B + wk c) f := by
  obtain ⟨c1, c2, c3, c4, c5, c6⟩ := C
  have b := c1.bd
  have := T.lt_ hp
  have hg := (Gh_ex c2 (Nat.le_succ n) (Nat.le_refl ρ) (Nat.le_refl τ)).1
  have F := ad_f S n c t p v R T0 sT
  refine ⟨Pz_cp c1 (fun a j q => ?_) (fun j => ?_) (by omega) uI_eq ?_ ?_ ?_ (fun i _ => ?_) (fun b hb => ⟨ex_le (Nat.le_of_lt (c2.2.2.2.2 b hb).1), ?_⟩) ?_ ?_ ?_ (by omega), hg, SI_cp (SI_add (R := R) (t := t) (p := p) (v := v) c3 hB hT2 hs hs2 hc) (Nat.le_refl _) (fun t _ => uI_ne (by omega)) (fun r _ => uI_ne (by omega)) (fun t _ => uI_ne (by omega)) (fun x k q _ => uI_ne (by omega)), ?_, c5, Fr_uI (Fr_ad c6 hn0 hR0) (by unfold nFr; omega)⟩
  · unfold ad6; rw [uI_ne (by omega), ad_ne (by omega)]
  · show (adS S n c t p v R T0 sT).2.1 33 j = _; rw [ad_21, if_neg (by omega)]
  · unfold ad6; rw [uI_ne (by omega), ad_ne (by omega)]; exact c1.dp
  · unfold ad6; rw [uI_ne (by omega), ad_ne (by omega)]; exact c1.sz_
  · unfold ad6; rw [uI_ne (by omega), ad_ne (by omega)]
  · unfold ad6; rw [uI_ne (by omega), ad_ne (by omega)]
  · show (adS S n c t p v R T0 sT).2.1 21 (N b) = _
    have := (c2.2.2.2.2 b hb).2
    rw [ad_21, if_neg (by omega)]
  · unfold ad6; rw [uI_ne (by omega)]; exact F.1
  · unfold ad6; rw [uI_ne (by omega), ad_ne (by omega)]; exact c1.rr
  · unfold ad6; rw [uI_ne (by omega), ad_ne (by omega)]; exact c1.tt
  · unfold FS ad6
    rw [uI_ne (by omega), uI_ne (by omega), ad_ne (by omega), ad_ne (by omega)]
    exact c4
/-- the top of the open -/
def Tp (S : im_S) (sz k R : Nat) : Prop := 1 ≤ sz ∧ S.1 35 (sz - 1) = nI k ∧ k < 100 ∧ S.1 37 (sz - 1) = nI R
theorem c_addHere (T : TH K pl V m) (C : Cz K pl V m S0 n0 ρ0 τ0 sz0 kn0 R0 S N M L pos dep sz γ n ρ τ B f) {k R : Nat} (hTp : Tp S sz k R) (hR : R < ρ) (hB : B < 2 ^ 30) (c : Nat) (hc : c < 100) (t : Int32) (v : Int64) :
    ∃ T0 sT : Nat, S.1 27 R = nI T0 ∧ T0 < τ ∧ S.1 28 T0 = nI sT ∧ sT < 2 ^ 30 ∧ f_X7_addHere (nI c) t v S = some (nI n, ad6 (adS S n c t (nI (pl pos)) v R T0 sT) (pos + 1)) := by
  obtain ⟨c1, c2, c3, c4, c5, c6⟩ := C
  have b := c1.bd
  have hm := T.m_
  have hpm := c1.pm
  have hpl := T.pl_ hpm
  obtain ⟨T0, t1, t2⟩ := SI_tp c3 hR
  obtain ⟨sT, s1, s2⟩ := SI_get c3 t1
  refine ⟨T0, sT, t2, t1, s2, by omega, ?_⟩
  obtain ⟨h1, h2, h3, h4⟩ := hTp
  obtain ⟨sz', rfl⟩ : ∃ z, sz = z + 1 := ⟨sz - 1, by omega⟩
  rw [Nat.add_sub_cancel] at h2 h4
  unfold f_X7_addHere
  rw [c_place T c1]
  simp only [Option.bind_some]
  rw [c_topR c1.sz_ (by omega), h4]
  simp only [Option.bind_some]
  rw [c_add c1.nn (by omega) hc (by omega) t2 (by omega) s2]
  simp only [Option.bind_some]
  rw [ad_ne (by omega), c1.at_, show nI pos + 1 = nI (pos + 1) from nI_add pos 1]
  rfl
/-- a template -/
theorem Cz_at (C : Cz K pl V m S0 n0 ρ0 τ0 sz0 kn0 R0 S N M L pos dep sz γ n ρ τ B f) {d : Nat} (hd : d ≤ τ) (hτ0 : τ0 ≤ τ) (hb : τ + 1 ≤ pos) (hL : ∀ j, j < pos → L j ≤ τ) : Cz K pl V m S0 n0 ρ0 τ0 sz0 kn0 R0 (atS S τ (nI d)) N M (fun i => if i < pos then L i else τ + 1) pos dep sz γ n ρ (τ + 1) B f := by
  obtain ⟨c1, c2, c3, c4, c5, c6⟩ := C
  have b := c1.bd
  obtain ⟨g1, g2, g3, g4, g5⟩ := c2
  refine ⟨Pz_cp c1 (fun a j q => at_ne (by omega)) (fun j => rfl) c1.pm (by rw [at_ne (by omega)]; exact c1.at_) (by rw [at_ne (by omega)]; exact c1.dp) (by rw [at_ne (by omega)]; exact c1.sz_) (at_ne (by omega)) (fun i _ => at_ne (by omega)) (fun b hb => ⟨rfl, rfl⟩) (by rw [at_ne (by omega)]; exact c1.nn) (by rw [at_ne (by omega)]; exact c1.rr) (at_f S τ (nI d)).2.2 (by omega), ⟨g1, g2, if_neg (by omega), fun i j hi hj => ?_, g5⟩, SI_at c3 hd, ?_, c5, ?_⟩
  · have := g4 i j hi hj
    refine ⟨this.1, this.2.1, ?_⟩
    show (if i < pos then L i else τ + 1) ≤ (if j < pos then L j else τ + 1)
    by_cases e : j < pos
    · rw [if_pos (by omega), if_pos e]; exact this.2.2
    · rw [if_neg e]
      by_cases e2 : i < pos
      · rw [if_pos e2]; have := hL i e2; omega
      · rw [if_neg e2]; omega
  · unfold FS
    rw [at_ne (by omega), at_ne (by omega)]
    exact c4
  · unfold atS
    exact Fr_uI (Fr_uI (Fr_uI c6 (by unfold nFr; omega)) (by unfold nFr; omega)) (by unfold nFr; omega)
/-- a region -/
theorem Cz_ar (C : Cz K pl V m S0 n0 ρ0 τ0 sz0 kn0 R0 S N M L pos dep sz γ n ρ τ B f) {T0 : Nat} (hT : T0 < τ) (hρ0 : ρ0 ≤ ρ) (hb : ρ + 1 ≤ pl pos) (hL : ∀ j, j < pos → M j ≤ ρ) : Cz K pl V m S0 n0 ρ0 τ0 sz0 kn0 R0 (arS S ρ (nI T0)) N (fun i => if i < pos then M i else ρ + 1) L pos dep sz γ n (ρ + 1) τ B f := by
  obtain ⟨c1, c2, c3, c4, c5, c6⟩ := C
  have b := c1.bd
  obtain ⟨g1, g2, g3, g4, g5⟩ := c2
  refine ⟨Pz_cp c1 (fun a j q => rg_ne (by omega)) (fun j => rfl) c1.pm (by rw [rg_ne (by omega)]; exact c1.at_) (by rw [rg_ne (by omega)]; exact c1.dp) (by rw [rg_ne (by omega)]; exact c1.sz_) (rg_ne (by omega)) (fun i _ => rg_ne (by omega)) (fun b hb => ⟨rfl, rfl⟩) (by rw [rg_ne (by omega)]; exact c1.nn) (rg_f S ρ (nI T0)).2.2 (by rw [rg_ne (by omega)]; exact c1.tt) (by omega), ⟨g1, if_neg (by omega), g3, fun i j hi hj => ?_, g5⟩, SI_ar c3 hT, ?_, c5, ?_⟩
  · have := g4 i j hi hj
    refine ⟨this.1, ?_, this.2.2⟩
    show (if i < pos then M i else ρ + 1) ≤ (if j < pos then M j else ρ + 1)
    by_cases e : j < pos
    · rw [if_pos (by omega), if_pos e]; exact this.2.1
    · rw [if_neg e]
      by_cases e2 : i < pos
      · rw [if_pos e2]; have := hL i e2; omega
      · rw [if_neg e2]; omega
  · unfold FS
    rw [rg_ne (by omega), rg_ne (by omega)]
    exact c4
  · unfold arS
    exact Fr_uI (Fr_uI (Fr_uI c6 (by unfold nFr; omega)) (by unfold nFr; omega)) (by unfold nFr; omega)
/-- a variable moves -/
theorem Cz_mv (C : Cz K pl V m S0 n0 ρ0 τ0 sz0 kn0 R0 S N M L pos dep sz γ n ρ τ B f) {k T0 sT : Nat} (hk : k < n) (hk0 : n0 ≤ k) (hT : T0 < τ) (hs : S.1 28 T0 = nI sT) (hs2 : sT < 2 ^ 30) (hB : B < 2 ^ 30) (h7 : S.1 7 k = 3) : Cz K pl V m S0 n0 ρ0 τ0 sz0 kn0 R0 (mvS S k T0 sT 1) N M L pos dep sz γ n ρ τ (B + 1) f := by
  obtain ⟨c1, c2, c3, c4, c5, c6⟩ := C
  refine ⟨Pz_cp c1 (fun a j q => mv_ne (by omega)) (fun j => rfl) c1.pm (by rw [mv_ne (by omega)]; exact c1.at_) (by rw [mv_ne (by omega)]; exact c1.dp) (by rw [mv_ne (by omega)]; exact c1.sz_) (mv_ne (by omega)) (fun i _ => mv_ne (by omega)) (fun b hb => ⟨rfl, rfl⟩) (by rw [mv_ne (by omega)]; exact c1.nn) (by rw [mv_ne (by omega)]; exact c1.rr) (by rw [mv_ne (by omega)]; exact c1.tt) c1.bd, c2, SI_move c3 hB hT hs hs2 hk h7, ?_, c5, ?_⟩
  · unfold FS
    rw [mv_ne (by omega), mv_ne (by omega)]
    exact c4
  · unfold mvS
    exact Fr_uI (Fr_uI (Fr_uI c6 (by unfold nFr; omega)) (by unfold nFr; omega)) (by unfold nFr; omega)
/-- a name is known from now on -/
theorem Cz_know (C : Cz K pl V m S0 n0 ρ0 τ0 sz0 kn0 R0 S N M L pos dep sz γ n ρ τ B f) {b : Nat} (hb : b < pos) (hn : N b < n) (hV : S.2.1 21 (N b) = V b) (hl : γ.length + 1 ≤ pos) (hk0 : kn0 ≤ γ.length) (hn5 : n < 512) : Cz K pl V m S0 n0 ρ0 τ0 sz0 kn0 R0 (uI (uI S 4 γ.length (nI (N b))) 3 5 (nI (γ.length + 1))) N M L pos dep sz (b :: γ) n ρ τ B f := by
  obtain ⟨c1, c2, c3, c4, c5, c6⟩ := C
  have hbd := c1.bd
  refine ⟨⟨fun j hj => ?_, c1.pm, ?_, ?_, ?_, uI_eq, ⟨?_, hV, by omega, ?_⟩, ?_, ?_, ?_, by omega, by omega, hl, by omega, by omega⟩, Gh_mem c2 hb hn, SI_cp c3 (Nat.le_refl _) (fun t _ => by rw [uI_ne (by omega), uI_ne (by omega)]) (fun r _ => by rw [uI_ne (by omega), uI_ne (by omega)]) (fun t _ => by rw [uI_ne (by omega), uI_ne (by omega)]) (fun x k q _ => by rw [uI_ne (by omega), uI_ne (by omega)]), ?_, c5, Fr_uI (Fr_uI c6 (by unfold nFr; omega)) (by unfold nFr; omega)⟩
  · rw [uI_ne (by omega), uI_ne (by omega), uI_ne (by omega), uI_ne (by omega)]; exact c1.ct j hj
  · rw [uI_ne (by omega), uI_ne (by omega)]; exact c1.at_
  · rw [uI_ne (by omega), uI_ne (by omega)]; exact c1.dp
  · rw [uI_ne (by omega), uI_ne (by omega)]; exact c1.sz_
  · rw [uI_ne (by omega), uI_eq]
  · exact KN_cp (S := S) (N := N) γ (fun i hi => by rw [uI_ne (by omega), uI_ne (by omega)]) (fun b _ => ⟨rfl, rfl⟩) c1.KN_
  · rw [uI_ne (by omega), uI_ne (by omega)]; exact c1.nn
  · rw [uI_ne (by omega), uI_ne (by omega)]; exact c1.rr
  · rw [uI_ne (by omega), uI_ne (by omega)]; exact c1.tt
  · unfold FS
    rw [uI_ne (by omega), uI_ne (by omega), uI_ne (by omega), uI_ne (by omega)]
    exact c4
theorem c_know {S : im_S} {k v : Nat} (h : S.1 3 5 = nI k) (hk : k < 512) : f_X7_know (nI v) S = some ((), uI (uI S 4 k (nI v)) 3 5 (nI (k + 1))) := by
  unfold f_X7_know
  rw [h, mI_in (a := k) (n := 512) (by omega) hk, nI_clamp (by omega), show nI k + 1 = nI (k + 1) from nI_add k 1]
  rfl
theorem KN_tl : ∀ (δ γ : List Nat), KN V S N (δ ++ γ) → KN V S N γ := by
  intro δ
  induction δ with
  | nil => intro γ h; exact h
  | cons b δ ih => intro γ h; exact ih γ h.2.2.2
/-- names are forgotten -/
theorem Cz_fgt {δ : List Nat} (C : Cz K pl V m S0 n0 ρ0 τ0 sz0 kn0 R0 S N M L pos dep sz (δ ++ γ) n ρ τ B f) : Cz K pl V m S0 n0 ρ0 τ0 sz0 kn0 R0 (uI S 3 5 (nI γ.length)) N M L pos dep sz γ n ρ τ B f := by
  obtain ⟨c1, c2, c3, c4, c5, c6⟩ := C
  have hbd := c1.bd
  rw [List.length_append] at hbd
  refine ⟨⟨fun j hj => ?_, c1.pm, ?_, ?_, ?_, uI_eq, ?_, ?_, ?_, ?_, by omega, by omega, by omega, by omega, by omega⟩, Gh_sub c2 (fun b hb => List.mem_append_right _ hb), SI_cp c3 (Nat.le_refl _) (fun t _ => uI_ne (by omega)) (fun r _ => uI_ne (by omega)) (fun t _ => uI_ne (by omega)) (fun x k q _ => uI_ne (by omega)), ?_, c5, Fr_uI c6 (by unfold nFr; omega)⟩
  · rw [uI_ne (by omega), uI_ne (by omega)]; exact c1.ct j hj
  · rw [uI_ne (by omega)]; exact c1.at_
  · rw [uI_ne (by omega)]; exact c1.dp
  · rw [uI_ne (by omega)]; exact c1.sz_
  · exact KN_cp γ (fun i hi => uI_ne (by omega)) (fun b _ => ⟨rfl, rfl⟩) (KN_tl δ γ c1.KN_)
  · rw [uI_ne (by omega)]; exact c1.nn
  · rw [uI_ne (by omega)]; exact c1.rr
  · rw [uI_ne (by omega)]; exact c1.tt
  · unfold FS
    rw [uI_ne (by omega), uI_ne (by omega)]
    exact c4
/-- the base of what is kept may be moved -/
theorem Cz_base (C : Cz K pl V m S0 n0 ρ0 τ0 sz0 kn0 R0 S N M L pos dep sz γ n ρ τ B f) {sz1 kn1 R1 : Nat} : Cz K pl V m S n ρ τ sz1 kn1 R1 S N M L pos dep sz γ n ρ τ B f := ⟨C.1, C.2.1, C.2.2.1, C.2.2.2.1, C.2.2.2.2.1, Fr_refl S n ρ τ sz1 kn1 R1⟩
theorem Cz_tr {S1 : im_S} {n1 ρ1 τ1 sz1 kn1 R1 : Nat} (F : Fr S0 S1 n0 ρ0 τ0 sz0 kn0 R0) (C : Cz K pl V m S1 n1 ρ1 τ1 sz1 kn1 R1 S N M L pos dep sz γ n ρ τ B f) (h1 : n0 ≤ n1) (h2 : ρ0 ≤ ρ1) (h3 : τ0 ≤ τ1) (h4 : sz0 ≤ sz1) (h5 : kn0 ≤ kn1) (h6 : R1 = R0 ∨ ρ0 ≤ R1) : Cz K pl V m S0 n0 ρ0 τ0 sz0 kn0 R0 S N M L pos dep sz γ n ρ τ B f := ⟨C.1, C.2.1, C.2.2.1, C.2.2.2.1, C.2.2.2.2.1, Fr_trans F C.2.2.2.2.2 h1 h2 h3 h4 h5 h6⟩
theorem Cz_B {B' : Nat} (C : Cz K pl V m S0 n0 ρ0 τ0 sz0 kn0 R0 S N M L pos dep sz γ n ρ τ B f) (h : B ≤ B') : Cz K pl V m S0 n0 ρ0 τ0 sz0 kn0 R0 S N M L pos dep sz γ n ρ τ B' f := ⟨C.1, C.2.1, SI_cp C.2.2.1 h (fun _ _ => rfl) (fun _ _ => rfl) (fun _ _ => rfl) (fun _ _ _ _ => rfl), C.2.2.2.1, C.2.2.2.2.1, C.2.2.2.2.2⟩
end CAD
