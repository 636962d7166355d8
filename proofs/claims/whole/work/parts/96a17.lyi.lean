/-! the reference lays regions: tab and if -/
section LYI
variable {K pl : Nat → Nat} {V : Nat → Int64} {m fu : Nat} {lo hi rlo rhi : Nat} {ν ρ : Nat → Nat}
theorem LyG_putT {S Tt : im_S} {r n j : Nat} {l : List Nat} {x : TR} (hx : otk x = j) (hk : ν j < 1200) (hr : r < 640) (h40 : S.1 75 40 = nI n) (hT : ∀ a i : Nat, (a < 110 ∨ 112 < a ∨ i ≠ ν j) → Tt.1 a i = S.1 a i) (hJ : Tt.2.1 = S.2.1) (h : RgL S r l) (hl : ¬ ν j ∈ l) (hlen : l.length < 1200) (hi : IN Tt ν ρ x) : ∃ S' : im_S, lpT (nI (ν j)) (nI r) Tt S = some ((), S') ∧ LyG S S' ν ρ (fun i => i = ν j) r n l [j] [] [x] := by
  obtain ⟨S', p1, p2, p3, p4, p5, p6⟩ := LyG_put (ρ := ρ) (n := n) hx hk hr (by rw [hT 75 40 (by omega)]; exact h40) (fun a i u1 u2 => hT a i (by omega)) h hl hlen hi
  refine ⟨S', p1, p2, ⟨fun a i q1 q2 q3 q4 q5 => ?_, p3.2.trans hJ⟩, p4, p5, p6⟩
  rw [p3.1 a i q1 q2 q3 q4 q5]
  refine hT a i ?_
  by_cases ha : 110 ≤ a ∧ a ≤ 112
  · exact Or.inr (Or.inr (q2 (Or.inr (Or.inr ha))))
  · omega
theorem ly_11 {x y : TR} {p b e : Nat} (w1 : Wt K x (p + 5) b 0) (w2 : Wt K y (b + 2) e 0) (hhi : hi ≤ 1200) (ih1 : LyH K pl V fu lo hi rlo rhi ν ρ x (p + 5) b) (ih2 : LyH K pl V fu lo hi rlo rhi ν ρ y (b + 2) e) : LyH K pl V fu lo hi rlo rhi ν ρ (aTab p x y) p e := by
  intro d S r n l hd h1 hr hn hρ h40 o hI hl hle
  have l1 := Wt_lt w1
  have l2 := Wt_lt w2
  have hX : aTab p x y ∈ sbs (aTab p x y) := List.mem_cons_self
  have hx : ∀ z, z ∈ sbs x → z ∈ sbs (aTab p x y) := fun z hz => List.mem_cons_of_mem _ (List.mem_append_left _ hz)
  have hy : ∀ z, z ∈ sbs y → z ∈ sbs (aTab p x y) := fun z hz => List.mem_cons_of_mem _ (List.mem_append_right _ hz)
  have hnx : ∀ z, z ∈ sbs x → otk z ≠ otk (aTab p x y) := fun z hz => by have := sbs_in w1 z hz; show otk z ≠ p; omega
  have hny : ∀ z, z ∈ sbs y → otk z ≠ otk (aTab p x y) := fun z hz => by have := sbs_in w2 z hz; show otk z ≠ p; omega
  have hxy : ∀ a, a ∈ sbs x → ∀ b, b ∈ sbs y → otk b ≠ otk a := fun a ha b hb => by have := sbs_in w1 a ha; have := sbs_in w2 b hb; omega
  have nx := nd_S w1
  have ny := nd_S w2
  obtain ⟨⟨o1, f2, f3, -⟩, o2, o3⟩ := o _ hX
  have o3 : ν p < hi := o3
  have hn : n + (rgs x ++ ((4 * p, nds y, some (otk y)) :: rgs y)).length ≤ 640 := hn
  have hρ : mpR ρ (rgs x ++ ((4 * p, nds y, some (otk y)) :: rgs y)) n := hρ
  rw [List.length_append] at hn
  have hn : n + ((rgs x).length + ((rgs y).length + 1)) ≤ 640 := hn
  obtain ⟨m1, m2⟩ := mpR_app hρ
  obtain ⟨d, rfl⟩ : ∃ d', d = d' + 2 := ⟨d - 2, by omega⟩
  obtain ⟨S1, a1, a2⟩ := ih1 (d + 1) S r n l (by omega) h1 hr (by omega) m1 h40 (fun z hz => o z (hx z hz)) (InS_sub hI hx) (fun k hk z => hl k hk (tk_sub hx k z)) (by omega)
  have hly := l_app hI nx hx hy hxy hl
  obtain ⟨S2, b1, b2⟩ := ly_open w2 hhi ih2 (d := d) (c := 4 * p) (by omega) a2.1 (by omega) (by omega) m2 a2.2.2.1 (OKs_ly a2.2.1 (fun z hz => o z (hy z hz))) (InS_sub hI hy) hly (by omega)
  have c12 := LyG_comp (T := tkT ν (aTab p x y)) a2 b2 m1 (tk_sub hx) (tk_sub hy) (fun a ha => tk_ne hI hy (hx a ha) (hxy a ha)) (nd_T nx) (fun g hg t ht => by
    obtain ⟨a, ha, rfl⟩ := nx.2.1 g hg t ht
    exact tk_ne hI hy (hx a ha) (hxy a ha)) hr (by omega)
  rw [List.append_nil] at c12
  have hT : tkT ν (aTab p x y) (ν p) := ⟨_, hX, rfl⟩
  have hlen : (l ++ (nds x).map ν).length < 1200 := by rw [List.length_append, List.length_map]; have := nx.2.2.1; omega
  have hown : ∀ z, z ∈ sbs x ++ sbs y → ¬ ν (otk z) = ν p := fm_a.mpr ⟨tk_own hI hx hX hnx, tk_own hI hy hX hny⟩
  obtain ⟨hm1, hm2⟩ := mpR_cons m2
  obtain ⟨S', p1', p2'⟩ := LyG_putT (ρ := ρ) (S := S2) (Tt := uI S2 110 (ν p) (nI (n + (rgs x).length))) (x := aTab p x y) (j := p) rfl (show ν p < 1200 by omega) (show r < 640 by omega) c12.2.2.1 (fun a i u => uI_ne (by omega)) rfl c12.1 (fun z => by
    rcases List.mem_append.mp z with z | z
    · exact hl _ z hT
    · obtain ⟨t, ht, hq⟩ := List.mem_map.mp z
      obtain ⟨y', hy', rfl⟩ := nx.1 t ht
      exact tk_own hI hx hX hnx y' hy' hq) hlen (by show (uI S2 110 (ν p) (nI (n + (rgs x).length))).1 110 (ν p) = nI (ρ (4 * p)); rw [uI_eq, ← hm1])
  refine ⟨S', ?_, LyG_wk (LyG_comp (T := tkT ν (aTab p x y)) c12 p2' hρ (fun i z => z) (fun i z => ⟨_, hX, z⟩) hown (fun t ht => tk_sub hx _ (nd_T nx t ht)) (fm_a.mpr ⟨fun g hg t ht => ?_, fm_c.mpr ⟨fun t ht => ?_, fun g hg t ht => ?_⟩⟩) hr (by rw [List.length_append]; show n + ((rgs x).length + ((rgs y).length + 1)) ≤ 640; omega)) (fun i z => z) (fun z hz => ?_) rfl (by rw [List.append_nil]; rfl)⟩
  · rw [rcl0, lay_eq, if_pos (nI_m1 (show ν (otk (aTab p x y)) < 2 ^ 31 by show ν p < 2 ^ 31; omega))]
    show (gd (in_b (nI (ν p)) 1200) _).bind _ = _
    rw [mI_in (a := ν p) (n := 1200) (by omega) (by omega), show (nI (ν (otk (aTab p x y)))).toNatClampNeg = ν p from nI_clamp (show ν p < 2 ^ 31 by omega), o1.1]
    have e0 : lpB (rc_lay fu (d + 1)) (nI (ν p)) (nI r) S = some ((), S') := by
      unfold lpB
      rw [mI_in (a := ν p) (n := 1200) (by omega) (by omega), nI_clamp (show ν p < 2 ^ 31 by omega), f2, a1]
      simp only [gd_t, Option.bind_some]
      rw [a2.2.1.1 84 _ (by omega) (by omega) (by omega) (by omega) (by omega), f3, b1]
      simp only [Option.bind_some]
      exact p1'
    show (lpB (rc_lay fu (d + 1)) (nI (ν p)) (nI r) S).bind _ = _
    rw [e0]
    rfl
  · obtain ⟨z, hz, rfl⟩ := nx.2.1 g hg t ht
    exact tk_own hI hx hX hnx z hz
  · obtain ⟨z, hz, rfl⟩ := ny.1 t ht
    exact tk_own hI hy hX hny z hz
  · obtain ⟨z, hz, rfl⟩ := ny.2.1 g hg t ht
    exact tk_own hI hy hX hny z hz
  · rcases List.mem_cons.mp hz with rfl | hz
    · exact List.mem_append_right _ List.mem_cons_self
    · exact List.mem_append_left _ hz
set_option maxHeartbeats 1000000 in
theorem ly_6 {x y z : TR} {p b c e : Nat} (w1 : Wt K x (p + 1) b 0) (w2 : Wt K y (b + 1) c 0) (w3 : Wt K z (c + 1) e 0) (hhi : hi ≤ 1200) (ih1 : LyH K pl V fu lo hi rlo rhi ν ρ x (p + 1) b) (ih2 : LyH K pl V fu lo hi rlo rhi ν ρ y (b + 1) c) (ih3 : LyH K pl V fu lo hi rlo rhi ν ρ z (c + 1) e) : LyH K pl V fu lo hi rlo rhi ν ρ (aIf p x y z) p e := by
  intro d S r n l hd h1 hr hn hρ h40 o hI hl hle
  have l1 := Wt_lt w1
  have l2 := Wt_lt w2
  have l3 := Wt_lt w3
  have hX : aIf p x y z ∈ sbs (aIf p x y z) := List.mem_cons_self
  have hx : ∀ u, u ∈ sbs x → u ∈ sbs (aIf p x y z) := fun u hu => List.mem_cons_of_mem _ (List.mem_append_left _ hu)
  have hy : ∀ u, u ∈ sbs y → u ∈ sbs (aIf p x y z) := fun u hu => List.mem_cons_of_mem _ (List.mem_append_right _ (List.mem_append_left _ hu))
  have hz : ∀ u, u ∈ sbs z → u ∈ sbs (aIf p x y z) := fun u hu => List.mem_cons_of_mem _ (List.mem_append_right _ (List.mem_append_right _ hu))
  have hnx : ∀ u, u ∈ sbs x → otk u ≠ otk (aIf p x y z) := fun u hu => by have := sbs_in w1 u hu; show otk u ≠ p; omega
  have hny : ∀ u, u ∈ sbs y → otk u ≠ otk (aIf p x y z) := fun u hu => by have := sbs_in w2 u hu; show otk u ≠ p; omega
  have hnz : ∀ u, u ∈ sbs z → otk u ≠ otk (aIf p x y z) := fun u hu => by have := sbs_in w3 u hu; show otk u ≠ p; omega
  have hxy : ∀ a, a ∈ sbs x → ∀ b, b ∈ sbs y → otk b ≠ otk a := fun a ha b hb => by have := sbs_in w1 a ha; have := sbs_in w2 b hb; omega
  have hxz : ∀ a, a ∈ sbs x → ∀ b, b ∈ sbs z → otk b ≠ otk a := fun a ha b hb => by have := sbs_in w1 a ha; have := sbs_in w3 b hb; omega
  have hyz : ∀ a, a ∈ sbs y → ∀ b, b ∈ sbs z → otk b ≠ otk a := fun a ha b hb => by have := sbs_in w2 a ha; have := sbs_in w3 b hb; omega
  have nx := nd_S w1
  have ny := nd_S w2
  have nz := nd_S w3
  obtain ⟨⟨o1, f2, f3, f4⟩, o2, o3⟩ := o _ hX
  have o3 : ν p < hi := o3
  have hn : n + (rgs x ++ (((4 * p, nds y, some (otk y)) :: rgs y) ++ ((4 * p + 1, nds z, some (otk z)) :: rgs z))).length ≤ 640 := hn
  have hρ : mpR ρ (rgs x ++ (((4 * p, nds y, some (otk y)) :: rgs y) ++ ((4 * p + 1, nds z, some (otk z)) :: rgs z))) n := hρ
  rw [List.length_append, List.length_append] at hn
  have hn : n + ((rgs x).length + ((rgs y).length + 1 + ((rgs z).length + 1))) ≤ 640 := hn
  obtain ⟨m1, m23⟩ := mpR_app hρ
  obtain ⟨m2, m3⟩ := mpR_app m23
  have m12 : mpR ρ (rgs x ++ ((4 * p, nds y, some (otk y)) :: rgs y)) n := by
    have := hρ
    rw [← List.append_assoc] at this
    exact (mpR_app this).1
  obtain ⟨d, rfl⟩ : ∃ d', d = d' + 2 := ⟨d - 2, by omega⟩
  obtain ⟨S1, a1, a2⟩ := ih1 (d + 1) S r n l (by omega) h1 hr (by omega) m1 h40 (fun u hu => o u (hx u hu)) (InS_sub hI hx) (fun k hk q => hl k hk (tk_sub hx k q)) (by omega)
  obtain ⟨S2, b1, b2⟩ := ly_open w2 hhi ih2 (d := d) (c := 4 * p) (by omega) a2.1 (by omega) (by omega) m2 a2.2.2.1 (OKs_ly a2.2.1 (fun u hu => o u (hy u hu))) (InS_sub hI hy) (l_app hI nx hx hy hxy hl) (by omega)
  have c12 := LyG_comp (T := tkT ν (aIf p x y z)) a2 b2 m1 (tk_sub hx) (tk_sub hy) (fun a ha => tk_ne hI hy (hx a ha) (hxy a ha)) (nd_T nx) (fun g hg t ht => by
    obtain ⟨a, ha, rfl⟩ := nx.2.1 g hg t ht
    exact tk_ne hI hy (hx a ha) (hxy a ha)) hr (by omega)
  rw [List.append_nil] at c12
  have hl12 : (rgs x ++ ((4 * p, nds y, some (otk y)) :: rgs y)).length = (rgs x).length + ((rgs y).length + 1) := by rw [List.length_append]; rfl
  have hT : tkT ν (aIf p x y z) (ν p) := ⟨_, hX, rfl⟩
  have hnds : ∀ t, t ∈ nds x → tkT ν (aIf p x y z) (ν t) := fun t ht => tk_sub hx _ (nd_T nx t ht)
  have hown : ∀ u, u ∈ sbs x ++ sbs y → ¬ ν (otk u) = ν p := fm_a.mpr ⟨tk_own hI hx hX hnx, tk_own hI hy hX hny⟩
  have hrg2 : ∀ (T2 : Nat → Prop), (∀ u, u ∈ sbs x → ¬ T2 (ν (otk u))) → (∀ u, u ∈ sbs y → ¬ T2 (ν (otk u))) → ∀ g, g ∈ rgs x ++ ((4 * p, nds y, some (otk y)) :: rgs y) → ∀ t, t ∈ g.2.1 → ¬ T2 (ν t) := fun T2 g1 g2 => fm_a.mpr ⟨fun g hg t ht => by
    obtain ⟨u, hu, rfl⟩ := nx.2.1 g hg t ht
    exact g1 u hu, fm_c.mpr ⟨fun t ht => by
    obtain ⟨u, hu, rfl⟩ := ny.1 t ht
    exact g2 u hu, fun g hg t ht => by
    obtain ⟨u, hu, rfl⟩ := ny.2.1 g hg t ht
    exact g2 u hu⟩⟩
  obtain ⟨hm1, -⟩ := mpR_cons m2
  obtain ⟨hm2, -⟩ := mpR_cons m3
  have cu := LyG_comp (T := tkT ν (aIf p x y z)) c12 (LyG_uI (ν := ν) (ρ := ρ) (a := 110) (k := ν p) (v := nI (n + (rgs x).length)) (by omega) c12.2.2.1 c12.1) m12 (fun i q => q) (fun i q => ⟨_, hX, q⟩) hown hnds (hrg2 (fun i => i = ν p) (fun u hu => hown u (List.mem_append_left _ hu)) (fun u hu => hown u (List.mem_append_right _ hu))) hr (by rw [hl12]; omega)
  rw [List.append_nil, List.append_nil, List.append_nil] at cu
  have oz : OKs K pl V (uI S2 110 (ν p) (nI (n + (rgs x).length))) lo hi rlo rhi ν z := OKs_ly cu.2.1 (fun u hu => o u (hz u hu))
  obtain ⟨S3, d1, d2⟩ := ly_open w3 hhi ih3 (d := d) (c := 4 * p + 1) (by omega) cu.1 (by omega) (by rw [hl12]; omega) (by rw [hl12, ← Nat.add_assoc]; exact m3) cu.2.2.1 oz (InS_sub hI hz) (l_app hI nx hx hz hxz hl) (by omega)
  have c123 := LyG_comp (T := tkT ν (aIf p x y z)) cu d2 m12 (fun i q => q) (tk_sub hz) (fm_a.mpr ⟨fun a ha => tk_ne hI hz (hx a ha) (hxz a ha), fun a ha => tk_ne hI hz (hy a ha) (hyz a ha)⟩) hnds (hrg2 (tkT ν z) (fun a ha => tk_ne hI hz (hx a ha) (hxz a ha)) (fun a ha => tk_ne hI hz (hy a ha) (hyz a ha))) hr (by rw [hl12]; omega)
  rw [List.append_nil] at c123
  have hlen : (l ++ (nds x).map ν).length < 1200 := by rw [List.length_append, List.length_map]; have := nx.2.2.1; omega
  have k110 : S3.1 110 (ν p) = nI (ρ (4 * p)) := by
    rw [d2.2.1.1 110 (ν p) (by omega) (fun _ => tk_ne hI hz hX hnz) (by omega) (by omega) (by omega), uI_eq, ← hm1]
  obtain ⟨S', p1', p2'⟩ := LyG_putT (ρ := ρ) (S := S3) (Tt := uI S3 111 (ν p) (nI (n + (rgs x ++ ((4 * p, nds y, some (otk y)) :: rgs y)).length))) (x := aIf p x y z) (j := p) rfl (show ν p < 1200 by omega) (show r < 640 by omega) c123.2.2.1 (fun a i u => uI_ne (by omega)) rfl c123.1 (fun q => by
    rcases List.mem_append.mp q with q | q
    · exact hl _ q hT
    · obtain ⟨t, ht, hq⟩ := List.mem_map.mp q
      obtain ⟨u, hu, rfl⟩ := nx.1 t ht
      exact tk_own hI hx hX hnx u hu hq) hlen ⟨by rw [uI_ne (by omega)]; exact k110, by rw [uI_eq, hl12, show ρ (4 * p + 1) = n + ((rgs x).length + ((rgs y).length + 1)) from hm2.trans (Nat.add_assoc _ _ _)]⟩
  refine ⟨S', ?_, LyG_wk (LyG_comp (T := tkT ν (aIf p x y z)) c123 p2' (by rw [List.append_assoc]; exact hρ) (fun i q => q) (fun i q => ⟨_, hX, q⟩) (fm_a.mpr ⟨hown, tk_own hI hz hX hnz⟩) hnds (fm_a.mpr ⟨hrg2 (fun i => i = ν p) (fun u hu => hown u (List.mem_append_left _ hu)) (fun u hu => hown u (List.mem_append_right _ hu)), fm_c.mpr ⟨fun t ht => ?_, fun g hg t ht => ?_⟩⟩) hr (by rw [List.length_append, hl12]; show n + ((rgs x).length + ((rgs y).length + 1) + ((rgs z).length + 1)) ≤ 640; omega)) (fun i q => q) (fun u hu => ?_) rfl (by rw [List.append_nil, List.append_assoc]; rfl)⟩
  · rw [rcl0, lay_eq, if_pos (nI_m1 (show ν (otk (aIf p x y z)) < 2 ^ 31 by show ν p < 2 ^ 31; omega))]
    show (gd (in_b (nI (ν p)) 1200) _).bind _ = _
    rw [mI_in (a := ν p) (n := 1200) (by omega) (by omega), show (nI (ν (otk (aIf p x y z)))).toNatClampNeg = ν p from nI_clamp (show ν p < 2 ^ 31 by omega), o1.1]
    have e0 : lpI (rc_lay fu (d + 1)) (nI (ν p)) (nI r) S = some ((), S') := by
      unfold lpI
      rw [mI_in (a := ν p) (n := 1200) (by omega) (by omega), nI_clamp (show ν p < 2 ^ 31 by omega), f2, a1]
      simp only [gd_t, Option.bind_some]
      rw [a2.2.1.1 84 _ (by omega) (by omega) (by omega) (by omega) (by omega), f3, b1]
      simp only [Option.bind_some]
      rw [c12.2.1.1 85 _ (by omega) (by omega) (by omega) (by omega) (by omega), f4, d1]
      simp only [Option.bind_some]
      exact p1'
    show (lpI (rc_lay fu (d + 1)) (nI (ν p)) (nI r) S).bind _ = _
    rw [e0]
    rfl
  · obtain ⟨u, hu, rfl⟩ := nz.1 t ht
    exact tk_own hI hz hX hnz u hu
  · obtain ⟨u, hu, rfl⟩ := nz.2.1 g hg t ht
    exact tk_own hI hz hX hnz u hu
  · rcases List.mem_cons.mp hu with rfl | hu
    · exact List.mem_append_right _ List.mem_cons_self
    rcases List.mem_append.mp hu with hu | hu
    · exact List.mem_append_left _ (List.mem_append_left _ (List.mem_append_left _ hu))
    rcases List.mem_append.mp hu with hu | hu
    · exact List.mem_append_left _ (List.mem_append_left _ (List.mem_append_right _ hu))
    · exact List.mem_append_left _ (List.mem_append_right _ hu)
end LYI
