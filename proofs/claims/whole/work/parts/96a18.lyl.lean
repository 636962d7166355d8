/-! the reference lays regions: lists, calls, loops -/
def LyL (K pl : Nat → Nat) (V : Nat → Int64) (fu lo hi rlo rhi : Nat) (ν ρ : Nat → Nat) (as : TR) (p e : Nat) : Prop := ∀ (d r cnt i0 : Nat) (F : Nat → Nat → im_S → Option (Unit × im_S)) (E : im_S → Option (Unit × im_S)) (Good : im_S → Prop), (∀ nf i S, Good S → i ≤ cnt → (cnt ≤ i ∨ i0 + i < 1200) → F (nf + 1) i S = if cnt ≤ i then E S else (rc_lay fu d 0 (S.1 95 (i0 + i)) (nI r) S).bind (fun q => F nf (i + 1) q.2)) → (∀ S S' l n, FLy S S' (tkT ν as) l r n → Good S → Good S') → 2 * (e - p) ≤ d → ∀ (S : im_S) (n : Nat) (l : List Nat) (i nf : Nat), Good S → RgL S r l → r < n → n + (rgs as).length ≤ 640 → mpR ρ (rgs as) n → S.1 75 40 = nI n → OKs K pl V S lo hi rlo rhi ν as → InS ν as → (∀ k, k ∈ l → ¬ tkT ν as k) → l.length + (e - p) ≤ 1000 → RwA S rlo rhi ν as (i0 + i) → i + tln as = cnt → tln as < nf → ∃ S' : im_S, F nf i S = E S' ∧ LyG S S' ν ρ (tkT ν as) r n l (nds as) (rgs as) (sbs as)
section LYL
variable {K pl : Nat → Nat} {V : Nat → Int64} {m fu : Nat} {lo hi rlo rhi : Nat} {ν ρ : Nat → Nat}
theorem FLy_T {S S' : im_S} {T T1 : Nat → Prop} {l : List Nat} {r n : Nat} (F : FLy S S' T1 l r n) (h : ∀ i, T1 i → T i) : FLy S S' T l r n := ⟨fun a i q1 q2 q3 q4 q5 => F.1 a i q1 (fun z u => q2 z (h i u)) (fun z => ⟨fun u => (q3 z).1 (h i u), (q3 z).2⟩) q4 q5, F.2⟩
theorem ll_nil (p e : Nat) : LyL K pl V fu lo hi rlo rhi ν ρ .nil p e := by
  intro d r cnt i0 F E Good hF hG hd S n l i nf g h1 hr hn hρ h40 o hI hl hle rw_ hi hnf
  have hi : i + 0 = cnt := hi
  obtain ⟨nf, rfl⟩ : ∃ z, nf = z + 1 := ⟨nf - 1, by omega⟩
  refine ⟨S, ?_, ?_, FLy_refl _ _ _ _ _, h40, fun g hg => absurd hg List.not_mem_nil, fun y hy => absurd hy List.not_mem_nil⟩
  · rw [hF nf i S g (by omega) (Or.inl (by omega)), if_pos (by omega)]
  · show RgL S r (l ++ [])
    rw [List.append_nil]; exact h1
theorem ll_cons {x as : TR} {p p1 b b2 e : Nat} (w1 : Wt K x p1 b 0) (hrh : rhi ≤ 1200) (hpp : p ≤ p1) (hb : b ≤ b2) (hbe : b2 ≤ e) (hin : ∀ y, y ∈ sbs as → b2 ≤ otk y) (hsz : (b - p1) + (e - b2) ≤ e - p) (ih : LyH K pl V fu lo hi rlo rhi ν ρ x p1 b) (il : LyL K pl V fu lo hi rlo rhi ν ρ as b2 e) : LyL K pl V fu lo hi rlo rhi ν ρ (.append (.tag p x) as) p e := by
  intro d r cnt i0 F E Good hF hG hd S n l i nf g h1 hr hn hρ h40 o hI hl hle rw_ hi hnf
  have hi : i + (tln as + 1) = cnt := hi
  have hnf : tln as + 1 < nf := hnf
  have l1 := Wt_lt w1
  obtain ⟨nf, rfl⟩ : ∃ z, nf = z + 1 := ⟨nf - 1, by omega⟩
  obtain ⟨q1, q2, q3, q4⟩ := rw_
  have hx : ∀ z, z ∈ sbs x → z ∈ sbs (.append (.tag p x) as) := fun z hz => List.mem_append_left _ hz
  have hy : ∀ z, z ∈ sbs as → z ∈ sbs (.append (.tag p x) as) := fun z hz => List.mem_append_right _ hz
  have hxy : ∀ a, a ∈ sbs x → ∀ b, b ∈ sbs as → otk b ≠ otk a := fun a ha b hb => by have := sbs_in w1 a ha; have := hin b hb; omega
  have nx := nd_S w1
  have hn : n + (rgs x ++ rgs as).length ≤ 640 := hn
  have hρ : mpR ρ (rgs x ++ rgs as) n := hρ
  rw [List.length_append] at hn
  obtain ⟨m1, m2⟩ := mpR_app hρ
  obtain ⟨S1, a1, a2⟩ := ih d S r n l (by omega) h1 hr (by omega) m1 h40 (fun z hz => o z (hx z hz)) (InS_sub hI hx) (fun k hk z => hl k hk (tk_sub hx k z)) (by omega)
  have hlen1 : (l ++ (nds x).map ν).length ≤ l.length + (b - p1) := by rw [List.length_append, List.length_map]; have := nx.2.2.1; omega
  obtain ⟨S2, b1, b2'⟩ := il d r cnt i0 F E Good hF (fun S S' l n f => hG S S' l n (FLy_T f (tk_sub hy))) (by omega) S1 (n + (rgs x).length) (l ++ (nds x).map ν) (i + 1) nf (hG _ _ _ _ (FLy_T a2.2.1 (tk_sub hx)) g) a2.1 (by omega) (by omega) m2 a2.2.2.1 (OKs_ly a2.2.1 (fun z hz => o z (hy z hz))) (InS_sub hI hy) (l_app hI nx hx hy hxy hl) (by omega) (by rw [← Nat.add_assoc]; exact RwA_ag (fun i => a2.2.1.1 95 i (by omega) (by omega) (by omega) (by omega) (by omega)) _ _ q4) (by omega) (by omega)
  refine ⟨S2, ?_, LyG_comp (T := tkT ν (.append (.tag p x) as)) a2 b2' m1 (tk_sub hx) (tk_sub hy) (fun a ha => tk_ne hI hy (hx a ha) (hxy a ha)) (nd_T nx) (fun g hg t ht => ?_) hr (by omega)⟩
  · rw [hF nf i S g (by omega) (Or.inr (by omega)), if_neg (by omega), q3, a1]
    exact b1
  · obtain ⟨a, ha, rfl⟩ := nx.2.1 g hg t ht
    exact tk_ne hI hy (hx a ha) (hxy a ha)
theorem RwB_A {S : im_S} : ∀ x : TR, LL x → ∀ i, RwB pl V S rlo rhi ν x i → RwA S rlo rhi ν x i := by
  refine LL_ind (fun i _ => trivial) (fun p x r _ ih i h => ?_)
  obtain ⟨h1, h2, h3, h4, h5, h6⟩ := h
  exact ⟨h1, h2, h5, ih (i + 1) h6⟩
theorem ly_4 {as : TR} {p b e : Nat} (hfu : 600 ≤ fu) (hhi : hi ≤ 1200) (hrh : rhi ≤ 1200) (hpb : p + 2 ≤ b) (hbe : b + 1 = e) (htl : tln as ≤ 500) (hin : ∀ y, y ∈ sbs as → p + 2 ≤ otk y) (na : NdS as (p + 2) b) (hs : sbs (aCal p as) = aCal p as :: sbs as) (il : LyL K pl V fu lo hi rlo rhi ν ρ as (p + 2) b) : LyH K pl V fu lo hi rlo rhi ν ρ (aCal p as) p e := by
  intro d S r n l hd h1 hr hn hρ h40 o hI hl hle
  have hX : aCal p as ∈ sbs (aCal p as) := by rw [hs]; exact List.mem_cons_self
  have hx : ∀ z, z ∈ sbs as → z ∈ sbs (aCal p as) := fun z hz => by rw [hs]; exact List.mem_cons_of_mem _ hz
  have hnx : ∀ z, z ∈ sbs as → otk z ≠ otk (aCal p as) := fun z hz => by have := hin z hz; show otk z ≠ p; omega
  obtain ⟨⟨o1, i0, f2, f3, f4, -⟩, o2, o3⟩ := o _ hX
  have o3 : ν p < hi := o3
  have hn : n + (rgs as).length ≤ 640 := hn
  have hρ : mpR ρ (rgs as) n := hρ
  obtain ⟨d, rfl⟩ : ∃ d', d = d' + 1 := ⟨d - 1, by omega⟩
  obtain ⟨S1, a1, a2⟩ := il d r (tln as) i0 (fun nf i S => f_X11_lay_L261 (rc_lay fu d) fu nf (nI (ν p)) (nI r) (nI i) S) (fun S => lpT (nI (ν p)) (nI r) S S) (fun S => S.1 90 (ν p) = nI (tln as) ∧ S.1 89 (ν p) = nI i0 ∧ tln as ≤ 500) (fun nf i S g hic hc => by
      show f_X11_lay_L261 (rc_lay fu d) fu (nf + 1) (nI (ν p)) (nI r) (nI i) S = _
      rw [l261_eq, mI_in (a := ν p) (n := 1200) (by omega) (by omega), nI_clamp (show ν p < 2 ^ 31 by omega), g.1, g.2.1, show nI i0 + nI i = nI (i0 + i) from nI_add i0 i, show nI i + 1 = nI (i + 1) from nI_add i 1]
      simp only [gd_t]
      by_cases hci : tln as ≤ i
      · rw [if_pos hci, if_pos ((mI_le (a := tln as) (b := i) (by omega) (by omega)).mpr hci)]
      · rcases hc with hc | hc
        · omega
        · rw [if_neg hci, if_neg (fun z => hci ((mI_le (a := tln as) (b := i) (by omega) (by omega)).mp z)), mI_in (a := i0 + i) (n := 1200) (by omega) hc, nI_clamp (show i0 + i < 2 ^ 31 by omega)]
          rfl) (fun S S' l n f g => ⟨by rw [f.1 90 _ (by omega) (by omega) (by omega) (by omega) (by omega)]; exact g.1, by rw [f.1 89 _ (by omega) (by omega) (by omega) (by omega) (by omega)]; exact g.2.1, g.2.2⟩) (by omega) S n l 0 fu ⟨f3, f2, htl⟩ h1 hr hn hρ h40 (fun z hz => o z (hx z hz)) (InS_sub hI hx) (fun k hk z => hl k hk (tk_sub hx k z)) (by omega) f4 (by omega) (by omega)
  have hT : tkT ν (aCal p as) (ν p) := ⟨_, hX, rfl⟩
  have hlen : (l ++ (nds as).map ν).length < 1200 := by rw [List.length_append, List.length_map]; have := na.2.2.1; omega
  obtain ⟨S', p1', p2⟩ := LyG_put (ρ := ρ) (S := S1) (Tt := S1) (x := aCal p as) (n := n + (rgs as).length) (j := p) rfl (show ν p < 1200 by omega) (show r < 640 by omega) a2.2.2.1 (fun _ _ _ _ => rfl) a2.1 (fun z => by
    rcases List.mem_append.mp z with z | z
    · exact hl _ z hT
    · obtain ⟨t, ht, hq⟩ := List.mem_map.mp z
      obtain ⟨y, hy, rfl⟩ := na.1 t ht
      exact tk_own hI hx hX hnx y hy hq) hlen trivial
  refine ⟨S', ?_, LyG_wk (LyG_comp (T := tkT ν (aCal p as)) a2 p2 hρ (tk_sub hx) (fun i z => ⟨_, hX, z⟩) (fun y hy => tk_own hI hx hX hnx y hy) (nd_T na) (fun g hg t ht => ?_) hr hn) (fun i z => z) (fun y hy => ?_) rfl (by rw [List.append_nil]; rfl)⟩
  · rw [rcl0, lay_eq, if_pos (nI_m1 (show ν (otk (aCal p as)) < 2 ^ 31 by show ν p < 2 ^ 31; omega))]
    show (gd (in_b (nI (ν p)) 1200) _).bind _ = _
    rw [mI_in (a := ν p) (n := 1200) (by omega) (by omega), show (nI (ν (otk (aCal p as)))).toNatClampNeg = ν p from nI_clamp (show ν p < 2 ^ 31 by omega), o1.1]
    show (f_X11_lay_L261 (rc_lay fu d) fu fu (nI (ν p)) (nI r) 0 S).bind _ = _
    have a1 : f_X11_lay_L261 (rc_lay fu d) fu fu (nI (ν p)) (nI r) 0 S = lpT (nI (ν p)) (nI r) S1 S1 := a1
    rw [a1, p1']
    rfl
  · obtain ⟨y, hy, rfl⟩ := na.2.1 g hg t ht
    exact tk_own hI hx hX hnx y hy
  · rw [hs] at hy
    rcases List.mem_cons.mp hy with rfl | hy
    · exact List.mem_append_right _ List.mem_cons_self
    · exact List.mem_append_left _ hy
end LYL
