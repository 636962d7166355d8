/-! the reference lays regions: a loop; all together -/
theorem l108_eq (K : Nat → Int32 → Int32 → im_S → Option (Int32 × im_S)) (fu nf : Nat) (z1 z2 z3 : Int32) (S : im_S) : f_X11_lay_L108 K fu (nf + 1) z1 z2 z3 S = gd (in_b z1 1200) (if ((S.1 90) z1.toNatClampNeg : Int32) ≤ z3 then (gd (in_b z1 1200) ((K 1 ((S.1 83) z1.toNatClampNeg) 0 S).bind (fun qS2 => gd (in_b z1 1200) ((f_X11_addRegion (-1) (uI qS2.2 110 z1.toNatClampNeg qS2.1)).bind (fun qS5 => gd (in_b z1 1200) (f_X11_lay_L171 K fu fu z1 z2 0 (uI qS5.2 111 z1.toNatClampNeg qS5.1))))))) else (gd (in_b z1 1200) (gd (in_b (((S.1 89) z1.toNatClampNeg) + z3) 1200) ((K 0 ((S.1 95) ((((S.1 89) z1.toNatClampNeg) + z3).toNatClampNeg)) z2 S).bind (fun qS8 => f_X11_lay_L108 K fu nf z1 z2 (z3 + 1) qS8.2))))) := rfl
section LYO
variable {K pl : Nat → Nat} {V : Nat → Int64} {m fu : Nat} {lo hi rlo rhi : Nat} {ν ρ : Nat → Nat}
theorem LyG_open2 {S S0 S' : im_S} {T : Nat → Prop} {r n c : Nat} {l nd1 : List Nat} {rg1 : List (Nat × List Nat × Option Nat)} {sb1 : List TR} {o : Option Nat} (hr : r < n) (hn : n < 640) (h : RgL S r l) (hl : ∀ k, k ∈ l → ¬ T k) (g3 : S0.1 105 n = rtI ν o) (g4 : ∀ a i : Nat, (a = 75 → i ≠ 40) → (a = 105 ∨ a = 106 ∨ a = 107 ∨ a = 109 → i < n) → (110 ≤ a ∧ a ≤ 112 → ¬ T i) → S0.1 a i = S.1 a i) (g5 : S0.2.1 = S.2.1) (hc : ρ c = n) (H : LyG S0 S' ν ρ T n (n + 1) [] nd1 rg1 sb1) : LyG S S' ν ρ T r n l [] ((c, nd1, o) :: rg1) sb1 := by
  obtain ⟨a1, a2, a3, a4, a5⟩ := H
  have h0 : RgL S0 r l := RgL_cp h (g4 106 r (by omega) (fun _ => hr) (by omega)) (g4 107 r (by omega) (fun _ => hr) (by omega)) (g4 109 r (by omega) (fun _ => hr) (by omega)) (fun k _ => ⟨g4 103 k (by omega) (by omega) (by omega), g4 104 k (by omega) (by omega) (by omega), g4 108 k (by omega) (by omega) (by omega)⟩)
  refine ⟨?_, ⟨fun a i q1 q2 q3 q4 q5 => ?_, a2.2.trans g5⟩, ?_, fm_c.mpr ⟨⟨?_, ?_⟩, a4⟩, a5⟩
  · show RgL S' r (l ++ [])
    rw [List.append_nil]
    exact RgL_fl a2 h0 (by omega) (by omega) hl (fun k _ => List.not_mem_nil)
  · rw [a2.1 a i q1 q2 (fun z => ⟨(q3 z).1, List.not_mem_nil⟩) (fun z => ⟨by have := (q4 z).2; omega, by have := (q4 z).2; omega⟩) (fun z => by have := q5 z; omega), g4 a i q1 (fun z => ?_) (fun z => q2 (Or.inr (Or.inr z)))]
    by_cases hz : a = 105
    · exact q5 hz
    · exact (q4 (by omega)).2
  · show S'.1 75 40 = nI (n + (rg1.length + 1))
    rw [a3, show n + 1 + rg1.length = n + (rg1.length + 1) by omega]
  · show RgL S' (ρ c) (nd1.map ν)
    rw [hc]; exact a1
  · show S'.1 105 (ρ c) = rtI ν o
    rw [hc, a2.1 105 n (by omega) (by omega) (by omega) (by omega) (fun _ => by omega)]; exact g3
set_option maxHeartbeats 2000000 in
theorem ly_7 {fs c ns g : TR} {p b d f e : Nat} (hfu : 600 ≤ fu) (hhi : hi ≤ 1200) (hrh : rhi ≤ 1200) (he5 : e ≤ 500) (w1 : Wt K fs (p + 1) b 102) (w2 : Wt K c (b + 1) d 0) (w3 : Wt K ns (d + 1) f 102) (w4 : Wt K g (f + 1) e 0) (i1 : LL fs → LyL K pl V fu lo hi rlo rhi ν ρ fs (p + 1) b) (i2 : LyH K pl V fu lo hi rlo rhi ν ρ c (b + 1) d) (i3 : LL ns → LyL K pl V fu lo hi rlo rhi ν ρ ns (d + 1) f) (i4 : LyH K pl V fu lo hi rlo rhi ν ρ g (f + 1) e) : LyH K pl V fu lo hi rlo rhi ν ρ (aLoop p fs c ns g) p e := by
  intro dd S r n l hd h1 hr hn hρ h40 o hI hl hle
  have l1 := Wt_lt w1
  have l2 := Wt_lt w2
  have l3 := Wt_lt w3
  have l4 := Wt_lt w4
  have t1 := (tln_le w1).1
  have t3 := (tln_le w3).1
  obtain ⟨X, hXe⟩ : ∃ X, X = aLoop p fs c ns g := ⟨_, rfl⟩
  have hoX : otk X = p := by rw [hXe]; rfl
  have hsX : sbs X = X :: (sbs fs ++ (sbs c ++ (sbs ns ++ sbs g))) := by rw [hXe]; rfl
  have hX : X ∈ sbs X := by rw [hsX]; exact List.mem_cons_self
  have hx1 : ∀ u, u ∈ sbs fs → u ∈ sbs X := fun u hu => by rw [hsX]; exact List.mem_cons_of_mem _ (List.mem_append_left _ hu)
  have hx2 : ∀ u, u ∈ sbs c → u ∈ sbs X := fun u hu => by rw [hsX]; exact List.mem_cons_of_mem _ (List.mem_append_right _ (List.mem_append_left _ hu))
  have hx3 : ∀ u, u ∈ sbs ns → u ∈ sbs X := fun u hu => by rw [hsX]; exact List.mem_cons_of_mem _ (List.mem_append_right _ (List.mem_append_right _ (List.mem_append_left _ hu)))
  have hx4 : ∀ u, u ∈ sbs g → u ∈ sbs X := fun u hu => by rw [hsX]; exact List.mem_cons_of_mem _ (List.mem_append_right _ (List.mem_append_right _ (List.mem_append_right _ hu)))
  have r1 := sbs_in w1
  have r2 := sbs_in w2
  have r3 := sbs_in w3
  have r4 := sbs_in w4
  have n1 := nd_S w1
  have n2 := nd_S w2
  have n3 := nd_S w3
  have n4 := nd_S w4
  have e1 : ∀ u, u ∈ sbs fs → otk u ≠ otk X := fun u hu => by have := r1 u hu; rw [hoX]; omega
  have e2 : ∀ u, u ∈ sbs c → otk u ≠ otk X := fun u hu => by have := r2 u hu; rw [hoX]; omega
  have e3 : ∀ u, u ∈ sbs ns → otk u ≠ otk X := fun u hu => by have := r3 u hu; rw [hoX]; omega
  have e4 : ∀ u, u ∈ sbs g → otk u ≠ otk X := fun u hu => by have := r4 u hu; rw [hoX]; omega
  have d12 : ∀ a, a ∈ sbs fs → ∀ b, b ∈ sbs c → otk b ≠ otk a := fun a ha b hb => by have := r1 a ha; have := r2 b hb; omega
  have d13 : ∀ a, a ∈ sbs fs → ∀ b, b ∈ sbs ns → otk b ≠ otk a := fun a ha b hb => by have := r1 a ha; have := r3 b hb; omega
  have d14 : ∀ a, a ∈ sbs fs → ∀ b, b ∈ sbs g → otk b ≠ otk a := fun a ha b hb => by have := r1 a ha; have := r4 b hb; omega
  have d23 : ∀ a, a ∈ sbs c → ∀ b, b ∈ sbs ns → otk b ≠ otk a := fun a ha b hb => by have := r2 a ha; have := r3 b hb; omega
  have d24 : ∀ a, a ∈ sbs c → ∀ b, b ∈ sbs g → otk b ≠ otk a := fun a ha b hb => by have := r2 a ha; have := r4 b hb; omega
  have d34 : ∀ a, a ∈ sbs ns → ∀ b, b ∈ sbs g → otk b ≠ otk a := fun a ha b hb => by have := r3 a ha; have := r4 b hb; omega
  have oX := o X (hXe ▸ hX)
  rw [hXe] at oX
  obtain ⟨⟨o1, ⟨i0, f2, f3, f4, f5⟩, f6, ⟨j0, f7, f8, f9, f10⟩, f11⟩, o2, o3⟩ := oX
  have o3 : ν p < hi := o3
  rw [← hXe] at hI hl o hn hρ ⊢
  have own : ∀ u, (u ∈ sbs fs ∨ u ∈ sbs c ∨ u ∈ sbs ns ∨ u ∈ sbs g) → ¬ ν (otk u) = ν p := fun u hu => by
    rw [← hoX]
    rcases hu with hu | hu | hu | hu
    · exact tk_own hI hx1 hX e1 u hu
    · exact tk_own hI hx2 hX e2 u hu
    · exact tk_own hI hx3 hX e3 u hu
    · exact tk_own hI hx4 hX e4 u hu
  obtain ⟨gc, hgc⟩ : ∃ gc, gc = (4 * p, nds c, some (otk c)) :: rgs c := ⟨_, rfl⟩
  obtain ⟨gn, hgn⟩ : ∃ gn, gn = ((4 * p + 1, nds ns, none) : Nat × List Nat × Option Nat) :: rgs ns := ⟨_, rfl⟩
  obtain ⟨gg, hgg⟩ : ∃ gg, gg = (4 * p + 2, nds g, some (otk g)) :: rgs g := ⟨_, rfl⟩
  have lgc : gc.length = (rgs c).length + 1 := by rw [hgc]; rfl
  have lgn : gn.length = (rgs ns).length + 1 := by rw [hgn]; rfl
  have lgg : gg.length = (rgs g).length + 1 := by rw [hgg]; rfl
  have hrX : rgs X = rgs fs ++ (gc ++ (gn ++ gg)) := by rw [hXe, hgc, hgn, hgg]; rfl
  rw [hrX] at hn hρ
  rw [List.length_append, List.length_append, List.length_append] at hn
  obtain ⟨m1, m234⟩ := mpR_app hρ
  obtain ⟨m2, m34⟩ := mpR_app m234
  obtain ⟨m3, m4⟩ := mpR_app m34
  have m12 : mpR ρ (rgs fs ++ gc) n := by have := hρ; rw [← List.append_assoc] at this; exact (mpR_app this).1
  have m123 : mpR ρ (rgs fs ++ gc ++ gn) n := by have := hρ; rw [← List.append_assoc, ← List.append_assoc] at this; exact (mpR_app this).1
  have m2' := m2
  have m3' := m3
  have m4' := m4
  rw [hgc] at m2'
  rw [hgn] at m3'
  rw [hgg] at m4'
  obtain ⟨c1, -⟩ := mpR_cons m2'
  obtain ⟨c2, c2'⟩ := mpR_cons m3'
  obtain ⟨c3, -⟩ := mpR_cons m4'
  have c1 : ρ (4 * p) = n + (rgs fs).length := c1
  have c2 : ρ (4 * p + 1) = n + (rgs fs).length + gc.length := c2
  have c3 : ρ (4 * p + 2) = n + (rgs fs).length + gc.length + gn.length := c3
  obtain ⟨dd, rfl⟩ : ∃ d', dd = d' + 2 := ⟨dd - 2, by omega⟩
  have hT : tkT ν X (ν p) := ⟨X, hX, by rw [hoX]⟩
  -- the first values
  obtain ⟨S1, a1, a2⟩ := i1 f5 (dd + 1) r (tln fs) i0 (fun nf i S => f_X11_lay_L108 (rc_lay fu (dd + 1)) fu nf (nI (ν p)) (nI r) (nI i) S) (fun S => (rc_lay fu (dd + 1) 1 (S.1 83 (ν p)) 0 S).bind (fun qS2 => (f_X11_addRegion (-1) (uI qS2.2 110 (ν p) qS2.1)).bind (fun qS5 => f_X11_lay_L171 (rc_lay fu (dd + 1)) fu fu (nI (ν p)) (nI r) 0 (uI qS5.2 111 (ν p) qS5.1)))) (fun S => S.1 90 (ν p) = nI (tln fs) ∧ S.1 89 (ν p) = nI i0) (fun nf i S gd0 hic hc => by
      show f_X11_lay_L108 (rc_lay fu (dd + 1)) fu (nf + 1) (nI (ν p)) (nI r) (nI i) S = _
      rw [l108_eq, mI_in (a := ν p) (n := 1200) (by omega) (by omega), nI_clamp (show ν p < 2 ^ 31 by omega), gd0.1, gd0.2, show nI i0 + nI i = nI (i0 + i) from nI_add i0 i, show nI i + 1 = nI (i + 1) from nI_add i 1]
      simp only [gd_t]
      by_cases hci : tln fs ≤ i
      · rw [if_pos hci, if_pos ((mI_le (a := tln fs) (b := i) (by omega) (by omega)).mpr hci)]
      · rcases hc with hc | hc
        · omega
        · rw [if_neg hci, if_neg (fun z => hci ((mI_le (a := tln fs) (b := i) (by omega) (by omega)).mp z)), mI_in (a := i0 + i) (n := 1200) (by omega) hc, nI_clamp (show i0 + i < 2 ^ 31 by omega)]
          rfl) (fun S S' l n F gd0 => ⟨by rw [F.1 90 _ (by omega) (by omega) (by omega) (by omega) (by omega)]; exact gd0.1, by rw [F.1 89 _ (by omega) (by omega) (by omega) (by omega) (by omega)]; exact gd0.2⟩) (by omega) S n l 0 fu ⟨f3, f2⟩ h1 hr (by omega) m1 h40 (fun u hu => o u (hx1 u hu)) (InS_sub hI hx1) (fun k hk z => hl k hk (tk_sub hx1 k z)) (by omega) (RwB_A fs f5 _ f4) (by omega) (by omega)
  -- the condition
  obtain ⟨S2, b1, b2⟩ := ly_open w2 hhi i2 (d := dd) (c := 4 * p) (by omega) a2.1 (by omega) (by omega) (by rw [← hgc]; exact m2) a2.2.2.1 (OKs_ly a2.2.1 (fun u hu => o u (hx2 u hu))) (InS_sub hI hx2) (l_app hI n1 hx1 hx2 d12 hl) (by omega)
  rw [← hgc] at b2
  have nd1 : ∀ t, t ∈ nds fs → tkT ν X (ν t) := fun t ht => tk_sub hx1 _ (nd_T n1 t ht)
  have rg1 : ∀ (T2 : Nat → Prop), (∀ u, u ∈ sbs fs → ¬ T2 (ν (otk u))) → ∀ z, z ∈ rgs fs → ∀ t, t ∈ z.2.1 → ¬ T2 (ν t) := fun T2 q z hz t ht => by
    obtain ⟨u, hu, rfl⟩ := n1.2.1 z hz t ht
    exact q u hu
  have rgc : ∀ (T2 : Nat → Prop), (∀ u, u ∈ sbs c → ¬ T2 (ν (otk u))) → ∀ z, z ∈ gc → ∀ t, t ∈ z.2.1 → ¬ T2 (ν t) := fun T2 q => by
    rw [hgc]
    exact fm_c.mpr ⟨fun t ht => by
      obtain ⟨u, hu, rfl⟩ := n2.1 t ht
      exact q u hu, fun z hz t ht => by
      obtain ⟨u, hu, rfl⟩ := n2.2.1 z hz t ht
      exact q u hu⟩
  have rgn : ∀ (T2 : Nat → Prop), (∀ u, u ∈ sbs ns → ¬ T2 (ν (otk u))) → ∀ z, z ∈ gn → ∀ t, t ∈ z.2.1 → ¬ T2 (ν t) := fun T2 q => by
    rw [hgn]
    exact fm_c.mpr ⟨fun t ht => by
      obtain ⟨u, hu, rfl⟩ := n3.1 t ht
      exact q u hu, fun z hz t ht => by
      obtain ⟨u, hu, rfl⟩ := n3.2.1 z hz t ht
      exact q u hu⟩
  have rgg : ∀ (T2 : Nat → Prop), (∀ u, u ∈ sbs g → ¬ T2 (ν (otk u))) → ∀ z, z ∈ gg → ∀ t, t ∈ z.2.1 → ¬ T2 (ν t) := fun T2 q => by
    rw [hgg]
    exact fm_c.mpr ⟨fun t ht => by
      obtain ⟨u, hu, rfl⟩ := n4.1 t ht
      exact q u hu, fun z hz t ht => by
      obtain ⟨u, hu, rfl⟩ := n4.2.1 z hz t ht
      exact q u hu⟩
  have C2 := LyG_comp (T := tkT ν X) a2 b2 m1 (tk_sub hx1) (tk_sub hx2) (fun a ha => tk_ne hI hx2 (hx1 a ha) (d12 a ha)) (nd_T n1) (rg1 _ (fun a ha => tk_ne hI hx2 (hx1 a ha) (d12 a ha))) hr (by omega)
  rw [List.append_nil] at C2
  have lC2 : (rgs fs ++ gc).length = (rgs fs).length + gc.length := List.length_append
  -- its region is noted
  have C2u := LyG_comp (T := tkT ν X) C2 (LyG_uI (ν := ν) (ρ := ρ) (a := 110) (k := ν p) (v := nI (n + (rgs fs).length)) (by omega) C2.2.2.1 C2.1) m12 (fun i q => q) (fun i q => by rw [q]; exact hT) (fm_a.mpr ⟨fun u hu => own u (Or.inl hu), fun u hu => own u (Or.inr (Or.inl hu))⟩) nd1 (fm_a.mpr ⟨rg1 (fun i => i = ν p) (fun u hu => own u (Or.inl hu)), rgc (fun i => i = ν p) (fun u hu => own u (Or.inr (Or.inl hu)))⟩) hr (by omega)
  rw [List.append_nil, List.append_nil, List.append_nil] at C2u
  -- the next values
  obtain ⟨S3, g1, g2, g3, g4, g5, g6⟩ := addR (v := -1) (show n + (rgs fs ++ gc).length < 640 by omega) C2u.2.2.1
  obtain ⟨S3u, hS3u⟩ : ∃ Z, Z = uI S3 111 (ν p) (nI (n + (rgs fs ++ gc).length)) := ⟨_, rfl⟩
  have u3 : ∀ a i : Nat, (a ≠ 111 ∨ i ≠ ν p) → S3u.1 a i = S3.1 a i := fun a i q => by rw [hS3u, uI_ne q]
  have g2u : RgL S3u (n + (rgs fs ++ gc).length) [] := RgL_cp g2 (u3 _ _ (by omega)) (u3 _ _ (by omega)) (u3 _ _ (by omega)) (fun k hk => absurd hk List.not_mem_nil)
  have c2'' : mpR ρ (rgs ns) (n + (rgs fs ++ gc).length + 1) := by rw [lC2, ← Nat.add_assoc]; exact c2'
  have o3u : OKs K pl V S3u lo hi rlo rhi ν X := fun u hu => ⟨RN_ag (fun a i v1 v2 => by rw [u3 a i (by omega), g5 a i (by omega) (by omega), C2u.2.1.1 a i (by omega) (by omega) (by omega) (by omega) (by omega)]) (by rw [hS3u]; exact g6.trans C2u.2.1.2) (o u hu).1, (o u hu).2⟩
  have f3u : ∀ a i : Nat, 81 ≤ a → a ≤ 95 → S3u.1 a i = S.1 a i := fun a i v1 v2 => by rw [u3 a i (by omega), g5 a i (by omega) (by omega), C2u.2.1.1 a i (by omega) (by omega) (by omega) (by omega) (by omega)]
  have j3u : S3u.2.1 = S.2.1 := by rw [hS3u]; exact g6.trans C2u.2.1.2
  have p3 : ¬ tkT ν ns (ν p) := by rw [← hoX]; exact tk_ne hI hx3 hX e3
  have p4 : ¬ tkT ν g (ν p) := by rw [← hoX]; exact tk_ne hI hx4 hX e4
  obtain ⟨S4, k1, k2⟩ := i3 f10 (dd + 1) (n + (rgs fs ++ gc).length) (tln ns) j0 (fun nf i S => f_X11_lay_L171 (rc_lay fu (dd + 1)) fu nf (nI (ν p)) (nI r) (nI i) S) (fun S => (rc_lay fu (dd + 1) 1 (S.1 84 (ν p)) 0 S).bind (fun qS2 => lpT (nI (ν p)) (nI r) (uI qS2.2 112 (ν p) qS2.1) qS2.2)) (fun S => S.1 92 (ν p) = nI (tln ns) ∧ S.1 91 (ν p) = nI j0 ∧ S.1 111 (ν p) = nI (n + (rgs fs ++ gc).length)) (fun nf i S gd0 hic hc => by
      show f_X11_lay_L171 (rc_lay fu (dd + 1)) fu (nf + 1) (nI (ν p)) (nI r) (nI i) S = _
      rw [l171_eq, mI_in (a := ν p) (n := 1200) (by omega) (by omega), nI_clamp (show ν p < 2 ^ 31 by omega), gd0.1, gd0.2.1, gd0.2.2, show nI j0 + nI i = nI (j0 + i) from nI_add j0 i, show nI i + 1 = nI (i + 1) from nI_add i 1]
      simp only [gd_t]
      by_cases hci : tln ns ≤ i
      · rw [if_pos hci, if_pos ((mI_le (a := tln ns) (b := i) (by omega) (by omega)).mpr hci)]
      · rcases hc with hc | hc
        · omega
        · rw [if_neg hci, if_neg (fun z => hci ((mI_le (a := tln ns) (b := i) (by omega) (by omega)).mp z)), mI_in (a := j0 + i) (n := 1200) (by omega) hc, nI_clamp (show j0 + i < 2 ^ 31 by omega)]
          rfl) (fun S S' l n F gd0 => ⟨by rw [F.1 92 _ (by omega) (by omega) (by omega) (by omega) (by omega)]; exact gd0.1, by rw [F.1 91 _ (by omega) (by omega) (by omega) (by omega) (by omega)]; exact gd0.2.1, by rw [F.1 111 _ (by omega) (fun _ => p3) (by omega) (by omega) (by omega)]; exact gd0.2.2⟩) (by omega) S3u (n + (rgs fs ++ gc).length + 1) [] 0 fu ⟨by rw [f3u _ _ (by omega) (by omega)]; exact f8, by rw [f3u _ _ (by omega) (by omega)]; exact f7, by rw [hS3u, uI_eq]⟩ g2u (by omega) (by omega) c2'' (by rw [u3 75 40 (by omega)]; exact g3) (fun u hu => o3u u (hx3 u hu)) (InS_sub hI hx3) (fun k hk => absurd hk List.not_mem_nil) (by show 0 + _ ≤ _; omega) (RwA_ag (fun i => f3u 95 i (by omega) (by omega)) _ _ (RwB_A ns f10 _ f9)) (by omega) (by omega)
  have K3 : LyG (uI S2 110 (ν p) (nI (n + (rgs fs).length))) S4 ν ρ (fun i => tkT ν ns i ∨ i = ν p) r (n + (rgs fs ++ gc).length) (l ++ (nds fs).map ν) [] gn (sbs ns) := by
    rw [hgn]
    refine LyG_open2 (S0 := S3u) (by omega) (by omega) C2u.1 (fm_a.mpr ⟨fun k hk z => ?_, fun k hk z => ?_⟩) (by rw [u3 105 _ (by omega)]; exact g4) (fun a i q1 q2 q3 => ?_) (by rw [hS3u]; exact g6) (by rw [c2, lC2, Nat.add_assoc]) (LyG_wk k2 (fun i q => Or.inl q) (fun y hy => hy) rfl rfl)
    · rcases z with z | z
      · exact hl k hk (tk_sub hx3 k z)
      · exact hl k hk (by rw [z]; exact hT)
    · rcases z with z | z
      · exact l_app hI n1 hx1 hx3 d13 hl k (List.mem_append_right _ hk) z
      · obtain ⟨t, ht, rfl⟩ := List.mem_map.mp hk
        obtain ⟨u, hu, rfl⟩ := n1.1 t ht
        exact own u (Or.inl hu) z
    · have hq : a ≠ 111 ∨ i ≠ ν p := by
        by_cases h111 : a = 111
        · exact Or.inr (fun z => q3 (by omega) (Or.inr z))
        · exact Or.inl h111
      rw [u3 a i hq]
      exact g5 a i q1 q2
  have K3ne : ∀ u, (u ∈ sbs fs ∨ u ∈ sbs c) → ¬ (tkT ν ns (ν (otk u)) ∨ ν (otk u) = ν p) := fun u hu z => by
    rcases z with z | z
    · rcases hu with hu | hu
      · exact tk_ne hI hx3 (hx1 u hu) (d13 u hu) z
      · exact tk_ne hI hx3 (hx2 u hu) (d23 u hu) z
    · rcases hu with hu | hu
      · exact own u (Or.inl hu) z
      · exact own u (Or.inr (Or.inl hu)) z
  have C3 := LyG_comp (T := tkT ν X) C2u K3 m12 (fun i q => q) (fun i q => by rcases q with q | q; exact tk_sub hx3 i q; rw [q]; exact hT) (fm_a.mpr ⟨fun u hu => K3ne u (Or.inl hu), fun u hu => K3ne u (Or.inr hu)⟩) nd1 (fm_a.mpr ⟨rg1 (fun i => tkT ν ns i ∨ i = ν p) (fun u hu => K3ne u (Or.inl hu)), rgc (fun i => tkT ν ns i ∨ i = ν p) (fun u hu => K3ne u (Or.inr hu))⟩) hr (by omega)
  rw [List.append_nil] at C3
  have lC3 : (rgs fs ++ gc ++ gn).length = (rgs fs).length + gc.length + gn.length := by rw [List.length_append, lC2]
  -- what is given
  obtain ⟨S5, v1, v2⟩ := ly_open w4 hhi i4 (d := dd) (c := 4 * p + 2) (by omega) C3.1 (by omega) (by omega) (by rw [← hgg, lC3, ← Nat.add_assoc, ← Nat.add_assoc]; exact m4) C3.2.2.1 (OKs_ly C3.2.1 (fun u hu => o u (hx4 u hu))) (InS_sub hI hx4) (l_app hI n1 hx1 hx4 d14 hl) (by omega)
  rw [← hgg] at v2
  have K4ne : ∀ u, (u ∈ sbs fs ∨ u ∈ sbs c ∨ u ∈ sbs ns) → ¬ tkT ν g (ν (otk u)) := fun u hu => by
    rcases hu with hu | hu | hu
    · exact tk_ne hI hx4 (hx1 u hu) (d14 u hu)
    · exact tk_ne hI hx4 (hx2 u hu) (d24 u hu)
    · exact tk_ne hI hx4 (hx3 u hu) (d34 u hu)
  have C4 := LyG_comp (T := tkT ν X) C3 v2 m123 (fun i q => q) (tk_sub hx4) (fm_a.mpr ⟨fm_a.mpr ⟨fun u hu => K4ne u (Or.inl hu), fun u hu => K4ne u (Or.inr (Or.inl hu))⟩, fun u hu => K4ne u (Or.inr (Or.inr hu))⟩) nd1 (fm_a.mpr ⟨fm_a.mpr ⟨rg1 (tkT ν g) (fun u hu => K4ne u (Or.inl hu)), rgc (tkT ν g) (fun u hu => K4ne u (Or.inr (Or.inl hu)))⟩, rgn (tkT ν g) (fun u hu => K4ne u (Or.inr (Or.inr hu)))⟩) hr (by omega)
  rw [List.append_nil] at C4
  -- the loop itself
  have hlen : (l ++ (nds fs).map ν).length < 1200 := by rw [List.length_append, List.length_map]; have := n1.2.2.1; omega
  have z110 : S5.1 110 (ν p) = nI (ρ (4 * p)) := by
    rw [v2.2.1.1 110 (ν p) (by omega) (fun _ => p4) (by omega) (by omega) (by omega), k2.2.1.1 110 (ν p) (by omega) (fun _ => p3) (by omega) (by omega) (by omega), u3 110 _ (by omega), g5 110 _ (by omega) (by omega), uI_eq, c1]
  have z111 : S5.1 111 (ν p) = nI (ρ (4 * p + 1)) := by
    rw [v2.2.1.1 111 (ν p) (by omega) (fun _ => p4) (by omega) (by omega) (by omega), k2.2.1.1 111 (ν p) (by omega) (fun _ => p3) (by omega) (by omega) (by omega), hS3u, uI_eq, c2, lC2, Nat.add_assoc]
  obtain ⟨S', q1', q2'⟩ := LyG_putT (ρ := ρ) (S := S5) (Tt := uI S5 112 (ν p) (nI (n + (rgs fs ++ gc ++ gn).length))) (x := X) (j := p) hoX (show ν p < 1200 by omega) (show r < 640 by omega) C4.2.2.1 (fun a i u => uI_ne (by omega)) rfl C4.1 (fun q => by
    rcases List.mem_append.mp q with q | q
    · exact hl _ q hT
    · obtain ⟨t, ht, hq⟩ := List.mem_map.mp q
      obtain ⟨u, hu, rfl⟩ := n1.1 t ht
      exact own u (Or.inl hu) hq) hlen (by
    rw [hXe]
    refine ⟨by rw [uI_ne (by omega)]; exact z110, by rw [uI_ne (by omega)]; exact z111, by rw [uI_eq, c3, lC3, ← Nat.add_assoc, ← Nat.add_assoc]⟩)
  refine ⟨S', ?_, LyG_wk (LyG_comp (T := tkT ν X) C4 q2' (by rw [List.append_assoc, List.append_assoc]; exact hρ) (fun i q => q) (fun i q => by rw [q]; exact hT) (fm_a.mpr ⟨fm_a.mpr ⟨fm_a.mpr ⟨fun u hu => own u (Or.inl hu), fun u hu => own u (Or.inr (Or.inl hu))⟩, fun u hu => own u (Or.inr (Or.inr (Or.inl hu)))⟩, fun u hu => own u (Or.inr (Or.inr (Or.inr hu)))⟩) nd1 (fm_a.mpr ⟨fm_a.mpr ⟨fm_a.mpr ⟨rg1 (fun i => i = ν p) (fun u hu => own u (Or.inl hu)), rgc (fun i => i = ν p) (fun u hu => own u (Or.inr (Or.inl hu)))⟩, rgn (fun i => i = ν p) (fun u hu => own u (Or.inr (Or.inr (Or.inl hu))))⟩, rgg (fun i => i = ν p) (fun u hu => own u (Or.inr (Or.inr (Or.inr hu))))⟩) hr (by rw [List.length_append, lC3]; omega)) (fun i q => q) (fun u hu => ?_) (by rw [hXe]; rfl) (by rw [List.append_nil, hrX, List.append_assoc, List.append_assoc])⟩
  · rw [hoX, rcl0, lay_eq, if_pos (nI_m1 (show ν p < 2 ^ 31 by omega)), mI_in (a := ν p) (n := 1200) (by omega) (by omega), nI_clamp (show ν p < 2 ^ 31 by omega), o1.1]
    show (f_X11_lay_L108 (rc_lay fu (dd + 1)) fu fu (nI (ν p)) (nI r) 0 S).bind _ = _
    have a1 : f_X11_lay_L108 (rc_lay fu (dd + 1)) fu fu (nI (ν p)) (nI r) 0 S = (rc_lay fu (dd + 1) 1 (S1.1 83 (ν p)) 0 S1).bind (fun qS2 => (f_X11_addRegion (-1) (uI qS2.2 110 (ν p) qS2.1)).bind (fun qS5 => f_X11_lay_L171 (rc_lay fu (dd + 1)) fu fu (nI (ν p)) (nI r) 0 (uI qS5.2 111 (ν p) qS5.1))) := a1
    have k1 : f_X11_lay_L171 (rc_lay fu (dd + 1)) fu fu (nI (ν p)) (nI r) 0 S3u = (rc_lay fu (dd + 1) 1 (S4.1 84 (ν p)) 0 S4).bind (fun qS2 => lpT (nI (ν p)) (nI r) (uI qS2.2 112 (ν p) qS2.1) qS2.2) := k1
    rw [a1, a2.2.1.1 83 _ (by omega) (by omega) (by omega) (by omega) (by omega), f6, b1]
    simp only [Option.bind_some]
    rw [g1]
    simp only [Option.bind_some]
    rw [← hS3u, k1, C3.2.1.1 84 _ (by omega) (by omega) (by omega) (by omega) (by omega), f11, v1]
    simp only [Option.bind_some]
    rw [q1']
    rfl
  · rw [hsX] at hu
    rcases List.mem_cons.mp hu with rfl | hu
    · exact List.mem_append_right _ List.mem_cons_self
    rcases List.mem_append.mp hu with hu | hu
    · exact List.mem_append_left _ (List.mem_append_left _ (List.mem_append_left _ (List.mem_append_left _ hu)))
    rcases List.mem_append.mp hu with hu | hu
    · exact List.mem_append_left _ (List.mem_append_left _ (List.mem_append_left _ (List.mem_append_right _ hu)))
    rcases List.mem_append.mp hu with hu | hu
    · exact List.mem_append_left _ (List.mem_append_left _ (List.mem_append_right _ hu))
    · exact List.mem_append_left _ (List.mem_append_right _ hu)
def LyA (K pl : Nat → Nat) (V : Nat → Int64) (fu lo hi rlo rhi : Nat) (ν ρ : Nat → Nat) (x : TR) (p e : Nat) : Prop := e ≤ 500 → ((∃ c f, x = .tag c f) → LyH K pl V fu lo hi rlo rhi ν ρ x p e) ∧ (LL x → x ≠ .nil → LyL K pl V fu lo hi rlo rhi ν ρ x p e)
theorem LyA_x {c : Nat} {f : TR} {p e : Nat} (h : e ≤ 500 → LyH K pl V fu lo hi rlo rhi ν ρ (.tag c f) p e) : LyA K pl V fu lo hi rlo rhi ν ρ (.tag c f) p e := fun he => ⟨fun _ => h he, fun z => (show False from z).elim⟩
theorem ly_all (hfu : 600 ≤ fu) (hhi : hi ≤ 1200) (hrh : rhi ≤ 1200) {x : TR} {p e md : Nat} (w : Wt K x p e md) : LyA K pl V fu lo hi rlo rhi ν ρ x p e := by
  refine Wt_ind (K := K) (P := fun x p e md => LyA K pl V fu lo hi rlo rhi ν ρ x p e) ?_ ?_ ?_ ?_ ?_ ?_ ?_ ?_ ?_ ?_ ?_ ?_ ?_ ?_ ?_ (tsz x) x p e md (Nat.le_refl _) w
  · intro p md _; exact LyA_x (fun _ => ly_leaf (c := 1) (by omega) hhi rfl rfl rfl (fun _ => trivial) (by omega) (fun S h => ⟨h.1.1, h.2⟩))
  · intro p md _; exact LyA_x (fun _ => ly_leaf (c := 2) (by omega) hhi rfl rfl rfl (fun _ => trivial) (by omega) (fun S h => ⟨h.1.1, h.2⟩))
  · intro p md _; exact LyA_x (fun _ => ly_leaf (c := 3) (by omega) hhi rfl rfl rfl (fun _ => trivial) (by omega) (fun S h => ⟨h.1.1, h.2⟩))
  · intro p md _; exact LyA_x (fun _ => ly_4 hfu hhi hrh (Nat.le_refl (p + 2)) rfl (by show 0 ≤ 500; omega) (fun y hy => absurd hy List.not_mem_nil) ⟨fun t ht => absurd ht List.not_mem_nil, fun g hg => absurd hg List.not_mem_nil, by show 0 + _ ≤ _; omega, by show 0 + _ ≤ _; omega⟩ rfl (ll_nil _ _))
  · intro p as b md _ hnn w1 ih
    refine LyA_x (fun he d S r n l hd h1 hr hn hρ h40 o hI hl hle => ?_)
    have l1 := Wt_lt w1
    have t1 := (tln_le w1).1
    obtain ⟨⟨⟨_, _, _, _, _, hL⟩, _⟩, _⟩ := fm_c.mp o
    exact ly_4 hfu hhi hrh (by omega) rfl (by omega) (fun y hy => (sbs_in w1 y hy).1) (nd_S w1) rfl ((ih (by omega)).2 hL hnn) d S r n l hd h1 hr hn hρ h40 o hI hl hle
  · intro p x y b e md _ w1 w2 i1 i2
    have l1 := Wt_lt w1
    have l2 := Wt_lt w2
    exact LyA_x (fun he => ly_two (c := 5) w1 w2 hhi rfl rfl rfl (fun _ => trivial) (by omega) (by omega) (Or.inl (by show p < p + 3; omega)) (by omega) (fun S h => ⟨h.1.1, h.2⟩) ((i1 (by omega)).1 (Wt_tag w1)) ((i2 he).1 (Wt_tag w2)))
  · intro p x y z b c e md w1 w2 w3 i1 i2 i3
    have l2 := Wt_lt w2
    have l3 := Wt_lt w3
    exact LyA_x (fun he => ly_6 w1 w2 w3 hhi ((i1 (by omega)).1 (Wt_tag w1)) ((i2 (by omega)).1 (Wt_tag w2)) ((i3 he).1 (Wt_tag w3)))
  · intro p fs c ns g b d f e md hfs hns w1 w2 w3 w4 i1 i2 i3 i4
    have l2 := Wt_lt w2
    have l3 := Wt_lt w3
    have l4 := Wt_lt w4
    exact LyA_x (fun he => ly_7 hfu hhi hrh he w1 w2 w3 w4 (fun hL => (i1 (by omega)).2 hL hfs) ((i2 (by omega)).1 (Wt_tag w2)) (fun hL => (i3 (by omega)).2 hL hns) ((i4 he).1 (Wt_tag w4)))
  · intro p x e md _ w1 ih
    have l1 := Wt_lt w1
    exact LyA_x (fun he => ly_one (c := 8) w1 hhi rfl rfl rfl (fun _ => trivial) (by omega) (by show p < p + 1; omega) (by omega) (fun S h => ⟨h.1.1, h.2.2, h.2.1⟩) ((ih he).1 (Wt_tag w1)))
  · intro p j x y e md _ w1 w2 i1 i2
    have l1 := Wt_lt w1
    have l2 := Wt_lt w2
    exact LyA_x (fun he => ly_two (c := 9) w1 w2 hhi rfl rfl rfl (fun _ => trivial) (by omega) (by omega) (Or.inr ⟨Nat.le_refl j, by show j < j + 1; omega⟩) (by omega) (fun S h => ⟨h.1.1, h.2.1, h.2.2.1⟩) ((i1 (by omega)).1 (Wt_tag w1)) ((i2 he).1 (Wt_tag w2)))
  · intro p j x y b md w1 w2 i1 i2
    have l1 := Wt_lt w1
    have l2 := Wt_lt w2
    exact LyA_x (fun he => ly_two (c := 10) w1 w2 hhi rfl rfl rfl (fun _ => trivial) (by omega) (by omega) (Or.inr ⟨Nat.le_refl j, by show j < j + 1; omega⟩) (by omega) (fun S h => ⟨h.1.1, h.2.1, h.2.2.1⟩) ((i1 (by omega)).1 (Wt_tag w1)) ((i2 (by omega)).1 (Wt_tag w2)))
  · intro p x y b e md _ _ w1 w2 i1 i2
    have l2 := Wt_lt w2
    exact LyA_x (fun he => ly_11 w1 w2 hhi ((i1 (by omega)).1 (Wt_tag w1)) ((i2 he).1 (Wt_tag w2)))
  · intro p x b md w1 ih
    have l1 := Wt_lt w1
    exact LyA_x (fun he => ly_one (c := 12) w1 hhi rfl rfl rfl (fun _ => trivial) (by omega) (by show p < p + 1; omega) (by omega) (fun S h => ⟨h.1.1, h.2.2, h.2.1⟩) ((ih (by omega)).1 (Wt_tag w1)))
  · intro p x b md hmd _ w1 ih he
    have l1 := Wt_lt w1
    have g0 : p ≤ (if md = 101 then p else p + 2) := by split <;> omega
    exact ⟨(fun ⟨c, f, h⟩ => by cases h), fun _ _ => ll_cons w1 hrh g0 (Nat.le_refl _) (Nat.le_refl _) (fun y hy => absurd hy List.not_mem_nil) (by omega) ((ih he).1 (Wt_tag w1)) (ll_nil _ _)⟩
  · intro p x l b e md hmd _ hl w1 w2 i1 i2 he
    have l1 := Wt_lt w1
    have l2 := Wt_lt w2
    have g0 : p ≤ (if md = 101 then p else p + 2) := by split <;> omega
    exact ⟨(fun ⟨c, f, h⟩ => by cases h), fun hL _ => ll_cons w1 hrh g0 (show b ≤ b + 1 by omega) (by omega) (fun y hy => (sbs_in w2 y hy).1) (by omega) ((i1 (by omega)).1 (Wt_tag w1)) ((i2 he).2 hL hl)⟩
end LYO
