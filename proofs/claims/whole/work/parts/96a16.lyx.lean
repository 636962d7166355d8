/-! the reference lays regions: an X without lists -/
def InS (ν : Nat → Nat) (x : TR) : Prop := ∀ y, y ∈ sbs x → ∀ y', y' ∈ sbs x → ν (otk y) = ν (otk y') → otk y = otk y'
def LyH (K pl : Nat → Nat) (V : Nat → Int64) (fu lo hi rlo rhi : Nat) (ν ρ : Nat → Nat) (x : TR) (p e : Nat) : Prop := ∀ (d : Nat) (S : im_S) (r n : Nat) (l : List Nat), 2 * (e - p) ≤ d → RgL S r l → r < n → n + (rgs x).length ≤ 640 → mpR ρ (rgs x) n → S.1 75 40 = nI n → OKs K pl V S lo hi rlo rhi ν x → InS ν x → (∀ k, k ∈ l → ¬ tkT ν x k) → l.length + (e - p) ≤ 1000 → ∃ S' : im_S, rc_lay fu d 0 (nI (ν (otk x))) (nI r) S = some (0, S') ∧ LyG S S' ν ρ (tkT ν x) r n l (nds x) (rgs x) (sbs x)
section LYX
variable {K pl : Nat → Nat} {V : Nat → Int64} {m fu : Nat} {lo hi rlo rhi : Nat} {ν ρ : Nat → Nat}
theorem InS_sub {X x : TR} (h : InS ν X) (hs : ∀ y, y ∈ sbs x → y ∈ sbs X) : InS ν x := fun y hy y' hy' q => h y (hs y hy) y' (hs y' hy') q
theorem tk_sub {X x : TR} (hs : ∀ y, y ∈ sbs x → y ∈ sbs X) : ∀ i, tkT ν x i → tkT ν X i := fun i ⟨y, hy, q⟩ => ⟨y, hs y hy, q⟩
theorem tk_ne {X x z : TR} (hI : InS ν X) (hs : ∀ y, y ∈ sbs x → y ∈ sbs X) (hz : z ∈ sbs X) (hne : ∀ y, y ∈ sbs x → otk y ≠ otk z) : ¬ tkT ν x (ν (otk z)) := fun ⟨y, hy, q⟩ => hne y hy (hI z hz y (hs y hy) q).symm
theorem tk_own {X x z : TR} (hI : InS ν X) (hs : ∀ y, y ∈ sbs x → y ∈ sbs X) (hz : z ∈ sbs X) (hne : ∀ y, y ∈ sbs x → otk y ≠ otk z) : ∀ y, y ∈ sbs x → ¬ ν (otk y) = ν (otk z) := fun y hy q => hne y hy (hI y (hs y hy) z hz q)
theorem nd_T {x : TR} {p e : Nat} (h : NdS x p e) : ∀ t, t ∈ nds x → tkT ν x (ν t) := fun t ht => by
  obtain ⟨y, h1, h2⟩ := h.1 t ht
  exact ⟨y, h1, by rw [h2]⟩
theorem l_app {x y X : TR} {p e : Nat} {l : List Nat} (hI : InS ν X) (h : NdS x p e) (hx : ∀ y, y ∈ sbs x → y ∈ sbs X) (hy : ∀ z, z ∈ sbs y → z ∈ sbs X) (hd : ∀ a, a ∈ sbs x → ∀ b, b ∈ sbs y → otk b ≠ otk a) (hl : ∀ k, k ∈ l → ¬ tkT ν X k) : ∀ k, k ∈ l ++ (nds x).map ν → ¬ tkT ν y k := by
  refine fm_a.mpr ⟨fun k hk z => hl k hk (tk_sub hy k z), fun k hk => ?_⟩
  obtain ⟨t, ht, rfl⟩ := List.mem_map.mp hk
  obtain ⟨a, ha, rfl⟩ := h.1 t ht
  exact tk_ne hI hy (hx a ha) (hd a ha)
theorem rcl0 (d : Nat) (a b : Int32) (S : im_S) : rc_lay fu (d + 1) 0 a b S = (f_X11_lay (rc_lay fu d) fu a b S).bind (fun q => some (0, q.2)) := rfl
theorem lay_m1 (d : Nat) (b : Int32) (S : im_S) : rc_lay fu (d + 1) 0 (-1) b S = some (0, S) := by
  rw [rcl0, lay_eq, if_neg (fun z => z rfl)]
  rfl
theorem lay_D {Kf : Nat → Int32 → Int32 → im_S → Option (Int32 × im_S)} {c k : Nat} {x2 : Int32} {S : im_S} (hc : c = 1 ∨ c = 2 ∨ c = 3 ∨ c = 5 ∨ c = 8 ∨ c = 9 ∨ c = 10 ∨ c = 12) (hk : k < 1200) (h : S.1 81 k = nI c) : f_X11_lay Kf fu (nI k) x2 S = lpD Kf (nI k) x2 S := by
  rw [lay_eq, if_pos (nI_m1 (show k < 2 ^ 31 by omega)), mI_in (a := k) (n := 1200) (by omega) hk, nI_clamp (show k < 2 ^ 31 by omega), h]
  rcases hc with rfl | rfl | rfl | rfl | rfl | rfl | rfl | rfl <;> rfl
theorem ly_open {x : TR} {p e : Nat} (w : Wt K x p e 0) (hhi : hi ≤ 1200) (h : LyH K pl V fu lo hi rlo rhi ν ρ x p e) {d c : Nat} {S : im_S} {r n : Nat} {l : List Nat} (hd : 2 * (e - p) ≤ d) (h1 : RgL S r l) (hr : r < n) (hn : n + (rgs x).length < 640) (hρ : mpR ρ ((c, nds x, some (otk x)) :: rgs x) n) (h40 : S.1 75 40 = nI n) (o : OKs K pl V S lo hi rlo rhi ν x) (hI : InS ν x) (hl : ∀ k, k ∈ l → ¬ tkT ν x k) (he : e - p ≤ 1000) : ∃ S' : im_S, rc_lay fu (d + 1) 1 (nI (ν (otk x))) 0 S = some (nI n, S') ∧ LyG S S' ν ρ (tkT ν x) r n l [] ((c, nds x, some (otk x)) :: rgs x) (sbs x) := by
  obtain ⟨S0, a1, a2, a3, a4, a5, a6⟩ := addR (v := nI (ν (otk x))) (show n < 640 by omega) h40
  obtain ⟨m1, m2⟩ := mpR_cons hρ
  have o0 : OKs K pl V S0 lo hi rlo rhi ν x := fun y hy => ⟨RN_ag (fun a i u1 u2 => a5 a i (by omega) (by omega)) a6 (o y hy).1, (o y hy).2⟩
  obtain ⟨S', b1, b2⟩ := h d S0 n (n + 1) [] hd a2 (by omega) (by omega) m2 a3 o0 hI (fun k hk => absurd hk List.not_mem_nil) (by show 0 + (e - p) ≤ 1000; omega)
  refine ⟨S', ?_, LyG_open hr (by omega) h1 hl a2 a4 a5 a6 m1 b2⟩
  show f_X11_opened (rc_lay fu d) fu (nI (ν (otk x))) S = _
  unfold f_X11_opened
  rw [a1]
  simp only [Option.bind_some]
  rw [b1]
  rfl
theorem ly_leaf {X : TR} {c p e : Nat} (hpe : p < e) (hhi : hi ≤ 1200) (hs : sbs X = [X]) (hnd : nds X = [otk X]) (hrg : rgs X = []) (hin : ∀ S, IN S ν ρ X) (hc : c = 1 ∨ c = 2 ∨ c = 3) (h8 : ∀ S, RN K pl V S rlo rhi ν X → S.1 81 (ν (otk X)) = nI c ∧ S.1 83 (ν (otk X)) = -1 ∧ S.1 84 (ν (otk X)) = -1) : LyH K pl V fu lo hi rlo rhi ν ρ X p e := by
  intro d S r n l hd h1 hr hn hρ h40 o hI hl hle
  have hX : X ∈ sbs X := by rw [hs]; exact List.mem_cons_self
  obtain ⟨o1, o2, o3⟩ := o X hX
  obtain ⟨e1, e2, e3⟩ := h8 S o1
  obtain ⟨d, rfl⟩ : ∃ d', d = d' + 2 := ⟨d - 2, by omega⟩
  have hT : tkT ν X (ν (otk X)) := ⟨X, hX, rfl⟩
  obtain ⟨S', p1, p2⟩ := LyG_put (ρ := ρ) (S := S) (Tt := S) (x := X) rfl (show ν (otk X) < 1200 by omega) (show r < 640 by omega) h40 (fun _ _ _ _ => rfl) h1 (fun z => hl _ z hT) (by omega) (hin S)
  refine ⟨S', ?_, LyG_wk p2 (fun i z => ⟨X, hX, z⟩) (fun y hy => by rw [hs] at hy; exact hy) hnd hrg⟩
  rw [rcl0, lay_D (by omega) (show ν (otk X) < 1200 by omega) e1]
  unfold lpD
  rw [mI_in (a := ν (otk X)) (n := 1200) (by omega) (by omega), nI_clamp (show ν (otk X) < 2 ^ 31 by omega), e2, lay_m1]
  simp only [gd_t, Option.bind_some]
  rw [e3, lay_m1]
  simp only [Option.bind_some]
  rw [p1]
  rfl
theorem ly_one {X x : TR} {c p e p1 e1 : Nat} (w1 : Wt K x p1 e1 0) (hhi : hi ≤ 1200) (hs : sbs X = X :: sbs x) (hnd : nds X = nds x ++ [otk X]) (hrg : rgs X = rgs x) (hin : ∀ S, IN S ν ρ X) (hc : c = 8 ∨ c = 12) (hj : otk X < p1) (hpe : e1 - p1 + 1 ≤ e - p) (h8 : ∀ S, RN K pl V S rlo rhi ν X → S.1 81 (ν (otk X)) = nI c ∧ S.1 83 (ν (otk X)) = nI (ν (otk x)) ∧ S.1 84 (ν (otk X)) = -1) (ih : LyH K pl V fu lo hi rlo rhi ν ρ x p1 e1) : LyH K pl V fu lo hi rlo rhi ν ρ X p e := by
  intro d S r n l hd h1 hr hn hρ h40 o hI hl hle
  have l1 := Wt_lt w1
  have hX : X ∈ sbs X := by rw [hs]; exact List.mem_cons_self
  have hx : ∀ y, y ∈ sbs x → y ∈ sbs X := fun y hy => by rw [hs]; exact List.mem_cons_of_mem _ hy
  have hne : ∀ y, y ∈ sbs x → otk y ≠ otk X := fun y hy => by have := sbs_in w1 y hy; omega
  have S1nd := nd_S w1
  obtain ⟨o1, o2, o3⟩ := o X hX
  obtain ⟨e1, e2, e3⟩ := h8 S o1
  rw [hrg] at hn hρ
  obtain ⟨d, rfl⟩ : ∃ d', d = d' + 2 := ⟨d - 2, by omega⟩
  obtain ⟨S1, a1, a2⟩ := ih (d + 1) S r n l (by omega) h1 hr hn hρ h40 (fun y hy => o y (hx y hy)) (InS_sub hI hx) (fun k hk z => hl k hk (tk_sub hx k z)) (by omega)
  have hT : tkT ν X (ν (otk X)) := ⟨X, hX, rfl⟩
  have hlen : (l ++ (nds x).map ν).length < 1200 := by rw [List.length_append, List.length_map]; have := S1nd.2.2.1; omega
  obtain ⟨S', p1', p2⟩ := LyG_put (ρ := ρ) (S := S1) (Tt := S1) (x := X) (n := n + (rgs x).length) rfl (show ν (otk X) < 1200 by omega) (show r < 640 by omega) a2.2.2.1 (fun _ _ _ _ => rfl) a2.1 (fun z => by
    rcases List.mem_append.mp z with z | z
    · exact hl _ z hT
    · obtain ⟨t, ht, hq⟩ := List.mem_map.mp z
      obtain ⟨y, hy, rfl⟩ := S1nd.1 t ht
      exact tk_own hI hx hX hne y hy hq) hlen (hin S1)
  refine ⟨S', ?_, LyG_wk (LyG_comp (T := tkT ν X) a2 p2 hρ (tk_sub hx) (fun i z => ⟨X, hX, z⟩) (fun y hy => tk_own hI hx hX hne y hy) (nd_T S1nd) (fun g hg t ht => ?_) hr hn) (fun i z => z) (fun y hy => ?_) hnd (by rw [hrg, List.append_nil])⟩
  · rw [rcl0, lay_D (by omega) (show ν (otk X) < 1200 by omega) e1]
    unfold lpD
    rw [mI_in (a := ν (otk X)) (n := 1200) (by omega) (by omega), nI_clamp (show ν (otk X) < 2 ^ 31 by omega), e2, a1]
    simp only [gd_t, Option.bind_some]
    rw [a2.2.1.1 84 _ (by omega) (by omega) (by omega) (by omega) (by omega), e3, lay_m1]
    simp only [Option.bind_some]
    rw [p1']
    rfl
  · obtain ⟨y, hy, rfl⟩ := S1nd.2.1 g hg t ht
    exact tk_own hI hx hX hne y hy
  · rw [hs] at hy
    rcases List.mem_cons.mp hy with rfl | hy
    · exact List.mem_append_right _ List.mem_cons_self
    · exact List.mem_append_left _ hy
theorem ly_two {X x y : TR} {c p e p1 e1 p2 e2 : Nat} (w1 : Wt K x p1 e1 0) (w2 : Wt K y p2 e2 0) (hhi : hi ≤ 1200) (hs : sbs X = X :: (sbs x ++ sbs y)) (hnd : nds X = nds x ++ (nds y ++ [otk X])) (hrg : rgs X = rgs x ++ rgs y) (hin : ∀ S, IN S ν ρ X) (hc : c = 5 ∨ c = 9 ∨ c = 10) (h12 : e1 ≤ p2) (hj : otk X < p1 ∨ (e1 ≤ otk X ∧ otk X < p2)) (hpe : (e1 - p1) + (e2 - p2) + 1 ≤ e - p) (h8 : ∀ S, RN K pl V S rlo rhi ν X → S.1 81 (ν (otk X)) = nI c ∧ S.1 83 (ν (otk X)) = nI (ν (otk x)) ∧ S.1 84 (ν (otk X)) = nI (ν (otk y))) (ih1 : LyH K pl V fu lo hi rlo rhi ν ρ x p1 e1) (ih2 : LyH K pl V fu lo hi rlo rhi ν ρ y p2 e2) : LyH K pl V fu lo hi rlo rhi ν ρ X p e := by
  intro d S r n l hd h1 hr hn hρ h40 o hI hl hle
  have l1 := Wt_lt w1
  have l2 := Wt_lt w2
  have hX : X ∈ sbs X := by rw [hs]; exact List.mem_cons_self
  have hx : ∀ z, z ∈ sbs x → z ∈ sbs X := fun z hz => by rw [hs]; exact List.mem_cons_of_mem _ (List.mem_append_left _ hz)
  have hy : ∀ z, z ∈ sbs y → z ∈ sbs X := fun z hz => by rw [hs]; exact List.mem_cons_of_mem _ (List.mem_append_right _ hz)
  have hnx : ∀ z, z ∈ sbs x → otk z ≠ otk X := fun z hz => by have := sbs_in w1 z hz; omega
  have hny : ∀ z, z ∈ sbs y → otk z ≠ otk X := fun z hz => by have := sbs_in w2 z hz; omega
  have hxy : ∀ a, a ∈ sbs x → ∀ b, b ∈ sbs y → otk b ≠ otk a := fun a ha b hb => by have := sbs_in w1 a ha; have := sbs_in w2 b hb; omega
  have nx := nd_S w1
  have ny := nd_S w2
  obtain ⟨o1, o2, o3⟩ := o X hX
  obtain ⟨f1, f2, f3⟩ := h8 S o1
  rw [hrg] at hn hρ
  rw [List.length_append] at hn
  obtain ⟨m1, m2⟩ := mpR_app hρ
  obtain ⟨d, rfl⟩ : ∃ d', d = d' + 2 := ⟨d - 2, by omega⟩
  obtain ⟨S1, a1, a2⟩ := ih1 (d + 1) S r n l (by omega) h1 hr (by omega) m1 h40 (fun z hz => o z (hx z hz)) (InS_sub hI hx) (fun k hk z => hl k hk (tk_sub hx k z)) (by omega)
  have hlen1 : (l ++ (nds x).map ν).length ≤ l.length + (e1 - p1) := by rw [List.length_append, List.length_map]; have := nx.2.2.1; omega
  obtain ⟨S2, b1, b2⟩ := ih2 (d + 1) S1 r (n + (rgs x).length) (l ++ (nds x).map ν) (by omega) a2.1 (by omega) (by omega) m2 a2.2.2.1 (OKs_ly a2.2.1 (fun z hz => o z (hy z hz))) (InS_sub hI hy) (l_app hI nx hx hy hxy hl) (by omega)
  have c12 := LyG_comp (T := tkT ν X) a2 b2 m1 (tk_sub hx) (tk_sub hy) (fun a ha => tk_ne hI hy (hx a ha) (hxy a ha)) (nd_T nx) (fun g hg t ht => by
    obtain ⟨a, ha, rfl⟩ := nx.2.1 g hg t ht
    exact tk_ne hI hy (hx a ha) (hxy a ha)) hr (by omega)
  have hT : tkT ν X (ν (otk X)) := ⟨X, hX, rfl⟩
  have hlen : (l ++ (nds x ++ nds y).map ν).length < 1200 := by rw [List.length_append, List.length_map, List.length_append]; have := nx.2.2.1; have := ny.2.2.1; omega
  have hown : ∀ z, z ∈ sbs x ++ sbs y → ¬ ν (otk z) = ν (otk X) := fm_a.mpr ⟨tk_own hI hx hX hnx, tk_own hI hy hX hny⟩
  obtain ⟨S', p1', p2'⟩ := LyG_put (ρ := ρ) (S := S2) (Tt := S2) (x := X) (n := n + (rgs x ++ rgs y).length) rfl (show ν (otk X) < 1200 by omega) (show r < 640 by omega) c12.2.2.1 (fun _ _ _ _ => rfl) c12.1 (fun z => by
    rcases List.mem_append.mp z with z | z
    · exact hl _ z hT
    · obtain ⟨t, ht, hq⟩ := List.mem_map.mp z
      rcases List.mem_append.mp ht with ht | ht
      · obtain ⟨y, hy, rfl⟩ := nx.1 t ht
        exact tk_own hI hx hX hnx y hy hq
      · obtain ⟨y, hy', rfl⟩ := ny.1 t ht
        exact tk_own hI hy hX hny y hy' hq) hlen (hin S2)
  refine ⟨S', ?_, LyG_wk (LyG_comp (T := tkT ν X) c12 p2' hρ (fun i z => z) (fun i z => ⟨X, hX, z⟩) hown (fm_a.mpr ⟨fun t ht => tk_sub hx _ (nd_T nx t ht), fun t ht => tk_sub hy _ (nd_T ny t ht)⟩) (fm_a.mpr ⟨fun g hg t ht => ?_, fun g hg t ht => ?_⟩) hr (by rw [List.length_append]; omega)) (fun i z => z) (fun z hz => ?_) (by rw [hnd, List.append_assoc]) (by rw [hrg, List.append_nil])⟩
  · rw [rcl0, lay_D (by omega) (show ν (otk X) < 1200 by omega) f1]
    unfold lpD
    rw [mI_in (a := ν (otk X)) (n := 1200) (by omega) (by omega), nI_clamp (show ν (otk X) < 2 ^ 31 by omega), f2, a1]
    simp only [gd_t, Option.bind_some]
    rw [a2.2.1.1 84 _ (by omega) (by omega) (by omega) (by omega) (by omega), f3, b1]
    simp only [Option.bind_some]
    rw [p1']
    rfl
  · obtain ⟨z, hz, rfl⟩ := nx.2.1 g hg t ht
    exact tk_own hI hx hX hnx z hz
  · obtain ⟨z, hz, rfl⟩ := ny.2.1 g hg t ht
    exact tk_own hI hy hX hny z hz
  · rw [hs] at hz
    rcases List.mem_cons.mp hz with rfl | hz
    · exact List.mem_append_right _ List.mem_cons_self
    · exact List.mem_append_left _ hz
end LYX
