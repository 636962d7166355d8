/-! the reference lays all functions -/
def sbP : TR → List TR
  | .append (.tag _ (.append _ x)) r => sbs x ++ sbP r
  | _ => []
def rgP : TR → List (Nat × List Nat × Option Nat)
  | .append (.tag p (.append _ x)) r => ((4 * p, nds x, some (otk x)) :: rgs x) ++ rgP r
  | _ => []
def PLy (S : im_S) (ν ρ : Nat → Nat) (rg : List (Nat × List Nat × Option Nat)) (sb : List TR) : Prop := S.1 75 40 = nI rg.length ∧ (∀ g, g ∈ rg → RgL S (ρ g.1) (g.2.1.map ν) ∧ S.1 105 (ρ g.1) = rtI ν g.2.2) ∧ ∀ y, y ∈ sb → IN S ν ρ y
/-- what laying leaves as it was -/
def FrL (S S' : im_S) : Prop := (∀ a i : Nat, a ≠ 96 → (a < 103 ∨ 112 < a) → (a = 75 → i ≠ 40 ∧ i ≠ 72 ∧ i ≠ 73 ∧ i ≠ 74) → S'.1 a i = S.1 a i) ∧ S'.2.1 = S.2.1
theorem FrL_refl (S : im_S) : FrL S S := ⟨fun _ _ _ _ _ => rfl, rfl⟩
theorem FrL_trans {S S1 S2 : im_S} (h1 : FrL S S1) (h2 : FrL S1 S2) : FrL S S2 := ⟨fun a i q1 q2 q3 => (h2.1 a i q1 q2 q3).trans (h1.1 a i q1 q2 q3), h2.2.trans h1.2⟩
section LYP
variable {K pl : Nat → Nat} {V : Nat → Int64} {m fu fr : Nat} {lo hi rlo rhi : Nat} {ν ρ : Nat → Nat}
theorem sbP_in {y : TR} {p e : Nat} (w : PW K y p e) : ∀ z, z ∈ sbP y → p ≤ otk z ∧ otk z < e := by
  refine PW_ind (K := K) (P := fun y p e => ∀ z, z ∈ sbP y → p ≤ otk z ∧ otk z < e) ?_ ?_ (tsz y) y p e (Nat.le_refl _) w
  · intro p cnt x b e0 _ _ _ w1 h
    refine fm_a.mpr ⟨fun z hz => ?_, fun z hz => absurd hz List.not_mem_nil⟩
    have := sbs_in w1 z hz; omega
  · intro p cnt x r b e0 e _ _ _ w1 h _ w2 ih
    have := PW_lt w2
    refine fm_a.mpr ⟨fun z hz => ?_, fun z hz => ?_⟩
    · have := sbs_in w1 z hz; omega
    · have := ih z hz; have := Wt_lt w1; omega
theorem OKs_frL {S S' : im_S} (F : FrL S S') {x : TR} (h : OKs K pl V S lo hi rlo rhi ν x) : OKs K pl V S' lo hi rlo rhi ν x := fun y hy => ⟨RN_ag (fun a i u1 u2 => F.1 a i (by omega) (by omega) (by omega)) F.2 (h y hy).1, (h y hy).2⟩
theorem lyP_one (hfu : 600 ≤ fu) (hhi : hi ≤ 1200) (hrh : rhi ≤ 1200) {x : TR} {p b e0 : Nat} (w : Wt K x b e0 0) (he : e0 ≤ 500) {S : im_S} {rgA : List (Nat × List Nat × Option Nat)} {sbA : List TR} (H : PLy S ν ρ rgA sbA) (hρ : mpR ρ (rgA ++ ((4 * p, nds x, some (otk x)) :: rgs x)) 0) (hn : (rgA ++ ((4 * p, nds x, some (otk x)) :: rgs x)).length ≤ 640) (hA : ∀ g, g ∈ rgA → ∀ t, t ∈ g.2.1 → ∃ y, y ∈ sbA ∧ otk y = t) (hd : ∀ y, y ∈ sbA → ¬ tkT ν x (ν (otk y))) (o : OKs K pl V S lo hi rlo rhi ν x) (hI : InS ν x) :
    ∃ (v : Int32) (S' : im_S), g_X11_opened fu (nI (ν (otk x))) S = some (v, S') ∧ PLy S' ν ρ (rgA ++ ((4 * p, nds x, some (otk x)) :: rgs x)) (sbA ++ sbs x) ∧ FrL S S' := by
  obtain ⟨h40, h2, h3⟩ := H
  have l1 := Wt_lt w
  rw [List.length_append] at hn
  have hn : rgA.length + ((rgs x).length + 1) ≤ 640 := hn
  obtain ⟨m1, m2⟩ := mpR_app hρ
  rw [Nat.zero_add] at m2
  obtain ⟨c1, c2⟩ := mpR_cons m2
  have c1 : ρ (4 * p) = rgA.length := c1
  obtain ⟨S0, a1, a2, a3, a4, a5, a6⟩ := addR (v := nI (ν (otk x))) (show rgA.length < 640 by omega) h40
  have o0 : OKs K pl V S0 lo hi rlo rhi ν x := fun y hy => ⟨RN_ag (fun a i u1 u2 => a5 a i (by omega) (by omega)) a6 (o y hy).1, (o y hy).2⟩
  obtain ⟨S', b1, b2⟩ := ((ly_all (lo := lo) (rlo := rlo) (pl := pl) (V := V) (ν := ν) (ρ := ρ) hfu hhi hrh w he).1 (Wt_tag w)) 1199 S0 rgA.length (rgA.length + 1) [] (by omega) a2 (by omega) (by omega) c2 a3 o0 hI (fun k hk => absurd hk List.not_mem_nil) (by show 0 + _ ≤ _; omega)
  obtain ⟨d1, d2, d3, d4, d5⟩ := b2
  refine ⟨nI rgA.length, S', ?_, ⟨?_, fm_a.mpr ⟨fun g hg => ?_, fm_c.mpr ⟨⟨?_, ?_⟩, d4⟩⟩, fm_a.mpr ⟨fun y hy => ?_, d5⟩⟩, ⟨fun a i q1 q2 q3 => ?_, d2.2.trans a6⟩⟩
  · show f_X11_opened (rc_lay fu 1199) fu (nI (ν (otk x))) S = _
    unfold f_X11_opened
    rw [a1]
    simp only [Option.bind_some]
    rw [b1]
    rfl
  · rw [List.length_append, d3]
    show nI (rgA.length + 1 + (rgs x).length) = nI (rgA.length + ((rgs x).length + 1))
    rw [show rgA.length + 1 + (rgs x).length = rgA.length + ((rgs x).length + 1) by omega]
  · obtain ⟨g1, g2⟩ := h2 g hg
    have hr := mpR_in m1 g hg
    have g1' : RgL S0 (ρ g.1) (g.2.1.map ν) := RgL_cp g1 (a5 106 _ (by omega) (by omega)) (a5 107 _ (by omega) (by omega)) (a5 109 _ (by omega) (by omega)) (fun k _ => ⟨a5 103 k (by omega) (by omega), a5 104 k (by omega) (by omega), a5 108 k (by omega) (by omega)⟩)
    refine ⟨RgL_fl d2 g1' (by omega) (by omega) (fun k hk => ?_) (fun k _ => List.not_mem_nil), ?_⟩
    · obtain ⟨t, ht, rfl⟩ := List.mem_map.mp hk
      obtain ⟨y, hy, rfl⟩ := hA g hg t ht
      exact hd y hy
    · rw [d2.1 105 _ (by omega) (by omega) (by omega) (by omega) (by omega), a5 105 _ (by omega) (by omega)]; exact g2
  · show RgL S' (ρ (4 * p)) ((nds x).map ν)
    rw [c1]; exact d1
  · show S'.1 105 (ρ (4 * p)) = nI (ν (otk x))
    rw [c1, d2.1 105 _ (by omega) (by omega) (by omega) (by omega) (by omega)]; exact a4
  · exact IN_cp (fun a u1 u2 => by rw [d2.1 a _ (by omega) (fun _ => hd y hy) (by omega) (by omega) (by omega), a5 a _ (by omega) (by omega)]) (h3 y hy)
  · rw [d2.1 a i (by omega) (by omega) (by omega) (by omega) (by omega), a5 a i (by omega) (by omega)]
def LyPh (K pl : Nat → Nat) (V : Nat → Int64) (fu fr lo hi rlo rhi : Nat) (ν ρ : Nat → Nat) (y : TR) (p e : Nat) : Prop := e ≤ 500 → ∀ (S : im_S) (rgA : List (Nat × List Nat × Option Nat)) (sbA : List TR) (c fn nf : Nat), PLy S ν ρ rgA sbA → mpR ρ (rgA ++ rgP y) 0 → (rgA ++ rgP y).length ≤ 640 → (∀ g, g ∈ rgA → ∀ t, t ∈ g.2.1 → ∃ y, y ∈ sbA ∧ otk y = t) → (∀ a, a ∈ sbA → ∀ b, b ∈ sbP y → ν (otk b) ≠ ν (otk a)) → (∀ a, a ∈ sbP y → ∀ b, b ∈ sbP y → ν (otk a) = ν (otk b) → otk a = otk b) → FA (fun c p cnt x => S.1 102 c = nI (ν (otk x)) ∧ OKs K pl V S lo hi rlo rhi ν x) y (fr + c) → S.1 75 35 = nI fn → 8 * S.1 75 37 = nI fr → fr + fn ≤ 16 → c + tln y = fn → tln y < nf → ∃ S' : im_S, f_X11_compile_L69 fu nf (nI c) S = f_X11_compile_L104 fu fu 0 S' ∧ PLy S' ν ρ (rgA ++ rgP y) (sbA ++ sbP y) ∧ FrL S S'
theorem l69_step {S : im_S} {c fn nf : Nat} {v : Int32} {S1 : im_S} {k : Nat} (h35 : S.1 75 35 = nI fn) (h37 : 8 * S.1 75 37 = nI fr) (hf : fr + fn ≤ 16) (hc : c < fn) (h102 : S.1 102 (fr + c) = nI k) (h : g_X11_opened fu (nI k) S = some (v, S1)) : f_X11_compile_L69 fu (nf + 1) (nI c) S = f_X11_compile_L69 fu nf (nI (c + 1)) S1 := by
  rw [f_X11_compile_L69, h35, if_neg (fun z => by have := (mI_le (a := fn) (b := c) (by omega) (by omega)).mp z; omega), h37, show nI fr + nI c = nI (fr + c) from nI_add _ _, mI_in (a := fr + c) (n := 16) (by omega) (by omega), nI_clamp (show fr + c < 2 ^ 31 by omega), h102, h, show nI c + 1 = nI (c + 1) from nI_add _ _]
  rfl
theorem lyP (hfu : 600 ≤ fu) (hhi : hi ≤ 1200) (hrh : rhi ≤ 1200) {y : TR} {p e : Nat} (w : PW K y p e) : LyPh K pl V fu fr lo hi rlo rhi ν ρ y p e := by
  refine PW_ind (K := K) (P := fun y p e => LyPh K pl V fu fr lo hi rlo rhi ν ρ y p e) ?_ ?_ (tsz y) y p e (Nat.le_refl _) w
  · intro p cnt x b e0 _ _ _ w1 _ he S rgA sbA c fn nf H hρ hn hA hd hI hF h35 h37 hf hc hnf
    have hc : c + (0 + 1) = fn := hc
    have hnf : 0 + 1 < nf := hnf
    obtain ⟨nf, rfl⟩ : ∃ z, nf = z + 2 := ⟨nf - 2, by omega⟩
    have e1 : rgP (.append (.tag p (.append (.tag cnt .nil) x)) .nil) = (4 * p, nds x, some (otk x)) :: rgs x := by
      show ((4 * p, nds x, some (otk x)) :: rgs x) ++ [] = _
      rw [List.append_nil]
    have e2 : sbP (.append (.tag p (.append (.tag cnt .nil) x)) .nil) = sbs x := by
      show sbs x ++ [] = _
      rw [List.append_nil]
    rw [e1] at hρ hn ⊢
    rw [e2] at hd hI ⊢
    obtain ⟨v, S1, a1, a2, a3⟩ := lyP_one (ρ := ρ) hfu hhi hrh w1 (by omega) H hρ hn hA (fun y hy ⟨z, hz, q⟩ => hd y hy z hz q.symm) hF.1.2 hI
    refine ⟨S1, ?_, a2, a3⟩
    rw [l69_step h35 h37 hf (by omega) hF.1.1 a1, f_X11_compile_L69, a3.1 75 35 (by omega) (by omega) (by omega), h35, if_pos ((mI_le (a := fn) (b := c + 1) (by omega) (by omega)).mpr (by omega))]
  · intro p cnt x r b e0 e _ _ _ w1 _ _ w2 ih he S rgA sbA c fn nf H hρ hn hA hd hI hF h35 h37 hf hc hnf
    have hc : c + (tln r + 1) = fn := hc
    have hnf : tln r + 1 < nf := hnf
    have l2 := PW_lt w2
    obtain ⟨nf, rfl⟩ : ∃ z, nf = z + 1 := ⟨nf - 1, by omega⟩
    have e1 : rgA ++ rgP (.append (.tag p (.append (.tag cnt .nil) x)) r) = (rgA ++ ((4 * p, nds x, some (otk x)) :: rgs x)) ++ rgP r := by
      show rgA ++ (((4 * p, nds x, some (otk x)) :: rgs x) ++ rgP r) = _
      rw [List.append_assoc]
    have e2 : sbA ++ sbP (.append (.tag p (.append (.tag cnt .nil) x)) r) = (sbA ++ sbs x) ++ sbP r := by
      show sbA ++ (sbs x ++ sbP r) = _
      rw [List.append_assoc]
    rw [e1] at hρ hn ⊢
    rw [e2]
    have A : ∀ z, z ∈ sbs x → z ∈ sbP (.append (.tag p (.append (.tag cnt .nil) x)) r) := fun z hz => List.mem_append_left _ hz
    have B : ∀ z, z ∈ sbP r → z ∈ sbP (.append (.tag p (.append (.tag cnt .nil) x)) r) := fun z hz => List.mem_append_right _ hz
    have nx := nd_S w1
    obtain ⟨v, S1, a1, a2, a3⟩ := lyP_one (ρ := ρ) hfu hhi hrh w1 (by omega) H (mpR_app hρ).1 (by rw [List.length_append] at hn; omega) hA (fun y hy ⟨z, hz, q⟩ => hd y hy z (A z hz) q.symm) hF.1.2 (fun a ha b hb => hI a (A a ha) b (A b hb))
    have hr2 : ∀ z, z ∈ sbP r → e0 + 1 ≤ otk z := fun z hz => (sbP_in w2 z hz).1
    obtain ⟨S2, b1, b2, b3⟩ := ih he S1 _ _ (c + 1) fn nf a2 hρ hn (fm_a.mpr ⟨fun g hg t ht => sb_up (fun y h => List.mem_append_left _ h) (hA g hg t ht), fm_c.mpr ⟨fun t ht => sb_up (fun y h => List.mem_append_right _ h) (nx.1 t ht), fun g hg t ht => sb_up (fun y h => List.mem_append_right _ h) (nx.2.1 g hg t ht)⟩⟩) (fm_a.mpr ⟨fun a ha b hb => hd a ha b (B b hb), fun a ha b hb q => by have := hI b (B b hb) a (A a ha) q; have := sbs_in w1 a ha; have := hr2 b hb; omega⟩) (fun a ha b hb => hI a (B a ha) b (B b hb)) (FA_mp (fun c p cnt x h => ⟨by rw [a3.1 102 c (by omega) (by omega) (by omega)]; exact h.1, OKs_frL a3 h.2⟩) (tsz r) r _ (Nat.le_refl _) hF.2) (by rw [a3.1 75 35 (by omega) (by omega) (by omega)]; exact h35) (by rw [a3.1 75 37 (by omega) (by omega) (by omega)]; exact h37) hf (by omega) (by omega)
    exact ⟨S2, (l69_step h35 h37 hf (by omega) hF.1.1 a1).trans b1, b2, FrL_trans a3 b3⟩
end LYP
