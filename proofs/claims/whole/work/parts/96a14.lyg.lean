/-! the reference lays regions: pieces -/
/-- the own tokens of an X's own region, as they are laid -/
def nds : TR → List Nat
  | .tag 1 (.tag j _) => [j]
  | .tag 2 (.tag j _) => [j]
  | .tag 3 (.tag j _) => [j]
  | .tag 4 (.tag j as) => nds as ++ [j]
  | .tag 5 (.tag j (.append x y)) => nds x ++ (nds y ++ [j])
  | .tag 6 (.tag j (.append x _)) => nds x ++ [j]
  | .tag 7 (.tag j (.append fs _)) => nds fs ++ [j]
  | .tag 8 (.tag j x) => nds x ++ [j]
  | .tag 9 (.tag j (.append x y)) => nds x ++ (nds y ++ [j])
  | .tag 10 (.tag j (.append x y)) => nds x ++ (nds y ++ [j])
  | .tag 11 (.tag j (.append x _)) => nds x ++ [j]
  | .tag 12 (.tag j x) => nds x ++ [j]
  | .append (.tag _ x) l => nds x ++ nds l
  | _ => []
/-- the regions within an X: code, own tokens, root -/
def rgs : TR → List (Nat × List Nat × Option Nat)
  | .tag 4 (.tag _ as) => rgs as
  | .tag 5 (.tag _ (.append x y)) => rgs x ++ rgs y
  | .tag 6 (.tag j (.append x (.append y z))) => rgs x ++ (((4 * j, nds y, some (otk y)) :: rgs y) ++ ((4 * j + 1, nds z, some (otk z)) :: rgs z))
  | .tag 7 (.tag j (.append fs (.append c (.append ns g)))) => rgs fs ++ (((4 * j, nds c, some (otk c)) :: rgs c) ++ (((4 * j + 1, nds ns, none) :: rgs ns) ++ ((4 * j + 2, nds g, some (otk g)) :: rgs g)))
  | .tag 8 (.tag _ x) => rgs x
  | .tag 9 (.tag _ (.append x y)) => rgs x ++ rgs y
  | .tag 10 (.tag _ (.append x y)) => rgs x ++ rgs y
  | .tag 11 (.tag j (.append x y)) => rgs x ++ ((4 * j, nds y, some (otk y)) :: rgs y)
  | .tag 12 (.tag _ x) => rgs x
  | .append (.tag _ x) l => rgs x ++ rgs l
  | _ => []
def tkT (ν : Nat → Nat) (x : TR) : Nat → Prop := fun i => ∃ y, y ∈ sbs x ∧ i = ν (otk y)
def rtI (ν : Nat → Nat) : Option Nat → Int32
  | none => -1
  | some t => nI (ν t)
/-- the inner regions of a node -/
def IN (S : im_S) (ν ρ : Nat → Nat) : TR → Prop
  | .tag 6 (.tag j _) => S.1 110 (ν j) = nI (ρ (4 * j)) ∧ S.1 111 (ν j) = nI (ρ (4 * j + 1))
  | .tag 7 (.tag j _) => S.1 110 (ν j) = nI (ρ (4 * j)) ∧ S.1 111 (ν j) = nI (ρ (4 * j + 1)) ∧ S.1 112 (ν j) = nI (ρ (4 * j + 2))
  | .tag 11 (.tag j _) => S.1 110 (ν j) = nI (ρ (4 * j))
  | _ => True
def LyG (S S' : im_S) (ν ρ : Nat → Nat) (T : Nat → Prop) (r n : Nat) (l nd : List Nat) (rg : List (Nat × List Nat × Option Nat)) (sb : List TR) : Prop := RgL S' r (l ++ nd.map ν) ∧ FLy S S' T l r n ∧ S'.1 75 40 = nI (n + rg.length) ∧ (∀ g, g ∈ rg → RgL S' (ρ g.1) (g.2.1.map ν) ∧ S'.1 105 (ρ g.1) = rtI ν g.2.2) ∧ ∀ y, y ∈ sb → IN S' ν ρ y
def mpR (ρ : Nat → Nat) (rg : List (Nat × List Nat × Option Nat)) (n : Nat) : Prop := rg.map (fun g => ρ g.1) = List.range' n rg.length
theorem mpR_app {ρ : Nat → Nat} {r1 r2 : List (Nat × List Nat × Option Nat)} {n : Nat} (h : mpR ρ (r1 ++ r2) n) : mpR ρ r1 n ∧ mpR ρ r2 (n + r1.length) := by
  unfold mpR at h ⊢
  have e : List.range' n (r1 ++ r2).length = List.range' n r1.length ++ List.range' (n + r1.length) r2.length := by
    rw [List.length_append]
    have := @List.range'_append n r1.length r2.length 1
    rw [Nat.one_mul] at this
    exact this.symm
  rw [List.map_append, e] at h
  exact List.append_inj h (by rw [List.length_map, List.length_range'])
theorem mpR_cons {ρ : Nat → Nat} {g : Nat × List Nat × Option Nat} {r2 : List (Nat × List Nat × Option Nat)} {n : Nat} (h : mpR ρ (g :: r2) n) : ρ g.1 = n ∧ mpR ρ r2 (n + 1) := by
  have h : ρ g.1 :: r2.map (fun g => ρ g.1) = n :: List.range' (n + 1) r2.length := h
  exact List.cons.inj h
theorem mpR_in {ρ : Nat → Nat} : ∀ {rg : List (Nat × List Nat × Option Nat)} {n : Nat}, mpR ρ rg n → ∀ g, g ∈ rg → n ≤ ρ g.1 ∧ ρ g.1 < n + rg.length := by
  intro rg n h g hg
  have : ρ g.1 ∈ rg.map (fun g => ρ g.1) := List.mem_map.mpr ⟨g, hg, rfl⟩
  rw [h, List.mem_range'] at this
  obtain ⟨i, hi, he⟩ := this
  omega
theorem FLy_refl (S : im_S) (T : Nat → Prop) (l : List Nat) (r n : Nat) : FLy S S T l r n := ⟨fun _ _ _ _ _ _ _ => rfl, rfl⟩
section LYG
variable {S S1 S2 S' : im_S} {ν ρ : Nat → Nat} {T T1 T2 : Nat → Prop} {r n : Nat} {l nd1 nd2 : List Nat} {rg1 rg2 : List (Nat × List Nat × Option Nat)} {sb1 sb2 : List TR}
theorem IN_cp {y : TR} (h : ∀ a, 110 ≤ a → a ≤ 112 → S'.1 a (ν (otk y)) = S.1 a (ν (otk y))) (q : IN S ν ρ y) : IN S' ν ρ y := by
  unfold IN at q ⊢
  split at q
  · rename_i j f
    have h : ∀ a, 110 ≤ a → a ≤ 112 → S'.1 a (ν j) = S.1 a (ν j) := h
    rw [h 110 (by omega) (by omega), h 111 (by omega) (by omega)]; exact q
  · rename_i j f
    have h : ∀ a, 110 ≤ a → a ≤ 112 → S'.1 a (ν j) = S.1 a (ν j) := h
    rw [h 110 (by omega) (by omega), h 111 (by omega) (by omega), h 112 (by omega) (by omega)]; exact q
  · rename_i j f
    have h : ∀ a, 110 ≤ a → a ≤ 112 → S'.1 a (ν j) = S.1 a (ν j) := h
    rw [h 110 (by omega) (by omega)]; exact q
  · trivial
theorem LyG_comp (h1 : LyG S S1 ν ρ T1 r n l nd1 rg1 sb1) (h2 : LyG S1 S2 ν ρ T2 r (n + rg1.length) (l ++ nd1.map ν) nd2 rg2 sb2) (hρ : mpR ρ rg1 n) (hT1 : ∀ i, T1 i → T i) (hT2 : ∀ i, T2 i → T i) (hsb : ∀ y, y ∈ sb1 → ¬ T2 (ν (otk y))) (hnd : ∀ t, t ∈ nd1 → T1 (ν t)) (hrg : ∀ g, g ∈ rg1 → ∀ t, t ∈ g.2.1 → ¬ T2 (ν t)) (hr : r < n) (hn : n + rg1.length ≤ 640) : LyG S S2 ν ρ T r n l (nd1 ++ nd2) (rg1 ++ rg2) (sb1 ++ sb2) := by
  obtain ⟨a1, a2, a3, a4, a5⟩ := h1
  obtain ⟨b1, b2, b3, b4, b5⟩ := h2
  have hm : ∀ i, i ∈ nd1.map ν → T1 i := fun i hi => by
    obtain ⟨t, ht, rfl⟩ := List.mem_map.mp hi
    exact hnd t ht
  refine ⟨by rw [List.map_append, ← List.append_assoc]; exact b1, ⟨fun a i q1 q2 q3 q4 q5 => ?_, b2.2.trans a2.2⟩, by rw [List.length_append, ← Nat.add_assoc]; exact b3, fm_a.mpr ⟨fun g hg => ?_, b4⟩, fm_a.mpr ⟨fun y hy => ?_, b5⟩⟩
  · rw [b2.1 a i q1 (fun z u => q2 z (hT2 i u)) (fun z => ⟨fun u => (q3 z).1 (hT2 i u), fun u => ?_⟩) (fun z => ⟨(q4 z).1, by have := (q4 z).2; omega⟩) (fun z => by have := q5 z; omega), a2.1 a i q1 (fun z u => q2 z (hT1 i u)) (fun z => ⟨fun u => (q3 z).1 (hT1 i u), (q3 z).2⟩) q4 q5]
    rcases List.mem_append.mp u with u | u
    · exact (q3 z).2 u
    · exact (q3 z).1 (hT1 i (hm i u))
  · obtain ⟨c1, c2⟩ := a4 g hg
    obtain ⟨d1, d2⟩ := mpR_in hρ g hg
    refine ⟨RgL_fl b2 c1 (by omega) d2 (fun k hk => ?_) (RgL_dj c1 a1 (by omega) (by omega) (by omega)), ?_⟩
    · obtain ⟨t, ht, rfl⟩ := List.mem_map.mp hk
      exact hrg g hg t ht
    · rw [b2.1 105 _ (by omega) (by omega) (by omega) (by omega) (fun _ => d2)]; exact c2
  · exact IN_cp (fun a u1 u2 => b2.1 a _ (by omega) (fun _ => hsb y hy) (by omega) (by omega) (by omega)) (a5 y hy)
theorem LyG_wk (h : LyG S S1 ν ρ T1 r n l nd1 rg1 sb1) (hT1 : ∀ i, T1 i → T i) (hs : ∀ y, y ∈ sb2 → y ∈ sb1) (hnd : nd2 = nd1) (hrg : rg2 = rg1) : LyG S S1 ν ρ T r n l nd2 rg2 sb2 := by
  subst hnd hrg
  obtain ⟨a1, a2, a3, a4, a5⟩ := h
  exact ⟨a1, ⟨fun a i q1 q2 q3 q4 q5 => a2.1 a i q1 (fun z u => q2 z (hT1 i u)) (fun z => ⟨fun u => (q3 z).1 (hT1 i u), (q3 z).2⟩) q4 q5, a2.2⟩, a3, a4, fun y hy => a5 y (hs y hy)⟩
/-- a new region -/
theorem addR {v : Int32} (hn : n < 640) (h40 : S.1 75 40 = nI n) : ∃ S0 : im_S, f_X11_addRegion v S = some (nI n, S0) ∧ RgL S0 n [] ∧ S0.1 75 40 = nI (n + 1) ∧ S0.1 105 n = v ∧ (∀ a i : Nat, (a = 75 → i ≠ 40) → (a = 105 ∨ a = 106 ∨ a = 107 ∨ a = 109 → i < n) → S0.1 a i = S.1 a i) ∧ S0.2.1 = S.2.1 := by
  unfold f_X11_addRegion
  rw [h40, mI_in (a := n) (n := 640) (by omega) hn, nI_clamp (show n < 2 ^ 31 by omega)]
  simp only [gd_t]
  obtain ⟨S0, hS⟩ : ∃ S0, S0 = uI (uI (uI (uI (uI S 75 40 (nI n + 1)) 105 n v) 106 n 0) 107 n (-1)) 109 n (-1) := ⟨_, rfl⟩
  rw [← hS]
  have z : ∀ {a : Nat}, a = 106 ∨ a = 107 ∨ a = 109 → S0.1 a n = if a = 106 then 0 else -1 := fun {a} q => by
    rcases q with rfl | rfl | rfl
    · rw [hS, uI_ne (by omega), uI_ne (by omega), uI_eq]; rfl
    · rw [hS, uI_ne (by omega), uI_eq]; rfl
    · rw [hS, uI_eq]; rfl
  refine ⟨S0, rfl, ⟨?_, ?_, ?_, List.nodup_nil, fun i k hk => ?_, fun k hk => absurd hk List.not_mem_nil⟩, ?_, ?_, fun a i q1 q2 => ?_, by rw [hS]; rfl⟩
  · rw [z (by omega)]; rfl
  · rw [z (by omega)]; rfl
  · rw [z (by omega)]; rfl
  · rw [List.getElem?_nil] at hk; cases hk
  · rw [hS, uI_ne (by omega), uI_ne (by omega), uI_ne (by omega), uI_ne (by omega), uI_eq]; exact nI_add n 1
  · rw [hS, uI_ne (by omega), uI_ne (by omega), uI_ne (by omega), uI_eq]
  · rw [hS, uI_ne (by omega), uI_ne (by omega), uI_ne (by omega), uI_ne (by omega), uI_ne (by omega)]
theorem LyG_open {S0 : im_S} {c : Nat} {o : Option Nat} (hr : r < n) (hn : n < 640) (h : RgL S r l) (hl : ∀ k, k ∈ l → ¬ T k) (g1 : RgL S0 n []) (g3 : S0.1 105 n = rtI ν o) (g4 : ∀ a i : Nat, (a = 75 → i ≠ 40) → (a = 105 ∨ a = 106 ∨ a = 107 ∨ a = 109 → i < n) → S0.1 a i = S.1 a i) (g5 : S0.2.1 = S.2.1) (hc : ρ c = n) (H : LyG S0 S' ν ρ T n (n + 1) [] nd1 rg1 sb1) : LyG S S' ν ρ T r n l [] ((c, nd1, o) :: rg1) sb1 := by
  obtain ⟨a1, a2, a3, a4, a5⟩ := H
  have h0 : RgL S0 r l := RgL_cp h (g4 106 r (by omega) (fun _ => hr)) (g4 107 r (by omega) (fun _ => hr)) (g4 109 r (by omega) (fun _ => hr)) (fun k _ => ⟨g4 103 k (by omega) (by omega), g4 104 k (by omega) (by omega), g4 108 k (by omega) (by omega)⟩)
  refine ⟨?_, ⟨fun a i q1 q2 q3 q4 q5 => ?_, a2.2.trans g5⟩, ?_, fm_c.mpr ⟨⟨?_, ?_⟩, a4⟩, a5⟩
  · show RgL S' r (l ++ [])
    rw [List.append_nil]
    exact RgL_fl a2 h0 (by omega) (by omega) hl (fun k _ => List.not_mem_nil)
  · rw [a2.1 a i q1 q2 (fun z => ⟨(q3 z).1, List.not_mem_nil⟩) (fun z => ⟨by have := (q4 z).2; omega, by have := (q4 z).2; omega⟩) (fun z => by have := q5 z; omega), g4 a i q1 (fun z => ?_)]
    by_cases hz : a = 105
    · exact q5 hz
    · exact (q4 (by omega)).2
  · show S'.1 75 40 = nI (n + (rg1.length + 1))
    rw [a3, show n + 1 + rg1.length = n + (rg1.length + 1) by omega]
  · show RgL S' (ρ c) (nd1.map ν)
    rw [hc]; exact a1
  · show S'.1 105 (ρ c) = rtI ν o
    rw [hc, a2.1 105 n (by omega) (by omega) (by omega) (by omega) (fun _ => by omega)]; exact g3
theorem LyG_uI {a k : Nat} {v : Int32} (ha : 110 ≤ a ∧ a ≤ 112) (h40 : S.1 75 40 = nI n) (h : RgL S r l) : LyG S (uI S a k v) ν ρ (fun i => i = k) r n l [] [] [] := by
  refine ⟨?_, ⟨fun b i q1 q2 q3 q4 q5 => ?_, rfl⟩, ?_, fun g hg => absurd hg List.not_mem_nil, fun y hy => absurd hy List.not_mem_nil⟩
  · show RgL _ r (l ++ [])
    rw [List.append_nil]
    exact RgL_cp h (uI_ne (by omega)) (uI_ne (by omega)) (uI_ne (by omega)) (fun k _ => ⟨uI_ne (by omega), uI_ne (by omega), uI_ne (by omega)⟩)
  · by_cases hb : 110 ≤ b ∧ b ≤ 112
    · exact uI_ne (Or.inr (q2 (Or.inr (Or.inr hb))))
    · exact uI_ne (by omega)
  · rw [uI_ne (by omega)]; exact h40
theorem LyG_put {j : Nat} {Tt : im_S} {x : TR} (hx : otk x = j) (hk : ν j < 1200) (hr : r < 640) (h40 : Tt.1 75 40 = nI n) (ha : ∀ a i : Nat, 103 ≤ a → a ≤ 109 → Tt.1 a i = S.1 a i) (h : RgL S r l) (hl : ¬ ν j ∈ l) (hlen : l.length < 1200) (hi : IN Tt ν ρ x) : ∃ S' : im_S, lpT (nI (ν j)) (nI r) Tt S = some ((), S') ∧ LyG Tt S' ν ρ (fun i => i = ν j) r n l [j] [] [x] := by
  obtain ⟨S', p1, p2, p3, p4⟩ := put hk hr ha h hl hlen
  refine ⟨S', p1, p2, ⟨fun a i q1 q2 q3 q4 q5 => p3 a i (fun z => q2 (by omega)) (fun z => ⟨(q3 z).1, (q3 z).2⟩) (fun z => (q4 z).1), p4⟩, ?_, fun g hg => absurd hg List.not_mem_nil, fm_1.mpr (IN_cp (fun a u1 u2 => p3 a _ (by omega) (by omega) (by omega)) hi)⟩
  rw [p3 75 40 (by omega) (by omega) (by omega)]
  exact h40
end LYG

section RNA
variable {K pl : Nat → Nat} {V : Nat → Int64} {S S' : im_S} {lo hi rlo rhi : Nat} {ν : Nat → Nat}
theorem RwA_ag (h95 : ∀ i, S'.1 95 i = S.1 95 i) : ∀ (x : TR) (i : Nat), RwA S rlo rhi ν x i → RwA S' rlo rhi ν x i := by
  intro x
  induction x with
  | append a l iha ihl =>
    intro i h
    cases a with
    | tag q y =>
      obtain ⟨h1, h2, h3, h4⟩ := h
      exact ⟨h1, h2, by rw [h95]; exact h3, ihl _ h4⟩
    | _ => exact trivial
  | _ => intro _ _; exact trivial
theorem RwB_ag (h94 : ∀ i, S'.1 94 i = S.1 94 i) (h95 : ∀ i, S'.1 95 i = S.1 95 i) (h93 : ∀ i, S'.2.1 93 i = S.2.1 93 i) : ∀ (x : TR) (i : Nat), RwB pl V S rlo rhi ν x i → RwB pl V S' rlo rhi ν x i := by
  intro x
  induction x with
  | append a l iha ihl =>
    intro i h
    cases a with
    | tag q y =>
      obtain ⟨h1, h2, h3, h4, h5, h6⟩ := h
      exact ⟨h1, h2, by rw [h93]; exact h3, by rw [h94]; exact h4, by rw [h95]; exact h5, ihl _ h6⟩
    | _ => exact trivial
  | _ => intro _ _; exact trivial
set_option maxHeartbeats 1000000 in
theorem RN_ag (hA : ∀ a i : Nat, 81 ≤ a → a ≤ 95 → S'.1 a i = S.1 a i) (hB : S'.2.1 = S.2.1) {y : TR} (h : RN K pl V S rlo rhi ν y) : RN K pl V S' rlo rhi ν y := by
  have hn : ∀ {c j k : Nat}, ndD K pl V S c j k → ndD K pl V S' c j k := fun {c j k} q => by
    unfold ndD at q ⊢
    rw [hA 81 k (by omega) (by omega), hA 82 k (by omega) (by omega), hA 86 k (by omega) (by omega), hB]
    exact q
  have h0 : ∀ {a k : Nat}, a = 82 ∨ a = 83 ∨ a = 85 ∨ (89 ≤ a ∧ a ≤ 95) → S'.1 a k = S.1 a k := fun {a k} q => hA a k (by omega) (by omega)
  have h4 : ∀ {c j k : Nat}, ndD K pl V S c j k → c ≤ 12 → ¬ c = 4 → S'.1 84 k = S.1 84 k := fun {c j k} _ _ _ => hA 84 k (by omega) (by omega)
  have hJ : ∀ {a k : Nat}, a ≠ 116 → S'.2.1 a k = S.2.1 a k := fun {a k} _ => by rw [hB]
  have RA := fun (x : TR) (i : Nat) => RwA_ag (S := S) (S' := S') (rlo := rlo) (rhi := rhi) (ν := ν) (fun i => hA 95 i (by omega) (by omega)) x i
  have RB := fun (x : TR) (i : Nat) => RwB_ag (S := S) (S' := S') (pl := pl) (V := V) (rlo := rlo) (rhi := rhi) (ν := ν) (fun i => hA 94 i (by omega) (by omega)) (fun i => hA 95 i (by omega) (by omega)) (fun i => by rw [hB]) x i
  unfold RN at h ⊢
  split at h
  · obtain ⟨a1, a2, a3⟩ := h
    exact ⟨hn a1, by rw [h0 (by omega)]; exact a2, by rw [h4 a1 (by omega) (by omega)]; exact a3⟩
  · obtain ⟨a1, a2, a3⟩ := h
    exact ⟨hn a1, by rw [h0 (by omega)]; exact a2, by rw [h4 a1 (by omega) (by omega)]; exact a3⟩
  · obtain ⟨a1, a2, a3⟩ := h
    exact ⟨hn a1, by rw [h0 (by omega)]; exact a2, by rw [h4 a1 (by omega) (by omega)]; exact a3⟩
  · obtain ⟨a1, i, a2, a3, a4⟩ := h
    exact ⟨hn a1, i, by rw [h0 (by omega)]; exact a2, by rw [h0 (by omega)]; exact a3, RA _ _ a4.1, a4.2⟩
  · obtain ⟨a1, a2, a3⟩ := h
    exact ⟨hn a1, by rw [h0 (by omega)]; exact a2, by rw [h4 a1 (by omega) (by omega)]; exact a3⟩
  · obtain ⟨a1, a2, a3, a4⟩ := h
    exact ⟨hn a1, by rw [h0 (by omega)]; exact a2, by rw [h4 a1 (by omega) (by omega)]; exact a3, by rw [h0 (by omega)]; exact a4⟩
  · obtain ⟨a1, ⟨i, a2, a3, a4⟩, a5, ⟨i', a6, a7, a8⟩, a9⟩ := h
    exact ⟨hn a1, ⟨i, by rw [h0 (by omega)]; exact a2, by rw [h0 (by omega)]; exact a3, RB _ _ a4.1, a4.2⟩, by rw [h0 (by omega)]; exact a5, ⟨i', by rw [h0 (by omega)]; exact a6, by rw [h0 (by omega)]; exact a7, RB _ _ a8.1, a8.2⟩, by rw [h4 a1 (by omega) (by omega)]; exact a9⟩
  · obtain ⟨a1, a2, a3⟩ := h
    exact ⟨hn a1, by rw [h4 a1 (by omega) (by omega)]; exact a2, by rw [h0 (by omega)]; exact a3⟩
  · obtain ⟨a1, a2, a3, a4⟩ := h
    exact ⟨hn a1, by rw [h0 (by omega)]; exact a2, by rw [h4 a1 (by omega) (by omega)]; exact a3, by rw [h0 (by omega), h0 (by omega)]; exact a4⟩
  · obtain ⟨a1, a2, a3, a4⟩ := h
    exact ⟨hn a1, by rw [h0 (by omega)]; exact a2, by rw [h4 a1 (by omega) (by omega)]; exact a3, by rw [h0 (by omega), h0 (by omega)]; exact a4⟩
  · obtain ⟨a1, a2, a3, i, a4, a5, a6, a7, a8, a9, a10⟩ := h
    exact ⟨hn a1, by rw [h0 (by omega)]; exact a2, by rw [h4 a1 (by omega) (by omega)]; exact a3, i, by rw [h0 (by omega)]; exact a4, a5, a6, by rw [hJ (by omega)]; exact a7, by rw [h0 (by omega)]; exact a8, by rw [hJ (by omega)]; exact a9, by rw [h0 (by omega)]; exact a10⟩
  · obtain ⟨a1, a2, a3⟩ := h
    exact ⟨hn a1, by rw [h4 a1 (by omega) (by omega)]; exact a2, by rw [h0 (by omega)]; exact a3⟩
  · exact h.elim
theorem OKs_ly {T : Nat → Prop} {l : List Nat} {r n : Nat} (F : FLy S S' T l r n) {x : TR} (h : OKs K pl V S lo hi rlo rhi ν x) : OKs K pl V S' lo hi rlo rhi ν x := fun y hy => ⟨RN_ag (fun a i u1 u2 => F.1 a i (by omega) (by omega) (by omega) (by omega) (by omega)) F.2 (h y hy).1, (h y hy).2⟩
end RNA
