/-! the reference lays regions: one node -/
def SgN (S : im_S) : Int32 → List Nat → Int32 → Prop
  | w, [], e => w = e
  | w, k :: l, e => w = nI k ∧ SgN S (S.1 108 k) l e
def lst (l : List Nat) : Int32 := l.foldl (fun _ k => nI k) (-1)
theorem lst_app (l : List Nat) (k : Nat) : lst (l ++ [k]) = nI k := by
  unfold lst
  rw [List.foldl_append]
  rfl
/-- the nodes of a region -/
def RgL (S : im_S) (r : Nat) (l : List Nat) : Prop := S.1 106 r = nI l.length ∧ SgN S (S.1 107 r) l (-1) ∧ S.1 109 r = lst l ∧ l.Nodup ∧ (∀ (i k : Nat), l[i]? = some k → S.1 103 k = nI r ∧ S.1 104 k = nI i) ∧ ∀ k, k ∈ l → k < 1200
def FLy (S S' : im_S) (T : Nat → Prop) (l : List Nat) (r n : Nat) : Prop := (∀ a i : Nat, (a = 75 → i ≠ 40) → (a = 103 ∨ a = 104 ∨ (110 ≤ a ∧ a ≤ 112) → ¬ T i) → (a = 108 → ¬ T i ∧ ¬ i ∈ l) → (a = 106 ∨ a = 107 ∨ a = 109 → i ≠ r ∧ i < n) → (a = 105 → i < n) → S'.1 a i = S.1 a i) ∧ S'.2.1 = S.2.1
def lpT (x1 x2 : Int32) (T S : im_S) : Option (Unit × im_S) := gd (in_b x1 1200) (gd (in_b x2 640) (gd (in_b x1 1200) (gd (in_b x2 640) (gd (in_b x2 640) (gd (in_b x1 1200) (gd (in_b x2 640) (if ((S.1 107) x2.toNatClampNeg : Int32) ≠ (-1) then (gd (in_b x2 640) (gd (in_b ((S.1 109) x2.toNatClampNeg) 1200) (gd (in_b x2 640) (some ((), (uI (uI (uI (uI (uI (uI T 103 x1.toNatClampNeg x2) 104 x1.toNatClampNeg ((S.1 106) x2.toNatClampNeg)) 106 x2.toNatClampNeg (((S.1 106) x2.toNatClampNeg) + 1)) 108 x1.toNatClampNeg (-1)) 108 (((S.1 109) x2.toNatClampNeg).toNatClampNeg) x1) 109 x2.toNatClampNeg x1)))))) else (gd (in_b x2 640) (gd (in_b x2 640) (some ((), (uI (uI (uI (uI (uI (uI T 103 x1.toNatClampNeg x2) 104 x1.toNatClampNeg ((S.1 106) x2.toNatClampNeg)) 106 x2.toNatClampNeg (((S.1 106) x2.toNatClampNeg) + 1)) 108 x1.toNatClampNeg (-1)) 107 x2.toNatClampNeg x1) 109 x2.toNatClampNeg x1))))))))))))
theorem nil_cc {α : Type} : ∀ l : List α, l = [] ∨ ∃ l0 z, l = l0 ++ [z] := by
  intro l
  induction l with
  | nil => exact Or.inl rfl
  | cons a l ih =>
    rcases ih with rfl | ⟨l0, z, rfl⟩
    · exact Or.inr ⟨[], a, rfl⟩
    · exact Or.inr ⟨a :: l0, z, rfl⟩
theorem SgN_cp {S S' : im_S} : ∀ (l : List Nat) (w e : Int32), (∀ k, k ∈ l → S'.1 108 k = S.1 108 k) → SgN S w l e → SgN S' w l e := by
  intro l
  induction l with
  | nil => intro w e _ h; exact h
  | cons k l ih =>
    intro w e h q
    refine ⟨q.1, ?_⟩
    rw [h k List.mem_cons_self]
    exact ih _ _ (fun k' hk => h k' (List.mem_cons_of_mem _ hk)) q.2
theorem SgN_app {S : im_S} : ∀ (l : List Nat) (w v e : Int32) (l2 : List Nat), SgN S w l v → SgN S v l2 e → SgN S w (l ++ l2) e := by
  intro l
  induction l with
  | nil => intro w v e l2 h q; have h : w = v := h; rw [h]; exact q
  | cons k l ih => intro w v e l2 h q; exact ⟨h.1, ih _ v e l2 h.2 q⟩
theorem SgN_inv {S : im_S} : ∀ (l : List Nat) (w e : Int32) (l2 : List Nat), SgN S w (l ++ l2) e → ∃ v, SgN S w l v ∧ SgN S v l2 e := by
  intro l
  induction l with
  | nil => intro w e l2 h; exact ⟨w, rfl, h⟩
  | cons k l ih =>
    intro w e l2 h
    obtain ⟨v, h1, h2⟩ := ih _ e l2 h.2
    exact ⟨v, ⟨h.1, h1⟩, h2⟩
section PUT
variable {S T : im_S} {l : List Nat} {k r : Nat}
theorem RgL_cp {S S' : im_S} {r : Nat} {l : List Nat} (h : RgL S r l) (h1 : S'.1 106 r = S.1 106 r) (h2 : S'.1 107 r = S.1 107 r) (h3 : S'.1 109 r = S.1 109 r) (h4 : ∀ k, k ∈ l → S'.1 103 k = S.1 103 k ∧ S'.1 104 k = S.1 104 k ∧ S'.1 108 k = S.1 108 k) : RgL S' r l := by
  obtain ⟨q1, q2, q3, q4, q5, q6⟩ := h
  refine ⟨by rw [h1]; exact q1, by rw [h2]; exact SgN_cp l _ _ (fun k hk => (h4 k hk).2.2) q2, by rw [h3]; exact q3, q4, fun i k hk => ?_, q6⟩
  have hm := List.mem_of_getElem? hk
  rw [(h4 k hm).1, (h4 k hm).2.1]
  exact q5 i k hk
theorem RgL_fl {S S' : im_S} {Tp : Nat → Prop} {l0 : List Nat} {r0 n r : Nat} {l : List Nat} (F : FLy S S' Tp l0 r0 n) (h : RgL S r l) (hr : r ≠ r0) (hn : r < n) (h1 : ∀ k, k ∈ l → ¬ Tp k) (h2 : ∀ k, k ∈ l → ¬ k ∈ l0) : RgL S' r l :=
  RgL_cp h (F.1 106 r (by omega) (by omega) (by omega) (fun _ => ⟨hr, hn⟩) (by omega)) (F.1 107 r (by omega) (by omega) (by omega) (fun _ => ⟨hr, hn⟩) (by omega)) (F.1 109 r (by omega) (by omega) (by omega) (fun _ => ⟨hr, hn⟩) (by omega)) (fun k hk => ⟨F.1 103 k (by omega) (fun _ => h1 k hk) (by omega) (by omega) (by omega), F.1 104 k (by omega) (fun _ => h1 k hk) (by omega) (by omega) (by omega), F.1 108 k (by omega) (by omega) (fun _ => ⟨h1 k hk, h2 k hk⟩) (by omega) (by omega)⟩)
theorem RgL_dj {S : im_S} {r r' : Nat} {l l' : List Nat} (h : RgL S r l) (h' : RgL S r' l') (hr : r ≠ r') (h1 : r < 640) (h2 : r' < 640) : ∀ k, k ∈ l → ¬ k ∈ l' := by
  intro k hk hk'
  obtain ⟨i, hi⟩ := List.getElem?_of_mem hk
  obtain ⟨j, hj⟩ := List.getElem?_of_mem hk'
  have e1 := (h.2.2.2.2.1 i k hi).1
  have e2 := (h'.2.2.2.2.1 j k hj).1
  rw [e1] at e2
  exact hr ((nI_eq (by omega) (by omega)).mp e2)
theorem nod_app {l : List Nat} (h : l.Nodup) (hk : ¬ k ∈ l) : (l ++ [k]).Nodup := by
  rw [List.nodup_append]
  refine ⟨h, List.nodup_cons.mpr ⟨List.not_mem_nil, List.nodup_nil⟩, fun a ha b hb => ?_⟩
  rw [List.mem_singleton.mp hb]
  exact fun z => hk (z ▸ ha)
/-- a node is laid at the end of a region -/
theorem put (hk : k < 1200) (hr : r < 640) (ha : ∀ a i : Nat, 103 ≤ a → a ≤ 109 → T.1 a i = S.1 a i) (h : RgL S r l) (hl : ¬ k ∈ l) (hlen : l.length < 1200) : ∃ S' : im_S, lpT (nI k) (nI r) T S = some ((), S') ∧ RgL S' r (l ++ [k]) ∧ (∀ a i : Nat, (a = 103 ∨ a = 104 → i ≠ k) → (a = 108 → i ≠ k ∧ ¬ i ∈ l) → (a = 106 ∨ a = 107 ∨ a = 109 → i ≠ r) → S'.1 a i = T.1 a i) ∧ S'.2.1 = T.2.1 := by
  obtain ⟨q1, q2, q3, q4, q5, q6⟩ := h
  have e0 : lpT (nI k) (nI r) T S = lpT (nI k) (nI r) T S := rfl
  conv at e0 => rhs; unfold lpT
  rw [mI_in (a := k) (n := 1200) (by omega) hk, nI_clamp (show k < 2 ^ 31 by omega), mI_in (a := r) (n := 640) (by omega) hr, nI_clamp (show r < 2 ^ 31 by omega)] at e0
  simp only [gd_t] at e0
  have h5 : ∀ (S' : im_S), (∀ i, i ≠ k → S'.1 103 i = S.1 103 i ∧ S'.1 104 i = S.1 104 i) → S'.1 103 k = nI r → S'.1 104 k = nI l.length → ∀ (i k' : Nat), (l ++ [k])[i]? = some k' → S'.1 103 k' = nI r ∧ S'.1 104 k' = nI i := by
    intro S' g1 g2 g3 i k' hi
    by_cases hil : i < l.length
    · rw [List.getElem?_append_left hil] at hi
      have hm := List.mem_of_getElem? hi
      have hne : k' ≠ k := fun z => hl (z ▸ hm)
      rw [(g1 k' hne).1, (g1 k' hne).2]
      exact q5 i k' hi
    · rw [List.getElem?_append_right (by omega)] at hi
      have : i - l.length = 0 := by
        rcases Nat.eq_zero_or_pos (i - l.length) with z | z
        · exact z
        · rw [List.getElem?_eq_none (by show 1 ≤ i - l.length; omega)] at hi; cases hi
      rw [this] at hi
      cases hi
      exact ⟨g2, by rw [g3, show i = l.length by omega]⟩
  have h6 : ∀ k', k' ∈ l ++ [k] → k' < 1200 := fun k' hk' => by
    rcases List.mem_append.mp hk' with z | z
    · exact q6 k' z
    · rw [List.mem_singleton.mp z]; exact hk
  have hlen2 : (l ++ [k]).length = l.length + 1 := by rw [List.length_append]; rfl
  rcases nil_cc l with hz | ⟨l0, z, hz⟩
  · have q2' : S.1 107 r = -1 := by rw [hz] at q2; exact q2
    rw [if_neg (fun u => u q2')] at e0
    obtain ⟨S', hS'⟩ : ∃ S', S' = uI (uI (uI (uI (uI (uI T 103 k (nI r)) 104 k (S.1 106 r)) 106 r (S.1 106 r + 1)) 108 k (-1)) 107 r (nI k)) 109 r (nI k) := ⟨_, rfl⟩
    rw [← hS'] at e0
    have z103 : S'.1 103 k = nI r := by rw [hS', uI_ne (by omega), uI_ne (by omega), uI_ne (by omega), uI_ne (by omega), uI_ne (by omega), uI_eq]
    have z104 : S'.1 104 k = nI l.length := by rw [hS', uI_ne (by omega), uI_ne (by omega), uI_ne (by omega), uI_ne (by omega), uI_eq]; exact q1
    have z108 : S'.1 108 k = -1 := by rw [hS', uI_ne (by omega), uI_ne (by omega), uI_eq]
    have z107 : S'.1 107 r = nI k := by rw [hS', uI_ne (by omega), uI_eq]
    have z109 : S'.1 109 r = nI k := by rw [hS', uI_eq]
    have z106 : S'.1 106 r = nI (l.length + 1) := by rw [hS', uI_ne (by omega), uI_ne (by omega), uI_ne (by omega), uI_eq, q1]; exact nI_add l.length 1
    refine ⟨S', e0, ⟨by rw [hlen2]; exact z106, ?_, by rw [lst_app]; exact z109, nod_app q4 hl, h5 S' (fun i hi => ?_) z103 z104, h6⟩, fun a i u1 u2 u3 => ?_, by rw [hS']; rfl⟩
    · rw [hz, z107]
      exact ⟨rfl, z108⟩
    · refine ⟨?_, ?_⟩
      · rw [hS', uI_ne (by omega), uI_ne (by omega), uI_ne (by omega), uI_ne (by omega), uI_ne (by omega), uI_ne (by omega)]; exact ha 103 i (by omega) (by omega)
      · rw [hS', uI_ne (by omega), uI_ne (by omega), uI_ne (by omega), uI_ne (by omega), uI_ne (by omega), uI_ne (by omega)]; exact ha 104 i (by omega) (by omega)
    · rw [hS', uI_ne (by omega), uI_ne (by omega), uI_ne (by omega), uI_ne (by omega), uI_ne (by omega), uI_ne (by omega)]
  · have hzm : z ∈ l := by rw [hz]; exact List.mem_append_right _ List.mem_cons_self
    have hz12 := q6 z hzm
    have hzk : z ≠ k := fun u => hl (u ▸ hzm)
    rw [hz] at q2 q3
    have q2n : S.1 107 r ≠ -1 := by
      cases l0 with
      | nil => rw [show S.1 107 r = nI z from q2.1]; exact nI_m1 (show z < 2 ^ 31 by omega)
      | cons a l0 =>
        have ham : a ∈ l := by rw [hz]; exact List.mem_cons_self
        have := q6 a ham
        rw [show S.1 107 r = nI a from q2.1]; exact nI_m1 (show a < 2 ^ 31 by omega)
    rw [lst_app] at q3
    rw [if_pos q2n, q3, mI_in (a := z) (n := 1200) (by omega) hz12, nI_clamp (show z < 2 ^ 31 by omega)] at e0
    simp only [gd_t] at e0
    obtain ⟨S', hS'⟩ : ∃ S', S' = uI (uI (uI (uI (uI (uI T 103 k (nI r)) 104 k (S.1 106 r)) 106 r (S.1 106 r + 1)) 108 k (-1)) 108 z (nI k)) 109 r (nI k) := ⟨_, rfl⟩
    rw [← hS'] at e0
    have z103 : S'.1 103 k = nI r := by rw [hS', uI_ne (by omega), uI_ne (by omega), uI_ne (by omega), uI_ne (by omega), uI_ne (by omega), uI_eq]
    have z104 : S'.1 104 k = nI l.length := by rw [hS', uI_ne (by omega), uI_ne (by omega), uI_ne (by omega), uI_ne (by omega), uI_eq]; exact q1
    have z108 : S'.1 108 k = -1 := by rw [hS', uI_ne (by omega), uI_ne (by omega), uI_eq]
    have z108' : S'.1 108 z = nI k := by rw [hS', uI_ne (by omega), uI_eq]
    have z107 : S'.1 107 r = S.1 107 r := by rw [hS', uI_ne (by omega), uI_ne (by omega), uI_ne (by omega), uI_ne (by omega), uI_ne (by omega), uI_ne (by omega)]; exact ha 107 r (by omega) (by omega)
    have z109 : S'.1 109 r = nI k := by rw [hS', uI_eq]
    have z106 : S'.1 106 r = nI (l.length + 1) := by rw [hS', uI_ne (by omega), uI_ne (by omega), uI_ne (by omega), uI_eq, q1]; exact nI_add l.length 1
    refine ⟨S', e0, ⟨by rw [hlen2]; exact z106, ?_, by rw [lst_app]; exact z109, nod_app q4 hl, h5 S' (fun i hi => ?_) z103 z104, h6⟩, fun a i u1 u2 u3 => ?_, by rw [hS']; rfl⟩
    · rw [z107, hz]
      obtain ⟨v, v1, v2⟩ := SgN_inv l0 _ _ [z] q2
      refine SgN_app (l0 ++ [z]) _ (nI k) (-1) [k] (SgN_app l0 _ v _ [z] (SgN_cp l0 _ _ (fun k' hk' => ?_) v1) ⟨v2.1, z108'⟩) ⟨rfl, z108⟩
      have hne1 : k' ≠ k := fun u => hl (by rw [hz, ← u]; exact List.mem_append_left _ hk')
      have hne2 : k' ≠ z := fun u => by
        rw [hz, List.nodup_append] at q4
        exact q4.2.2 k' hk' z List.mem_cons_self u
      rw [hS', uI_ne (by omega), uI_ne (by omega), uI_ne (by omega), uI_ne (by omega), uI_ne (by omega), uI_ne (by omega)]
      exact ha 108 k' (by omega) (by omega)
    · refine ⟨?_, ?_⟩
      · rw [hS', uI_ne (by omega), uI_ne (by omega), uI_ne (by omega), uI_ne (by omega), uI_ne (by omega), uI_ne (by omega)]; exact ha 103 i (by omega) (by omega)
      · rw [hS', uI_ne (by omega), uI_ne (by omega), uI_ne (by omega), uI_ne (by omega), uI_ne (by omega), uI_ne (by omega)]; exact ha 104 i (by omega) (by omega)
    · have hiz : a = 108 → i ≠ z := fun u v => (u2 u).2 (v ▸ hzm)
      rw [hS', uI_ne (by omega), uI_ne (by omega), uI_ne (by omega), uI_ne (by omega), uI_ne (by omega), uI_ne (by omega)]
end PUT
