/-! who takes a value: each X is the body of a function, or it stands within another -/
/-- an X of a list, or an X itself -/
def tpL : TR → TR → Prop
  | .append (.tag _ x) r, x' => x = x' ∨ tpL r x'
  | x, x' => x = x' ∧ shp x
/-- x' stands in z, in region r', as k says -/
def Chd : TR × List Nat × Nat → Nat → TR → Nat → Prop
  | (.tag 4 (.tag _ as), _, r), k, x, r' => k = 5 ∧ tpL as x ∧ r' = r
  | (.tag 5 (.tag _ (.append a b)), _, r), k, x, r' => (k = 4 ∧ x = a ∧ r' = r) ∨ (k = 3 ∧ x = b ∧ r' = r)
  | (.tag 6 (.tag j (.append a (.append b c))), _, r), k, x, r' => (k = 1 ∧ x = a ∧ r' = r) ∨ (k = 3 ∧ x = b ∧ r' = 4 * j) ∨ (k = 3 ∧ x = c ∧ r' = 4 * j + 1)
  | (.tag 7 (.tag j (.append fs (.append c (.append ns g)))), _, r), k, x, r' => (k = 0 ∧ tpL fs x ∧ r' = r) ∨ (k = 1 ∧ x = c ∧ r' = 4 * j) ∨ (k = 6 ∧ tpL ns x ∧ r' = 4 * j + 1) ∨ (k = 7 ∧ x = g ∧ r' = 4 * j + 2)
  | (.tag 8 (.tag _ a), _, r), k, x, r' => k = 1 ∧ x = a ∧ r' = r
  | (.tag 9 (.tag _ (.append a b)), _, r), k, x, r' => k = 2 ∧ (x = a ∨ x = b) ∧ r' = r
  | (.tag 10 (.tag _ (.append a b)), _, r), k, x, r' => k = 2 ∧ (x = a ∨ x = b) ∧ r' = r
  | (.tag 11 (.tag j (.append a b)), _, r), k, x, r' => (k = 1 ∧ x = a ∧ r' = r) ∨ (k = 8 ∧ x = b ∧ r' = 4 * j)
  | _, _, _, _ => False
def CnS (x : TR) : Prop := ∀ (γ : List Nat) (r : Nat) (z0 : TR × List Nat × Nat), z0 ∈ sbc x γ r → (∃ x', tpL x x' ∧ rtk z0.1 = rtk x' ∧ z0.2.2 = r) ∨ ∃ z k x', z ∈ sbc x γ r ∧ Chd z k x' z0.2.2 ∧ rtk x' = rtk z0.1
section CNS
variable {K : Nat → Nat} {y : TR}
theorem tp_x {x x' : TR} (h : shp x) (q : tpL x x') : x = x' := by
  rcases h with ⟨j, rfl⟩ | ⟨j, rfl⟩ | ⟨j, rfl⟩ | ⟨j, as, rfl⟩ | ⟨j, a, b, rfl⟩ | ⟨j, a, b, c, rfl⟩ | ⟨j, fs, c, ns, g, rfl⟩ | ⟨j, a, rfl⟩ | ⟨j, a, b, rfl⟩ | ⟨j, a, b, rfl⟩ | ⟨j, a, b, rfl⟩ | ⟨j, a, rfl⟩ <;> exact q.1
theorem tp_s {x : TR} (h : shp x) : tpL x x := by
  have h' := h
  rcases h with ⟨j, rfl⟩ | ⟨j, rfl⟩ | ⟨j, rfl⟩ | ⟨j, as, rfl⟩ | ⟨j, a, b, rfl⟩ | ⟨j, a, b, c, rfl⟩ | ⟨j, fs, c, ns, g, rfl⟩ | ⟨j, a, rfl⟩ | ⟨j, a, b, rfl⟩ | ⟨j, a, b, rfl⟩ | ⟨j, a, b, rfl⟩ | ⟨j, a, rfl⟩ <;> exact ⟨rfl, h'⟩
theorem W_shp {x : TR} {p e : Nat} (w : Wt K x p e 0) : shp x := ((tl_W w [] 0) (x, [], 0) (hd_in w [] 0)).2.1
theorem cn_up {X xi : TR} {γ γi : List Nat} {r ri : Nat} (h : CnS xi) (hm : ∀ z, z ∈ sbc xi γi ri → z ∈ sbc X γ r) (h0 : (X, γ, r) ∈ sbc X γ r) (hc : ∀ x', tpL xi x' → ∃ k, Chd (X, γ, r) k x' ri) : ∀ z0, z0 ∈ sbc xi γi ri → ∃ z k x', z ∈ sbc X γ r ∧ Chd z k x' z0.2.2 ∧ rtk x' = rtk z0.1 := fun z0 hz => by
  rcases h γi ri z0 hz with ⟨x', a1, a2, a3⟩ | ⟨z, k, x', a1, a2, a3⟩
  · obtain ⟨k, hk⟩ := hc x' a1
    exact ⟨_, k, x', h0, by rw [a3]; exact hk, a2.symm⟩
  · exact ⟨z, k, x', hm z a1, a2, a3⟩
theorem cn_u0 {X xi : TR} {γ γi : List Nat} {r ri p e : Nat} (w : Wt K xi p e 0) (h : CnS xi) (hm : ∀ z, z ∈ sbc xi γi ri → z ∈ sbc X γ r) (h0 : (X, γ, r) ∈ sbc X γ r) (hc : ∃ k, Chd (X, γ, r) k xi ri) : ∀ z0, z0 ∈ sbc xi γi ri → ∃ z k x', z ∈ sbc X γ r ∧ Chd z k x' z0.2.2 ∧ rtk x' = rtk z0.1 := cn_up h hm h0 (fun x' q => by rw [← tp_x (W_shp w) q]; exact hc)
theorem cn_W {x : TR} {p e md : Nat} (w : Wt K x p e md) : CnS x := by
  have hd : ∀ {X : TR} {γ : List Nat} {r : Nat} {l : List (TR × List Nat × Nat)}, sbc X γ r = (X, γ, r) :: l → shp X → (∀ z0, z0 ∈ l → ∃ z k x', z ∈ sbc X γ r ∧ Chd z k x' z0.2.2 ∧ rtk x' = rtk z0.1) → ∀ z0, z0 ∈ sbc X γ r → (∃ x', tpL X x' ∧ rtk z0.1 = rtk x' ∧ z0.2.2 = r) ∨ ∃ z k x', z ∈ sbc X γ r ∧ Chd z k x' z0.2.2 ∧ rtk x' = rtk z0.1 := fun {X γ r l} hs hp h z0 hz => by
    rw [hs] at hz
    rcases List.mem_cons.mp hz with rfl | hz
    · exact .inl ⟨X, tp_s hp, rfl, rfl⟩
    · exact .inr (h z0 hz)
  have nl : ∀ {Q : (TR × List Nat × Nat) → Prop} (z : TR × List Nat × Nat), z ∈ ([] : List (TR × List Nat × Nat)) → Q z := fun z h => absurd h List.not_mem_nil
  have ap : ∀ {Q : (TR × List Nat × Nat) → Prop} {l1 l2 : List (TR × List Nat × Nat)}, (∀ z, z ∈ l1 → Q z) → (∀ z, z ∈ l2 → Q z) → ∀ z, z ∈ l1 ++ l2 → Q z := fun h1 h2 z hz => by
    rcases List.mem_append.mp hz with hz | hz
    · exact h1 z hz
    · exact h2 z hz
  refine Wt_ind (K := K) (P := fun x p e md => CnS x) ?_ ?_ ?_ ?_ ?_ ?_ ?_ ?_ ?_ ?_ ?_ ?_ ?_ ?_ ?_ (tsz x) x p e md (Nat.le_refl _) w
  · intro p md _ γ r; exact hd rfl (.inl ⟨_, rfl⟩) nl
  · intro p md _ γ r; exact hd rfl (.inr (.inl ⟨_, rfl⟩)) nl
  · intro p md _ γ r; exact hd rfl (.inr (.inr (.inl ⟨_, rfl⟩))) nl
  · intro p md _ γ r; exact hd rfl (.inr (.inr (.inr (.inl ⟨_, _, rfl⟩)))) nl
  · intro p as b md _ hn w1 ih γ r
    refine hd rfl (.inr (.inr (.inr (.inl ⟨_, _, rfl⟩)))) (cn_up ih mc List.mem_cons_self (fun x' q => ⟨5, rfl, q, rfl⟩))
  · intro p x y b e md _ w1 w2 i1 i2 γ r
    refine hd rfl (.inr (.inr (.inr (.inr (.inl ⟨_, _, _, rfl⟩))))) (ap (cn_u0 w1 i1 (mco ml mc) List.mem_cons_self ⟨4, .inl ⟨rfl, rfl, rfl⟩⟩) (cn_u0 w2 i2 (mco mr mc) List.mem_cons_self ⟨3, .inr ⟨rfl, rfl, rfl⟩⟩))
  · intro p x y z b c e md w1 w2 w3 i1 i2 i3 γ r
    refine hd rfl (.inr (.inr (.inr (.inr (.inr (.inl ⟨_, _, _, _, rfl⟩)))))) (ap (cn_u0 w1 i1 (mco ml mc) List.mem_cons_self ⟨1, .inl ⟨rfl, rfl, rfl⟩⟩) (ap (cn_u0 w2 i2 (mco (mco ml mr) mc) List.mem_cons_self ⟨3, .inr (.inl ⟨rfl, rfl, rfl⟩)⟩) (cn_u0 w3 i3 (mco (mco mr mr) mc) List.mem_cons_self ⟨3, .inr (.inr ⟨rfl, rfl, rfl⟩)⟩)))
  · intro p fs c ns g b d f e md _ _ w1 w2 w3 w4 i1 i2 i3 i4 γ r
    refine hd rfl (.inr (.inr (.inr (.inr (.inr (.inr (.inl ⟨_, _, _, _, _, rfl⟩))))))) (ap (cn_up i1 (mco ml mc) List.mem_cons_self (fun x' q => ⟨0, .inl ⟨rfl, q, rfl⟩⟩)) (ap (cn_u0 w2 i2 (mco (mco ml mr) mc) List.mem_cons_self ⟨1, .inr (.inl ⟨rfl, rfl, rfl⟩)⟩) (ap (cn_up i3 (mco (mco ml (mco mr mr)) mc) List.mem_cons_self (fun x' q => ⟨6, .inr (.inr (.inl ⟨rfl, q, rfl⟩))⟩)) (cn_u0 w4 i4 (mco (mco mr (mco mr mr)) mc) List.mem_cons_self ⟨7, .inr (.inr (.inr ⟨rfl, rfl, rfl⟩))⟩))))
  · intro p x e md _ w1 ih γ r
    exact hd rfl (.inr (.inr (.inr (.inr (.inr (.inr (.inr (.inl ⟨_, _, rfl⟩)))))))) (cn_u0 w1 ih mc List.mem_cons_self ⟨1, rfl, rfl, rfl⟩)
  · intro p j x y e md _ w1 w2 i1 i2 γ r
    exact hd rfl (.inr (.inr (.inr (.inr (.inr (.inr (.inr (.inr (.inl ⟨_, _, _, rfl⟩))))))))) (ap (cn_u0 w1 i1 (mco ml mc) List.mem_cons_self ⟨2, rfl, .inl rfl, rfl⟩) (cn_u0 w2 i2 (mco mr mc) List.mem_cons_self ⟨2, rfl, .inr rfl, rfl⟩))
  · intro p j x y b md w1 w2 i1 i2 γ r
    exact hd rfl (.inr (.inr (.inr (.inr (.inr (.inr (.inr (.inr (.inr (.inl ⟨_, _, _, rfl⟩)))))))))) (ap (cn_u0 w1 i1 (mco ml mc) List.mem_cons_self ⟨2, rfl, .inl rfl, rfl⟩) (cn_u0 w2 i2 (mco mr mc) List.mem_cons_self ⟨2, rfl, .inr rfl, rfl⟩))
  · intro p x y b e md _ _ w1 w2 i1 i2 γ r
    exact hd rfl (.inr (.inr (.inr (.inr (.inr (.inr (.inr (.inr (.inr (.inr (.inl ⟨_, _, _, rfl⟩))))))))))) (ap (cn_u0 w1 i1 (mco ml mc) List.mem_cons_self ⟨1, .inl ⟨rfl, rfl, rfl⟩⟩) (cn_u0 w2 i2 (mco mr mc) List.mem_cons_self ⟨8, .inr ⟨rfl, rfl, rfl⟩⟩))
  · intro p x b md w1 ih γ r z0 hz
    have hp : shp (aBrk p x) := .inr (.inr (.inr (.inr (.inr (.inr (.inr (.inr (.inr (.inr (.inr ⟨_, _, rfl⟩))))))))))
    rcases List.mem_cons.mp hz with rfl | hz
    · exact .inl ⟨_, tp_s hp, rfl, rfl⟩
    · rcases ih γ r z0 hz with ⟨x', a1, a2, a3⟩ | ⟨z, k, x', a1, a2, a3⟩
      · rw [← tp_x (W_shp w1) a1] at a2
        exact .inl ⟨aBrk p x, tp_s hp, a2, a3⟩
      · exact .inr ⟨z, k, x', mc z a1, a2, a3⟩
  · intro p x b md hmd _ w1 ih γ r z0 hz
    rcases List.mem_append.mp hz with hz | hz
    · rcases ih γ r z0 hz with ⟨x', a1, a2, a3⟩ | ⟨z, k, x', a1, a2, a3⟩
      · exact .inl ⟨x', .inl (tp_x (W_shp w1) a1), a2, a3⟩
      · exact .inr ⟨z, k, x', ml z a1, a2, a3⟩
    · exact absurd hz List.not_mem_nil
  · intro p x l b e md hmd _ _ w1 w2 i1 i2 γ r z0 hz
    rcases List.mem_append.mp hz with hz | hz
    · rcases i1 γ r z0 hz with ⟨x', a1, a2, a3⟩ | ⟨z, k, x', a1, a2, a3⟩
      · exact .inl ⟨x', .inl (tp_x (W_shp w1) a1), a2, a3⟩
      · exact .inr ⟨z, k, x', ml z a1, a2, a3⟩
    · rcases i2 γ r z0 hz with ⟨x', a1, a2, a3⟩ | ⟨z, k, x', a1, a2, a3⟩
      · exact .inl ⟨x', .inr a1, a2, a3⟩
      · exact .inr ⟨z, k, x', mr z a1, a2, a3⟩
/-- in a program: a function's body, or within another -/
theorem cn_PW {p e : Nat} (w : PW K y p e) : ∀ z0, z0 ∈ scP y → (∃ q cnt x, (q, cnt, x) ∈ fuP y ∧ rtk z0.1 = rtk x ∧ z0.2.2 = 4 * q) ∨ ∃ z k x', z ∈ scP y ∧ Chd z k x' z0.2.2 ∧ rtk x' = rtk z0.1 := by
  refine PW_ind (K := K) (P := fun y p e => ∀ z0, z0 ∈ scP y → (∃ q cnt x, (q, cnt, x) ∈ fuP y ∧ rtk z0.1 = rtk x ∧ z0.2.2 = 4 * q) ∨ ∃ z k x', z ∈ scP y ∧ Chd z k x' z0.2.2 ∧ rtk x' = rtk z0.1) ?_ ?_ (tsz y) y p e (Nat.le_refl _) w
  · intro p cnt x b e0 _ _ _ w1 hb z hz
    rcases List.mem_append.mp hz with hz | hz
    · rcases cn_W w1 _ _ z hz with ⟨x', a1, a2, a3⟩ | ⟨z, k, x', a1, a2, a3⟩
      · rw [← tp_x (W_shp w1) a1] at a2
        exact .inl ⟨p, cnt, x, List.mem_cons_self, a2, a3⟩
      · exact .inr ⟨z, k, x', ml z a1, a2, a3⟩
    · exact absurd hz List.not_mem_nil
  · intro p cnt x r b e0 e _ _ _ w1 hb _ w2 ih z hz
    rcases List.mem_append.mp hz with hz | hz
    · rcases cn_W w1 _ _ z hz with ⟨x', a1, a2, a3⟩ | ⟨z, k, x', a1, a2, a3⟩
      · rw [← tp_x (W_shp w1) a1] at a2
        exact .inl ⟨p, cnt, x, List.mem_cons_self, a2, a3⟩
      · exact .inr ⟨z, k, x', ml z a1, a2, a3⟩
    · rcases ih z hz with ⟨q, c, x', a1, a2, a3⟩ | ⟨z', k, x', a1, a2, a3⟩
      · exact .inl ⟨q, c, x', List.mem_cons_of_mem _ a1, a2, a3⟩
      · exact .inr ⟨z', k, x', mr z' a1, a2, a3⟩
end CNS
