/-! the nodes of a region; its leaves -/
/-- x1 fills region r1 of z -/
def RgC : TR × List Nat × Nat → TR → Nat → Prop
  | (.tag 6 (.tag j (.append _ (.append b c))), _, _), x1, r1 => (x1 = b ∧ r1 = 4 * j) ∨ (x1 = c ∧ r1 = 4 * j + 1)
  | (.tag 7 (.tag j (.append _ (.append c (.append ns g)))), _, _), x1, r1 => (x1 = c ∧ r1 = 4 * j) ∨ (x1 = ns ∧ r1 = 4 * j + 1) ∨ (x1 = g ∧ r1 = 4 * j + 2)
  | (.tag 11 (.tag j (.append _ b)), _, _), x1, r1 => x1 = b ∧ r1 = 4 * j
  | _, _, _ => False
def RmS (x : TR) : Prop := ∀ (γ : List Nat) (r : Nat) (z : TR × List Nat × Nat), z ∈ sbc x γ r → z.2.2 = r ∨ ∃ z' x1 γ1, z' ∈ sbc x γ r ∧ RgC z' x1 z.2.2 ∧ z ∈ sbc x1 γ1 z.2.2
section RGN
variable {K pl : Nat → Nat} {V : Nat → Int64} {y : TR} {e : Nat} {N M L : Nat → Nat} {n ρ τ : Nat} {G : im_S}
theorem rm_up {X xi : TR} {γ γi : List Nat} {r : Nat} (h : RmS xi) (hm : ∀ z, z ∈ sbc xi γi r → z ∈ sbc X γ r) : ∀ z, z ∈ sbc xi γi r → z.2.2 = r ∨ ∃ z' x1 γ1, z' ∈ sbc X γ r ∧ RgC z' x1 z.2.2 ∧ z ∈ sbc x1 γ1 z.2.2 := fun z hz => by
  rcases h γi r z hz with q | ⟨z', x1, γ1, q1, q2, q3⟩
  · exact .inl q
  · exact .inr ⟨z', x1, γ1, hm z' q1, q2, q3⟩
theorem rm_in {X xi : TR} {γ γi : List Nat} {r ri : Nat} (h : RmS xi) (hm : ∀ z, z ∈ sbc xi γi ri → z ∈ sbc X γ r) (h0 : (X, γ, r) ∈ sbc X γ r) (hc : RgC (X, γ, r) xi ri) : ∀ z, z ∈ sbc xi γi ri → z.2.2 = r ∨ ∃ z' x1 γ1, z' ∈ sbc X γ r ∧ RgC z' x1 z.2.2 ∧ z ∈ sbc x1 γ1 z.2.2 := fun z hz => by
  rcases h γi ri z hz with q | ⟨z', x1, γ1, q1, q2, q3⟩
  · exact .inr ⟨_, xi, γi, h0, by rw [q]; exact hc, by rw [q]; exact hz⟩
  · exact .inr ⟨z', x1, γ1, hm z' q1, q2, q3⟩
theorem rm_W {x : TR} {p e md : Nat} (w : Wt K x p e md) : RmS x := by
  have hd : ∀ {X : TR} {γ : List Nat} {r : Nat} {l : List (TR × List Nat × Nat)}, sbc X γ r = (X, γ, r) :: l → (∀ z, z ∈ l → z.2.2 = r ∨ ∃ z' x1 γ1, z' ∈ sbc X γ r ∧ RgC z' x1 z.2.2 ∧ z ∈ sbc x1 γ1 z.2.2) → ∀ z, z ∈ sbc X γ r → z.2.2 = r ∨ ∃ z' x1 γ1, z' ∈ sbc X γ r ∧ RgC z' x1 z.2.2 ∧ z ∈ sbc x1 γ1 z.2.2 := fun {X γ r l} hs h z hz => by
    rw [hs] at hz
    rcases List.mem_cons.mp hz with rfl | hz
    · exact .inl rfl
    · exact h z hz
  have nl : ∀ {Q : (TR × List Nat × Nat) → Prop} (z : TR × List Nat × Nat), z ∈ ([] : List (TR × List Nat × Nat)) → Q z := fun z h => absurd h List.not_mem_nil
  have ap : ∀ {Q : (TR × List Nat × Nat) → Prop} {l1 l2 : List (TR × List Nat × Nat)}, (∀ z, z ∈ l1 → Q z) → (∀ z, z ∈ l2 → Q z) → ∀ z, z ∈ l1 ++ l2 → Q z := fun h1 h2 z hz => by
    rcases List.mem_append.mp hz with hz | hz
    · exact h1 z hz
    · exact h2 z hz
  refine Wt_ind (K := K) (P := fun x p e md => RmS x) ?_ ?_ ?_ ?_ ?_ ?_ ?_ ?_ ?_ ?_ ?_ ?_ ?_ ?_ ?_ (tsz x) x p e md (Nat.le_refl _) w
  · intro p md _ γ r; exact hd rfl nl
  · intro p md _ γ r; exact hd rfl nl
  · intro p md _ γ r; exact hd rfl nl
  · intro p md _ γ r; exact hd rfl nl
  · intro p as b md _ hn w1 ih γ r; exact hd rfl (rm_up (X := aCal p as) ih mc)
  · intro p x y b e md _ w1 w2 i1 i2 γ r; exact hd rfl (ap (rm_up (X := aLet p x y) i1 (mco ml mc)) (rm_up (X := aLet p x y) i2 (mco mr mc)))
  · intro p x y z b c e md w1 w2 w3 i1 i2 i3 γ r
    exact hd rfl (ap (rm_up (X := aIf p x y z) i1 (mco ml mc)) (ap (rm_in (X := aIf p x y z) i2 (mco (mco ml mr) mc) List.mem_cons_self (.inl ⟨rfl, rfl⟩)) (rm_in (X := aIf p x y z) i3 (mco (mco mr mr) mc) List.mem_cons_self (.inr ⟨rfl, rfl⟩))))
  · intro p fs c ns g b d f e md _ _ w1 w2 w3 w4 i1 i2 i3 i4 γ r
    exact hd rfl (ap (rm_up (X := aLoop p fs c ns g) i1 (mco ml mc)) (ap (rm_in (X := aLoop p fs c ns g) i2 (mco (mco ml mr) mc) List.mem_cons_self (.inl ⟨rfl, rfl⟩)) (ap (rm_in (X := aLoop p fs c ns g) i3 (mco (mco ml (mco mr mr)) mc) List.mem_cons_self (.inr (.inl ⟨rfl, rfl⟩))) (rm_in (X := aLoop p fs c ns g) i4 (mco (mco mr (mco mr mr)) mc) List.mem_cons_self (.inr (.inr ⟨rfl, rfl⟩))))))
  · intro p x e md _ w1 ih γ r; exact hd rfl (rm_up (X := aSig p x) ih mc)
  · intro p j x y e md _ w1 w2 i1 i2 γ r; exact hd rfl (ap (rm_up (X := aBin j x y) i1 (mco ml mc)) (rm_up (X := aBin j x y) i2 (mco mr mc)))
  · intro p j x y b md w1 w2 i1 i2 γ r; exact hd rfl (ap (rm_up (X := aCel j x y) i1 (mco ml mc)) (rm_up (X := aCel j x y) i2 (mco mr mc)))
  · intro p x y b e md _ _ w1 w2 i1 i2 γ r; exact hd rfl (ap (rm_up (X := aTab p x y) i1 (mco ml mc)) (rm_in (X := aTab p x y) i2 (mco mr mc) List.mem_cons_self ⟨rfl, rfl⟩))
  · intro p x b md w1 ih γ r; exact hd rfl (rm_up (X := aBrk p x) ih mc)
  · intro p x b md hmd _ w1 ih γ r; exact ap (rm_up (X := .append (.tag p x) .nil) ih ml) nl
  · intro p x l b e md hmd _ _ w1 w2 i1 i2 γ r; exact ap (rm_up (X := .append (.tag p x) l) i1 ml) (rm_up (X := .append (.tag p x) l) i2 mr)
/-- in a program: the body of a function, or what fills a region of a node -/
theorem rm_P {p e : Nat} (w : PW K y p e) : ∀ z, z ∈ scP y → (∃ q cnt x γ, (q, cnt, x) ∈ fuP y ∧ z.2.2 = 4 * q ∧ z ∈ sbc x γ z.2.2) ∨ ∃ z' x1 γ1, z' ∈ scP y ∧ RgC z' x1 z.2.2 ∧ z ∈ sbc x1 γ1 z.2.2 := by
  refine PW_ind (K := K) (P := fun y p e => ∀ z, z ∈ scP y → (∃ q cnt x γ, (q, cnt, x) ∈ fuP y ∧ z.2.2 = 4 * q ∧ z ∈ sbc x γ z.2.2) ∨ ∃ z' x1 γ1, z' ∈ scP y ∧ RgC z' x1 z.2.2 ∧ z ∈ sbc x1 γ1 z.2.2) ?_ ?_ (tsz y) y p e (Nat.le_refl _) w
  · intro p cnt x b e0 _ _ _ w1 hb z hz
    rcases List.mem_append.mp hz with hz | hz
    · rcases rm_W w1 _ _ z hz with q | ⟨z', x1, γ1, q1, q2, q3⟩
      · exact .inl ⟨p, cnt, x, _, List.mem_cons_self, q, by rw [q]; exact hz⟩
      · exact .inr ⟨z', x1, γ1, ml z' q1, q2, q3⟩
    · exact absurd hz List.not_mem_nil
  · intro p cnt x r b e0 e _ _ _ w1 hb _ w2 ih z hz
    rcases List.mem_append.mp hz with hz | hz
    · rcases rm_W w1 _ _ z hz with q | ⟨z', x1, γ1, q1, q2, q3⟩
      · exact .inl ⟨p, cnt, x, _, List.mem_cons_self, q, by rw [q]; exact hz⟩
      · exact .inr ⟨z', x1, γ1, ml z' q1, q2, q3⟩
    · rcases ih z hz with ⟨q, c', x', γ', q1, q2, q3⟩ | ⟨z', x1, γ1, q1, q2, q3⟩
      · exact .inl ⟨q, c', x', γ', List.mem_cons_of_mem _ q1, q2, q3⟩
      · exact .inr ⟨z', x1, γ1, mr z' q1, q2, q3⟩
theorem rc_ot {z : TR × List Nat × Nat} (hs : shp z.1) {x1 : TR} {r1 : Nat} (h : RgC z x1 r1) : r1 / 4 = otk z.1 := by
  obtain ⟨x, γ, r⟩ := z
  have hs : shp x := hs
  rcases hs with ⟨j, rfl⟩ | ⟨j, rfl⟩ | ⟨j, rfl⟩ | ⟨j, as, rfl⟩ | ⟨j, a, b, rfl⟩ | ⟨j, a, b, c, rfl⟩ | ⟨j, fs, c, ns, g, rfl⟩ | ⟨j, a, rfl⟩ | ⟨j, a, b, rfl⟩ | ⟨j, a, b, rfl⟩ | ⟨j, a, b, rfl⟩ | ⟨j, a, rfl⟩
  · exact h.elim
  · exact h.elim
  · exact h.elim
  · exact h.elim
  · exact h.elim
  · rcases h with ⟨-, h⟩ | ⟨-, h⟩
    · show r1 / 4 = j; omega
    · show r1 / 4 = j; omega
  · rcases h with ⟨-, h⟩ | ⟨-, h⟩ | ⟨-, h⟩
    · show r1 / 4 = j; omega
    · show r1 / 4 = j; omega
    · show r1 / 4 = j; omega
  · exact h.elim
  · exact h.elim
  · exact h.elim
  · have h : r1 = 4 * j := h.2
    show r1 / 4 = j; omega
  · exact h.elim
theorem rc_uq {z : TR × List Nat × Nat} (hs : shp z.1) {x1 x2 : TR} {r1 : Nat} (h : RgC z x1 r1) (h' : RgC z x2 r1) : x1 = x2 := by
  obtain ⟨x, γ, r⟩ := z
  have hs : shp x := hs
  rcases hs with ⟨j, rfl⟩ | ⟨j, rfl⟩ | ⟨j, rfl⟩ | ⟨j, as, rfl⟩ | ⟨j, a, b, rfl⟩ | ⟨j, a, b, c, rfl⟩ | ⟨j, fs, c, ns, g, rfl⟩ | ⟨j, a, rfl⟩ | ⟨j, a, b, rfl⟩ | ⟨j, a, b, rfl⟩ | ⟨j, a, b, rfl⟩ | ⟨j, a, rfl⟩
  · exact h.elim
  · exact h.elim
  · exact h.elim
  · exact h.elim
  · exact h.elim
  · rcases h with ⟨h1, h2⟩ | ⟨h1, h2⟩
    · rcases h' with ⟨h3, h4⟩ | ⟨h3, h4⟩
      · rw [h1, h3]
      · omega
    · rcases h' with ⟨h3, h4⟩ | ⟨h3, h4⟩
      · omega
      · rw [h1, h3]
  · rcases h with ⟨h1, h2⟩ | ⟨h1, h2⟩ | ⟨h1, h2⟩
    · rcases h' with ⟨h3, h4⟩ | ⟨h3, h4⟩ | ⟨h3, h4⟩
      · rw [h1, h3]
      · omega
      · omega
    · rcases h' with ⟨h3, h4⟩ | ⟨h3, h4⟩ | ⟨h3, h4⟩
      · omega
      · rw [h1, h3]
      · omega
    · rcases h' with ⟨h3, h4⟩ | ⟨h3, h4⟩ | ⟨h3, h4⟩
      · omega
      · omega
      · rw [h1, h3]
  · exact h.elim
  · exact h.elim
  · exact h.elim
  · exact h.1.trans h'.1.symm
  · exact h.elim
/-- the leaves of a region: each once -/
theorem lv_nd {x : TR} {p e md : Nat} (w : Wt K x p e md) : (lvs x).Nodup ∧ ∀ t, t ∈ lvs x → p ≤ t ∧ t < e := by
  have ap : ∀ {l1 l2 : List Nat} {p b b' e : Nat}, (l1.Nodup ∧ ∀ t, t ∈ l1 → p ≤ t ∧ t < b) → (l2.Nodup ∧ ∀ t, t ∈ l2 → b' ≤ t ∧ t < e) → b ≤ b' → (l2 ++ l1).Nodup ∧ ∀ t, t ∈ l2 ++ l1 → (p ≤ t ∧ t < b) ∨ (b' ≤ t ∧ t < e) := fun {l1 l2 p b b' e} h1 h2 hb => by
    refine ⟨List.nodup_append.mpr ⟨h2.1, h1.1, fun u q1 v q2 ee => ?_⟩, fun t q => ?_⟩
    · have a1 := h2.2 u q1
      have a2 := h1.2 v q2
      omega
    · rcases List.mem_append.mp q with q | q
      · exact .inr (h2.2 t q)
      · exact .inl (h1.2 t q)
  have one : ∀ {l1 : List Nat} {p b j : Nat}, (l1.Nodup ∧ ∀ t, t ∈ l1 → p ≤ t ∧ t < b) → j < p → (l1 ++ [j]).Nodup ∧ ∀ t, t ∈ l1 ++ [j] → (p ≤ t ∧ t < b) ∨ t = j := fun {l1 p b j} h1 hj => by
    refine ⟨List.nodup_append.mpr ⟨h1.1, List.nodup_cons.mpr ⟨List.not_mem_nil, List.nodup_nil⟩, fun u q1 v q2 ee => ?_⟩, fun t q => ?_⟩
    · have a1 := h1.2 u q1
      have a2 := List.mem_singleton.mp q2
      omega
    · rcases List.mem_append.mp q with q | q
      · exact .inl (h1.2 t q)
      · exact .inr (List.mem_singleton.mp q)
  have sg : ∀ {j e : Nat}, j < e → ([j] : List Nat).Nodup ∧ ∀ t, t ∈ [j] → j ≤ t ∧ t < e := fun {j e} h => ⟨List.nodup_cons.mpr ⟨List.not_mem_nil, List.nodup_nil⟩, fun t q => by rw [List.mem_singleton.mp q]; exact ⟨Nat.le_refl _, h⟩⟩
  refine Wt_ind (K := K) (P := fun x p e md => (lvs x).Nodup ∧ ∀ t, t ∈ lvs x → p ≤ t ∧ t < e) ?_ ?_ ?_ ?_ ?_ ?_ ?_ ?_ ?_ ?_ ?_ ?_ ?_ ?_ ?_ (tsz x) x p e md (Nat.le_refl _) w
  · intro p md _; exact sg (by omega)
  · intro p md _; exact sg (by omega)
  · intro p md _; exact sg (by omega)
  · intro p md _; exact sg (by omega)
  · intro p as b md _ _ w1 ih
    have := Wt_lt w1
    obtain ⟨a1, a2⟩ := one (j := p) ih (by omega)
    exact ⟨a1, fun t q => by have := a2 t q; omega⟩
  · intro p x y b e md _ w1 w2 i1 i2
    have := Wt_lt w1
    have := Wt_lt w2
    obtain ⟨a1, a2⟩ := ap i1 i2 (by omega)
    exact ⟨a1, fun t q => by have := a2 t q; omega⟩
  · intro p x y z b c e md w1 w2 w3 i1 i2 i3
    have := Wt_lt w2
    have := Wt_lt w3
    exact ⟨i1.1, fun t q => by have := i1.2 t q; omega⟩
  · intro p fs c ns g b d f e md _ _ w1 w2 w3 w4 i1 i2 i3 i4
    have := Wt_lt w1
    have := Wt_lt w2
    have := Wt_lt w3
    have := Wt_lt w4
    obtain ⟨a1, a2⟩ := one (j := p) i1 (by omega)
    exact ⟨a1, fun t q => by have := a2 t q; omega⟩
  · intro p x e md _ w1 ih
    exact ⟨ih.1, fun t q => by have := ih.2 t q; omega⟩
  · intro p j x y e md _ w1 w2 i1 i2
    have := Wt_lt w1
    have := Wt_lt w2
    obtain ⟨a1, a2⟩ := ap i1 i2 (by omega)
    exact ⟨a1, fun t q => by have := a2 t q; omega⟩
  · intro p j x y b md w1 w2 i1 i2
    have := Wt_lt w1
    have := Wt_lt w2
    obtain ⟨a1, a2⟩ := ap i1 i2 (by omega)
    exact ⟨a1, fun t q => by have := a2 t q; omega⟩
  · intro p x y b e md _ _ w1 w2 i1 i2
    have := Wt_lt w2
    exact ⟨i1.1, fun t q => by have := i1.2 t q; omega⟩
  · intro p x b md w1 ih
    exact ⟨ih.1, fun t q => by have := ih.2 t q; omega⟩
  · intro p x b md hmd _ w1 ih
    have g0 : p ≤ (if md = 101 then p else p + 2) := by split <;> omega
    exact ⟨ih.1, fun t q => by have := ih.2 t q; omega⟩
  · intro p x l b e md hmd _ _ w1 w2 i1 i2
    have g0 : p ≤ (if md = 101 then p else p + 2) := by split <;> omega
    have := Wt_lt w1
    have := Wt_lt w2
    obtain ⟨a1, a2⟩ := ap i1 i2 (by omega)
    exact ⟨a1, fun t q => by have := a2 t q; omega⟩
/-- a region's leaves are the leaf nodes there -/
theorem lv_rg (w : PW K y 0 e) {z' : TR × List Nat × Nat} (hz' : z' ∈ scP y) {x1 : TR} {r1 p1 e1 md : Nat} {γ1 : List Nat} (hc : RgC z' x1 r1) (w1 : Wt K x1 p1 e1 md) (hp : r1 / 4 < p1) (hin : ∀ z, z ∈ sbc x1 γ1 r1 → z ∈ scP y) (t : Nat) : t ∈ lvs x1 ↔ ∃ z, z ∈ scP y ∧ z.2.2 = r1 ∧ otk z.1 = t ∧ lfK z.1 = true := by
  refine ⟨fun q => ?_, fun ⟨z, q1, q2, q3, q4⟩ => ?_⟩
  · obtain ⟨z, u1, u2, u3, u4⟩ := ((lv_W w1 γ1 r1).2 hp).2 t q
    exact ⟨z, hin z u1, u2, u3, u4⟩
  · have hs' := ((tl_P w) z' hz').2.1
    rcases rm_P w z q1 with ⟨q, cnt, x, γ, v1, v2, v3⟩ | ⟨z2, x2, γ2, v1, v2, v3⟩
    · have := rc_ot hs' hc
      rw [← q2, v2, show 4 * q / 4 = q by omega] at this
      exact absurd this.symm ((ft_fu w).2.2 q (fu_ft w v1) z' hz')
    · rw [q2] at v2 v3
      have o1 := rc_ot hs' hc
      have o2 := rc_ot ((tl_P w) z2 v1).2.1 v2
      have := (ou_P w).2 z2 v1 z' hz' (o2.symm.trans o1)
      subst this
      have := rc_uq hs' v2 hc
      subst this
      rw [← q3]
      exact ((lv_W w1 γ2 r1).2 hp).1 z v3 q2 q4
theorem fu_wt {p e : Nat} (w : PW K y p e) : ∀ q cnt x, (q, cnt, x) ∈ fuP y → ∃ b e0, Wt K x b e0 0 ∧ q < b := by
  refine PW_ind (K := K) (P := fun y p e => ∀ q cnt x, (q, cnt, x) ∈ fuP y → ∃ b e0, Wt K x b e0 0 ∧ q < b) ?_ ?_ (tsz y) y p e (Nat.le_refl _) w
  · intro p cnt x b e0 _ _ _ w1 hb q c' x' h
    have h := List.mem_singleton.mp h
    cases h
    exact ⟨b, e0, w1, by omega⟩
  · intro p cnt x r b e0 e _ _ _ w1 hb _ w2 ih q c' x' h
    rcases List.mem_cons.mp h with h | h
    · cases h
      exact ⟨b, e0, w1, by omega⟩
    · exact ih q c' x' h
theorem lv_fn (w : PW K y 0 e) {q cnt : Nat} {x : TR} (hf : (q, cnt, x) ∈ fuP y) (t : Nat) : t ∈ lvs x ↔ ∃ z, z ∈ scP y ∧ z.2.2 = 4 * q ∧ otk z.1 = t ∧ lfK z.1 = true := by
  obtain ⟨-, hsc, -⟩ := fu_sc w q cnt x hf
  obtain ⟨b1, e1, wx, hlt⟩ := fu_wt w q cnt x hf
  refine ⟨fun u => ?_, fun ⟨z, q1, q2, q3, q4⟩ => ?_⟩
  · obtain ⟨z, u1, u2, u3, u4⟩ := ((lv_W wx (pms (q + 2) cnt).reverse (4 * q)).2 (by omega)).2 t u
    exact ⟨z, hsc z u1, u2, u3, u4⟩
  · rcases rm_P w z q1 with ⟨q', cnt', x', γ', v1, v2, v3⟩ | ⟨z2, x2, γ2, v1, v2, v3⟩
    · have hqq : q' = q := by omega
      subst hqq
      obtain ⟨-, ex⟩ := fn_uq w q' cnt' x' cnt x v1 hf
      subst ex
      rw [q2] at v3
      rw [← q3]
      exact ((lv_W wx γ' (4 * q')).2 (by omega)).1 z v3 q2 q4
    · have o2 := rc_ot ((tl_P w) z2 v1).2.1 v2
      rw [q2, show 4 * q / 4 = q by omega] at o2
      exact absurd o2.symm ((ft_fu w).2.2 q (fu_ft w hf) z2 v1)
end RGN
