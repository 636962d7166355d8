/-! every name that is known is bound around -/
def VH (V : Nat → Int64) (y : TR) (γ : List Nat) (r : Nat) : Prop := ∀ i Q, POk V y ((r, i) :: Q) → ∀ b, b ∈ γ → VrS y ((r, i) :: Q) b
section SCO
variable {K : Nat → Nat} {V : Nat → Int64} {y : TR} {e0 : Nat}
theorem VH_in (wP : PW K y 0 e0) {z : TR × List Nat × Nat} (hz : z ∈ scP y) {k r0 : Nat} (hk : k < 4) {γ : List Nat} (hr : ∀ c, ParN (4 * otk z.1 + k) c z → c = r0) (h : VH V y γ r0) : VH V y γ (4 * otk z.1 + k) := fun i Q hP b hb => by
  obtain ⟨c', Q', q1, q2, q3, q4⟩ := P_par wP hz hk hP
  have e1 := hr _ q2
  refine VrS_cn q4 ?_
  rw [q1] at q3 ⊢
  obtain ⟨c1, c2⟩ := c'
  have e1 : c1 = r0 := e1
  subst e1
  exact h c2 Q' q3 b hb
theorem VH_or {γ γ' : List Nat} {r : Nat} (h : VH V y γ r) (h' : ∀ i Q, POk V y ((r, i) :: Q) → ∀ b, b ∈ γ' → b ∈ γ ∨ VrS y ((r, i) :: Q) b) : VH V y γ' r := fun i Q hP b hb => by
  rcases h' i Q hP b hb with q | q
  · exact h i Q hP b q
  · exact q
theorem vr_W (wP : PW K y 0 e0) {x : TR} {p e md : Nat} (w : Wt K x p e md) : ∀ (γ : List Nat) (r : Nat), (∀ z, z ∈ sbc x γ r → z ∈ scP y) → VH V y γ r → ∀ z, z ∈ sbc x γ r → VH V y z.2.1 z.2.2 := by
  have hd : ∀ {X : TR} {γ : List Nat} {r : Nat} {l : List (TR × List Nat × Nat)}, sbc X γ r = (X, γ, r) :: l → VH V y γ r → (∀ z, z ∈ l → VH V y z.2.1 z.2.2) → ∀ z, z ∈ sbc X γ r → VH V y z.2.1 z.2.2 := fun {X γ r l} hs h0 h z hz => by
    rw [hs] at hz
    rcases List.mem_cons.mp hz with rfl | hz
    · exact h0
    · exact h z hz
  have ap : ∀ {l1 l2 : List (TR × List Nat × Nat)}, (∀ z, z ∈ l1 → VH V y z.2.1 z.2.2) → (∀ z, z ∈ l2 → VH V y z.2.1 z.2.2) → ∀ z, z ∈ l1 ++ l2 → VH V y z.2.1 z.2.2 := fun {l1 l2} h1 h2 z hz => by
    rcases List.mem_append.mp hz with hz | hz
    · exact h1 z hz
    · exact h2 z hz
  have nl : ∀ z : TR × List Nat × Nat, z ∈ ([] : List (TR × List Nat × Nat)) → VH V y z.2.1 z.2.2 := fun z h => absurd h List.not_mem_nil
  refine Wt_ind (K := K) (P := fun x p e md => ∀ (γ : List Nat) (r : Nat), (∀ z, z ∈ sbc x γ r → z ∈ scP y) → VH V y γ r → ∀ z, z ∈ sbc x γ r → VH V y z.2.1 z.2.2) ?_ ?_ ?_ ?_ ?_ ?_ ?_ ?_ ?_ ?_ ?_ ?_ ?_ ?_ ?_ (tsz x) x p e md (Nat.le_refl _) w
  · intro p md _ γ r hs h; exact hd rfl h nl
  · intro p md _ γ r hs h; exact hd rfl h nl
  · intro p md _ γ r hs h; exact hd rfl h nl
  · intro p md _ γ r hs h; exact hd rfl h nl
  · intro p as b md _ _ w1 ih γ r hs h; exact hd rfl h (ih γ r (fun z hz => hs z (mc _ hz)) h)
  · intro p x x' b e md _ w1 w2 i1 i2 γ r hs h
    refine hd rfl h (ap (i1 γ r (fun z hz => hs z (mc _ (ml _ hz))) h) (i2 _ r (fun z hz => hs z (mc _ (mr _ hz))) (VH_or h (fun i Q hP b hb => ?_))))
    rcases List.mem_cons.mp hb with rfl | hb
    · exact .inr (.inr (.inl ⟨p, x, x', γ, r, hs _ List.mem_cons_self, rfl, upF_hd⟩))
    · exact .inl hb
  · intro p x x1 x2 b c e md w1 w2 w3 i1 i2 i3 γ r hs h
    have hz := hs _ List.mem_cons_self
    refine hd rfl h (ap (i1 γ r (fun z hz => hs z (mc _ (ml _ hz))) h) (ap (i2 γ (4 * p) (fun z hz => hs z (mc _ (mr _ (ml _ hz)))) ?_) (i3 γ (4 * p + 1) (fun z hz => hs z (mc _ (mr _ (mr _ hz)))) ?_)))
    · exact VH_in wP hz (k := 0) (r0 := r) (by omega) (fun c q => q.2) h
    · exact VH_in wP hz (k := 1) (r0 := r) (by omega) (fun c q => q.2) h
  · intro p fs c ns g b d f e md _ _ w1 w2 w3 w4 i1 i2 i3 i4 γ r hs h
    have hz := hs _ List.mem_cons_self
    have h0 : VH V y (bnd fs γ) (4 * p) := by
      refine VH_or (γ := γ) (VH_in wP hz (k := 0) (r0 := r) (by omega) (fun c q => ?_) h) (fun i Q hP b hb => ?_)
      · rcases q with q | q
        · exact q.2
        · have := q.1
          exact absurd this (by show ¬ (4 * p + 0 = 4 * p + 1 ∨ 4 * p + 0 = 4 * p + 2); omega)
      · rw [bnd_eq] at hb
        rcases List.mem_append.mp hb with hb | hb
        · exact .inr (.inr (.inr (.inl ⟨p, fs, c, ns, g, γ, r, hz, List.mem_reverse.mp hb, upF_hd⟩)))
        · exact .inl hb
    refine hd rfl h (ap (i1 γ r (fun z hz => hs z (mc _ (ml _ hz))) h) (ap (i2 _ _ (fun z hz => hs z (mc _ (mr _ (ml _ hz)))) h0) (ap (i3 _ _ (fun z hz => hs z (mc _ (mr _ (mr _ (ml _ hz))))) ?_) (i4 _ _ (fun z hz => hs z (mc _ (mr _ (mr _ (mr _ hz))))) ?_))))
    · refine VH_in wP hz (k := 1) (r0 := 4 * p) (by omega) (fun c q => ?_) h0
      rcases q with q | q
      · exact absurd q.1 (by show ¬ 4 * p + 1 = 4 * p; omega)
      · exact q.2
    · refine VH_in wP hz (k := 2) (r0 := 4 * p) (by omega) (fun c q => ?_) h0
      rcases q with q | q
      · exact absurd q.1 (by show ¬ 4 * p + 2 = 4 * p; omega)
      · exact q.2
  · intro p x e md _ w1 ih γ r hs h; exact hd rfl h (ih γ r (fun z hz => hs z (mc _ hz)) h)
  · intro p j x x' e md _ w1 w2 i1 i2 γ r hs h
    exact hd rfl h (ap (i1 γ r (fun z hz => hs z (mc _ (ml _ hz))) h) (i2 γ r (fun z hz => hs z (mc _ (mr _ hz))) h))
  · intro p j x x' b md w1 w2 i1 i2 γ r hs h
    exact hd rfl h (ap (i1 γ r (fun z hz => hs z (mc _ (ml _ hz))) h) (i2 γ r (fun z hz => hs z (mc _ (mr _ hz))) h))
  · intro p x x' b e md _ _ w1 w2 i1 i2 γ r hs h
    have hz := hs _ List.mem_cons_self
    refine hd rfl h (ap (i1 γ r (fun z hz => hs z (mc _ (ml _ hz))) h) (i2 _ (4 * p) (fun z hz => hs z (mc _ (mr _ hz))) ?_))
    refine VH_or (γ := γ) (VH_in wP hz (k := 0) (r0 := r) (by omega) (fun c q => q.2) h) (fun i Q hP b hb => ?_)
    rcases List.mem_cons.mp hb with rfl | hb
    · exact .inr (.inr (.inr (.inr (.inl ⟨p, x, x', γ, r, hz, rfl, upF_hd⟩))))
    rcases List.mem_cons.mp hb with rfl | hb
    · refine .inr (.inr (.inr (.inr (.inr ⟨p, x, x', γ, r, hz, rfl, ?_, upF_hd⟩))))
      obtain ⟨c', Q', q1, q2, q3, q4⟩ := P_par wP hz (k := 0) (by omega) hP
      refine upF_cn q4 ?_
      obtain ⟨c1, c2⟩ := c'
      have q2 : c1 = r := q2.2
      rw [q1, q2]
      exact upF_hd
    · exact .inl hb
  · intro p x b md w1 ih γ r hs h; exact hd rfl h (ih γ r (fun z hz => hs z (mc _ hz)) h)
  · intro p x b md hmd _ w1 ih γ r hs h
    exact ap (ih γ r (fun z hz => hs z (ml _ hz)) h) nl
  · intro p x l b e md hmd _ _ w1 w2 i1 i2 γ r hs h
    exact ap (i1 γ r (fun z hz => hs z (ml _ hz)) h) (i2 γ r (fun z hz => hs z (mr _ hz)) h)
theorem pms_in : ∀ (k p b : Nat), b ∈ pms p k → ∃ z, z < k ∧ b = p + 2 * z := by
  intro k
  induction k with
  | zero => intro p b h; exact absurd h List.not_mem_nil
  | succ k ih =>
    intro p b h
    rcases List.mem_cons.mp h with rfl | h
    · exact ⟨0, by omega, by omega⟩
    · obtain ⟨z, h1, h2⟩ := ih _ _ h
      exact ⟨z + 1, by omega, by omega⟩
theorem pms_at : ∀ (k p z : Nat), z < k → (pms p k)[z]? = some (p + 2 * z) := by
  intro k
  induction k with
  | zero => intro p z h; omega
  | succ k ih =>
    intro p z h
    cases z with
    | zero => rfl
    | succ z =>
      have := ih (p + 2) z (by omega)
      rw [show p + 2 * (z + 1) = p + 2 + 2 * z by omega]
      exact this
/-- scP by functions -/
theorem sc_fu {p e : Nat} (w : PW K y p e) : ∀ z, z ∈ scP y → ∃ q cnt x, (q, cnt, x) ∈ fuP y ∧ z ∈ sbc x (pms (q + 2) cnt).reverse (4 * q) := by
  refine PW_ind (K := K) (P := fun y p e => ∀ z, z ∈ scP y → ∃ q cnt x, (q, cnt, x) ∈ fuP y ∧ z ∈ sbc x (pms (q + 2) cnt).reverse (4 * q)) ?_ ?_ (tsz y) y p e (Nat.le_refl _) w
  · intro p cnt x b e0 _ _ _ w1 hb z hz
    rcases List.mem_append.mp hz with hz | hz
    · exact ⟨p, cnt, x, List.mem_cons_self, hz⟩
    · exact absurd hz List.not_mem_nil
  · intro p cnt x r b e0 e _ _ _ w1 hb _ w2 ih z hz
    rcases List.mem_append.mp hz with hz | hz
    · exact ⟨p, cnt, x, List.mem_cons_self, hz⟩
    · obtain ⟨q, cnt', x', a, b⟩ := ih z hz
      exact ⟨q, cnt', x', List.mem_cons_of_mem _ a, b⟩
theorem vr_P (wP : PW K y 0 e0) {z : TR × List Nat × Nat} (hz : z ∈ scP y) : VH V y z.2.1 z.2.2 := by
  obtain ⟨q, cnt, x, h1, h2⟩ := sc_fu wP z hz
  obtain ⟨⟨b, e1, w⟩, h3, -⟩ := fu_sc wP q cnt x h1
  refine vr_W wP w _ _ h3 (fun i Q hP b hb => ?_) z h2
  obtain ⟨k, k1, k2⟩ := pms_in _ _ _ (List.mem_reverse.mp hb)
  exact .inl ⟨q, cnt, x, k, h1, k1, k2, upF_hd⟩
end SCO
