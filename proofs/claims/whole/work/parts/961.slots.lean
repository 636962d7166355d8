/-! the slots of the templates: each node has its own -/
def sm (sl : Nat → Nat) : Nat → Nat
  | 0 => 0
  | t + 1 => sm sl t + sl t
theorem sm_le {sl : Nat → Nat} : ∀ {τ t : Nat}, t < τ → sl t ≤ sm sl τ := by
  intro τ
  induction τ with
  | zero => intro t h; omega
  | succ τ ih =>
    intro t h
    show sl t ≤ sm sl τ + sl τ
    by_cases e : t = τ
    · subst e; omega
    · have := ih (t := t) (by omega); omega
theorem sm_up {sl : Nat → Nat} {T v : Nat} : ∀ {τ : Nat}, (T < τ → sm (fun t => if t = T then v else sl t) τ + sl T = sm sl τ + v) ∧ (τ ≤ T → sm (fun t => if t = T then v else sl t) τ = sm sl τ) := by
  intro τ
  induction τ with
  | zero => exact ⟨fun h => by omega, fun _ => rfl⟩
  | succ τ ih =>
    refine ⟨fun h => ?_, fun h => ?_⟩
    · show sm (fun t => if t = T then v else sl t) τ + (if τ = T then v else sl τ) + sl T = sm sl τ + sl τ + v
      by_cases e : τ = T
      · rw [if_pos e, ih.2 (by omega), e]; omega
      · rw [if_neg e]
        have := ih.1 (by omega)
        omega
    · show sm (fun t => if t = T then v else sl t) τ + (if τ = T then v else sl τ) = sm sl τ + sl τ
      rw [if_neg (by omega), ih.2 (by omega)]
theorem wk_r (c : Nat) : 1 ≤ wk c ∧ wk c ≤ 2 := by
  unfold wk
  split
  · omega
  · omega
def SI (S : im_S) (n ρ τ B : Nat) : Prop := ∃ sl tO sO kO : Nat → Nat, (∀ t : Nat, t < τ → S.1 28 t = nI (sl t)) ∧ sm sl τ ≤ B ∧ (∀ r : Nat, r < ρ → ∃ t : Nat, t < τ ∧ S.1 27 r = nI t) ∧ (∀ t : Nat, t < τ → ∃ d : Nat, d ≤ t ∧ S.1 29 t = nI d) ∧ (∀ k : Nat, k < n → S.1 7 k = nI (kO k) ∧ kO k < 100 ∧ S.1 17 k = nI (tO k) ∧ tO k < τ ∧ S.1 18 k = nI (sO k) ∧ sO k + wk (kO k) ≤ sl (tO k)) ∧ ∀ k k' : Nat, k < k' → k' < n → tO k = tO k' → sO k + wk (kO k) ≤ sO k' ∨ sO k' + wk (kO k') ≤ sO k
section SIS
variable {S S' : im_S} {n ρ τ B : Nat}
theorem SI_cp {B' : Nat} (h : SI S n ρ τ B) (hB : B ≤ B') (h28 : ∀ t : Nat, t < τ → S'.1 28 t = S.1 28 t) (h27 : ∀ r : Nat, r < ρ → S'.1 27 r = S.1 27 r) (h29 : ∀ t : Nat, t < τ → S'.1 29 t = S.1 29 t) (hk : ∀ a k : Nat, (a = 7 ∨ a = 17 ∨ a = 18) → k < n → S'.1 a k = S.1 a k) : SI S' n ρ τ B' := by
  obtain ⟨sl, tO, sO, kO, a1, a2, a3, a4, a5, a6⟩ := h
  refine ⟨sl, tO, sO, kO, fun t ht => by rw [h28 t ht]; exact a1 t ht, by omega, fun r hr => ?_, fun t ht => ?_, fun k hk2 => ?_, a6⟩
  · obtain ⟨t, q1, q2⟩ := a3 r hr
    exact ⟨t, q1, by rw [h27 r hr]; exact q2⟩
  · obtain ⟨d, q1, q2⟩ := a4 t ht
    exact ⟨d, q1, by rw [h29 t ht]; exact q2⟩
  · rw [hk 7 k (by omega) hk2, hk 17 k (by omega) hk2, hk 18 k (by omega) hk2]
    exact a5 k hk2
theorem SI_get (h : SI S n ρ τ B) {T : Nat} (hT : T < τ) : ∃ sT : Nat, sT ≤ B ∧ S.1 28 T = nI sT := by
  obtain ⟨sl, tO, sO, kO, a1, a2, a3, a4, a5, a6⟩ := h
  exact ⟨sl T, Nat.le_trans (sm_le hT) a2, a1 T hT⟩
theorem SI_tp (h : SI S n ρ τ B) {r : Nat} (hr : r < ρ) : ∃ t : Nat, t < τ ∧ S.1 27 r = nI t := by
  obtain ⟨sl, tO, sO, kO, a1, a2, a3, a4, a5, a6⟩ := h
  exact a3 r hr
theorem SI_dp (h : SI S n ρ τ B) {t : Nat} (ht : t < τ) : ∃ d : Nat, d ≤ t ∧ S.1 29 t = nI d := by
  obtain ⟨sl, tO, sO, kO, a1, a2, a3, a4, a5, a6⟩ := h
  exact a4 t ht
theorem SI_add {c T sT R : Nat} {t p : Int32} {v : Int64} (h : SI S n ρ τ B) (hB : B < 2 ^ 30) (hT : T < τ) (hs : S.1 28 T = nI sT) (hs2 : sT < 2 ^ 30) (hc : c < 100) : SI (adS S n c t p v R T sT) (n + 1) ρ τ (B + wk c) := by
  obtain ⟨sl, tO, sO, kO, a1, a2, a3, a4, a5, a6⟩ := h
  have hw := wk_r c
  have hle := sm_le (sl := sl) hT
  have e1 : sl T = sT := by
    have := a1 T hT
    rw [hs] at this
    exact ((nI_eq (by omega) (by omega)).mp this).symm
  obtain ⟨f1, f2, -, -, -, -, -, -, -, -, -, -, f17, f18, f28⟩ := ad_f S n c t p v R T sT
  refine ⟨fun x => if x = T then sT + wk c else sl x, fun k => if k = n then T else tO k, fun k => if k = n then sT else sO k, fun k => if k = n then c else kO k, fun x hx => ?_, ?_, fun r hr => ?_, fun x hx => ?_, fun k hk => ?_, fun k k' h1 h2 h3 => ?_⟩
  · show (adS S n c t p v R T sT).1 28 x = nI (if x = T then sT + wk c else sl x)
    by_cases e : x = T
    · subst e; rw [if_pos rfl]; exact f28
    · rw [if_neg e, ad_ne (by omega)]; exact a1 x hx
  · have := (sm_up (sl := sl) (T := T) (v := sT + wk c) (τ := τ)).1 hT
    omega
  · obtain ⟨x, q1, q2⟩ := a3 r hr
    exact ⟨x, q1, by rw [ad_ne (by omega)]; exact q2⟩
  · obtain ⟨d, q1, q2⟩ := a4 x hx
    exact ⟨d, q1, by rw [ad_ne (by omega)]; exact q2⟩
  · show (adS S n c t p v R T sT).1 7 k = nI (if k = n then c else kO k) ∧ (if k = n then c else kO k) < 100 ∧ (adS S n c t p v R T sT).1 17 k = nI (if k = n then T else tO k) ∧ (if k = n then T else tO k) < τ ∧ (adS S n c t p v R T sT).1 18 k = nI (if k = n then sT else sO k) ∧ (if k = n then sT else sO k) + wk (if k = n then c else kO k) ≤ (if (if k = n then T else tO k) = T then sT + wk c else sl (if k = n then T else tO k))
    by_cases e : k = n
    · subst e
      simp only [if_pos]
      exact ⟨f2, hc, f17, hT, f18, Nat.le_refl _⟩
    · simp only [if_neg e]
      rw [ad_ne (by omega), ad_ne (by omega), ad_ne (by omega)]
      obtain ⟨q1, q2, q3, q4, q5, q6⟩ := a5 k (by omega)
      refine ⟨q1, q2, q3, q4, q5, ?_⟩
      by_cases e2 : tO k = T
      · rw [if_pos e2]; rw [e2] at q6; omega
      · rw [if_neg e2]; exact q6
  · have h3 : (if k = n then T else tO k) = (if k' = n then T else tO k') := h3
    show (if k = n then sT else sO k) + wk (if k = n then c else kO k) ≤ (if k' = n then sT else sO k') ∨ (if k' = n then sT else sO k') + wk (if k' = n then c else kO k') ≤ (if k = n then sT else sO k)
    have ek : ¬ k = n := by omega
    simp only [if_neg ek] at h3 ⊢
    by_cases e : k' = n
    · simp only [if_pos e] at h3 ⊢
      have := (a5 k (by omega)).2.2.2.2.2
      rw [h3] at this
      left
      omega
    · simp only [if_neg e] at h3 ⊢
      exact a6 k k' h1 (by omega) h3
theorem SI_move {T sT k0 : Nat} (h : SI S n ρ τ B) (hB : B < 2 ^ 30) (hT : T < τ) (hs : S.1 28 T = nI sT) (hs2 : sT < 2 ^ 30) (hk0 : k0 < n) (h7 : S.1 7 k0 = 3) : SI (mvS S k0 T sT 1) n ρ τ (B + 1) := by
  obtain ⟨sl, tO, sO, kO, a1, a2, a3, a4, a5, a6⟩ := h
  have hle := sm_le (sl := sl) hT
  have e1 : sl T = sT := by
    have := a1 T hT
    rw [hs] at this
    exact ((nI_eq (by omega) (by omega)).mp this).symm
  have e3 : kO k0 = 3 := by
    obtain ⟨q1, q2, -⟩ := a5 k0 hk0
    rw [h7] at q1
    exact ((nI_eq (a := 3) (b := kO k0) (by omega) (by omega)).mp q1).symm
  have w3 : wk 3 = 1 := rfl
  obtain ⟨f17, f18, f28⟩ := mv_f S k0 T sT 1
  refine ⟨fun x => if x = T then sT + 1 else sl x, fun k => if k = k0 then T else tO k, fun k => if k = k0 then sT else sO k, kO, fun x hx => ?_, ?_, fun r hr => ?_, fun x hx => ?_, fun k hk => ?_, fun k k' h1 h2 h3 => ?_⟩
  · show (mvS S k0 T sT 1).1 28 x = nI (if x = T then sT + 1 else sl x)
    by_cases e : x = T
    · subst e; rw [if_pos rfl]; exact f28
    · rw [if_neg e, mv_ne (by omega)]; exact a1 x hx
  · have := (sm_up (sl := sl) (T := T) (v := sT + 1) (τ := τ)).1 hT
    omega
  · obtain ⟨x, q1, q2⟩ := a3 r hr
    exact ⟨x, q1, by rw [mv_ne (by omega)]; exact q2⟩
  · obtain ⟨d, q1, q2⟩ := a4 x hx
    exact ⟨d, q1, by rw [mv_ne (by omega)]; exact q2⟩
  · show (mvS S k0 T sT 1).1 7 k = nI (kO k) ∧ kO k < 100 ∧ (mvS S k0 T sT 1).1 17 k = nI (if k = k0 then T else tO k) ∧ (if k = k0 then T else tO k) < τ ∧ (mvS S k0 T sT 1).1 18 k = nI (if k = k0 then sT else sO k) ∧ (if k = k0 then sT else sO k) + wk (kO k) ≤ (if (if k = k0 then T else tO k) = T then sT + 1 else sl (if k = k0 then T else tO k))
    obtain ⟨q1, q2, q3, q4, q5, q6⟩ := a5 k hk
    by_cases e : k = k0
    · subst e
      simp only [if_pos]
      rw [mv_ne (by omega), e3, w3]
      exact ⟨by rw [← e3]; exact q1, by omega, f17, hT, f18, Nat.le_refl _⟩
    · simp only [if_neg e]
      rw [mv_ne (by omega), mv_ne (by omega), mv_ne (by omega)]
      refine ⟨q1, q2, q3, q4, q5, ?_⟩
      by_cases e2 : tO k = T
      · rw [if_pos e2]; rw [e2] at q6; omega
      · rw [if_neg e2]; exact q6
  · have h3 : (if k = k0 then T else tO k) = (if k' = k0 then T else tO k') := h3
    show (if k = k0 then sT else sO k) + wk (kO k) ≤ (if k' = k0 then sT else sO k') ∨ (if k' = k0 then sT else sO k') + wk (kO k') ≤ (if k = k0 then sT else sO k)
    by_cases e : k = k0
    · have e' : ¬ k' = k0 := by omega
      simp only [if_pos e, if_neg e'] at h3 ⊢
      have := (a5 k' h2).2.2.2.2.2
      rw [← h3] at this
      right
      omega
    · by_cases e' : k' = k0
      · simp only [if_neg e, if_pos e'] at h3 ⊢
        have := (a5 k (by omega)).2.2.2.2.2
        rw [h3] at this
        left
        omega
      · simp only [if_neg e, if_neg e'] at h3 ⊢
        exact a6 k k' h1 h2 h3
theorem SI_at {d : Nat} (h : SI S n ρ τ B) (hd : d ≤ τ) : SI (atS S τ (nI d)) n ρ (τ + 1) B := by
  obtain ⟨sl, tO, sO, kO, a1, a2, a3, a4, a5, a6⟩ := h
  obtain ⟨f28, f29, -⟩ := at_f S τ (nI d)
  refine ⟨fun x => if x = τ then 0 else sl x, tO, sO, kO, fun x hx => ?_, ?_, fun r hr => ?_, fun x hx => ?_, fun k hk => ?_, a6⟩
  · show (atS S τ (nI d)).1 28 x = nI (if x = τ then 0 else sl x)
    by_cases e : x = τ
    · subst e; rw [if_pos rfl]; exact f28
    · rw [if_neg e, at_ne (by omega)]; exact a1 x (by omega)
  · show sm (fun x => if x = τ then 0 else sl x) τ + (if τ = τ then 0 else sl τ) ≤ B
    rw [if_pos rfl, (sm_up (sl := sl) (T := τ) (v := 0) (τ := τ)).2 (Nat.le_refl _)]
    exact a2
  · obtain ⟨x, q1, q2⟩ := a3 r hr
    exact ⟨x, by omega, by rw [at_ne (by omega)]; exact q2⟩
  · by_cases e : x = τ
    · subst e; exact ⟨d, hd, f29⟩
    · obtain ⟨d', q1, q2⟩ := a4 x (by omega)
      exact ⟨d', q1, by rw [at_ne (by omega)]; exact q2⟩
  · obtain ⟨q1, q2, q3, q4, q5, q6⟩ := a5 k hk
    rw [at_ne (by omega), at_ne (by omega), at_ne (by omega)]
    refine ⟨q1, q2, q3, by omega, q5, ?_⟩
    show sO k + wk (kO k) ≤ (if tO k = τ then 0 else sl (tO k))
    rw [if_neg (by omega)]
    exact q6
theorem SI_ar {T : Nat} (h : SI S n ρ τ B) (hT : T < τ) : SI (arS S ρ (nI T)) n (ρ + 1) τ B := by
  obtain ⟨sl, tO, sO, kO, a1, a2, a3, a4, a5, a6⟩ := h
  obtain ⟨f26, f27, -⟩ := rg_f S ρ (nI T)
  refine ⟨sl, tO, sO, kO, fun x hx => by rw [rg_ne (by omega)]; exact a1 x hx, a2, fun r hr => ?_, fun x hx => by rw [rg_ne (by omega)]; exact a4 x hx, fun k hk => ?_, a6⟩
  · by_cases e : r = ρ
    · subst e; exact ⟨T, hT, f27⟩
    · obtain ⟨x, q1, q2⟩ := a3 r (by omega)
      exact ⟨x, q1, by rw [rg_ne (by omega)]; exact q2⟩
  · rw [rg_ne (by omega), rg_ne (by omega), rg_ne (by omega)]
    exact a5 k hk
end SIS
