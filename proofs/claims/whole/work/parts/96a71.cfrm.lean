/-! the class's memory: frames and chains -/
theorem gI_a {S : im_S} {j N a i : Nat} (h : a = j → i < S.2.2 j) : (gI S j N).1 a i = S.1 a i := by
  show va_up S.1 j (fun k => if k < S.2.2 j then S.1 j k else 0) a i = _
  by_cases c : a = j
  · subst c
    rw [va_up_self]
    show (if i < S.2.2 a then S.1 a i else 0) = _
    rw [if_pos (h rfl)]
  · rw [va_up_ne _ _ c]
theorem gI_l {S : im_S} {j N a : Nat} (h : a ≠ j) : (gI S j N).2.2 a = S.2.2 a := va_up_ne _ _ h
theorem gI_n {S : im_S} {j N : Nat} : (gI S j N).2.2 j = N := va_up_self _ _ _
theorem gok_2 {S : im_S} {j N : Nat} (h : N = 2 * S.2.2 j) (h1 : 64 ≤ S.2.2 j) (h2 : N ≤ 67108864) : gok S j (nI N) = true := by
  unfold gok
  rw [nI_clamp (by omega), nI_toInt (by omega)]
  exact decide_eq_true ⟨by omega, by omega, by omega, by omega⟩
/-- a frame more -/
theorem k_fadd {S : im_S} {n : Nat} {x1 x2 x3 : Int32} (h : FrO S n) (hn : n < 32768) : ∃ S' : im_S, f_X2_add x1 x2 x3 S = some (nI n, S') ∧ FrO S' (n + 1) ∧ S'.1 68 n = x1 ∧ S'.1 69 n = x2 ∧ S'.1 70 n = x3 ∧ S'.1 71 n = 0 ∧ (∀ a i : Nat, (a = 67 → i ≠ 4) → (68 ≤ a → a ≤ 71 → i < n) → S'.1 a i = S.1 a i) ∧ S'.2.1 = S.2.1 ∧ (∀ a, (a < 68 ∨ 71 < a) → S'.2.2 a = S.2.2 a) ∧ S.2.2 68 ≤ S'.2.2 68 ∧ S'.2.2 68 ≤ 32768 ∧ (S'.2.2 69 = S'.2.2 68 ∧ S'.2.2 70 = S'.2.2 68 ∧ S'.2.2 71 = S'.2.2 68) ∧ S.2.2 69 = S.2.2 68 ∧ S.2.2 70 = S.2.2 68 ∧ S.2.2 71 = S.2.2 68 := by
  obtain ⟨h1, ⟨a, ha, l1, l2, l3, l4⟩, h2⟩ := h
  have h9 : (2 : Nat) ^ a ≤ 2 ^ 9 := p2_le ha
  have h9' : (2 : Nat) ^ 9 = 512 := rfl
  have h64 : 64 ≤ S.2.2 68 := by
    have := Nat.one_le_two_pow (n := a)
    omega
  have e1 : nI n + 1 - 1 = nI n := by
    have e2 : nI (n + 1) - 1 = nI (n + 1 - 1) := nI_sub (a := n + 1) (b := 1) (by omega)
    rw [show nI n + 1 = nI (n + 1) from nI_add n 1, e2]
    rfl
  have hio : nI n = Int32.ofNat (S.2.2 68) ↔ n = S.2.2 68 := nI_eq (a := n) (b := S.2.2 68) (by omega) (by omega)
  -- behind the growing
  have fin : ∀ T : im_S, T.1 67 4 = nI n → n < T.2.2 68 → n < T.2.2 69 → n < T.2.2 70 → n < T.2.2 71 → T.2.2 68 < 2 ^ 31 → gd (in_b (T.1 67 4) (T.2.2 68)) (gd (in_b (T.1 67 4) (T.2.2 69)) (gd (in_b (T.1 67 4) (T.2.2 70)) (gd (in_b (T.1 67 4) (T.2.2 71)) (some (((T.1 67 4) + 1) - 1, (uI (uI (uI (uI (uI T 68 ((T.1 67 4).toNatClampNeg) x1) 69 ((T.1 67 4).toNatClampNeg) x2) 70 ((T.1 67 4).toNatClampNeg) x3) 71 ((T.1 67 4).toNatClampNeg) 0) 67 4 ((T.1 67 4) + 1))))))) = some (nI n, uI (uI (uI (uI (uI T 68 n x1) 69 n x2) 70 n x3) 71 n 0) 67 4 (nI (n + 1))) := by
    intro T t1 t2 t3 t4 t5 t6
    rw [t1, nI_clamp (show n < 2 ^ 31 by omega), mI_in (a := n) (n := T.2.2 68) (by omega) t2, mI_in (a := n) (n := T.2.2 69) (by omega) t3, mI_in (a := n) (n := T.2.2 70) (by omega) t4, mI_in (a := n) (n := T.2.2 71) (by omega) t5, e1, show nI n + 1 = nI (n + 1) from nI_add n 1]
    rfl
  have out : ∀ T : im_S, (∀ a i : Nat, (68 ≤ a → a ≤ 71 → i < n) → T.1 a i = S.1 a i) → T.2.1 = S.2.1 → (∀ a, (a < 68 ∨ 71 < a) → T.2.2 a = S.2.2 a) → S.2.2 68 ≤ T.2.2 68 → n + 1 ≤ T.2.2 68 → (∃ a, a ≤ 9 ∧ T.2.2 68 = 64 * 2 ^ a ∧ T.2.2 69 = 64 * 2 ^ a ∧ T.2.2 70 = 64 * 2 ^ a ∧ T.2.2 71 = 64 * 2 ^ a) → f_X2_add x1 x2 x3 S = some (nI n, uI (uI (uI (uI (uI T 68 n x1) 69 n x2) 70 n x3) 71 n 0) 67 4 (nI (n + 1))) → ∃ S' : im_S, f_X2_add x1 x2 x3 S = some (nI n, S') ∧ FrO S' (n + 1) ∧ S'.1 68 n = x1 ∧ S'.1 69 n = x2 ∧ S'.1 70 n = x3 ∧ S'.1 71 n = 0 ∧ (∀ a i : Nat, (a = 67 → i ≠ 4) → (68 ≤ a → a ≤ 71 → i < n) → S'.1 a i = S.1 a i) ∧ S'.2.1 = S.2.1 ∧ (∀ a, (a < 68 ∨ 71 < a) → S'.2.2 a = S.2.2 a) ∧ S.2.2 68 ≤ S'.2.2 68 ∧ S'.2.2 68 ≤ 32768 ∧ (S'.2.2 69 = S'.2.2 68 ∧ S'.2.2 70 = S'.2.2 68 ∧ S'.2.2 71 = S'.2.2 68) ∧ S.2.2 69 = S.2.2 68 ∧ S.2.2 70 = S.2.2 68 ∧ S.2.2 71 = S.2.2 68 := by
    intro T t1 t2 t3 t4 t5 t6 hf
    obtain ⟨a', ha', m1, m2, m3, m4⟩ := t6
    have h9'' : (2 : Nat) ^ a' ≤ 2 ^ 9 := p2_le ha'
    refine ⟨_, hf, ⟨uI_eq, ⟨a', ha', m1, m2, m3, m4⟩, t5⟩, ?_, ?_, ?_, ?_, fun a i q1 q2 => ?_, t2, t3, t4, by show T.2.2 68 ≤ 32768; omega, ⟨by show T.2.2 69 = T.2.2 68; omega, by show T.2.2 70 = T.2.2 68; omega, by show T.2.2 71 = T.2.2 68; omega⟩, by omega, by omega, by omega⟩
    · rw [uI_ne (by omega), uI_ne (by omega), uI_ne (by omega), uI_ne (by omega), uI_eq]
    · rw [uI_ne (by omega), uI_ne (by omega), uI_ne (by omega), uI_eq]
    · rw [uI_ne (by omega), uI_ne (by omega), uI_eq]
    · rw [uI_ne (by omega), uI_eq]
    · rw [uI_ne (by omega), uI_ne (by omega), uI_ne (by omega), uI_ne (by omega), uI_ne (by omega)]
      exact t1 a i q2
  by_cases c : n = S.2.2 68
  · have ha9 : a < 9 := by
      refine Classical.byContradiction (fun q => ?_)
      have : a = 9 := by omega
      subst this
      omega
    have hd : 64 * 2 ^ (a + 1) = 2 * n := by rw [Nat.pow_succ]; omega
    have hdN : (2 : Int32) * nI n = nI (2 * n) := nI_mul 2 n
    have cl : (nI (2 * n)).toNatClampNeg = 2 * n := nI_clamp (by omega)
    have k1 : gok S 68 (nI (2 * n)) = true := gok_2 (by omega) (by omega) (by omega)
    have k2 : gok (gI S 68 (2 * n)) 69 (nI (2 * n)) = true := gok_2 (by rw [gI_l (by omega)]; omega) (by rw [gI_l (by omega)]; omega) (by omega)
    have k3 : gok (gI (gI S 68 (2 * n)) 69 (2 * n)) 70 (nI (2 * n)) = true := gok_2 (by rw [gI_l (by omega), gI_l (by omega)]; omega) (by rw [gI_l (by omega), gI_l (by omega)]; omega) (by omega)
    have k4 : gok (gI (gI (gI S 68 (2 * n)) 69 (2 * n)) 70 (2 * n)) 71 (nI (2 * n)) = true := gok_2 (by rw [gI_l (by omega), gI_l (by omega), gI_l (by omega)]; omega) (by rw [gI_l (by omega), gI_l (by omega), gI_l (by omega)]; omega) (by omega)
    obtain ⟨T, hT⟩ : ∃ T, T = gI (gI (gI (gI S 68 (2 * n)) 69 (2 * n)) 70 (2 * n)) 71 (2 * n) := ⟨_, rfl⟩
    have T1 : ∀ a i : Nat, (68 ≤ a → a ≤ 71 → i < n) → T.1 a i = S.1 a i := fun a i q => by
      rw [hT, gI_a (fun e => by rw [gI_l (by omega), gI_l (by omega), gI_l (by omega)]; have := q (by omega) (by omega); omega), gI_a (fun e => by rw [gI_l (by omega), gI_l (by omega)]; have := q (by omega) (by omega); omega), gI_a (fun e => by rw [gI_l (by omega)]; have := q (by omega) (by omega); omega), gI_a (fun e => by have := q (by omega) (by omega); omega)]
    have T3 : ∀ a, (a < 68 ∨ 71 < a) → T.2.2 a = S.2.2 a := fun a q => by
      rw [hT, gI_l (by omega), gI_l (by omega), gI_l (by omega), gI_l (by omega)]
    have m1 : T.2.2 68 = 2 * n := by rw [hT, gI_l (by omega), gI_l (by omega), gI_l (by omega), gI_n]
    have m2 : T.2.2 69 = 2 * n := by rw [hT, gI_l (by omega), gI_l (by omega), gI_n]
    have m3 : T.2.2 70 = 2 * n := by rw [hT, gI_l (by omega), gI_n]
    have m4 : T.2.2 71 = 2 * n := by rw [hT, gI_n]
    refine out T T1 (by rw [hT]; rfl) T3 (by omega) (by omega) ⟨a + 1, by omega, by omega, by omega, by omega, by omega⟩ ?_
    unfold f_X2_add
    have z67 : ∀ T : im_S, (∀ j N, (gI T j N).1 67 4 = T.1 67 4 ∨ j = 67) := fun T j N => by
      by_cases cj : j = 67
      · exact .inr cj
      · exact .inl (gI_a (fun e => absurd e.symm cj))
    have w1 : (gI S 68 (2 * n)).1 67 4 = nI n := by rw [gI_a (by omega)]; exact h1
    have w2 : (gI (gI S 68 (2 * n)) 69 (2 * n)).1 67 4 = nI n := by rw [gI_a (by omega)]; exact w1
    have w3 : (gI (gI (gI S 68 (2 * n)) 69 (2 * n)) 70 (2 * n)).1 67 4 = nI n := by rw [gI_a (by omega)]; exact w2
    have w4 : T.1 67 4 = nI n := by rw [hT, gI_a (by omega)]; exact w3
    have hcc : ¬ S.1 67 4 ≠ Int32.ofNat (S.2.2 68) := fun q => q (by rw [h1]; exact hio.mpr c)
    rw [if_neg hcc]
    unfold f_gr68 f_gr69 f_gr70 f_gr71
    rw [h1, hdN, k1, cl]
    simp only [gd_t, Option.bind_some]
    rw [w1, hdN, k2, cl]
    simp only [gd_t, Option.bind_some]
    rw [w2, hdN, k3, cl]
    simp only [gd_t, Option.bind_some]
    rw [w3, hdN, k4, cl]
    simp only [gd_t, Option.bind_some]
    rw [← hT]
    exact fin T w4 (by omega) (by omega) (by omega) (by omega) (by omega)
  · refine out S (fun _ _ _ => rfl) rfl (fun _ _ => rfl) (Nat.le_refl _) (by omega) ⟨a, ha, l1, l2, l3, l4⟩ ?_
    unfold f_X2_add
    have hcc : S.1 67 4 ≠ Int32.ofNat (S.2.2 68) := fun q => c (hio.mp (by rw [← h1]; exact q))
    rw [if_pos hcc]
    exact fin S h1 (by omega) (by omega) (by omega) (by omega) (by omega)
/-- a chain from a link on -/
def Lkd (S : im_S) : Int32 → List Nat → Prop
  | w, [] => w = 0
  | w, k :: ks => w = nI k ∧ 1 ≤ k ∧ Lkd S (S.1 74 k) ks
theorem Lkd_cg {S S' : im_S} : ∀ (ks : List Nat) (w : Int32), (∀ k, k ∈ ks → S'.1 74 k = S.1 74 k) → Lkd S w ks → Lkd S' w ks := by
  intro ks
  induction ks with
  | nil => intro w _ h; exact h
  | cons k ks ih =>
    intro w h q
    refine ⟨q.1, q.2.1, ?_⟩
    rw [h k List.mem_cons_self]
    exact ih _ (fun k' hk => h k' (List.mem_cons_of_mem _ hk)) q.2.2
/-- the chains' store -/
def ChO (S : im_S) (sz : Nat) (fre : List Nat) : Prop := S.1 72 2 = nI sz ∧ 1 ≤ sz ∧ Lkd S (S.1 72 3) fre ∧ (∀ k, k ∈ fre → k < sz) ∧ fre.Nodup ∧ (∃ a, a ≤ 11 ∧ S.2.2 73 = 256 * 2 ^ a ∧ S.2.2 74 = 256 * 2 ^ a) ∧ sz ≤ S.2.2 73
theorem k_ladd {S : im_S} {sz : Nat} {fre : List Nat} {x1 x2 : Int32} (h : ChO S sz fre) (hs : sz < 524288) : ∃ (S' : im_S) (k sz' : Nat) (fre' : List Nat), f_X0_add x1 x2 S = some (nI k, S') ∧ ChO S' sz' fre' ∧ 1 ≤ k ∧ k < sz' ∧ ¬ k ∈ fre' ∧ S'.1 73 k = x1 ∧ S'.1 74 k = x2 ∧ ((fre = k :: fre' ∧ sz' = sz) ∨ (fre = [] ∧ fre' = [] ∧ k = sz ∧ sz' = sz + 1)) ∧ (∀ a i : Nat, (a = 72 → i ≠ 2 ∧ i ≠ 3) → (a = 73 ∨ a = 74 → i ≠ k ∧ i < sz) → S'.1 a i = S.1 a i) ∧ S'.2.1 = S.2.1 ∧ (∀ a, a ≠ 73 → a ≠ 74 → S'.2.2 a = S.2.2 a) ∧ S.2.2 73 ≤ S'.2.2 73 ∧ S'.2.2 73 ≤ 524288 ∧ S'.2.2 74 = S'.2.2 73 ∧ S.2.2 74 = S.2.2 73 := by
  obtain ⟨h1, h2, h3, h4, h5, ⟨a, ha, l1, l2⟩, h6⟩ := h
  have h9 : (2 : Nat) ^ a ≤ 2 ^ 11 := p2_le ha
  have h9' : (2 : Nat) ^ 11 = 2048 := rfl
  have h256 : 256 ≤ S.2.2 73 := by
    have := Nat.one_le_two_pow (n := a)
    omega
  cases fre with
  | cons k fre' =>
    obtain ⟨f1, f2, f3⟩ := h3
    have hk := h4 k List.mem_cons_self
    have hnd := List.nodup_cons.mp h5
    obtain ⟨S', hS'⟩ : ∃ S', S' = uI (uI (uI S 72 3 (S.1 74 k)) 73 k x1) 74 k x2 := ⟨_, rfl⟩
    have fr : ∀ a i : Nat, (a = 72 → i ≠ 3) → (a = 73 ∨ a = 74 → i ≠ k) → S'.1 a i = S.1 a i := fun a i q1 q2 => by
      rw [hS', uI_ne (by omega), uI_ne (by omega), uI_ne (by omega)]
    refine ⟨S', k, sz, fre', ?_, ⟨(fr 72 2 (by omega) (by omega)).trans h1, h2, ?_, fun k' hk' => h4 k' (List.mem_cons_of_mem _ hk'), hnd.2, ⟨a, ha, by rw [hS']; exact l1, by rw [hS']; exact l2⟩, by rw [hS']; exact h6⟩, f2, hk, hnd.1, ?_, ?_, .inl ⟨rfl, rfl⟩, fun a i q1 q2 => fr a i (by omega) (fun e => (q2 e).1), by rw [hS']; rfl, fun a _ _ => by rw [hS']; rfl, by rw [hS']; exact Nat.le_refl _, by rw [hS']; show S.2.2 73 ≤ 524288; omega, by rw [hS']; show S.2.2 74 = S.2.2 73; omega, by omega⟩
    · unfold f_X0_add
      have hne : ¬ S.1 72 3 = 0 := fun q => by
        rw [f1] at q
        have := (nI_eq (a := k) (b := 0) (by omega) (by omega)).mp q
        omega
      rw [if_neg hne, f1, nI_clamp (show k < 2 ^ 31 by omega), mI_in (a := k) (n := S.2.2 74) (by omega) (by omega), mI_in (a := k) (n := S.2.2 73) (by omega) (by omega), ← hS']
      rfl
    · have e3 : S'.1 72 3 = S.1 74 k := by rw [hS', uI_ne (by omega), uI_ne (by omega), uI_eq]
      rw [e3]
      refine Lkd_cg fre' _ (fun k' hk' => fr 74 k' (by omega) (fun _ e => hnd.1 (by rw [← e]; exact hk'))) f3
    · rw [hS', uI_ne (by omega), uI_eq]
    · rw [hS', uI_eq]
  | nil =>
    have h3 : S.1 72 3 = 0 := h3
    have e1 : nI sz + 1 = nI (sz + 1) := nI_add sz 1
    have hio : nI (sz + 1) ≤ Int32.ofNat (S.2.2 73) ↔ sz + 1 ≤ S.2.2 73 := mI_le (a := sz + 1) (b := S.2.2 73) (by omega) (by omega)
    have out : ∀ T : im_S, T.1 72 2 = nI (sz + 1) → (∀ a i : Nat, (a = 72 → i ≠ 2) → (a = 73 ∨ a = 74 → i < sz) → T.1 a i = S.1 a i) → T.2.1 = S.2.1 → (∀ a, a ≠ 73 → a ≠ 74 → T.2.2 a = S.2.2 a) → S.2.2 73 ≤ T.2.2 73 → sz + 1 ≤ T.2.2 73 → (∃ a, a ≤ 11 ∧ T.2.2 73 = 256 * 2 ^ a ∧ T.2.2 74 = 256 * 2 ^ a) → f_X0_add x1 x2 S = some (nI sz, uI (uI T 73 sz x1) 74 sz x2) → ∃ (S' : im_S) (k sz' : Nat) (fre' : List Nat), f_X0_add x1 x2 S = some (nI k, S') ∧ ChO S' sz' fre' ∧ 1 ≤ k ∧ k < sz' ∧ ¬ k ∈ fre' ∧ S'.1 73 k = x1 ∧ S'.1 74 k = x2 ∧ (([] = k :: fre' ∧ sz' = sz) ∨ (([] : List Nat) = [] ∧ fre' = [] ∧ k = sz ∧ sz' = sz + 1)) ∧ (∀ a i : Nat, (a = 72 → i ≠ 2 ∧ i ≠ 3) → (a = 73 ∨ a = 74 → i ≠ k ∧ i < sz) → S'.1 a i = S.1 a i) ∧ S'.2.1 = S.2.1 ∧ (∀ a, a ≠ 73 → a ≠ 74 → S'.2.2 a = S.2.2 a) ∧ S.2.2 73 ≤ S'.2.2 73 ∧ S'.2.2 73 ≤ 524288 ∧ S'.2.2 74 = S'.2.2 73 ∧ S.2.2 74 = S.2.2 73 := by
      intro T t1 t2 t3 t4 t5 t6 t7 hf
      obtain ⟨a', ha', m1, m2⟩ := t7
      have h10 : (2 : Nat) ^ a' ≤ 2 ^ 11 := p2_le ha'
      refine ⟨_, sz, sz + 1, [], hf, ⟨?_, by omega, ?_, fun k hk => absurd hk List.not_mem_nil, List.nodup_nil, ⟨a', ha', m1, m2⟩, t6⟩, h2, by omega, List.not_mem_nil, ?_, uI_eq, .inr ⟨rfl, rfl, rfl, rfl⟩, fun a i q1 q2 => ?_, t3, t4, t5, by show T.2.2 73 ≤ 524288; omega, by show T.2.2 74 = T.2.2 73; omega, by omega⟩
      · rw [uI_ne (by omega), uI_ne (by omega)]
        exact t1
      · show (uI (uI T 73 sz x1) 74 sz x2).1 72 3 = 0
        rw [uI_ne (by omega), uI_ne (by omega), t2 72 3 (by omega) (by omega)]
        exact h3
      · rw [uI_ne (by omega), uI_eq]
      · rw [uI_ne (by omega), uI_ne (by omega)]
        exact t2 a i (by omega) (by omega)
    by_cases c : sz + 1 ≤ S.2.2 73
    · refine out (uI S 72 2 (nI (sz + 1))) uI_eq (fun a i q1 q2 => uI_ne (by omega)) rfl (fun _ _ _ => rfl) (Nat.le_refl _) c ⟨a, ha, l1, l2⟩ ?_
      unfold f_X0_add
      rw [if_pos h3, h1, e1, if_pos (hio.mpr c), nI_clamp (show sz < 2 ^ 31 by omega), mI_in (a := sz) (n := S.2.2 73) (by omega) (by omega), mI_in (a := sz) (n := S.2.2 74) (by omega) (by omega)]
      rfl
    · have ha10 : a < 11 := by
        refine Classical.byContradiction (fun q => ?_)
        have : a = 11 := by omega
        subst this
        omega
      have hsz : sz = S.2.2 73 := by omega
      have hd : 256 * 2 ^ (a + 1) = 2 * S.2.2 73 := by rw [Nat.pow_succ]; omega
      have hdN : (2 : Int32) * Int32.ofNat (S.2.2 73) = nI (2 * S.2.2 73) := nI_mul 2 (S.2.2 73)
      have cl : (nI (2 * S.2.2 73)).toNatClampNeg = 2 * S.2.2 73 := nI_clamp (by omega)
      obtain ⟨S0, hS0⟩ : ∃ S0, S0 = uI S 72 2 (nI (sz + 1)) := ⟨_, rfl⟩
      have p2 : S0.2 = S.2 := by rw [hS0]; rfl
      have p22 : S0.2.2 = S.2.2 := congrArg Prod.snd p2
      have k1 : gok S0 73 (nI (2 * S.2.2 73)) = true := gok_2 (by rw [p22]) (by rw [p22]; omega) (by omega)
      have q74 : (gI S0 73 (2 * S.2.2 73)).2.2 74 = S.2.2 73 := by rw [gI_l (by omega), p22]; omega
      have k2 : gok (gI S0 73 (2 * S.2.2 73)) 74 (nI (2 * S.2.2 73)) = true := gok_2 (by rw [q74]) (by rw [q74]; omega) (by omega)
      obtain ⟨T, hT⟩ : ∃ T, T = gI (gI S0 73 (2 * S.2.2 73)) 74 (2 * S.2.2 73) := ⟨_, rfl⟩
      have m1 : T.2.2 73 = 2 * S.2.2 73 := by rw [hT, gI_l (by omega), gI_n]
      have m2 : T.2.2 74 = 2 * S.2.2 73 := by rw [hT, gI_n]
      have T1 : ∀ a i : Nat, (a = 73 ∨ a = 74 → i < sz) → T.1 a i = S0.1 a i := fun a i q => by
        rw [hT, gI_a (fun e => by rw [q74]; have := q (by omega); omega), gI_a (fun e => by rw [p22]; have := q (by omega); omega)]
      refine out T ?_ (fun a i q1 q2 => ?_) (by rw [hT, hS0]; rfl) (fun a u1 u2 => by rw [hT, gI_l u2, gI_l u1, p22]) (by omega) (by omega) ⟨a + 1, by omega, by omega, by omega⟩ ?_
      · rw [T1 72 2 (by omega), hS0, uI_eq]
      · rw [T1 a i q2, hS0, uI_ne (by omega)]
      · unfold f_X0_add
        rw [if_pos h3, h1, e1, if_neg (fun q => c (hio.mp q)), ← hS0]
        unfold f_gr73 f_gr74
        rw [hdN, k1, cl]
        simp only [gd_t, Option.bind_some]
        rw [q74, hdN, k2, cl]
        simp only [gd_t, Option.bind_some]
        rw [← hT, nI_clamp (show sz < 2 ^ 31 by omega), mI_in (a := sz) (n := T.2.2 73) (by omega) (by omega), mI_in (a := sz) (n := T.2.2 74) (by omega) (by omega)]
        rfl
