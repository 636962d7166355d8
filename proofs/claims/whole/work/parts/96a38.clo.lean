/-! closed families, with their events; who enters a path -/
abbrev TPth := List (Nat × Nat)
abbrev TVal := Nat × Int64 × TPth × Nat
abbrev TEv := TPth × Nat × Nat
/-- the size of a table, an index within one -/
def bad20 (v : Int64) : Prop := (lg_cmp v 0 : Int32) < 0 ∨ ¬ (lg_cmp v 20 : Int32) ≤ 0
def badI (v n : Int64) : Prop := (lg_cmp v 0 : Int32) < 0 ∨ ¬ (lg_cmp v n : Int32) < 0
def i64N (v : Int64) : Nat := v.toInt32.toNatClampNeg
/-- what a sign makes of a value -/
def sgV (c : Nat) (a : TVal) : TVal := if a.1 = 4 then a else if c = 45 then mkN (-a.2.1) else mkT (1 - a.2.1)
/-- what an operator makes of two -/
def biV (c : Nat) (a a' : TVal) : TVal := match erV a a' with
  | some e => mkE e
  | none => opV c a.2.1 a'.2.1
/-- nothing can be added at a node -/
def CloE (K : Nat → Nat) (V : Nat → Int64) (y : TR) (ar : Nat → Int64) (En : TPth → Prop) (Va : TPth → Nat → TVal → Prop) (De : TEv → Prop) (P : TPth) : TR × List Nat × Nat → Prop
  | (.tag 1 (.tag j _), _, _) => Va P j (mkN (V j))
  | (.tag 2 (.tag j _), _, _) => Va P j (mkT (if K j = 15 then 1 else 0))
  | (.tag 3 (.tag j _), γ, _) => ∀ b o a, fnd V γ j = some b → VrP V y ar P b o → AtP Va o a → Va P j a
  | (.tag 4 (.tag j _), _, _) => ∀ i p cnt x, idx V ((ftP y).map Prod.fst) j = some i → (fuP y)[i]? = some (p, cnt, x) → De (P, j, 0) ∧ En ((4 * p, j) :: P) ∧ ∀ a, Va ((4 * p, j) :: P) (otk x) a → Va P j a
  | (.tag 5 (.tag j (.append _ x)), _, _) => ∀ a, Va P (otk x) a → Va P j a
  | (.tag 6 (.tag j (.append x (.append y1 y2))), _, _) => ∀ a, Va P (otk x) a → De (P, j, 0) ∧ (a.1 = 4 → Va P j a) ∧ (a.1 ≠ 4 → a.2.1 = 1 → En ((4 * j, 0) :: P) ∧ ∀ a', Va ((4 * j, 0) :: P) (otk y1) a' → Va P j a') ∧ (a.1 ≠ 4 → a.2.1 ≠ 1 → En ((4 * j + 1, 0) :: P) ∧ ∀ a', Va ((4 * j + 1, 0) :: P) (otk y2) a' → Va P j a')
  | (.tag 7 (.tag j (.append _ (.append c (.append _ g)))), _, _) => En ((4 * j, 0) :: P) ∧ ∀ i a, En ((4 * j, i) :: P) → Va ((4 * j, i) :: P) (otk c) a → De (P, j, i) ∧ (a.1 = 4 → Va P j a) ∧ (a.1 ≠ 4 → a.2.1 ≠ 0 → En ((4 * j + 1, 0) :: (4 * j, i) :: P) ∧ En ((4 * j, i + 1) :: P)) ∧ (a.1 ≠ 4 → a.2.1 = 0 → En ((4 * j + 2, 0) :: (4 * j, i) :: P) ∧ ∀ a', Va ((4 * j + 2, 0) :: (4 * j, i) :: P) (otk g) a' → Va P j a')
  | (.tag 8 (.tag j x), _, _) => ∀ a, Va P (otk x) a → De (P, j, 0) ∧ Va P j (sgV (K j) a)
  | (.tag 9 (.tag j (.append x x')), _, _) => ∀ a a', Va P (otk x) a → Va P (otk x') a' → De (P, j, 0) ∧ Va P j (biV (K j) a a')
  | (.tag 10 (.tag j (.append x x')), _, _) => ∀ a a', Va P (otk x) a → Va P (otk x') a' → (∀ e, erV a a' = some e → De (P, j, 0) ∧ Va P j (mkE e)) ∧ (erV a a' = none → badI a'.2.1 a.2.1 → De (P, j, 0) ∧ Va P j (mkE 2)) ∧ (erV a a' = none → ¬ badI a'.2.1 a.2.1 → ∀ q q' γ r b, (.tag 11 (.tag a.2.2.2 (.append q q')), γ, r) ∈ scP y → Va ((4 * a.2.2.2, i64N a'.2.1) :: a.2.2.1) (otk q') b → De (P, j, 0) ∧ Va P j b)
  | (.tag 11 (.tag j (.append x _)), _, _) => ∀ a, Va P (otk x) a → De (P, j, 0) ∧ (a.1 = 4 → Va P j a) ∧ (a.1 ≠ 4 → bad20 a.2.1 → Va P j (mkE 3)) ∧ (a.1 ≠ 4 → ¬ bad20 a.2.1 → Va P j (3, a.2.1, P, j) ∧ ∀ i, i < i64N a.2.1 → De (P, j, i + 1) ∧ En ((4 * j, i) :: P))
  | (.tag 12 (.tag j x), _, _) => ∀ a, Va P (otk x) a → Va P j a
  | _ => True
def CloA (K : Nat → Nat) (V : Nat → Int64) (y : TR) (q0 : Nat) (ar : Nat → Int64) (En : TPth → Prop) (Va : TPth → Nat → TVal → Prop) (De : TEv → Prop) : Prop :=
  En [(4 * q0, 0)] ∧ ∀ (r i : Nat) (Q : TPth) (z : TR × List Nat × Nat), En ((r, i) :: Q) → z ∈ scP y → z.2.2 = r → CloE K V y ar En Va De ((r, i) :: Q) z
/-- a loop -/
def lpK : TR → Bool
  | .tag 7 _ => true
  | _ => false
def lpP (y : TR) : List Nat := ((scP y).filter (fun z => lpK z.1)).map (fun z => otk z.1)
/-- who enters a path: node, at -/
def own (y : TR) : TPth → TPth × Nat
  | [] => ([], 0)
  | c :: Q => if c.1 / 4 ∈ (ftP y).map Prod.fst then (Q, c.2) else if c.1 / 4 ∈ lpP y ∧ c.1 % 4 ≠ 0 then (Q.tail, c.1 / 4) else (Q, c.1 / 4)
section OWN
variable {K : Nat → Nat} {y : TR}
theorem ft_fu {p e : Nat} (w : PW K y p e) : (ftP y).map Prod.fst = (fuP y).map Prod.fst ∧ (∀ q, q ∈ (ftP y).map Prod.fst → p ≤ q ∧ q < e) ∧ ∀ q, q ∈ (ftP y).map Prod.fst → ∀ z, z ∈ scP y → otk z.1 ≠ q := by
  refine PW_ind (K := K) (P := fun y p e => (ftP y).map Prod.fst = (fuP y).map Prod.fst ∧ (∀ q, q ∈ (ftP y).map Prod.fst → p ≤ q ∧ q < e) ∧ ∀ q, q ∈ (ftP y).map Prod.fst → ∀ z, z ∈ scP y → otk z.1 ≠ q) ?_ ?_ (tsz y) y p e (Nat.le_refl _) w
  · intro p cnt x b e0 _ _ _ w1 hb
    have := Wt_lt w1
    refine ⟨rfl, fun q hq => ?_, fun q hq z hz => ?_⟩
    · have hq := List.mem_singleton.mp hq
      omega
    · have hq := List.mem_singleton.mp hq
      rcases List.mem_append.mp hz with hz | hz
      · have := (ou_W w1 _ _).1 z hz
        omega
      · exact absurd hz List.not_mem_nil
  · intro p cnt x r b e0 e _ _ _ w1 hb _ w2 ih
    have := Wt_lt w1
    have h2 := ou_P w2
    obtain ⟨i1, i2, i3⟩ := ih
    have hw := PW_lt w2
    refine ⟨?_, fun q hq => ?_, fun q hq z hz => ?_⟩
    · show p :: (ftP r).map Prod.fst = p :: (fuP r).map Prod.fst
      rw [i1]
    · rcases List.mem_cons.mp hq with hq | hq
      · have hq : q = p := hq
        omega
      · have := i2 q hq
        omega
    · rcases List.mem_append.mp hz with hz | hz
      · have := (ou_W w1 _ _).1 z hz
        rcases List.mem_cons.mp hq with hq | hq
        · have hq : q = p := hq
          omega
        · have := i2 q hq
          omega
      · rcases List.mem_cons.mp hq with hq | hq
        · have hq : q = p := hq
          have := h2.1 z hz
          omega
        · exact i3 q hq z hz
theorem fu_ft {p e : Nat} (w : PW K y p e) {q cnt : Nat} {x : TR} (h : (q, cnt, x) ∈ fuP y) : q ∈ (ftP y).map Prod.fst := by
  rw [(ft_fu w).1]
  exact List.mem_map.mpr ⟨_, h, rfl⟩
theorem lp_in {z : TR × List Nat × Nat} (h : z ∈ scP y) (hk : lpK z.1 = true) : otk z.1 ∈ lpP y := List.mem_map.mpr ⟨z, List.mem_filter.mpr ⟨h, hk⟩, rfl⟩
theorem lp_no {p e : Nat} (w : PW K y p e) {z : TR × List Nat × Nat} (h : z ∈ scP y) (hk : lpK z.1 = false) : ¬ otk z.1 ∈ lpP y := fun q => by
  obtain ⟨z', h1, h2⟩ := List.mem_map.mp q
  obtain ⟨h1, h3⟩ := List.mem_filter.mp h1
  have := (ou_P w).2 z' h1 z h h2
  rw [this] at h3
  rw [hk] at h3
  cases h3
theorem own_call {p e : Nat} (w : PW K y p e) {q cnt : Nat} {x : TR} (h : (q, cnt, x) ∈ fuP y) (j : Nat) (P : TPth) : own y ((4 * q, j) :: P) = (P, j) := by
  show (if 4 * q / 4 ∈ (ftP y).map Prod.fst then (P, j) else _) = _
  rw [show 4 * q / 4 = q by omega, if_pos (fu_ft w h)]
theorem own_nd {p e : Nat} (w : PW K y p e) {z : TR × List Nat × Nat} (h : z ∈ scP y) {k i : Nat} (hk : k < 4) (hl : lpK z.1 = false ∨ k = 0) (P : TPth) : own y ((4 * otk z.1 + k, i) :: P) = (P, otk z.1) := by
  show (if (4 * otk z.1 + k) / 4 ∈ (ftP y).map Prod.fst then _ else if (4 * otk z.1 + k) / 4 ∈ lpP y ∧ (4 * otk z.1 + k) % 4 ≠ 0 then _ else (P, (4 * otk z.1 + k) / 4)) = _
  rw [show (4 * otk z.1 + k) / 4 = otk z.1 by omega, show (4 * otk z.1 + k) % 4 = k by omega, if_neg (fun q => (ft_fu w).2.2 _ q z h rfl), if_neg]
  rintro ⟨q1, q2⟩
  rcases hl with hl | hl
  · exact lp_no w h hl q1
  · exact q2 hl
theorem own_lp {p e : Nat} (w : PW K y p e) {z : TR × List Nat × Nat} (h : z ∈ scP y) {k i : Nat} {c : Nat × Nat} (hk : k < 4) (h0 : k ≠ 0) (hl : lpK z.1 = true) (P : TPth) : own y ((4 * otk z.1 + k, i) :: c :: P) = (P, otk z.1) := by
  show (if (4 * otk z.1 + k) / 4 ∈ (ftP y).map Prod.fst then _ else if (4 * otk z.1 + k) / 4 ∈ lpP y ∧ (4 * otk z.1 + k) % 4 ≠ 0 then (P, (4 * otk z.1 + k) / 4) else _) = _
  rw [show (4 * otk z.1 + k) / 4 = otk z.1 by omega, show (4 * otk z.1 + k) % 4 = k by omega, if_neg (fun q => (ft_fu w).2.2 _ q z h rfl), if_pos ⟨lp_in h hl, h0⟩]
end OWN
