/-! what a program means: activations by paths, values at own tokens -/
/-- a value: kind (1 number, 2 truth, 3 table, 4 error), the number (of a table: its length), and who made the table -/
def mkN (v : Int64) : Nat × Int64 × List (Nat × Nat) × Nat := (1, v, [], 0)
def mkT (v : Int64) : Nat × Int64 × List (Nat × Nat) × Nat := (2, v, [], 0)
def mkE (v : Int64) : Nat × Int64 × List (Nat × Nat) × Nat := (4, v, [], 0)
/-- the activation of region r0 around -/
def upP (r0 : Nat) : List (Nat × Nat) → List (Nat × Nat)
  | [] => []
  | c :: Q => if c.1 = r0 then c :: Q else upP r0 Q
/-- all X of a program, with what is known and where -/
def scP : TR → List (TR × List Nat × Nat)
  | .append (.tag p (.append (.tag cnt _) x)) r => sbc x (pms (p + 2) cnt).reverse (4 * p) ++ scP r
  | _ => []
/-- its functions -/
def fuP : TR → List (Nat × Nat × TR)
  | .append (.tag p (.append (.tag cnt _) x)) r => (p, cnt, x) :: fuP r
  | _ => []
/-- the z-th argument -/
def agX : TR → Nat → Option TR
  | .append (.tag _ x) _, 0 => some x
  | .append _ r, z + 1 => agX r z
  | _, _ => none
/-- the first value of the name at token p; the next value of a name as at p -/
def rwX : TR → Nat → Option TR
  | .append (.tag q x) r, p => if q = p then some x else rwX r p
  | _, _ => none
def nxX (V : Nat → Int64) : TR → Nat → Option TR
  | .append (.tag q x) r, p => if V q = V p then some x else nxX V r p
  | _, _ => none
/-- where a loop's name has its value in round i -/
def LnP (V : Nat → Int64) (j : Nat) (fs ns : TR) (p : Nat) (Q : List (Nat × Nat)) : Nat → Option (List (Nat × Nat) × Nat)
  | 0 => (rwX fs p).map (fun x => (Q, otk x))
  | i + 1 => match nxX V ns p with
    | some x => some ((4 * j + 1, 0) :: (4 * j, i) :: Q, otk x)
    | none => LnP V j fs ns p Q i
/-- where the name that is bound at token b has its value, seen from P: a place, or the value itself -/
def VrP (V : Nat → Int64) (y : TR) (ar : Nat → Int64) (P : List (Nat × Nat)) (b : Nat) (o : (List (Nat × Nat) × Nat) ⊕ (Nat × Int64 × List (Nat × Nat) × Nat)) : Prop :=
  (∃ p cnt x z, (p, cnt, x) ∈ fuP y ∧ z < cnt ∧ b = p + 2 + 2 * z ∧ ((upP (4 * p) P = [(4 * p, 0)] ∧ o = .inr (mkN (ar z))) ∨ ∃ j Q as γ r xz, upP (4 * p) P = (4 * p, j) :: Q ∧ Q ≠ [] ∧ (.tag 4 (.tag j as), γ, r) ∈ scP y ∧ agX as z = some xz ∧ o = .inl (Q, otk xz))) ∨
  (∃ j x x' γ r, (.tag 5 (.tag j (.append x x')), γ, r) ∈ scP y ∧ b = j + 1 ∧ o = .inl (upP r P, otk x)) ∨
  (∃ j fs c ns g γ r i Q pl, (.tag 7 (.tag j (.append fs (.append c (.append ns g)))), γ, r) ∈ scP y ∧ b ∈ tks fs ∧ upP (4 * j) P = (4 * j, i) :: Q ∧ LnP V j fs ns b Q i = some pl ∧ o = .inl pl) ∨
  (∃ j x x' γ r i Q, (.tag 11 (.tag j (.append x x')), γ, r) ∈ scP y ∧ b = j + 3 ∧ upP (4 * j) P = (4 * j, i) :: Q ∧ o = .inr (mkN (Int64.ofNat i))) ∨
  (∃ j x x' γ r, (.tag 11 (.tag j (.append x x')), γ, r) ∈ scP y ∧ b = j + 1 ∧ o = .inl (upP r P, j))
/-- what stands there -/
def AtP (Va : List (Nat × Nat) → Nat → Nat × Int64 × List (Nat × Nat) × Nat → Prop) (o : (List (Nat × Nat) × Nat) ⊕ (Nat × Int64 × List (Nat × Nat) × Nat)) (a : Nat × Int64 × List (Nat × Nat) × Nat) : Prop := match o with
  | .inl q => Va q.1 q.2 a
  | .inr c => a = c
/-- what an operator makes of two values that are no errors -/
def opV (c : Nat) (v w : Int64) : Nat × Int64 × List (Nat × Nat) × Nat :=
  if c = 38 then mkT (v &&& w) else if c = 42 then mkN (v * w) else if c = 43 then mkN (v + w) else if c = 45 then mkN (v - w) else if c = 60 then mkT (if (0 : Int32) ≤ lg_cmp v w then 0 else 1) else if c = 61 then mkT (if (lg_cmp v w : Int32) ≠ 0 then 0 else 1) else if c = 124 then mkT (v ||| w) else if w = 0 then mkE 1 else if w = -1 then (if c = 47 then mkN (-v) else mkN 0) else if c = 47 then mkN (v / w) else mkN (v - v / w * w)
/-- the lesser of two errors -/
def erV (a a' : Nat × Int64 × List (Nat × Nat) × Nat) : Option Int64 :=
  if a.1 = 4 then (if a'.1 = 4 then some (if (0 : Int32) ≤ lg_cmp a'.2.1 a.2.1 then a.2.1 else a'.2.1) else some a.2.1) else if a'.1 = 4 then some a'.2.1 else none
/-- a family of activations and values that nothing can be added to -/
def CloX (K : Nat → Nat) (V : Nat → Int64) (y : TR) (ar : Nat → Int64) (En : List (Nat × Nat) → Prop) (Va : List (Nat × Nat) → Nat → Nat × Int64 × List (Nat × Nat) × Nat → Prop) (P : List (Nat × Nat)) : TR × List Nat × Nat → Prop
  | (.tag 1 (.tag j _), _, _) => Va P j (mkN (V j))
  | (.tag 2 (.tag j _), _, _) => Va P j (mkT (if K j = 15 then 1 else 0))
  | (.tag 3 (.tag j _), γ, _) => ∀ b o a, fnd V γ j = some b → VrP V y ar P b o → AtP Va o a → Va P j a
  | (.tag 4 (.tag j _), _, _) => ∀ i p cnt x, idx V ((ftP y).map Prod.fst) j = some i → (fuP y)[i]? = some (p, cnt, x) → En ((4 * p, j) :: P) ∧ ∀ a, Va ((4 * p, j) :: P) (otk x) a → Va P j a
  | (.tag 5 (.tag j (.append _ x)), _, _) => ∀ a, Va P (otk x) a → Va P j a
  | (.tag 6 (.tag j (.append x (.append y1 y2))), _, _) => ∀ a, Va P (otk x) a → (a.1 = 4 → Va P j a) ∧ (a.1 ≠ 4 → a.2.1 = 1 → En ((4 * j, 0) :: P) ∧ ∀ a', Va ((4 * j, 0) :: P) (otk y1) a' → Va P j a') ∧ (a.1 ≠ 4 → a.2.1 ≠ 1 → En ((4 * j + 1, 0) :: P) ∧ ∀ a', Va ((4 * j + 1, 0) :: P) (otk y2) a' → Va P j a')
  | (.tag 7 (.tag j (.append _ (.append c (.append _ g)))), _, _) => En ((4 * j, 0) :: P) ∧ ∀ i a, En ((4 * j, i) :: P) → Va ((4 * j, i) :: P) (otk c) a → (a.1 = 4 → Va P j a) ∧ (a.1 ≠ 4 → a.2.1 ≠ 0 → En ((4 * j + 1, 0) :: (4 * j, i) :: P) ∧ En ((4 * j, i + 1) :: P)) ∧ (a.1 ≠ 4 → a.2.1 = 0 → En ((4 * j + 2, 0) :: (4 * j, i) :: P) ∧ ∀ a', Va ((4 * j + 2, 0) :: (4 * j, i) :: P) (otk g) a' → Va P j a')
  | (.tag 8 (.tag j x), _, _) => ∀ a, Va P (otk x) a → Va P j (if a.1 = 4 then a else if K j = 45 then mkN (-a.2.1) else mkT (1 - a.2.1))
  | (.tag 9 (.tag j (.append x x')), _, _) => ∀ a a', Va P (otk x) a → Va P (otk x') a' → Va P j (match erV a a' with | some e => mkE e | none => opV (K j) a.2.1 a'.2.1)
  | (.tag 10 (.tag j (.append x x')), _, _) => ∀ a a', Va P (otk x) a → Va P (otk x') a' → match erV a a' with
    | some e => Va P j (mkE e)
    | none => if (lg_cmp a'.2.1 0 : Int32) < 0 ∨ ¬ (lg_cmp a'.2.1 a.2.1 : Int32) < 0 then Va P j (mkE 2) else ∀ q q' γ r b, (.tag 11 (.tag a.2.2.2 (.append q q')), γ, r) ∈ scP y → Va ((4 * a.2.2.2, a'.2.1.toInt32.toNatClampNeg) :: a.2.2.1) (otk q') b → Va P j b
  | (.tag 11 (.tag j (.append x _)), _, _) => ∀ a, Va P (otk x) a → (a.1 = 4 → Va P j a) ∧ (a.1 ≠ 4 → ((lg_cmp a.2.1 0 : Int32) < 0 ∨ ¬ (lg_cmp a.2.1 20 : Int32) ≤ 0) → Va P j (mkE 3)) ∧ (a.1 ≠ 4 → ¬ (lg_cmp a.2.1 0 : Int32) < 0 → (lg_cmp a.2.1 20 : Int32) ≤ 0 → Va P j (3, a.2.1, P, j) ∧ ∀ i, i < a.2.1.toInt32.toNatClampNeg → En ((4 * j, i) :: P))
  | (.tag 12 (.tag j x), _, _) => ∀ a, Va P (otk x) a → Va P j a
  | _ => True
def Clo (K : Nat → Nat) (V : Nat → Int64) (y : TR) (q0 : Nat) (ar : Nat → Int64) (En : List (Nat × Nat) → Prop) (Va : List (Nat × Nat) → Nat → Nat × Int64 × List (Nat × Nat) × Nat → Prop) : Prop :=
  En [(4 * q0, 0)] ∧ ∀ (r i : Nat) (Q : List (Nat × Nat)) (z : TR × List Nat × Nat), En ((r, i) :: Q) → z ∈ scP y → z.2.2 = r → CloX K V y ar En Va ((r, i) :: Q) z
theorem AtP_mono {Va Va' : List (Nat × Nat) → Nat → Nat × Int64 × List (Nat × Nat) × Nat → Prop} (h : ∀ P t a, Va P t a → Va' P t a) {o : (List (Nat × Nat) × Nat) ⊕ (Nat × Int64 × List (Nat × Nat) × Nat)} {a : Nat × Int64 × List (Nat × Nat) × Nat} (q : AtP Va o a) : AtP Va' o a := by
  cases o with
  | inl o => exact h _ _ _ q
  | inr c => exact q
