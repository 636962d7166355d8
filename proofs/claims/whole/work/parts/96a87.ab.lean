/-! the class's run, without its memory -/
/-- awake, or waiting -/
def AwW (Aw : TPth → Nat → Prop) (WV WC : TPth → Nat → TPth → Nat → Prop) (P : TPth) (t : Nat) : Prop := Aw P t ∨ (∃ F b, WV F b P t) ∨ ∃ C t', WC C t' P t
/-- a node that is no bracket -/
def NdA (y : TR) (P : TPth) (t : Nat) (z : TR × List Nat × Nat) : Prop := z ∈ scP y ∧ z.2.2 = hdR P ∧ otk z.1 = t ∧ rtk z.1 = t
/-- the paths that are entered -/
def ABe (V : Nat → Int64) (y : TR) (q0 : Nat) (En : TPth → Prop) : Prop := En [(4 * q0, 0)] ∧ (∀ P, En P → POk V y P ∧ Z0 y P) ∧ (∀ c Q, En (c :: Q) → Q ≠ [] → En Q) ∧ ∀ c, En [c] → c = (4 * q0, 0)
/-- values, awake and waiting ones, events: where they are -/
def ABw (K : Nat → Nat) (V : Nat → Int64) (y : TR) (En : TPth → Prop) (cv vr : TPth → Nat → Option TVal) (mv : Option (TPth × Nat × TVal)) (Aw : TPth → Nat → Prop) (WV WC : TPth → Nat → TPth → Nat → Prop) (R H : List TEv) : Prop :=
  (∀ P t a, Vm cv mv P t a → En P ∧ ∃ z, NdA y P t z ∧ tyO (tyV K V z.1) a) ∧ (∀ P t a, mv = some (P, t, a) → cv P t = none) ∧
  (R ++ H).Nodup ∧ (∀ P t i, (P, t, i) ∈ R ∨ (P, t, i) ∈ H → En P ∧ ∃ z, NdA y P t z) ∧
  (∀ P t, AwW Aw WV WC P t → En P ∧ ∃ z, NdA y P t z) ∧
  (∀ F b P t, WV F b P t → vr F b = none ∧ VF V y P b F ∧ ∃ x γ r, (.tag 3 (.tag t x), γ, r) ∈ scP y ∧ fnd V γ t = some b) ∧
  (∀ C t' P t, WC C t' P t → cv C t' = none ∧ ∃ x x' γ r a a' q q' γ' r', (.tag 10 (.tag t (.append x x')), γ, r) ∈ scP y ∧ cv P (rtk x) = some a ∧ cv P (rtk x') = some a' ∧ (.tag 11 (.tag a.2.2.2 (.append q q')), γ', r') ∈ scP y ∧ C = (4 * a.2.2.2, i64N a'.2.1) :: a.2.2.1 ∧ t' = rtk q' ∧ erV a a' = none ∧ ¬ badI a'.2.1 a.2.1) ∧
  (∀ P t, Aw P t → (∀ F b, ¬ WV F b P t) ∧ ∀ C t', ¬ WC C t' P t) ∧
  ∀ P t x x' γ r, Aw P t → (.tag 10 (.tag t (.append x x')), γ, r) ∈ scP y → ∃ a a' q q' γ' r' v, cv P (rtk x) = some a ∧ cv P (rtk x') = some a' ∧ erV a a' = none ∧ ¬ badI a'.2.1 a.2.1 ∧ (.tag 11 (.tag a.2.2.2 (.append q q')), γ', r') ∈ scP y ∧ cv ((4 * a.2.2.2, i64N a'.2.1) :: a.2.2.1) (rtk q') = some v
/-- all that is there is in every closed family -/
def ABs (K : Nat → Nat) (V : Nat → Int64) (y : TR) (q0 : Nat) (ar : Nat → Int64) (En : TPth → Prop) (cv : TPth → Nat → Option TVal) (mv : Option (TPth × Nat × TVal)) (R H : List TEv) : Prop :=
  ∀ En' Va' De', CloA K V y q0 ar En' Va' De' → (∀ P, En P → En' P) ∧ (∀ P t a, Vm cv mv P t a → Va' P t a) ∧ ∀ e, e ∈ R ∨ e ∈ H → De' e
def ABq (V : Nat → Int64) (y : TR) (En : TPth → Prop) (cv vr : TPth → Nat → Option TVal) (mv : Option (TPth × Nat × TVal)) (Aw : TPth → Nat → Prop) (WV WC : TPth → Nat → TPth → Nat → Prop) (R H : List TEv) (P : TPth) (z : TR × List Nat × Nat) : Prop := NQ V y En cv vr mv (AwW Aw WV WC) (fun e => e ∈ R ∨ e ∈ H) (fun e => e ∈ H) P z
def ABp (K : Nat → Nat) (V : Nat → Int64) (y : TR) (En : TPth → Prop) (cv vr : TPth → Nat → Option TVal) (mv : Option (TPth × Nat × TVal)) (Aw : TPth → Nat → Prop) (WV WC : TPth → Nat → TPth → Nat → Prop) (R H : List TEv) (P : TPth) (z : TR × List Nat × Nat) : Prop := NP K V y En cv vr mv Aw (fun P t => ∃ F b, WV F b P t) (fun P t => ∃ C t', WC C t' P t) (fun e => e ∈ R) (fun e => e ∈ H) P z
/-- variables: the parameters at the start; where others come from -/
def ABr (V : Nat → Int64) (y : TR) (q0 : Nat) (ar : Nat → Int64) (En : TPth → Prop) (vr : TPth → Nat → Option TVal) : Prop := (∀ cnt x z, (q0, cnt, x) ∈ fuP y → z < cnt → vr [(4 * q0, 0)] (q0 + 2 + 2 * z) = some (mkN (ar z)) ∧ tvV (V (q0 + 2 + 2 * z)) = 1) ∧ ∀ F b a, vr F b = some a → (∃ cnt x z, (q0, cnt, x) ∈ fuP y ∧ z < cnt ∧ F = [(4 * q0, 0)] ∧ b = q0 + 2 + 2 * z) ∨ ∃ P z, En P ∧ z ∈ scP y ∧ z.2.2 = hdR P ∧ Bnd V y P z F b
/-- the run; fl: the list of what is ready is full, and some may be lost -/
def AB (K : Nat → Nat) (V : Nat → Int64) (y : TR) (q0 : Nat) (ar : Nat → Int64) (En : TPth → Prop) (cv vr : TPth → Nat → Option TVal) (mv : Option (TPth × Nat × TVal)) (Aw : TPth → Nat → Prop) (WV WC : TPth → Nat → TPth → Nat → Prop) (R H : List TEv) (fl : Prop) : Prop :=
  ABe V y q0 En ∧ ABw K V y En cv vr mv Aw WV WC R H ∧ ABs K V y q0 ar En cv mv R H ∧ ABr V y q0 ar En vr ∧
  (∀ P z, En P → z ∈ scP y → z.2.2 = hdR P → ABq V y En cv vr mv Aw WV WC R H P z) ∧
  (¬ fl → ∀ P z, En P → z ∈ scP y → z.2.2 = hdR P → ABp K V y En cv vr mv Aw WV WC R H P z)
section ABX
variable {K : Nat → Nat} {V : Nat → Int64} {y : TR} {q0 : Nat} {ar : Nat → Int64} {En En' : TPth → Prop} {cv vr cv' vr' : TPth → Nat → Option TVal} {mv mv' : Option (TPth × Nat × TVal)} {Aw Aw' : TPth → Nat → Prop} {WV WC WV' WC' : TPth → Nat → TPth → Nat → Prop} {R H R' H' : List TEv} {fl fl' : Prop} {e0 : Nat}
/-- a bracket has what it holds -/
theorem bk_va (w : PW K y 0 e0) {En' : TPth → Prop} {Va' : TPth → Nat → TVal → Prop} {De' : TEv → Prop} (C : CloA K V y q0 ar En' Va' De') {P : TPth} (hP : En' P) (hne : P ≠ []) {a : TVal} : ∀ (n : Nat) (x : TR) (γ : List Nat), tsz x ≤ n → (x, γ, hdR P) ∈ scP y → Va' P (rtk x) a → Va' P (otk x) a := by
  intro n
  induction n with
  | zero => intro x γ hn; cases x <;> simp [tsz] at hn
  | succ n ih =>
    intro x γ hn hx h
    have hs := ((tl_P w) _ hx).2.1
    rcases hs with ⟨j, rfl⟩ | ⟨j, rfl⟩ | ⟨j, rfl⟩ | ⟨j, as, rfl⟩ | ⟨j, a, b, rfl⟩ | ⟨j, a, b, d, rfl⟩ | ⟨j, fs, d, ns, g, rfl⟩ | ⟨j, a, rfl⟩ | ⟨j, a, b, rfl⟩ | ⟨j, a, b, rfl⟩ | ⟨j, a, b, rfl⟩ | ⟨j, x1, rfl⟩
    · exact h
    · exact h
    · exact h
    · exact h
    · exact h
    · exact h
    · exact h
    · exact h
    · exact h
    · exact h
    · exact h
    · obtain ⟨⟨p1, e1, wz⟩, -, htr⟩ := (tl_P w) _ hx
      obtain ⟨-, b, w1, -⟩ := wz
      have hx1 : (x1, γ, hdR P) ∈ scP y := htr _ (mc _ (hd_in w1 _ _))
      have h1 := ih x1 γ (by simp [tsz] at hn; omega) hx1 h
      cases P with
      | nil => exact absurd rfl hne
      | cons c Q => exact C.2 c.1 c.2 Q _ hP hx rfl a h1
/-- by own tokens -/
theorem va_C (w : PW K y 0 e0) (B : ABe V y q0 En) (hw : ∀ P t a, cv P t = some a → En P) {En' : TPth → Prop} {Va' : TPth → Nat → TVal → Prop} {De' : TEv → Prop} (C : CloA K V y q0 ar En' Va' De') (hE : ∀ P, En P → En' P) (hV : ∀ P t a, cv P t = some a → Va' P t a) {P : TPth} {t : Nat} {a : TVal} (h : VaC y cv P t a) : Va' P t a := by
  obtain ⟨⟨x, γ, r⟩, h1, h2, h3, h4⟩ := h
  have h3 : r = hdR P := h3
  subst h3
  have hEn := hw _ _ _ h4
  have hne : P ≠ [] := fun q => by
    have := (B.2.1 P hEn).1
    rw [q] at this
    exact this
  have := bk_va w C (hE P hEn) hne (tsz x) x γ (Nat.le_refl _) h1 (hV _ _ _ h4)
  rw [← h2]
  exact this
end ABX
