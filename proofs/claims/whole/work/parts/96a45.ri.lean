/-! the reference's run: what its memory says -/
def hdR (P : TPth) : Nat := (P.headD (0, 0)).1
def rgL (y : TR) (r : Nat) : List Nat := (((rgP y).find? (fun g => g.1 == r)).map (fun g => g.2.1)).getD []
def EnA (nA : Nat) (A : Nat → TPth) (P : TPth) : Prop := ∃ x, x < nA ∧ A x = P
/-- a slot and its value -/
def Sl (S : im_S) (M : Nat → TPth × Nat) (nT s : Nat) : Option TVal → Prop
  | none => S.1 126 s = 0
  | some a => S.1 126 s = nI a.1 ∧ 1 ≤ a.1 ∧ a.1 ≤ 4 ∧ (a.1 ≠ 3 → S.2.1 127 s = a.2.1 ∧ a.2.2 = ([], 0)) ∧ (a.1 = 3 → ∃ T, T < nT ∧ S.2.1 127 s = (nI T).toInt64 ∧ M T = a.2.2 ∧ a.2.1 = (S.1 130 T).toInt64)
/-- a slot and what its node has entered last -/
def LnkS (S : im_S) (nA : Nat) (A : Nat → TPth) (s : Nat) : Option TPth → Prop
  | none => S.1 128 s = -1
  | some P' => ∃ x', x' < nA ∧ A x' = P' ∧ S.1 128 s = nI x'
/-- how an activation hangs on others -/
def AL (y : TR) (ν : Nat → Nat) (S : im_S) (A : Nat → TPth) (x : Nat) : Prop := ∀ c Q, A x = c :: Q →
  (c.1 / 4 ∈ (ftP y).map Prod.fst → (Q = [] → S.1 124 x = -1) ∧ (Q ≠ [] → ∃ xq, xq < x ∧ A xq = Q ∧ S.1 124 x = nI xq ∧ S.1 125 x = nI (ν c.2))) ∧
  (¬ c.1 / 4 ∈ (ftP y).map Prod.fst → ∃ xq, xq < x ∧ A xq = Q ∧ S.1 121 x = nI xq) ∧
  (∀ z, z ∈ scP y → lpK z.1 = true → c.1 = 4 * otk z.1 → (c.2 = 0 → S.1 124 x = -1) ∧ ∀ i, c.2 = i + 1 → ∃ xp xn, xp < x ∧ xn < x ∧ A xp = (c.1, i) :: Q ∧ A xn = (c.1 + 1, 0) :: (c.1, i) :: Q ∧ S.1 124 x = nI xp ∧ S.1 125 x = nI xn) ∧
  (∀ j a b γ r, (.tag 11 (.tag j (.append a b)), γ, r) ∈ scP y → c.1 = 4 * j → S.1 125 x = nI c.2 ∧ c.2 < 20)
/-- an activation -/
def RIx (V : Nat → Int64) (y : TR) (ν ρ : Nat → Nat) (S : im_S) (nA nS nT : Nat) (A : Nat → TPth) (b : Nat → Nat) (vals : TPth → Nat → Option TVal) (lk : TPth → Nat → Option TPth) (M : Nat → TPth × Nat) (x : Nat) : Prop :=
  POk V y (A x) ∧ S.1 120 x = nI (ρ (hdR (A x))) ∧ S.1 122 x = nI (b x) ∧ b x + (rgL y (hdR (A x))).length ≤ nS ∧ AL y ν S A x ∧ (x = 0 ∨ EnA nA A (own y (A x)).1) ∧
  ∀ k t : Nat, (rgL y (hdR (A x)))[k]? = some t → Sl S M nT (b x + k) (vals (A x) t) ∧ LnkS S nA A (b x + k) (lk (A x) t)
/-- a table -/
def RIt (y : TR) (S : im_S) (nA : Nat) (A : Nat → TPth) (M : Nat → TPth × Nat) (T : Nat) : Prop := ∃ f n, S.1 129 T = nI f ∧ S.1 130 T = nI n ∧ n ≤ 20 ∧ (∀ i, i < n → f + i < nA ∧ A (f + i) = (4 * (M T).2, i) :: (M T).1) ∧ ∃ q q' γ r, (.tag 11 (.tag (M T).2 (.append q q')), γ, r) ∈ scP y
/-- an error is one of three; what is none has the type -/
def tyO (ty : Nat) (a : TVal) : Prop := (a.1 = 4 → a.2.1 = 1 ∨ a.2.1 = 2 ∨ a.2.1 = 3) ∧ (a.1 ≠ 4 → a.1 = ty)
theorem ty_n {v : Int64} : tyO 1 (mkN v) := ⟨fun q => absurd q (by show ¬ 1 = 4; omega), fun _ => rfl⟩
theorem ty_t {v : Int64} : tyO 2 (mkT v) := ⟨fun q => absurd q (by show ¬ 2 = 4; omega), fun _ => rfl⟩
theorem ty_e {t : Nat} {v : Int64} (h : v = 1 ∨ v = 2 ∨ v = 3) : tyO t (mkE v) := ⟨fun _ => h, fun q => absurd rfl q⟩
/-- a node in an activation -/
def RIn (K : Nat → Nat) (V : Nat → Int64) (y : TR) (ar : Nat → Int64) (nA : Nat) (A : Nat → TPth) (b : Nat → Nat) (vals : TPth → Nat → Option TVal) (lk : TPth → Nat → Option TPth) (Lv : List TEv) (f1 f2 : Nat → Nat) (x : Nat) (z : TR × List Nat × Nat) : Prop :=
  NI K V y ar (EnA nA A) vals (fun e => e ∈ Lv) (A x) (lk (A x) (otk z.1)) z ∧ (∀ a, vals (A x) (otk z.1) = some a → tyO (tyV K V z.1) a) ∧ (lk (A x) (otk z.1) = none → ∀ k : Nat, (rgL y (hdR (A x)))[k]? = some (otk z.1) → pcw 1 0 z.1 ≤ f1 (b x + k) ∧ pcw 0 1 z.1 ≤ f2 (b x + k))
def RIs (K : Nat → Nat) (V : Nat → Int64) (y : TR) (q0 : Nat) (ar : Nat → Int64) (nA : Nat) (A : Nat → TPth) (vals : TPth → Nat → Option TVal) (Lv : List TEv) : Prop :=
  ∀ En' Va' De', CloA K V y q0 ar En' Va' De' → (∀ x, x < nA → En' (A x)) ∧ (∀ P t a, vals P t = some a → Va' P t a) ∧ ∀ e, e ∈ Lv → De' e
def RI (K : Nat → Nat) (V : Nat → Int64) (y : TR) (q0 : Nat) (ar : Nat → Int64) (ν ρ : Nat → Nat) (S : im_S) (nA nS nT : Nat) (A : Nat → TPth) (b : Nat → Nat) (vals : TPth → Nat → Option TVal) (lk : TPth → Nat → Option TPth) (M : Nat → TPth × Nat) (Lv : List TEv) (f1 f2 : Nat → Nat) : Prop :=
  (S.1 75 57 = nI nA ∧ S.1 75 64 = nI nS ∧ S.1 75 68 = nI nT ∧ S.1 75 72 = nI Lv.length) ∧
  (0 < nA ∧ A 0 = [(4 * q0, 0)]) ∧
  (∀ x, x < nA → RIx V y ν ρ S nA nS nT A b vals lk M x) ∧
  (∀ x x', x < x' → x' < nA → b x + (rgL y (hdR (A x))).length ≤ b x' ∧ A x ≠ A x') ∧
  (∀ P t, (vals P t ≠ none ∨ lk P t ≠ none ∨ ∃ i, (P, t, i) ∈ Lv) → EnA nA A P) ∧
  (∀ T, T < nT → RIt y S nA A M T) ∧
  (∀ x, x < nA → ∀ z, z ∈ scP y → z.2.2 = hdR (A x) → RIn K V y ar nA A b vals lk Lv f1 f2 x z) ∧
  Lv.Nodup ∧ RIs K V y q0 ar nA A vals Lv ∧
  (nS + tot f1 nS ≤ 496 * (Lv.length + 1) ∧ nA + tot f2 nS ≤ 21 * (Lv.length + 1) ∧ nT ≤ Lv.length)
section RIX
variable {K : Nat → Nat} {V : Nat → Int64} {y : TR} {q0 : Nat} {ar : Nat → Int64} {ν ρ : Nat → Nat} {S S' : im_S} {nA nS nT nA' nS' nT' : Nat} {A A' : Nat → TPth} {b b' : Nat → Nat} {vals vals' : TPth → Nat → Option TVal} {lk lk' : TPth → Nat → Option TPth} {M M' : Nat → TPth × Nat} {Lv evs : List TEv} {f1 f2 f1' f2' : Nat → Nat}
theorem own_one (c : Nat × Nat) : (own y [c]).1 = [] := by
  show (if c.1 / 4 ∈ (ftP y).map Prod.fst then (([] : TPth), c.2) else if c.1 / 4 ∈ lpP y ∧ c.1 % 4 ≠ 0 then (([] : TPth).tail, c.1 / 4) else (([] : TPth), c.1 / 4)).1 = []
  split
  · rfl
  · split
    · rfl
    · rfl
theorem Sl_mono {s : Nat} {o : Option TVal} (h : Sl S M nT s o) (h1 : S'.1 126 s = S.1 126 s) (h2 : S'.2.1 127 s = S.2.1 127 s) (hn : nT ≤ nT') (hM : ∀ T, T < nT → M' T = M T ∧ S'.1 130 T = S.1 130 T) : Sl S' M' nT' s o := by
  cases o with
  | none => exact h1.trans h
  | some a =>
    obtain ⟨a1, a2, a3, a4, a5⟩ := h
    refine ⟨h1.trans a1, a2, a3, fun q => ⟨h2.trans (a4 q).1, (a4 q).2⟩, fun q => ?_⟩
    obtain ⟨T, t1, t2, t3, t4⟩ := a5 q
    exact ⟨T, by omega, h2.trans t2, (hM T t1).1.trans t3, by rw [(hM T t1).2]; exact t4⟩
theorem NI_init {En : TPth → Prop} {De : TEv → Prop} {P : TPth} {z : TR × List Nat × Nat} (hs : shp z.1) (hv : vals P (otk z.1) = none) (hU : UB y En P (otk z.1) (fun _ => False)) (hE : EB De P (otk z.1) (fun _ => False)) : NI K V y ar En vals De P none z := by
  obtain ⟨x, γ, r⟩ := z
  have hs : shp x := hs
  have no : ∀ {o : Option TVal} {a : TVal} {C : Prop}, o = none → o = some a → C := fun h1 h2 => by rw [h1] at h2; cases h2
  rcases hs with ⟨j, rfl⟩ | ⟨j, rfl⟩ | ⟨j, rfl⟩ | ⟨j, as, rfl⟩ | ⟨j, a, b, rfl⟩ | ⟨j, a, b, c, rfl⟩ | ⟨j, fs, c, ns, g, rfl⟩ | ⟨j, a, rfl⟩ | ⟨j, a, b, rfl⟩ | ⟨j, a, b, rfl⟩ | ⟨j, a, b, rfl⟩ | ⟨j, a, rfl⟩
  · exact fun a q => no hv q
  · exact fun a q => no hv q
  · exact fun a q => no hv q
  · exact ⟨fun _ => ⟨hv, hU, hE⟩, fun P' q => (by cases q)⟩
  · exact fun a q => no hv q
  · exact ⟨fun _ => ⟨hU, fun _ => hE, fun a q => no hv q⟩, fun P' q => by cases q⟩
  · exact ⟨fun _ => ⟨hv, hU, hE⟩, fun P' q => (by cases q)⟩
  · exact ⟨fun _ => hE, fun a q => no hv q⟩
  · exact ⟨fun _ => hE, fun a q => no hv q⟩
  · exact ⟨fun _ => hE, fun a q => no hv q⟩
  · exact ⟨fun _ => ⟨hU, hE⟩, fun a q => no hv q⟩
  · exact fun a q => no hv q
/-- a step of a node: all that does not move stays -/
theorem RI_ext {e0 : Nat} (wP : PW K y 0 e0) (R : RI K V y q0 ar ν ρ S nA nS nT A b vals lk M Lv f1 f2) {x0 k0 : Nat} {z0 : TR × List Nat × Nat} (hx0 : x0 < nA) (hz0 : z0 ∈ scP y) (hr0 : z0.2.2 = hdR (A x0)) (hk0 : (rgL y (hdR (A x0)))[k0]? = some (otk z0.1))
    (hnd : ∀ r k k' t : Nat, (rgL y r)[k]? = some t → (rgL y r)[k']? = some t → k = k')
    (hn : nA ≤ nA' ∧ nS ≤ nS' ∧ nT ≤ nT') (hA : ∀ x, x < nA → A' x = A x ∧ b' x = b x)
    (hM : ∀ T, T < nT → M' T = M T ∧ S'.1 129 T = S.1 129 T ∧ S'.1 130 T = S.1 130 T)
    (hc : S'.1 75 57 = nI nA' ∧ S'.1 75 64 = nI nS' ∧ S'.1 75 68 = nI nT' ∧ S'.1 75 72 = nI (evs ++ Lv).length)
    (hS : ∀ a x, 120 ≤ a → a ≤ 125 → a ≠ 123 → x < nA → S'.1 a x = S.1 a x)
    (hsl : ∀ s, s < nS → s ≠ b x0 + k0 → S'.1 126 s = S.1 126 s ∧ S'.2.1 127 s = S.2.1 127 s ∧ S'.1 128 s = S.1 128 s ∧ f1' s = f1 s ∧ f2' s = f2 s)
    (hv : ∀ P t, ¬ (P = A x0 ∧ t = otk z0.1) → vals' P t = vals P t ∧ lk' P t = lk P t) (hv0 : vals (A x0) (otk z0.1) = none)
    (hs0 : Sl S' M' nT' (b x0 + k0) (vals' (A x0) (otk z0.1)) ∧ LnkS S' nA' A' (b x0 + k0) (lk' (A x0) (otk z0.1)))
    (hev : ∀ e, e ∈ evs → ∃ i, e = (A x0, otk z0.1, i)) (hnv : (evs ++ Lv).Nodup)
    (hnew : ∀ x, nA ≤ x → x < nA' → own y (A' x) = (A x0, otk z0.1) ∧ ¬ EnA nA A (A' x) ∧ POk V y (A' x) ∧ S'.1 120 x = nI (ρ (hdR (A' x))) ∧ S'.1 122 x = nI (b' x) ∧ b' x + (rgL y (hdR (A' x))).length ≤ nS' ∧ AL y ν S' A' x ∧ ∀ k t : Nat, (rgL y (hdR (A' x)))[k]? = some t → S'.1 126 (b' x + k) = 0 ∧ S'.1 128 (b' x + k) = -1 ∧ pcT 1 0 (scP y) t ≤ f1' (b' x + k) ∧ pcT 0 1 (scP y) t ≤ f2' (b' x + k))
    (hord : ∀ x x', x < x' → x' < nA' → nA ≤ x' → b' x + (rgL y (hdR (A' x))).length ≤ b' x' ∧ A' x ≠ A' x')
    (hT : ∀ T, nT ≤ T → T < nT' → RIt y S' nA' A' M' T)
    (hNI : RIn K V y ar nA' A' b' vals' lk' (evs ++ Lv) f1' f2' x0 z0)
    (hs : ∀ En' Va' De', CloA K V y q0 ar En' Va' De' → (∀ x, x < nA → En' (A x)) → (∀ P t a, vals P t = some a → Va' P t a) → (∀ x, nA ≤ x → x < nA' → En' (A' x)) ∧ (∀ a, vals' (A x0) (otk z0.1) = some a → Va' (A x0) (otk z0.1) a) ∧ ∀ e, e ∈ evs → De' e)
    (hp : nS' + tot f1' nS' ≤ 496 * ((evs ++ Lv).length + 1) ∧ nA' + tot f2' nS' ≤ 21 * ((evs ++ Lv).length + 1) ∧ nT' ≤ (evs ++ Lv).length) :
    RI K V y q0 ar ν ρ S' nA' nS' nT' A' b' vals' lk' M' (evs ++ Lv) f1' f2' := by
  obtain ⟨r1, r2, r3, r4, r5, r6, r7, r8, r9, r10⟩ := R
  have hen : ∀ P', EnA nA A P' → EnA nA' A' P' := fun P' ⟨x, h1, h2⟩ => ⟨x, by omega, (hA x h1).1.trans h2⟩
  have hmono : ∀ P' t a, vals P' t = some a → vals' P' t = some a := fun P' t a q => by
    by_cases c : P' = A x0 ∧ t = otk z0.1
    · obtain ⟨rfl, rfl⟩ := c
      rw [hv0] at q
      cases q
    · rw [(hv P' t c).1]
      exact q
  have hnvl : ∀ x, nA ≤ x → x < nA' → ∀ t, vals' (A' x) t = none ∧ lk' (A' x) t = none := fun x h1 h2 t => by
    obtain ⟨-, n2, -⟩ := hnew x h1 h2
    have c : ¬ (A' x = A x0 ∧ t = otk z0.1) := fun q => n2 ⟨x0, hx0, q.1.symm⟩
    rw [(hv _ _ c).1, (hv _ _ c).2]
    constructor
    · cases hh : vals (A' x) t with
      | none => rfl
      | some a => exact absurd (r5 _ t (.inl (by rw [hh]; exact Option.some_ne_none a))) n2
    · cases hh : lk (A' x) t with
      | none => rfl
      | some a => exact absurd (r5 _ t (.inr (.inl (by rw [hh]; exact Option.some_ne_none a)))) n2
  have hdis : ∀ x, x < nA → ∀ k t : Nat, (rgL y (hdR (A x)))[k]? = some t → ¬ (x = x0 ∧ t = otk z0.1) → b x + k ≠ b x0 + k0 ∧ b x + k < nS := fun x hx k t hk hne => by
    have l1 := (List.getElem?_eq_some_iff.mp hk).1
    have l2 := (List.getElem?_eq_some_iff.mp hk0).1
    obtain ⟨-, -, -, u, -⟩ := r3 x hx
    refine ⟨fun q => ?_, by omega⟩
    rcases Nat.lt_trichotomy x x0 with c | c | c
    · have := (r4 x x0 c hx0).1
      omega
    · subst c
      have : k = k0 := by omega
      subst this
      rw [hk] at hk0
      exact hne ⟨rfl, Option.some.inj hk0⟩
    · have := (r4 x0 x c hx).1
      omega
  have hAx : ∀ x x', x < nA → x' < nA → A x = A x' → x = x' := fun x x' h1 h2 q => by
    rcases Nat.lt_trichotomy x x' with c | c | c
    · exact absurd q (r4 x x' c h2).2
    · exact c
    · exact absurd q.symm (r4 x' x c h1).2
  refine ⟨hc, ⟨by omega, (hA 0 r2.1).1.trans r2.2⟩, fun x hx => ?_, fun x x' h1 h2 => ?_, fun P t q => ?_, fun T hT' => ?_, fun x hx z hz hzr => ?_, hnv, ?_, hp⟩
  · rcases Nat.lt_or_ge x nA with c | c
    · obtain ⟨a1, a2, a3, a4, a5, a6, a7⟩ := r3 x c
      obtain ⟨e1, e2⟩ := hA x c
      unfold RIx
      rw [e1, e2]
      refine ⟨a1, by rw [hS 120 x (by omega) (by omega) (by omega) c]; exact a2, by rw [hS 122 x (by omega) (by omega) (by omega) c]; exact a3, by omega, ?_, ?_, fun k t hk => ?_⟩
      · intro c' Q hc'
        rw [e1] at hc'
        obtain ⟨g1, g2, g3, g4⟩ := a5 c' Q hc'
        rw [hS 121 x (by omega) (by omega) (by omega) c, hS 124 x (by omega) (by omega) (by omega) c, hS 125 x (by omega) (by omega) (by omega) c]
        refine ⟨fun q => ⟨(g1 q).1, fun q' => ?_⟩, fun q => ?_, fun z hz q1 q2 => ⟨(g3 z hz q1 q2).1, fun i qi => ?_⟩, g4⟩
        · obtain ⟨xq, u1, u2, u3⟩ := (g1 q).2 q'
          exact ⟨xq, u1, (hA xq (by omega)).1.trans u2, u3⟩
        · obtain ⟨xq, u1, u2, u3⟩ := g2 q
          exact ⟨xq, u1, (hA xq (by omega)).1.trans u2, u3⟩
        · obtain ⟨xp, xn, u1, u2, u3, u4, u5⟩ := (g3 z hz q1 q2).2 i qi
          exact ⟨xp, xn, u1, u2, (hA xp (by omega)).1.trans u3, (hA xn (by omega)).1.trans u4, u5⟩
      · rcases a6 with a6 | a6
        · exact .inl a6
        · exact .inr (hen _ a6)
      · by_cases c2 : x = x0 ∧ t = otk z0.1
        · obtain ⟨rfl, rfl⟩ := c2
          have := hnd _ _ _ _ hk hk0
          subst this
          exact hs0
        · obtain ⟨d1, d2⟩ := hdis x c k t hk c2
          obtain ⟨s1, s2, s3, -, -⟩ := hsl _ d2 d1
          obtain ⟨v1, v2⟩ := hv (A x) t (fun q => c2 ⟨hAx _ _ c hx0 q.1, q.2⟩)
          rw [v1, v2]
          obtain ⟨b1, b2⟩ := a7 k t hk
          refine ⟨Sl_mono b1 s1 s2 hn.2.2 (fun T hT => ⟨(hM T hT).1, (hM T hT).2.2⟩), ?_⟩
          cases hl : lk (A x) t with
          | none =>
            rw [hl] at b2
            exact s3.trans b2
          | some P' =>
            rw [hl] at b2
            obtain ⟨x', w1, w2, w3⟩ := b2
            exact ⟨x', by omega, (hA x' w1).1.trans w2, s3.trans w3⟩
    · obtain ⟨n1, n2, n3, n4, n5, n6, n7, n8⟩ := hnew x c hx
      refine ⟨n3, n4, n5, n6, n7, .inr ?_, fun k t hk => ?_⟩
      · rw [n1]
        exact hen _ ⟨x0, hx0, rfl⟩
      · obtain ⟨v1, v2⟩ := hnvl x c hx t
        rw [v1, v2]
        exact ⟨(n8 k t hk).1, (n8 k t hk).2.1⟩
  · rcases Nat.lt_or_ge x' nA with c | c
    · rw [(hA x (by omega)).1, (hA x (by omega)).2, (hA x' c).1, (hA x' c).2]
      exact r4 x x' h1 c
    · exact hord x x' h1 h2 c
  · by_cases c : P = A x0 ∧ t = otk z0.1
    · rw [c.1]
      exact hen _ ⟨x0, hx0, rfl⟩
    · refine hen _ (r5 P t ?_)
      rw [(hv P t c).1, (hv P t c).2] at q
      rcases q with q | q | ⟨i, q⟩
      · exact .inl q
      · exact .inr (.inl q)
      · rcases List.mem_append.mp q with q | q
        · obtain ⟨i', q⟩ := hev _ q
          have e1 : P = A x0 := congrArg (fun u => u.1) q
          have e2 : t = otk z0.1 := congrArg (fun u => u.2.1) q
          exact absurd ⟨e1, e2⟩ c
        · exact .inr (.inr ⟨i, q⟩)
  · rcases Nat.lt_or_ge T nT with c | c
    · obtain ⟨f, n, t1, t2, t3, t4, t5⟩ := r6 T c
      obtain ⟨m1, m2, m3⟩ := hM T c
      refine ⟨f, n, m2.trans t1, m3.trans t2, t3, fun i hi => ?_, ?_⟩
      · rw [m1]
        exact ⟨by have := (t4 i hi).1; omega, (hA _ (t4 i hi).1).1.trans (t4 i hi).2⟩
      · rw [m1]
        exact t5
    · exact hT T c hT'
  · have hshp := ((tl_P wP) z hz).2.1
    rcases Nat.lt_or_ge x nA with c | c
    · obtain ⟨e1, e2⟩ := hA x c
      by_cases c2 : x = x0 ∧ otk z.1 = otk z0.1
      · obtain ⟨rfl, c2⟩ := c2
        have := (ou_P wP).2 z hz z0 hz0 c2
        subst this
        exact hNI
      · rw [e1] at hzr
        obtain ⟨n1, n2, n3⟩ := r7 x c z hz hzr
        obtain ⟨v1, v2⟩ := hv (A x) (otk z.1) (fun q => c2 ⟨hAx _ _ c hx0 q.1, q.2⟩)
        unfold RIn
        rw [e1, e2, v1, v2]
        refine ⟨NI_mono hshp n1 hen hmono (fun e q => List.mem_append_right _ q) v1 (fun P' q1 q2 => ?_) (fun i q => ?_), n2, fun q k hk => ?_⟩
        · obtain ⟨x', u1, u2⟩ := q1
          rcases Nat.lt_or_ge x' nA with c' | c'
          · exact ⟨x', c', (hA x' c').1.symm.trans u2⟩
          · obtain ⟨o1, -⟩ := hnew x' c' u1
            rw [u2, q2] at o1
            have o2 : A x = A x0 := congrArg Prod.fst o1
            have o3 : otk z.1 = otk z0.1 := congrArg Prod.snd o1
            exact absurd ⟨hAx _ _ c hx0 o2, o3⟩ c2
        · rcases List.mem_append.mp q with q | q
          · obtain ⟨i', q⟩ := hev _ q
            have o2 : A x = A x0 := congrArg (fun u => u.1) q
            have o3 : otk z.1 = otk z0.1 := congrArg (fun u => u.2.1) q
            exact absurd ⟨hAx _ _ c hx0 o2, o3⟩ c2
          · exact q
        · obtain ⟨d1, d2⟩ := hdis x c k _ hk c2
          obtain ⟨-, -, -, s4, s5⟩ := hsl _ d2 d1
          rw [s4, s5]
          exact n3 q k hk
    · obtain ⟨n1, n2, n3, n4, n5, n6, n7, n8⟩ := hnew x c hx
      obtain ⟨v1, v2⟩ := hnvl x c hx (otk z.1)
      unfold RIn
      rw [v2, v1]
      refine ⟨NI_init hshp v1 (fun P' q1 q2 => ?_) (fun i q => ?_), fun a q => (by cases q), fun _ k hk => ?_⟩
      · obtain ⟨x', u1, u2⟩ := q1
        rcases Nat.lt_or_ge x' nA with c' | c'
        · rw [(hA x' c').1] at u2
          obtain ⟨-, -, -, -, -, a6, -⟩ := r3 x' c'
          rw [u2, q2] at a6
          rcases a6 with a6 | a6
          · subst a6
            rw [r2.2] at u2
            rw [← u2] at q2
            have o2 : [] = A' x := (own_one (y := y) _).symm.trans (congrArg Prod.fst q2)
            rw [← o2] at n3
            exact n3
          · exact n2 a6
        · obtain ⟨o1, -⟩ := hnew x' c' u1
          rw [u2, q2] at o1
          have o2 : A' x = A x0 := congrArg Prod.fst o1
          exact n2 ⟨x0, hx0, o2.symm⟩
      · rcases List.mem_append.mp q with q | q
        · obtain ⟨i', q⟩ := hev _ q
          have o2 : A' x = A x0 := congrArg (fun u => u.1) q
          exact n2 ⟨x0, hx0, o2.symm⟩
        · exact n2 (r5 _ (otk z.1) (.inr (.inr ⟨i, q⟩)))
      · obtain ⟨-, -, g3, g4⟩ := n8 k _ hk
        rw [pcT_at wP hz] at g3 g4
        exact ⟨g3, g4⟩
  · intro En' Va' De' hcl
    obtain ⟨s1, s2, s3⟩ := r9 En' Va' De' hcl
    obtain ⟨t1, t2, t3⟩ := hs En' Va' De' hcl s1 s2
    refine ⟨fun x hx => ?_, fun P t a q => ?_, fun e he => ?_⟩
    · rcases Nat.lt_or_ge x nA with c | c
      · rw [(hA x c).1]
        exact s1 x c
      · exact t1 x c hx
    · by_cases c : P = A x0 ∧ t = otk z0.1
      · obtain ⟨rfl, rfl⟩ := c
        exact t2 a q
      · rw [(hv P t c).1] at q
        exact s2 P t a q
    · rcases List.mem_append.mp he with he | he
      · exact t3 e he
      · exact s3 e he
end RIX
