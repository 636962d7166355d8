/-! the language's grammar as a function over the tokens' kinds K (in the class's numbers): where an X ends and its tree, or the token that can't stand there -/
abbrev TR : Type := Std.Format
def aNum (j : Nat) : TR := .tag 1 (.tag j .nil)
def aTru (j : Nat) : TR := .tag 2 (.tag j .nil)
def aNam (j : Nat) : TR := .tag 3 (.tag j .nil)
def aCal (j : Nat) (as : TR) : TR := .tag 4 (.tag j as)
def aLet (j : Nat) (x y : TR) : TR := .tag 5 (.tag j (.append x y))
def aIf (j : Nat) (x y z : TR) : TR := .tag 6 (.tag j (.append x (.append y z)))
def aLoop (j : Nat) (fs c ns g : TR) : TR := .tag 7 (.tag j (.append fs (.append c (.append ns g))))
def aSig (j : Nat) (x : TR) : TR := .tag 8 (.tag j x)
def aBin (j : Nat) (x y : TR) : TR := .tag 9 (.tag j (.append x y))
def aCel (j : Nat) (x y : TR) : TR := .tag 10 (.tag j (.append x y))
def aTab (j : Nat) (x y : TR) : TR := .tag 11 (.tag j (.append x y))
def aBrk (j : Nat) (x : TR) : TR := .tag 12 (.tag j x)
abbrev PR : Type := Nat × Option TR
def pbd (r : PR) (f : Nat → TR → PR) : PR := match r.2 with
  | none => (r.1, none)
  | some x => f r.1 x
def pw (K : Nat → Nat) (c p : Nat) (x : PR) : PR := if K p = c then x else (p, none)
def stg (c : Nat) : Nat := if c = 37 then 5 else if c = 38 then 2 else if c = 42 then 5 else if c = 43 then 4 else if c = 45 then 4 else if c = 47 then 5 else if c = 60 then 3 else if c = 61 then 3 else if c = 124 then 1 else 0
/-- NAME = X, .. -/
def pB (K : Nat → Nat) (R : Nat → PR) : Nat → Nat → Nat → Nat → PR
  | 0, _, _, p => (p, none)
  | q + 1, most, n, p => if n = most then (p, none) else pw K 1 p (pw K 61 (p + 1) (pbd (R (p + 2)) (fun b x => if K b = 44 then pbd (pB K R q most (n + 1) (b + 1)) (fun e r => (e, some (.append (.tag p x) r))) else (b, some (.append (.tag p x) .nil)))))
/-- the arguments of a call -/
def pC (K : Nat → Nat) (R1 : Nat → PR) : Nat → Nat → Nat → PR
  | 0, _, p => (p, none)
  | q + 1, n, p => if n = 4 then (p, none) else pbd (R1 p) (fun b x => if K b = 44 then pbd (pC K R1 q (n + 1) (b + 1)) (fun e r => (e, some (.append (.tag p x) r))) else (b, some (.append (.tag p x) .nil)))
def pTab (K : Nat → Nat) (R R1 : Nat → PR) (p : Nat) : PR := pw K 1 (p + 1) (pw K 91 (p + 2) (pw K 1 (p + 3) (pw K 60 (p + 4) (pbd (R1 (p + 5)) (fun b x => pw K 93 b (pw K 14 (b + 1) (pbd (R (b + 2)) (fun e y => (e, some (aTab p x y))))))))))
def pAtom (K : Nat → Nat) (R R1 : Nat → PR) (q p : Nat) : PR :=
  if K p = 2 then (p + 1, some (aNum p)) else if K p = 15 ∨ K p = 16 then (p + 1, some (aTru p)) else if K p = 13 then pTab K R R1 p else
  if K p = 1 then (if K (p + 1) = 40 then (if K (p + 2) = 41 then (p + 3, some (aCal p .nil)) else pbd (pC K R1 q 0 (p + 2)) (fun b as => pw K 41 b (b + 1, some (aCal p as)))) else (p + 1, some (aNam p))) else (p, none)
def pCel (K : Nat → Nat) (R1 : Nat → PR) : Nat → TR → Nat → PR
  | 0, _, p => (p, none)
  | q + 1, x, p => if K p = 91 then pbd (R1 (p + 1)) (fun b y => pw K 93 b (pCel K R1 q (aCel p x y) (b + 1))) else (p, some x)
def pAh (K : Nat → Nat) (R R1 : Nat → PR) : Nat → Nat → PR
  | 0, p => (p, none)
  | q + 1, p => if K p = 45 ∨ K p = 33 then pbd (pAh K R R1 q (p + 1)) (fun b x => (b, some (aSig p x))) else if K p = 40 then pbd (R1 (p + 1)) (fun b x => pw K 41 b (pCel K R1 q (aBrk p x) (b + 1))) else pbd (pAtom K R R1 q p) (fun b x => pCel K R1 q x b)
/-- signs: without an operand yet, or behind one -/
def pSg (K : Nat → Nat) (R R1 : Nat → PR) : Nat → Nat → Nat → Option TR → Nat → PR
  | 0, _, _, _, p => (p, none)
  | q + 1, least, _, none, p => pbd (pAh K R R1 q p) (fun b x => pSg K R R1 q least 9 (some x) b)
  | q + 1, least, most, some x, p => if least ≤ stg (K p) ∧ stg (K p) ≤ most then pbd (pSg K R R1 q (stg (K p) + 1) 9 none (p + 1)) (fun b y => pSg K R R1 q least (if stg (K p) = 3 then 2 else stg (K p)) (some (aBin p x y)) b) else (p, some x)
def pLet (K : Nat → Nat) (R : Nat → PR) (p : Nat) : PR := pw K 1 (p + 1) (pw K 61 (p + 2) (pbd (R (p + 3)) (fun b x => pw K 5 b (pbd (R (b + 1)) (fun e y => (e, some (aLet p x y)))))))
def pIf (K : Nat → Nat) (R : Nat → PR) (p : Nat) : PR := pbd (R (p + 1)) (fun b x => pw K 7 b (pbd (R (b + 1)) (fun c y => pw K 8 c (pbd (R (c + 1)) (fun e z => (e, some (aIf p x y z)))))))
def pLoop (K : Nat → Nat) (R : Nat → PR) (q p : Nat) : PR := pbd (pB K R q 4 0 (p + 1)) (fun b fs => pw K 10 b (pbd (R (b + 1)) (fun c x => pw K 11 c (pbd (pB K R q 1000 0 (c + 1)) (fun d ns => pw K 12 d (pbd (R (d + 1)) (fun e g => (e, some (aLoop p fs x ns g)))))))))
/-- an X with dep brackets open around it -/
def pX (K : Nat → Nat) : Nat → Nat → Nat → PR
  | 0, _, p => (p, none)
  | q + 1, dep, p => if 20 ≤ dep then (p, none) else if K p = 4 then pLet K (pX K q dep) p else if K p = 6 then pIf K (pX K q dep) p else if K p = 9 then pLoop K (pX K q dep) q p else pSg K (pX K q dep) (pX K q (dep + 1)) q 1 9 none p
/-! the reference's primitives over the tokens -/
/-- what reading leaves: all nodes, rows and functions but those of the half that begins at n0; V holds it behind the tokens -/
def Pr (n0 a i : Nat) : Prop := (((81 ≤ a ∧ a ≤ 95) ∨ (113 ≤ a ∧ a ≤ 115)) ∧ ¬ (n0 ≤ i ∧ i < n0 + 600)) ∨ ((a = 97 ∨ a = 98 ∨ a = 99 ∨ a = 102) ∧ ¬ (8 * n0 ≤ 600 * i ∧ 600 * i < 8 * n0 + 4800)) ∨ ((a = 100 ∨ a = 101) ∧ ¬ (32 * n0 ≤ 600 * i ∧ 600 * i < 32 * n0 + 19200))
def Pq (n0 : Nat) (V : Nat → Int64) (D : im_S) : Prop := ∀ a i : Nat, Pr n0 a i → (D.1 a i).toInt64 = V (2000 + 2 * (200 * i + a)) ∧ D.2.1 a i = V (2001 + 2 * (200 * i + a))
theorem Pq_ag {n0 : Nat} {V : Nat → Int64} {D E : im_S} (h : Pq n0 V D) (h1 : ∀ a i : Nat, Pr n0 a i → E.1 a i = D.1 a i) (h2 : ∀ a i : Nat, Pr n0 a i → E.2.1 a i = D.2.1 a i) : Pq n0 V E := fun a i q => ⟨by rw [h1 a i q]; exact (h a i q).1, by rw [h2 a i q]; exact (h a i q).2⟩
theorem Pr_a {n0 a i : Nat} (h : Pr n0 a i) : 81 ≤ a ∧ a ≤ 115 ∧ a ≠ 96 ∧ ¬ (102 < a ∧ a < 113) := by unfold Pr at h; omega
def Ps (K : Nat → Nat) (V : Nat → Int64) (D : im_S) : Prop := Pq (K 1000) V D
theorem Ps_uI {K : Nat → Nat} {V : Nat → Int64} {D : im_S} {a i : Nat} {v : Int32} (h : Ps K V D) (q : ¬ Pr (K 1000) a i) : Ps K V (uI D a i v) := by
  intro b j hb
  obtain ⟨h1, h2⟩ := h b j hb
  refine ⟨?_, h2⟩
  rw [uI_at]
  by_cases e : b = a
  · by_cases e2 : j = i
    · rw [e, e2] at hb; exact absurd hb q
    · rw [if_pos e, if_neg e2]; exact h1
  · rw [if_neg e]; exact h1
theorem Ps_uJ {K : Nat → Nat} {V : Nat → Int64} {D : im_S} {a i : Nat} {v : Int64} (h : Ps K V D) (q : ¬ Pr (K 1000) a i) : Ps K V (uJ D a i v) := by
  intro b j hb
  obtain ⟨h1, h2⟩ := h b j hb
  refine ⟨h1, ?_⟩
  rw [uJ_at]
  by_cases e : b = a
  · by_cases e2 : j = i
    · rw [e, e2] at hb; exact absurd hb q
    · rw [if_pos e, if_neg e2]; exact h2
  · rw [if_neg e]; exact h2
theorem Pr_o {n0 a i : Nat} (h : a < 81 ∨ a = 96 ∨ (102 < a ∧ a < 113) ∨ 115 < a) : ¬ Pr n0 a i := by unfold Pr; omega
theorem Pr_n {n0 a i : Nat} (h1 : a ≤ 95) (h2 : n0 ≤ i ∧ i < n0 + 600) : ¬ Pr n0 a i := by unfold Pr; omega
/-- the reference reads: its tokens, where it stands, how much it has made -/
def Rd (K pl : Nat → Nat) (V : Nat → Int64) (m : Nat) (D : im_S) (pos dep n r h : Nat) : Prop :=
  (∀ j, j ≤ m → TkN (K j) = true ∧ D.1 77 j = nI (tkK (K j)) ∧ (4 ≤ K j → D.1 78 j = nI (tkC (K j))) ∧ D.1 79 j = nI (pl j) ∧ D.2.1 80 j = V j) ∧ m ≤ 500 ∧ pos ≤ m ∧ D.1 75 10 = nI pos ∧ D.1 75 77 = nI dep ∧ D.1 75 26 = nI n ∧ D.1 75 27 = nI r ∧ D.1 75 78 = nI h ∧ D.1 75 3 = 0 ∧ Ps K V D
theorem tkK_c (n : Nat) (h : TkN n = true) : (tkK n = 3 ↔ 17 ≤ n) ∧ (tkK n = 4 ↔ 4 ≤ n ∧ n ≤ 16) ∧ (tkK n = 1 ↔ n = 1) ∧ (tkK n = 2 ↔ n = 2) ∧ tkC n ≤ 126 ∧ n ≤ 126 := by
  have h9 : n ≤ 126 := by
    unfold TkN at h
    rcases Bool.or_eq_true_iff.mp h with q | q
    · have := Nat.le_of_ble_eq_true q; omega
    · have hA : ∀ n, sg_is n = true → n ≤ 126 := by
        intro n hn
        unfold sg_is at hn
        simp at hn
        omega
      exact hA n q
  have hB : ∀ n, n < 127 → ((tkK n = 3 ↔ 17 ≤ n) ∧ (tkK n = 4 ↔ 4 ≤ n ∧ n ≤ 16) ∧ (tkK n = 1 ↔ n = 1) ∧ (tkK n = 2 ↔ n = 2) ∧ tkC n ≤ 126 ∧ n ≤ 126) := by decide +kernel
  exact hB n (by omega)
section RDP
variable {K pl : Nat → Nat} {V : Nat → Int64} {m : Nat} {D : im_S} {pos dep n r h : Nat}
theorem rd_sign (H : Rd K pl V m D pos dep n r h) (c : Nat) (hc : 17 ≤ c) (hc2 : c ≤ 126) : f_X11_isSign (nI c) D = some (if K pos = c then 1 else 0, D) := by
  obtain ⟨ht, hm, hp, ha, -⟩ := H
  obtain ⟨t1, t2, t3, -, -⟩ := ht pos hp
  obtain ⟨c1, c2, -, -, c5, c6⟩ := tkK_c _ t1
  unfold f_X11_isSign
  rw [ha, mI_in (a := pos) (n := 502) (by omega) (by omega), nI_clamp (by omega), t2]
  show (if (nI (tkK (K pos)) : Int32) ≠ nI 3 then _ else (gd true (if ((D.1 78) pos : Int32) ≠ nI c then _ else _))) = _
  by_cases h3 : 17 ≤ K pos
  · have e3 : tkK (K pos) = 3 := c1.mpr h3
    rw [e3, if_neg (fun q => q rfl), t3 (by omega)]
    have ec : tkC (K pos) = K pos := (tkK_sg h3).2
    rw [ec]
    by_cases h4 : K pos = c
    · rw [if_pos h4, h4]
      show (if nI c ≠ nI c then _ else some (1, D)) = _
      rw [if_neg (fun q => q rfl)]
    · rw [if_neg h4]
      show (if nI (K pos) ≠ nI c then some (0, D) else _) = _
      rw [if_pos (fun q => h4 ((nI_eq (by omega) (by omega)).mp q))]
  · have e3 : tkK (K pos) ≠ 3 := fun q => h3 (c1.mp q)
    rw [if_pos (fun q => e3 ((nI_eq (a := tkK (K pos)) (b := 3) (by have := tkK_lt (K pos); omega) (by decide)).mp q)), if_neg (by omega)]
theorem rd_word (H : Rd K pl V m D pos dep n r h) (w : Nat) (hw : 1 ≤ w) (hw2 : w ≤ 13) : f_X11_isWord (nI w) D = some (if K pos = 3 + w then 1 else 0, D) := by
  obtain ⟨ht, hm, hp, ha, -⟩ := H
  obtain ⟨t1, t2, t3, -, -⟩ := ht pos hp
  obtain ⟨c1, c2, -, -, c5, c6⟩ := tkK_c _ t1
  unfold f_X11_isWord
  rw [ha, mI_in (a := pos) (n := 502) (by omega) (by omega), nI_clamp (by omega), t2]
  show (if (nI (tkK (K pos)) : Int32) ≠ nI 4 then _ else (gd true (if ((D.1 78) pos : Int32) ≠ nI w then _ else _))) = _
  by_cases h3 : 4 ≤ K pos ∧ K pos ≤ 16
  · have e3 : tkK (K pos) = 4 := c2.mpr h3
    rw [e3, if_neg (fun q => q rfl), t3 (by omega)]
    have ec : tkC (K pos) = K pos - 3 := by unfold tkC; rw [if_pos (by omega)]
    rw [ec]
    by_cases h4 : K pos = 3 + w
    · rw [if_pos h4, show K pos - 3 = w by omega]
      show (if nI w ≠ nI w then _ else some (1, D)) = _
      rw [if_neg (fun q => q rfl)]
    · rw [if_neg h4]
      show (if nI (K pos - 3) ≠ nI w then some (0, D) else _) = _
      rw [if_pos (fun q => h4 (by have := (nI_eq (a := K pos - 3) (b := w) (by omega) (by omega)).mp q; omega))]
  · have e3 : tkK (K pos) ≠ 4 := fun q => h3 (c2.mp q)
    rw [if_pos (fun q => e3 ((nI_eq (a := tkK (K pos)) (b := 4) (by have := tkK_lt (K pos); omega) (by decide)).mp q)), if_neg (by omega)]
/-- what refuse leaves -/
def rfD (pl : Nat → Nat) (D : im_S) (pos : Nat) : im_S := uI (uI D 75 3 1) 75 4 (nI (pl pos))
theorem rd_refuse (H : Rd K pl V m D pos dep n r h) : f_X11_refuse D = some (0, rfD pl D pos) := by
  obtain ⟨ht, hm, hp, ha, -, -, -, -, hf, -⟩ := H
  unfold f_X11_refuse
  rw [hf, if_neg (fun q => q rfl), ha, mI_in (a := pos) (n := 502) (by omega) (by omega), nI_clamp (by omega), (ht pos hp).2.2.2.1]
  rfl
/-- one token on -/
def adv (D : im_S) (pos : Nat) : im_S := uI D 75 10 (nI pos)
theorem rd_want (H : Rd K pl V m D pos dep n r h) (b : Bool) : f_X11_want (cond b 1 0) D = some (cond b 1 0, cond b (adv D (pos + 1)) (rfD pl D pos)) := by
  unfold f_X11_want f_X11_takes
  cases b with
  | true =>
    show (if (1 : Int32) = 0 then _ else (gd (z_b 1) (some ((1 : Int32), (uI D 75 10 ((D.1 75 10) + 1)))))).bind _ = _
    rw [if_neg (by decide), H.2.2.2.1, show nI pos + 1 = nI (pos + 1) from nI_add pos 1]
    rfl
  | false =>
    show (if (0 : Int32) = 0 then (gd (z_b 0) (some ((0 : Int32), D))) else _).bind _ = _
    rw [if_pos rfl]
    show (f_X11_refuse D).bind _ = _
    rw [rd_refuse H]
    rfl
theorem rd_name (H : Rd K pl V m D pos dep n r h) : f_X11_wantName D = some (if K pos = 1 then 1 else 0, if K pos = 1 then adv D (pos + 1) else rfD pl D pos) := by
  obtain ⟨ht, hm, hp, ha, -⟩ := id H
  obtain ⟨t1, t2, t3, -, -⟩ := ht pos hp
  obtain ⟨c1, c2, c3, -, c5, c6⟩ := tkK_c _ t1
  unfold f_X11_wantName
  rw [ha, mI_in (a := pos) (n := 502) (by omega) (by omega), nI_clamp (by omega), t2]
  show (if (nI (tkK (K pos)) : Int32) ≠ nI 1 then ((f_X11_want 0 D).bind _) else ((f_X11_want 1 D).bind _)) = _
  by_cases h1 : K pos = 1
  · rw [c3.mpr h1, if_neg (fun q => q rfl), if_pos h1, if_pos h1]
    have := rd_want H true
    rw [show f_X11_want 1 D = some (1, adv D (pos + 1)) from this]
    rfl
  · rw [if_pos (fun q => h1 (c3.mp ((nI_eq (a := tkK (K pos)) (b := 1) (by have := tkK_lt (K pos); omega) (by decide)).mp q))), if_neg h1, if_neg h1]
    have := rd_want H false
    rw [show f_X11_want 0 D = some (0, rfD pl D pos) from this]
    rfl
theorem rd_takes (H : Rd K pl V m D pos dep n r h) (b : Bool) : f_X11_takes (cond b 1 0) D = some (cond b 1 0, cond b (adv D (pos + 1)) D) := by
  unfold f_X11_takes
  cases b with
  | true =>
    show (if (1 : Int32) = 0 then _ else (gd (z_b 1) (some ((1 : Int32), (uI D 75 10 ((D.1 75 10) + 1)))))) = _
    rw [if_neg (by decide), H.2.2.2.1, show nI pos + 1 = nI (pos + 1) from nI_add pos 1]
    rfl
  | false =>
    show (if (0 : Int32) = 0 then (gd (z_b 0) (some ((0 : Int32), D))) else _) = _
    rw [if_pos rfl]
    rfl
theorem rd_firm (H : Rd K pl V m D pos dep n r h) : f_X11_firm D = some (nI (stg (K pos)), D) := by
  obtain ⟨ht, hm, hp, ha, -⟩ := id H
  obtain ⟨t1, t2, t3, -, -⟩ := ht pos hp
  obtain ⟨c1, c2, c3, -, c5, c6⟩ := tkK_c _ t1
  unfold f_X11_firm
  rw [ha, mI_in (a := pos) (n := 502) (by omega) (by omega), nI_clamp (by omega), t2]
  show (if (nI (tkK (K pos)) : Int32) = nI 3 then _ else some (0, D)) = _
  by_cases h3 : 17 ≤ K pos
  · rw [c1.mpr h3, if_pos rfl, t3 (by omega), (tkK_sg h3).2]
    have hA : ∀ k, k < 127 → (if nI k = (37 : Int32) then (5 : Int32) else (if nI k = (38 : Int32) then 2 else (if nI k = (42 : Int32) then 5 else (if nI k = (43 : Int32) then 4 else (if nI k = (45 : Int32) then 4 else (if nI k = (47 : Int32) then 5 else (if nI k = (60 : Int32) then 3 else (if nI k = (61 : Int32) then 3 else (if nI k = (124 : Int32) then 1 else 0))))))))) = nI (stg k) := by decide +kernel
    rw [← hA (K pos) (by omega)]
    show gd true _ = _
    by_cases q0 : nI (K pos) = (37 : Int32)
    · simp only [if_pos q0]; rfl
    by_cases q1 : nI (K pos) = (38 : Int32)
    · simp only [if_neg q0, if_pos q1]; rfl
    by_cases q2 : nI (K pos) = (42 : Int32)
    · simp only [if_neg q0, if_neg q1, if_pos q2]; rfl
    by_cases q3 : nI (K pos) = (43 : Int32)
    · simp only [if_neg q0, if_neg q1, if_neg q2, if_pos q3]; rfl
    by_cases q4 : nI (K pos) = (45 : Int32)
    · simp only [if_neg q0, if_neg q1, if_neg q2, if_neg q3, if_pos q4]; rfl
    by_cases q5 : nI (K pos) = (47 : Int32)
    · simp only [if_neg q0, if_neg q1, if_neg q2, if_neg q3, if_neg q4, if_pos q5]; rfl
    by_cases q6 : nI (K pos) = (60 : Int32)
    · simp only [if_neg q0, if_neg q1, if_neg q2, if_neg q3, if_neg q4, if_neg q5, if_pos q6]; rfl
    by_cases q7 : nI (K pos) = (61 : Int32)
    · simp only [if_neg q0, if_neg q1, if_neg q2, if_neg q3, if_neg q4, if_neg q5, if_neg q6, if_pos q7]; rfl
    by_cases q8 : nI (K pos) = (124 : Int32)
    · simp only [if_neg q0, if_neg q1, if_neg q2, if_neg q3, if_neg q4, if_neg q5, if_neg q6, if_neg q7, if_pos q8]; rfl
    simp only [if_neg q0, if_neg q1, if_neg q2, if_neg q3, if_neg q4, if_neg q5, if_neg q6, if_neg q7, if_neg q8]; rfl
  · rw [if_neg (fun q => h3 (c1.mp ((nI_eq (a := tkK (K pos)) (b := 3) (by have := tkK_lt (K pos); omega) (by decide)).mp q)))]
    have e0 : stg (K pos) = 0 := by
      unfold stg
      rw [if_neg (by omega), if_neg (by omega), if_neg (by omega), if_neg (by omega), if_neg (by omega), if_neg (by omega), if_neg (by omega), if_neg (by omega), if_neg (by omega)]
    rw [e0]
    rfl
end RDP
