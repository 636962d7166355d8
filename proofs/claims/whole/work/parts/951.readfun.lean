/-! the reference reads functions -/
/-- behind the parameters -/
def pT (K : Nat → Nat) (q b : Nat) : PR := pw K 61 b (pbd (pX K q 0 (b + 1)) (fun e x => pw K 59 e (e + 1, some x)))
def pPa (K : Nat → Nat) : Nat → Nat → Nat → PR
  | 0, _, p => (p, none)
  | q + 1, n, p => if n = 4 then (p, none) else if K p = 1 then (if K (p + 1) = 44 then pPa K q (n + 1) (p + 2) else (p + 1, some (.tag (n + 1) .nil))) else (p, none)
def pL (K : Nat → Nat) (q q2 n p : Nat) : PR := pbd (pPa K q2 n p) (fun b t => pw K 41 b (pbd (pT K q (b + 1)) (fun e x => (e, some (.append t x)))))
def pF (K : Nat → Nat) (q p : Nat) : PR := pw K 1 p (pw K 40 (p + 1) (if K (p + 2) = 41 then pbd (pT K q (p + 3)) (fun e x => (e, some (.tag p (.append (.tag 0 .nil) x)))) else pbd (pL K q 5 0 (p + 2)) (fun e y => (e, some (.tag p y)))))
def pP (K : Nat → Nat) (q : Nat) : Nat → Nat → Nat → PR
  | 0, _, p => (p, none)
  | t + 1, c, p => if c = 8 then (p, none) else pbd (pF K q p) (fun e f => if K e = 0 then (e, some (.append f .nil)) else pbd (pP K q t (c + 1) e) (fun e2 r => (e2, some (.append f r))))
/-- all that reading an X keeps, but for X -/
def KX (X : Nat → Nat → Prop) (D E : im_S) : Prop := ∀ i j : Nat, kq_rd i j = true → ¬ X i j → E.1 i j = D.1 i j ∧ E.2.1 i j = D.2.1 i j
theorem KX_refl (X : Nat → Nat → Prop) (D : im_S) : KX X D D := fun _ _ _ _ => ⟨rfl, rfl⟩
theorem KX_trans {X Y : Nat → Nat → Prop} {D E G : im_S} (a : KX X D E) (b : KX X E G) : KX X D G := fun i j h q => ⟨(b i j h q).1.trans (a i j h q).1, (b i j h q).2.trans (a i j h q).2⟩
theorem KX_wk {X Y : Nat → Nat → Prop} {D E : im_S} (h : ∀ i j, X i j → Y i j) (a : KX X D E) : KX Y D E := fun i j hk q => a i j hk (fun z => q (h i j z))
theorem KX_uI {X : Nat → Nat → Prop} {D E : im_S} {a p : Nat} {v : Int32} (h : kq_rd a p = false ∨ X a p) (k : KX X D E) : KX X D (uI E a p v) := by
  intro i j hk q
  refine ⟨?_, (k i j hk q).2⟩
  rw [uI_at]
  by_cases e : i = a
  · by_cases e2 : j = p
    · subst e; subst e2
      rcases h with h | h
      · rw [h] at hk; cases hk
      · exact absurd h q
    · rw [if_pos e, if_neg e2]; exact (k i j hk q).1
  · rw [if_neg e]; exact (k i j hk q).1
theorem KX_uJ {X : Nat → Nat → Prop} {D E : im_S} {a p : Nat} {v : Int64} (h : kq_rd a p = false ∨ X a p) (k : KX X D E) : KX X D (uJ E a p v) := by
  intro i j hk q
  refine ⟨(k i j hk q).1, ?_⟩
  rw [uJ_at]
  by_cases e : i = a
  · by_cases e2 : j = p
    · subst e; subst e2
      rcases h with h | h
      · rw [h] at hk; cases hk
      · exact absurd h q
    · rw [if_pos e, if_neg e2]; exact (k i j hk q).2
  · rw [if_neg e]; exact (k i j hk q).2
theorem KX_rd {X : Nat → Nat → Prop} {α : Type} {x : Option (α × im_S)} {D E : im_S} {r : α} (h : Kh kq_rd x D) (e : x = some (r, E)) : KX X D E := fun i j hk _ => (h r E e).1 i j hk
def rfT (fu : Nat) (z1 : Int32) (S : im_S) : Option (Int32 × im_S) := (f_X11_isSign 61 S).bind (fun qS20 => (f_X11_want qS20.1 qS20.2).bind (fun qS23 => if (qS23.1 : Int32) ≠ 0 then ((g_X11_readX fu qS23.2).bind (fun qS27 => gd (in_b z1 16) (gd (in_b z1 16) (if ((upd (qS27.2.1 102) z1.toNatClampNeg qS27.1) z1.toNatClampNeg : Int32) = (-1) then (some (0, (uI (uI qS27.2 102 z1.toNatClampNeg qS27.1) 75 36 ((qS27.2.1 75 36) + 1)))) else ((f_X11_isSign 59 (uI (uI qS27.2 102 z1.toNatClampNeg qS27.1) 75 36 ((qS27.2.1 75 36) + 1))).bind (fun qS31 => (f_X11_want qS31.1 qS31.2).bind (fun qS34 => if (qS34.1 : Int32) = 0 then (some (0, qS34.2)) else (some (1, qS34.2))))))))) else (some (0, qS23.2))))
theorem rf_L101 (fu nf : Nat) (z1 : Int32) (S : im_S) : f_X11_readFunction_L101 fu (nf + 1) z1 S = gd (in_b z1 16) (if ((S.1 99) z1.toNatClampNeg : Int32) ≠ 4 then (gd (in_b z1 16) (gd (in_b (S.1 75 10) 502) (gd (in_b ((4 * z1) + ((S.1 99) z1.toNatClampNeg)) 64) (gd (in_b z1 16) (gd (in_b (S.1 75 10) 502) (gd (in_b ((4 * z1) + ((S.1 99) z1.toNatClampNeg)) 64) ((f_X11_wantName (uI (uJ S 100 (((4 * z1) + ((S.1 99) z1.toNatClampNeg)).toNatClampNeg) ((S.2.1 80) ((S.1 75 10).toNatClampNeg))) 101 (((4 * z1) + ((S.1 99) z1.toNatClampNeg)).toNatClampNeg) ((S.1 79) ((S.1 75 10).toNatClampNeg)))).bind (fun qS2 => if (qS2.1 : Int32) ≠ 0 then (gd (in_b z1 16) (gd (in_b z1 16) ((f_X11_isSign 44 (uI qS2.2 99 z1.toNatClampNeg (((qS2.2.1 99) z1.toNatClampNeg) + 1))).bind (fun qS6 => (f_X11_takes qS6.1 qS6.2).bind (fun qS9 => if (qS9.1 : Int32) ≠ 0 then (f_X11_readFunction_L101 fu nf z1 qS9.2) else ((f_X11_isSign 41 qS9.2).bind (fun qS13 => (f_X11_want qS13.1 qS13.2).bind (fun qS16 => if (qS16.1 : Int32) ≠ 0 then rfT fu z1 qS16.2 else (some (0, qS16.2)))))))))) else (some (0, qS2.2)))))))))) else ((f_X11_refuse S).bind (fun qS38 => gd (z_b qS38.1) (some (qS38.1, qS38.2))))) := rfl
theorem rf_fun (fu : Nat) (S : im_S) : f_X11_readFunction fu S = if (S.1 75 36 : Int32) ≠ 8 then (gd (in_b (S.1 75 10) 502) (gd (in_b ((8 * (1 - (S.1 75 37))) + (S.1 75 36)) 16) (gd (in_b (S.1 75 10) 502) (gd (in_b ((8 * (1 - (S.1 75 37))) + (S.1 75 36)) 16) (gd (in_b ((8 * (1 - (S.1 75 37))) + (S.1 75 36)) 16) ((f_X11_wantName (uI (uI (uJ S 97 (((8 * (1 - (S.1 75 37))) + (S.1 75 36)).toNatClampNeg) ((S.2.1 80) ((S.1 75 10).toNatClampNeg))) 98 (((8 * (1 - (S.1 75 37))) + (S.1 75 36)).toNatClampNeg) ((S.1 79) ((S.1 75 10).toNatClampNeg))) 99 (((8 * (1 - (S.1 75 37))) + (S.1 75 36)).toNatClampNeg) 0)).bind (fun qS2 => if (qS2.1 : Int32) = 0 then (some (0, qS2.2)) else ((f_X11_isSign 40 qS2.2).bind (fun qS6 => (f_X11_want qS6.1 qS6.2).bind (fun qS9 => if (qS9.1 : Int32) ≠ 0 then ((f_X11_isSign 41 qS9.2).bind (fun qS13 => (f_X11_takes qS13.1 qS13.2).bind (fun qS16 => if (qS16.1 : Int32) ≠ 0 then rfT fu ((8 * (1 - (S.1 75 37))) + (S.1 75 36)) qS16.2 else (f_X11_readFunction_L101 fu fu ((8 * (1 - (S.1 75 37))) + (S.1 75 36)) qS16.2)))) else (some (0, qS9.2)))))))))))) else ((f_X11_refuse S).bind (fun qS38 => gd (z_b qS38.1) (some (qS38.1, qS38.2)))) := rfl
theorem nI_mul (a b : Nat) : nI a * nI b = nI (a * b) := (Int32.ofNat_mul a b).symm
section RFN
variable {K pl : Nat → Nat} {V : Nat → Int64} {m : Nat}
/-- the places of function f0 are those of the half that is read -/
def F0r (n0 f0 : Nat) : Prop := ∃ g, n0 = 600 * g ∧ 8 * g ≤ f0 ∧ f0 < 8 * g + 8
theorem Pr_f {n0 f0 a : Nat} (h : F0r n0 f0) (ha : a = 97 ∨ a = 98 ∨ a = 99 ∨ a = 102) : ¬ Pr n0 a f0 := by
  obtain ⟨g, h1, h2, h3⟩ := h
  unfold Pr; omega
theorem Pr_p {n0 f0 a i : Nat} (h : F0r n0 f0) (ha : a = 100 ∨ a = 101) (hi : i < 4) : ¬ Pr n0 a (4 * f0 + i) := by
  obtain ⟨g, h1, h2, h3⟩ := h
  unfold Pr; omega
theorem Rd_fld {D : im_S} {pos dep n r h : Nat} (H : Rd K pl V m D pos dep n r h) {c : Nat} {v : Int32} (hc : c ≠ 10 ∧ c ≠ 77 ∧ c ≠ 26 ∧ c ≠ 27 ∧ c ≠ 78 ∧ c ≠ 3) : Rd K pl V m (uI D 75 c v) pos dep n r h := by
  refine Rd_of H (TkE_uI (TkE_refl D) (by omega)) H.2.2.1 ?_ ?_ ?_ ?_ ?_ ?_ (Ps_uI H.ps (Pr_o (by omega)))
  · rw [uI_75, if_neg (by omega)]; exact H.at_
  · rw [uI_75, if_neg (by omega)]; exact H.dep_
  · rw [uI_75, if_neg (by omega)]; exact H.nod
  · rw [uI_75, if_neg (by omega)]; exact H.row
  · rw [uI_75, if_neg (by omega)]; exact H.hld
  · rw [uI_75, if_neg (by omega)]; exact H.flt
theorem Kpt_x {D E : im_S} {n r h a i : Nat} {v : Int32} (g : Kpt D E n r h) (q : a < 81 ∨ (95 < a ∧ a < 132)) : Kpt D (uI E a i v) n r h := Kpt_uI g (Or.inl (by omega))
theorem RepD_kp {D E : im_S} {n r h lo rlo : Nat} (g : Kpt D E n r h) {x : TR} {k : Nat} (q : RepD K pl V D lo n rlo r x 0 k) : RepD K pl V E lo n rlo r x 0 k :=
  RepD_mono (D := D) (Kpt_ag g) (Nat.le_refl _) (Nat.le_refl _) (Nat.le_refl _) (Nat.le_refl _) x 0 k ⟨fun z => by omega, fun z => by omega⟩ q
/-- what the end of a function's reading answers, for a spec res -/
def OutT (K pl : Nat → Nat) (V : Nat → Int64) (m f0 c : Nat) (X : Nat → Nat → Prop) (D : im_S) (b n r : Nat) (res : PR) (k : Int32) (E : im_S) : Prop :=
  (res.2 = none → k = 0 ∧ res.1 ≤ m ∧ E.1 75 3 = 1 ∧ E.1 75 4 = nI (pl res.1) ∧ Ps K V E) ∧
  (∀ x, res.2 = some x → ∃ kk n' r' : Nat, k = 1 ∧ Rd K pl V m E res.1 0 n' r' 0 ∧ b < res.1 ∧ n ≤ n' ∧ r ≤ r' ∧ n' + b ≤ n + res.1 ∧ r' + b ≤ r + res.1 ∧ Kpt D E n r 0 ∧ E.1 102 f0 = nI kk ∧ RepD K pl V E n n' r r' x 0 kk ∧ E.1 75 36 = nI (c + 1)) ∧ KX X D E
theorem OutT_err {f0 c : Nat} {X : Nat → Nat → Prop} {D E : im_S} {b n r p : Nat} (hp : p ≤ m) (h3 : E.1 75 3 = 1) (h4 : E.1 75 4 = nI (pl p) ∧ Ps K V E) (kx : KX X D E) : OutT K pl V m f0 c X D b n r (p, none) 0 E := ⟨fun _ => ⟨rfl, hp, h3, h4⟩, (fun x hx => by cases hx), kx⟩
theorem rf_kx {X : Nat → Nat → Prop} {D E : im_S} {p : Nat} (k : KX X D E) : KX X D (rfD pl E p) := KX_uI (Or.inl rfl) (KX_uI (Or.inl rfl) k)
theorem r_tail (hKm : K m = 0 ∨ K m = 3) {fu q : Nat} (hfu : 600 ≤ fu) (hq : 3 * m + 4 ≤ q) {D : im_S} {b n r f0 c : Nat} (H : Rd K pl V m D b 0 n r 0) (B : Bd (K 1000) m b n r 0) (hf : f0 < 16) (hF0 : F0r (K 1000) f0) (h36 : D.1 75 36 = nI c) :
    ∃ (k : Int32) (E : im_S), rfT fu (nI f0) D = some (k, E) ∧ OutT K pl V m f0 c (fun i j => (i = 75 ∧ j = 36) ∨ (i = 102 ∧ j = f0)) D b n r (pT K q b) k E := by
  have hm := H.2.1
  have hfb : in_b (nI f0) 16 = true := mI_in (by omega) (by omega)
  have hfc : (nI f0).toNatClampNeg = f0 := nI_clamp (by omega)
  generalize hres : pT K q b = res
  unfold pT pw at hres
  unfold rfT
  simp only [show (61 : Int32) = nI 61 from rfl, show (59 : Int32) = nI 59 from rfl, rd_sign H 61 (by decide) (by decide), Option.bind_some, rd_wantP H]
  by_cases k61 : ¬ K b = 61
  · rw [if_neg k61] at hres
    subst hres
    simp only [if_neg k61, ne_eq, not_true_eq_false, ↓reduceIte]
    exact ⟨_, _, rfl, OutT_err H.2.2.1 (rf_fl H).1 (rf_fl H).2 (rf_kx (KX_refl _ D))⟩
  have k61 : K b = 61 := Decidable.not_not.mp k61
  have hb := K_lt hKm H.2.2.1 k61 (by decide) (by decide)
  rw [if_pos k61] at hres
  simp only [if_pos k61, if_pos (show (1 : Int32) ≠ 0 by decide)]
  have H1 := Rd_adv H hb
  have B1 : Bd (K 1000) m (b + 1) n r 0 := by unfold Bd at B ⊢; omega
  obtain ⟨k, E, f1, o1⟩ := (rc_all hKm hfu 1800 q 0 (b + 1) (by omega)).1 (by omega) (by omega) (adv D (b + 1)) (b + 1) n r 0 (Nat.le_refl _) H1 B1
  have g1 : g_X11_readX fu (adv D (b + 1)) = some (k, E) := f1
  have kx1 : KX (fun i j => (i = 75 ∧ j = 36) ∨ (i = 102 ∧ j = f0)) D E := KX_trans (Y := fun _ _ => True) (KX_uI (Or.inl rfl) (KX_refl _ D)) (KX_rd (rc_read_qrd fu 1800 0 0 0 _) f1)
  have kx2 : KX (fun i j => (i = 75 ∧ j = 36) ∨ (i = 102 ∧ j = f0)) D (uI (uI E 102 f0 k) 75 36 (E.1 75 36 + 1)) := KX_uI (Or.inr (Or.inl ⟨rfl, rfl⟩)) (KX_uI (Or.inr (Or.inr ⟨rfl, rfl⟩)) kx1)
  have h36E : E.1 75 36 = nI c := by
    rw [← h36]
    have := ((rc_read_qrd fu 1800 0 0 0 _ k E f1).1 75 36 rfl).1
    rw [this]
    unfold adv
    rw [uI_75, if_neg (by decide)]
  simp only [g1, Option.bind_some, hfb, hfc, gd_t, pk_us, upd]
  generalize hrx : pX K q 0 (b + 1) = rx at *
  obtain ⟨e, _ | x⟩ := rx
  · obtain ⟨rfl, q1, q2, q3⟩ := o1.1 rfl
    rw [pbd_none rfl] at hres
    subst hres
    simp only [↓reduceIte]
    exact ⟨_, _, rfl, OutT_err q1 (by rw [uI_75, if_neg (by decide), uI_at, if_neg (by decide)]; exact q2) ⟨by rw [uI_75, if_neg (by decide), uI_at, if_neg (by decide)]; exact q3.1, Ps_uI (Ps_uI q3.2 (Pr_f hF0 (by omega))) (Pr_o (by omega))⟩ kx2⟩
  obtain ⟨kk, n', r', rfl, R2, p1, m1, m2, m3, m4, kp, rep⟩ := o1.2 x rfl
  rw [pbd_some rfl] at hres
  have p1 : b + 1 < e := p1
  have R2 : Rd K pl V m E e 0 n' r' 0 := R2
  have m3 : n' + (b + 1) ≤ n + e := m3
  have m4 : r' + (b + 1) + 1 ≤ r + e := m4
  have hkk := RepD_k rep
  have hkl : kk < 2 ^ 31 := by unfold Bd at B; have := R2.2.2.1; omega
  simp only [↓reduceIte, if_neg (nI_m1 hkl)]
  have R3 : Rd K pl V m (uI (uI E 102 f0 (nI kk)) 75 36 (E.1 75 36 + 1)) e 0 n' r' 0 := Rd_fld (Rd_put R2 (by decide) (Pr_f hF0 (by omega))) (by decide)
  have kp3 : Kpt D (uI (uI E 102 f0 (nI kk)) 75 36 (E.1 75 36 + 1)) n r 0 := Kpt_x (Kpt_x (Kpt_trans (Kpt_adv (Kpt_refl D n r 0)) kp (Nat.le_refl _) (Nat.le_refl _) (Nat.le_refl _)) (by omega)) (by omega)
  have rep3 : RepD K pl V (uI (uI E 102 f0 (nI kk)) 75 36 (E.1 75 36 + 1)) n n' r r' x 0 kk := RepD_kp (h := 0) (Kpt_x (Kpt_x (Kpt_refl E n' r' 0) (by omega)) (by omega)) rep
  have e102 : (uI (uI E 102 f0 (nI kk)) 75 36 (E.1 75 36 + 1)).1 102 f0 = nI kk := by rw [uI_at, if_neg (by decide), uI_at, if_pos rfl, if_pos rfl]
  have e36 : (uI (uI E 102 f0 (nI kk)) 75 36 (E.1 75 36 + 1)).1 75 36 = nI (c + 1) := by rw [uI_75, if_pos rfl, h36E]; exact nI_add c 1
  generalize uI (uI E 102 f0 (nI kk)) 75 36 (E.1 75 36 + 1) = G at *
  simp only [rd_sign R3 59 (by decide) (by decide), Option.bind_some, rd_wantP R3]
  by_cases k59 : ¬ K e = 59
  · rw [if_neg k59] at hres
    subst hres
    simp only [if_neg k59, ↓reduceIte]
    exact ⟨_, _, rfl, OutT_err R3.2.2.1 (rf_fl R3).1 (rf_fl R3).2 (rf_kx kx2)⟩
  have k59 : K e = 59 := Decidable.not_not.mp k59
  have he := K_lt hKm R3.2.2.1 k59 (by decide) (by decide)
  rw [if_pos k59] at hres
  subst hres
  simp only [if_pos k59, if_neg (show ¬ (1 : Int32) = 0 by decide)]
  refine ⟨_, _, rfl, (fun z => by cases z), fun y hy => ?_, KX_uI (Or.inl rfl) kx2⟩
  cases hy
  refine ⟨kk, n', r', rfl, Rd_adv R3 he, (by show b < e + 1; omega), m1, m2, (by show n' + b ≤ n + (e + 1); omega), (by show r' + b ≤ r + (e + 1); omega), Kpt_adv kp3, ?_, RepD_kp (h := 0) (Kpt_adv (Kpt_refl G n' r' 0)) rep3, ?_⟩
  · unfold adv; rw [uI_at, if_neg (by decide)]; exact e102
  · unfold adv; rw [uI_75, if_neg (by decide)]; exact e36
/-- the parameters from number cnt on -/
theorem r_params (hKm : K m = 0 ∨ K m = 3) {fu q f0 c : Nat} (hfu : 600 ≤ fu) (hq : 3 * m + 4 ≤ q) (hf : f0 < 16) (hF0 : F0r (K 1000) f0) : ∀ (q2 nf cnt : Nat) (D : im_S) (pos n r : Nat), cnt ≤ 4 → 4 < q2 + cnt → 4 < nf + cnt → Rd K pl V m D pos 0 n r 0 → Bd (K 1000) m pos n r 0 → D.1 75 36 = nI c → D.1 99 f0 = nI cnt →
    ∃ (k : Int32) (E : im_S), f_X11_readFunction_L101 fu nf (nI f0) D = some (k, E) ∧ ((pL K q q2 cnt pos).2 = none → k = 0 ∧ (pL K q q2 cnt pos).1 ≤ m ∧ E.1 75 3 = 1 ∧ E.1 75 4 = nI (pl (pL K q q2 cnt pos).1) ∧ Ps K V E) ∧
    (∀ y, (pL K q q2 cnt pos).2 = some y → ∃ (np : Nat) (x : TR), y = .append (.tag np .nil) x ∧ cnt < np ∧ np ≤ 4 ∧ E.1 99 f0 = nI np ∧ (∀ i, cnt ≤ i → i < np → E.2.1 100 (4 * f0 + i) = V (pos + 2 * (i - cnt)) ∧ E.1 101 (4 * f0 + i) = nI (pl (pos + 2 * (i - cnt)))) ∧
      ∃ kk n' r' : Nat, k = 1 ∧ Rd K pl V m E (pL K q q2 cnt pos).1 0 n' r' 0 ∧ pos < (pL K q q2 cnt pos).1 ∧ n ≤ n' ∧ r ≤ r' ∧ n' + pos ≤ n + (pL K q q2 cnt pos).1 ∧ r' + pos ≤ r + (pL K q q2 cnt pos).1 ∧ Kpt D E n r 0 ∧ E.1 102 f0 = nI kk ∧ RepD K pl V E n n' r r' x 0 kk ∧ E.1 75 36 = nI (c + 1)) ∧
    KX (fun i j => (i = 75 ∧ j = 36) ∨ (i = 102 ∧ j = f0) ∨ (i = 99 ∧ j = f0) ∨ ((i = 100 ∨ i = 101) ∧ 4 * f0 + cnt ≤ j ∧ j < 4 * f0 + 4)) D E := by
  intro q2
  induction q2 with
  | zero => intro nf cnt D pos n r h1 h2; omega
  | succ q2 ih =>
    intro nf cnt D pos n r hc hq2 hnf H B h36 h99
    have hm := H.2.1
    have hpm := H.2.2.1
    have hfb : in_b (nI f0) 16 = true := mI_in (by omega) (by omega)
    have hfc : (nI f0).toNatClampNeg = f0 := nI_clamp (by omega)
    have hin : in_b (nI pos) 502 = true := mI_in (by omega) (by omega)
    have hcp : (nI pos).toNatClampNeg = pos := nI_clamp (by omega)
    generalize hres : pL K q (q2 + 1) cnt pos = res
    unfold pL at hres
    rw [pPa] at hres
    by_cases c4 : cnt = 4
    · rw [if_pos c4, pbd_none rfl] at hres
      subst hres
      cases nf with
      | zero =>
        omega
      | succ nf =>
      rw [rf_L101]
      simp only [hfb, hfc, gd_t, h99]
      rw [if_neg (fun z => z (by rw [c4]; rfl)), rd_refuse H]
      exact ⟨_, _, rfl, fun _ => ⟨rfl, hpm, (rf_fl H).1, (rf_fl H).2⟩, (fun y hy => by cases hy), rf_kx (KX_refl _ D)⟩
    obtain ⟨nf, rfl⟩ : ∃ z, nf = z + 1 := ⟨nf - 1, by omega⟩
    rw [if_neg c4] at hres
    rw [rf_L101]
    have c4' : ¬ nI cnt = (4 : Int32) := fun z => c4 ((nI_eq (a := cnt) (b := 4) (by omega) (by omega)).mp z)
    have e4 : 4 * nI f0 + nI cnt = nI (4 * f0 + cnt) := by
      rw [show (4 : Int32) = nI 4 from rfl, nI_mul, nI_add]
    have h4b : in_b (nI (4 * f0 + cnt)) 64 = true := mI_in (by omega) (by omega)
    have h4c : (nI (4 * f0 + cnt)).toNatClampNeg = 4 * f0 + cnt := nI_clamp (by omega)
    obtain ⟨t1, t2, t3, t4, t5⟩ := H.1 pos hpm
    simp only [hfb, hfc, gd_t, h99, H.at_, hin, hcp, e4, h4b, h4c, t4, t5, if_pos (show nI cnt ≠ (4 : Int32) from c4')]
    have H1 : Rd K pl V m (uI (uJ D 100 (4 * f0 + cnt) (V pos)) 101 (4 * f0 + cnt) (nI (pl pos))) pos 0 n r 0 := Rd_put (Rd_putJ H (by decide) (Pr_p hF0 (by omega) (by omega))) (by decide) (Pr_p hF0 (by omega) (by omega))
    have kp1 : Kpt D (uI (uJ D 100 (4 * f0 + cnt) (V pos)) 101 (4 * f0 + cnt) (nI (pl pos))) n r 0 := Kpt_x (Kpt_uJ (Kpt_refl D n r 0) (by omega)) (by omega)
    have kx1 : KX (fun i j => (i = 75 ∧ j = 36) ∨ (i = 102 ∧ j = f0) ∨ (i = 99 ∧ j = f0) ∨ ((i = 100 ∨ i = 101) ∧ 4 * f0 + cnt ≤ j ∧ j < 4 * f0 + 4)) D (uI (uJ D 100 (4 * f0 + cnt) (V pos)) 101 (4 * f0 + cnt) (nI (pl pos))) := KX_uI (Or.inr (by omega)) (KX_uJ (Or.inr (by omega)) (KX_refl _ D))
    have v100 : (uI (uJ D 100 (4 * f0 + cnt) (V pos)) 101 (4 * f0 + cnt) (nI (pl pos))).2.1 100 (4 * f0 + cnt) = V pos := by rw [uI_21, uJ_at, if_pos rfl, if_pos rfl]
    have v101 : (uI (uJ D 100 (4 * f0 + cnt) (V pos)) 101 (4 * f0 + cnt) (nI (pl pos))).1 101 (4 * f0 + cnt) = nI (pl pos) := by rw [uI_at, if_pos rfl, if_pos rfl]
    have v36 : (uI (uJ D 100 (4 * f0 + cnt) (V pos)) 101 (4 * f0 + cnt) (nI (pl pos))).1 75 36 = nI c := by rw [uI_at, if_neg (by decide), uJ_1]; exact h36
    have v99 : (uI (uJ D 100 (4 * f0 + cnt) (V pos)) 101 (4 * f0 + cnt) (nI (pl pos))).1 99 f0 = nI cnt := by rw [uI_at, if_neg (by decide), uJ_1]; exact h99
    generalize uI (uJ D 100 (4 * f0 + cnt) (V pos)) 101 (4 * f0 + cnt) (nI (pl pos)) = D1 at *
    simp only [rd_name H1, Option.bind_some]
    by_cases k1 : ¬ K pos = 1
    · rw [if_neg k1, pbd_none rfl] at hres
      subst hres
      simp only [if_neg k1, ne_eq, not_true_eq_false, ↓reduceIte]
      exact ⟨_, _, rfl, fun _ => ⟨rfl, hpm, (rf_fl H1).1, (rf_fl H1).2⟩, (fun y hy => by cases hy), rf_kx kx1⟩
    have k1 : K pos = 1 := Decidable.not_not.mp k1
    have hp := K_lt hKm hpm k1 (by decide) (by decide)
    rw [if_pos k1] at hres
    have a99 : (adv D1 (pos + 1)).1 99 f0 = nI cnt := by unfold adv; rw [uI_at, if_neg (by decide)]; exact v99
    simp only [if_pos k1, if_pos (show (1 : Int32) ≠ 0 by decide), a99, show nI cnt + 1 = nI (cnt + 1) from nI_add cnt 1]
    have H2 : Rd K pl V m (uI (adv D1 (pos + 1)) 99 f0 (nI (cnt + 1))) (pos + 1) 0 n r 0 := Rd_put (Rd_adv H1 hp) (by decide) (Pr_f hF0 (by omega))
    have B2 : Bd (K 1000) m (pos + 1) n r 0 := by unfold Bd at B ⊢; omega
    have kp2 : Kpt D (uI (adv D1 (pos + 1)) 99 f0 (nI (cnt + 1))) n r 0 := Kpt_x (Kpt_adv kp1) (by omega)
    have kx2 : KX (fun i j => (i = 75 ∧ j = 36) ∨ (i = 102 ∧ j = f0) ∨ (i = 99 ∧ j = f0) ∨ ((i = 100 ∨ i = 101) ∧ 4 * f0 + cnt ≤ j ∧ j < 4 * f0 + 4)) D (uI (adv D1 (pos + 1)) 99 f0 (nI (cnt + 1))) := KX_uI (Or.inr (by omega)) (KX_uI (Or.inl rfl) kx1)
    have w100 : (uI (adv D1 (pos + 1)) 99 f0 (nI (cnt + 1))).2.1 100 (4 * f0 + cnt) = V pos := by unfold adv; rw [uI_21, uI_21]; exact v100
    have w101 : (uI (adv D1 (pos + 1)) 99 f0 (nI (cnt + 1))).1 101 (4 * f0 + cnt) = nI (pl pos) := by unfold adv; rw [uI_at, if_neg (by decide), uI_at, if_neg (by decide)]; exact v101
    have w36 : (uI (adv D1 (pos + 1)) 99 f0 (nI (cnt + 1))).1 75 36 = nI c := by unfold adv; rw [uI_at, if_neg (by decide), uI_75, if_neg (by decide)]; exact v36
    have w99 : (uI (adv D1 (pos + 1)) 99 f0 (nI (cnt + 1))).1 99 f0 = nI (cnt + 1) := by rw [uI_at, if_pos rfl, if_pos rfl]
    generalize uI (adv D1 (pos + 1)) 99 f0 (nI (cnt + 1)) = D2 at *
    simp only [show (44 : Int32) = nI 44 from rfl, show (41 : Int32) = nI 41 from rfl, rd_sign H2 44 (by decide) (by decide), Option.bind_some, rd_takesP H2]
    by_cases k44 : K (pos + 1) = 44
    · have hp2 := K_lt hKm H2.2.2.1 k44 (by decide) (by decide)
      rw [if_pos k44] at hres
      simp only [if_pos k44, if_pos (show (1 : Int32) ≠ 0 by decide)]
      have H3 := Rd_adv H2 hp2
      obtain ⟨k, E, s0, s1, s2, s3⟩ := ih nf (cnt + 1) (adv D2 (pos + 1 + 1)) (pos + 1 + 1) n r (by omega) (by omega) (by omega) H3 (by unfold Bd at B ⊢; omega) (by unfold adv; rw [uI_75, if_neg (by decide)]; exact w36) (by unfold adv; rw [uI_at, if_neg (by decide)]; exact w99)
      have hpe : pL K q q2 (cnt + 1) (pos + 1 + 1) = res := hres
      rw [hpe] at s1 s2
      have kx3 : KX (fun i j => (i = 75 ∧ j = 36) ∨ (i = 102 ∧ j = f0) ∨ (i = 99 ∧ j = f0) ∨ ((i = 100 ∨ i = 101) ∧ 4 * f0 + cnt ≤ j ∧ j < 4 * f0 + 4)) D (adv D2 (pos + 1 + 1)) := KX_uI (Or.inl rfl) kx2
      refine ⟨k, E, s0, s1, fun y hy => ?_, KX_trans (Y := fun _ _ => True) kx3 (KX_wk (fun i j z => by omega) s3)⟩
      obtain ⟨np, x, y1, y2, y3, y4, y5, kk, n', r', z1, z2, z3, z4, z5, z6, z7, z8, z9, z10, z11⟩ := s2 y hy
      refine ⟨np, x, y1, by omega, y3, y4, fun i i1 i2 => ?_, kk, n', r', z1, z2, by omega, z4, z5, by omega, by omega, Kpt_trans (Kpt_adv kp2) z8 (Nat.le_refl _) (Nat.le_refl _) (Nat.le_refl _), z9, z10, z11⟩
      by_cases ei : i = cnt
      · subst ei
        have u1 := (s3 100 (4 * f0 + i) rfl (by omega)).2
        have u2 := (s3 101 (4 * f0 + i) rfl (by omega)).1
        rw [Nat.sub_self, Nat.mul_zero, Nat.add_zero, u1, u2]
        unfold adv
        rw [uI_21, uI_at, if_neg (by decide)]
        exact ⟨w100, w101⟩
      · have := y5 i (by omega) i2
        rw [show pos + 1 + 1 + 2 * (i - (cnt + 1)) = pos + 2 * (i - cnt) by omega] at this
        exact this
    · rw [if_neg k44, pbd_some rfl] at hres
      simp only [if_neg k44, ne_eq, not_true_eq_false, ↓reduceIte, rd_sign H2 41 (by decide) (by decide), Option.bind_some, rd_wantP H2]
      unfold pw at hres
      by_cases k41 : ¬ K (pos + 1) = 41
      · rw [if_neg k41] at hres
        subst hres
        simp only [if_neg k41, ↓reduceIte, not_true_eq_false]
        exact ⟨_, _, rfl, fun _ => ⟨rfl, H2.2.2.1, (rf_fl H2).1, (rf_fl H2).2⟩, (fun y hy => by cases hy), rf_kx kx2⟩
      have k41 : K (pos + 1) = 41 := Decidable.not_not.mp k41
      have hp2 := K_lt hKm H2.2.2.1 k41 (by decide) (by decide)
      rw [if_pos k41] at hres
      simp only [if_pos k41, if_pos (show ¬ (1 : Int32) = 0 by decide)]
      have H3 := Rd_adv H2 hp2
      obtain ⟨k, E, s0, s1, s2, s3⟩ := r_tail hKm hfu hq (f0 := f0) (c := c) H3 (by unfold Bd at B ⊢; omega) hf hF0 (by unfold adv; rw [uI_75, if_neg (by decide)]; exact w36)
      have kx3 : KX (fun i j => (i = 75 ∧ j = 36) ∨ (i = 102 ∧ j = f0) ∨ (i = 99 ∧ j = f0) ∨ ((i = 100 ∨ i = 101) ∧ 4 * f0 + cnt ≤ j ∧ j < 4 * f0 + 4)) D E := KX_trans (Y := fun _ _ => True) (KX_uI (Or.inl rfl) kx2) (KX_wk (fun i j z => by omega) s3)
      refine ⟨k, E, s0, ?_⟩
      generalize hrt : pT K q (pos + 1 + 1) = rt at *
      obtain ⟨e, _ | x⟩ := rt
      · rw [pbd_none rfl] at hres
        subst hres
        obtain ⟨u0, u1, u2, u3⟩ := s1 rfl
        exact ⟨fun _ => ⟨u0, u1, u2, u3⟩, (fun y hy => by cases hy), kx3⟩
      · rw [pbd_some rfl] at hres
        subst hres
        refine ⟨(fun z => by cases z), fun y hy => ?_, kx3⟩
        cases hy
        obtain ⟨kk, n', r', z1, z2, z3, z4, z5, z6, z7, z8, z9, z10, z11⟩ := s2 x rfl
        have z3 : pos + 1 + 1 < e := z3
        have z6 : n' + (pos + 1 + 1) ≤ n + e := z6
        have z7 : r' + (pos + 1 + 1) ≤ r + e := z7
        refine ⟨cnt + 1, x, rfl, by omega, by omega, ?_, fun i i1 i2 => ?_, kk, n', r', z1, z2, (by show pos < e; omega), z4, z5, (by show n' + pos ≤ n + e; omega), (by show r' + pos ≤ r + e; omega), Kpt_trans (Kpt_adv kp2) z8 (Nat.le_refl _) (Nat.le_refl _) (Nat.le_refl _), z9, z10, z11⟩
        · rw [(s3 99 f0 rfl (by omega)).1]
          unfold adv
          rw [uI_at, if_neg (by decide)]
          exact w99
        · have ei : i = cnt := by omega
          subst ei
          rw [Nat.sub_self, Nat.mul_zero, Nat.add_zero, (s3 100 (4 * f0 + i) rfl (by omega)).2, (s3 101 (4 * f0 + i) rfl (by omega)).1]
          unfold adv
          rw [uI_21, uI_at, if_neg (by decide)]
          exact ⟨w100, w101⟩
end RFN
