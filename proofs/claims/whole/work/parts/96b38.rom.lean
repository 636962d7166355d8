/-! room: slots and frames are counted by their causes -/
section ROM
variable {K pl : Nat → Nat} {V : Nat → Int64} {y : TR} {e : Nat} {N M L : Nat → Nat} {n ρ τ : Nat} {G : im_S} {sl tO sO kO crt : Nat → Nat} {f : Nat} {W : Nat → Int32 × Int32 × Int32} {ν : Nat → Nat} {q0 : Nat} {ar : Nat → Int64} {En : TPth → Prop} {cv vr : TPth → Nat → Option TVal} {mv : Option (TPth × Nat × TVal)} {Aw : TPth → Nat → Prop} {WV WC : TPth → Nat → TPth → Nat → Prop} {R H : List TEv} {fl : Prop} {nS nF : Nat} {fb : Nat → Nat} {fp : Nat → TPth} {fi : TPth → Nat} {tf : TPth → Nat → Nat} {tb : TPth → Nat → Option Nat} {ow si fo : Nat → Int32} {sow : Nat → Nat × TPth × Nat}
def cnL (l : List (TR × List Nat × Nat)) : Nat := (l.filter (fun z => lpK z.1)).length
theorem cnL_ap (l1 l2 : List (TR × List Nat × Nat)) : cnL (l1 ++ l2) = cnL l1 + cnL l2 := by
  unfold cnL
  rw [List.filter_append, List.length_append]
theorem cnL_c (z : TR × List Nat × Nat) (l : List (TR × List Nat × Nat)) : cnL (z :: l) ≤ 1 + cnL l ∧ (lpK z.1 = false → cnL (z :: l) = cnL l) := by
  unfold cnL
  cases hk : lpK z.1 with
  | true =>
    rw [List.filter_cons_of_pos (by rw [hk]), List.length_cons]
    exact ⟨by omega, fun q => by cases q⟩
  | false =>
    rw [List.filter_cons_of_neg (by rw [hk]; exact Bool.false_ne_true)]
    exact ⟨by omega, fun _ => rfl⟩
theorem cnl_W {x : TR} {p e md : Nat} (w : Wt K x p e md) : ∀ (γ : List Nat) (r : Nat), cnL (sbc x γ r) ≤ nl x := by
  have h0 : ∀ {X : TR} {γ : List Nat} {r u : Nat} {l : List (TR × List Nat × Nat)}, lpK X = false → sbc X γ r = (X, γ, r) :: l → cnL l ≤ u → cnL (sbc X γ r) ≤ u := fun {X γ r u l} h1 h2 h3 => by
    rw [h2, (cnL_c _ _).2 h1]
    exact h3
  have h2 : ∀ {l1 l2 : List (TR × List Nat × Nat)} {u1 u2 : Nat}, cnL l1 ≤ u1 → cnL l2 ≤ u2 → cnL (l1 ++ l2) ≤ u1 + u2 := fun {l1 l2 u1 u2} q1 q2 => by
    rw [cnL_ap]
    omega
  have hn : cnL [] ≤ 0 := Nat.le_refl _
  refine Wt_ind (K := K) (P := fun x p e md => ∀ (γ : List Nat) (r : Nat), cnL (sbc x γ r) ≤ nl x) ?_ ?_ ?_ ?_ ?_ ?_ ?_ ?_ ?_ ?_ ?_ ?_ ?_ ?_ ?_ (tsz x) x p e md (Nat.le_refl _) w
  · intro p md _ γ r; exact h0 rfl rfl hn
  · intro p md _ γ r; exact h0 rfl rfl hn
  · intro p md _ γ r; exact h0 rfl rfl hn
  · intro p md _ γ r; exact h0 rfl rfl hn
  · intro p as b md _ _ w1 ih γ r; exact h0 (X := aCal p as) rfl rfl (ih γ r)
  · intro p x y b e md _ w1 w2 i1 i2 γ r; exact h0 (X := aLet p x y) rfl rfl (h2 (i1 _ _) (i2 _ _))
  · intro p x y z b c e md w1 w2 w3 i1 i2 i3 γ r; exact h0 (X := aIf p x y z) rfl rfl (h2 (i1 _ _) (h2 (i2 _ _) (i3 _ _)))
  · intro p fs c ns g b d f' e md _ _ w1 w2 w3 w4 i1 i2 i3 i4 γ r
    have k1 := (cnL_c (aLoop p fs c ns g, γ, r) (sbc fs γ r ++ (sbc c (bnd fs γ) (4 * p) ++ (sbc ns (bnd fs γ) (4 * p + 1) ++ sbc g (bnd fs γ) (4 * p + 2))))).1
    have k2 := h2 (i1 γ r) (h2 (i2 (bnd fs γ) (4 * p)) (h2 (i3 (bnd fs γ) (4 * p + 1)) (i4 (bnd fs γ) (4 * p + 2))))
    show cnL ((aLoop p fs c ns g, γ, r) :: (sbc fs γ r ++ (sbc c (bnd fs γ) (4 * p) ++ (sbc ns (bnd fs γ) (4 * p + 1) ++ sbc g (bnd fs γ) (4 * p + 2))))) ≤ 1 + nq4 (tln fs) + (nl fs + (nl c + (nl ns + nl g)))
    omega
  · intro p x e md _ w1 ih γ r; exact h0 (X := aSig p x) rfl rfl (ih γ r)
  · intro p j x y e md _ w1 w2 i1 i2 γ r; exact h0 (X := aBin j x y) rfl rfl (h2 (i1 _ _) (i2 _ _))
  · intro p j x y b md w1 w2 i1 i2 γ r; exact h0 (X := aCel j x y) rfl rfl (h2 (i1 _ _) (i2 _ _))
  · intro p x y b e md _ _ w1 w2 i1 i2 γ r; exact h0 (X := aTab p x y) rfl rfl (h2 (i1 _ _) (i2 _ _))
  · intro p x b md w1 ih γ r; exact h0 (X := aBrk p x) rfl rfl (ih γ r)
  · intro p x b md hmd _ w1 ih γ r; exact h2 (ih γ r) hn
  · intro p x l b e md hmd _ _ w1 w2 i1 i2 γ r; exact h2 (i1 γ r) (i2 γ r)
theorem cn_PL {p e : Nat} (w : PW K y p e) : cnL (scP y) ≤ nlP y := by
  refine PW_ind (K := K) (P := fun y p e => cnL (scP y) ≤ nlP y) ?_ ?_ (tsz y) y p e (Nat.le_refl _) w
  · intro p cnt x b e0 _ _ _ w1 hb
    show cnL (sbc x (pms (p + 2) cnt).reverse (4 * p) ++ []) ≤ nl x + 0
    rw [cnL_ap]
    have := cnl_W w1 (pms (p + 2) cnt).reverse (4 * p)
    exact Nat.add_le_add this (Nat.le_refl _)
  · intro p cnt x r b e0 e _ _ _ w1 hb _ w2 ih
    show cnL (sbc x (pms (p + 2) cnt).reverse (4 * p) ++ scP r) ≤ nl x + nlP r
    rw [cnL_ap]
    have := cnl_W w1 (pms (p + 2) cnt).reverse (4 * p)
    omega
theorem lp_len (w : PW K y 0 e) (h20 : nlP y ≤ 20) : (lpP y).length ≤ 20 := by
  have := cn_PL w
  unfold cnL at this
  unfold lpP
  rw [List.length_map]
  omega
/-- pigeons -/
theorem pig {m k : Nat} {Ky : Nat → Nat → Prop} (h1 : ∀ s, s < m → ∃ v, v < k ∧ Ky s v) (h2 : ∀ s s' v, s < m → s' < m → Ky s v → Ky s' v → s = s') : m ≤ k := by
  have hg : ∃ g : Nat → Nat, ∀ s, s < m → g s < k ∧ Ky s (g s) := ⟨fun s => if h : s < m then Classical.choose (h1 s h) else 0, fun s h => by
    show (dite (s < m) (fun h => Classical.choose (h1 s h)) (fun _ => 0)) < k ∧ Ky s (dite (s < m) (fun h => Classical.choose (h1 s h)) (fun _ => 0))
    rw [dif_pos h]
    exact Classical.choose_spec (h1 s h)⟩
  obtain ⟨g, hg⟩ := hg
  have := nd_len ((List.range m).map g) k (nd_mapI _ List.nodup_range (fun a qa b qb q => by
    rw [List.mem_range] at qa qb
    have k2 := (hg b qb).2
    rw [← q] at k2
    exact h2 a b (g a) qa qb (hg a qa).2 k2)) (fun v q => by
    obtain ⟨s, q1, q2⟩ := List.mem_map.mp q
    rw [List.mem_range] at q1
    rw [← q2]
    exact (hg s q1).1)
  rw [List.length_map, List.length_range] at this
  exact this
theorem sm_lt {sl : Nat → Nat} : ∀ {b a : Nat}, a < b → sm sl a + sl a ≤ sm sl b := by
  intro b
  induction b with
  | zero => intro a h; omega
  | succ b ih =>
    intro a h
    show sm sl a + sl a ≤ sm sl b + sl b
    by_cases c : a = b
    · rw [c]
      exact Nat.le_refl _
    · have := ih (show a < b by omega)
      omega
/-- what a frame's path knows -/
def FrK (V : Nat → Int64) (y : TR) (q0 : Nat) (Z : List TEv) (F : TPth) : Prop := POk V y F ∧ Z0 y F ∧ ifr y (hdR F) ∧ (∀ ev, csP y F = some ev → ev ∈ Z) ∧ (F = [(4 * q0, 0)] ∨ F.tail ≠ [])
theorem fr_4 (w : PW K y 0 e) {F : TPth} (h : POk V y F) (hi : ifr y (hdR F)) : hdR F = 4 * (hdR F / 4) := by
  cases F with
  | nil => exact absurd h id
  | cons c Q =>
    show c.1 = 4 * (c.1 / 4)
    have hi : ifr y c.1 := hi
    rcases pk_cs w h with ⟨f1, f2, f3⟩ | ⟨f1, f2, f3, z, hz, f4, f5, f6⟩
    · omega
    · rcases f6 with ⟨g1, g2, g3⟩ | ⟨g1, g2, g3, -⟩ | ⟨g1, g2, -⟩
      · rcases hi with hi | hi | hi
        · exact absurd hi f1
        · omega
        · rcases g3 with ⟨g3, -⟩ | ⟨g3, -⟩
          · omega
          · have := (ifr_nd w hz (k := c.1 % 4) (by omega)).mp (.inr (.inr (by rw [f4, show (4 * (c.1 / 4) + c.1 % 4) / 4 = c.1 / 4 by omega]; exact hi)))
            rcases this with ⟨-, q⟩ | q
            · omega
            · rw [lp_tbK ((tl_P w) z hz).2.1 g1] at q
              cases q
      · omega
      · rcases hi with hi | hi | hi
        · exact absurd hi f1
        · exact absurd hi.1 g1
        · exact absurd hi g2
/-- templates of frames -/
theorem fr_L (C : CGd K pl V y e N M L n ρ τ G) {F : TPth} (h : POk V y F) (hi : ifr y (hdR F)) : L (hdR F / 4) < τ ∧ L (hdR F / 4) < L (hdR F / 4 + 1) ∧ hdR F / 4 < e := by
  have w := C.1
  have hf : fpt y F = F := by
    cases F with
    | nil => exact absurd h id
    | cons c Q => exact fpt_y hi
  have h1 := (dp_P C F h).2.2
  rw [hf] at h1
  refine ⟨h1, ?_⟩
  cases F with
  | nil => exact absurd h id
  | cons c Q =>
    show L (c.1 / 4) < L (c.1 / 4 + 1) ∧ c.1 / 4 < e
    have hi : ifr y c.1 := hi
    have nn : ∀ z, z ∈ scP y → otk z.1 = c.1 / 4 → (lpK z.1 = true ∨ tbK z.1 = true) → L (c.1 / 4) < L (c.1 / 4 + 1) ∧ c.1 / 4 < e := fun z hz q1 q2 => by
      have hb := ((ou_P w).1 z hz).2
      rw [← q1]
      refine ⟨?_, hb⟩
      have hcn := cn_P C z hz
      have hs := ((tl_P w) z hz).2.1
      obtain ⟨x, γ, r⟩ := z
      have hs : shp x := hs
      have q2 : lpK x = true ∨ tbK x = true := q2
      rcases hs with ⟨j, rfl⟩ | ⟨j, rfl⟩ | ⟨j, rfl⟩ | ⟨j, as, rfl⟩ | ⟨j, a, b, rfl⟩ | ⟨j, a, b, c, rfl⟩ | ⟨j, fs, c, ns, g, rfl⟩ | ⟨j, a, rfl⟩ | ⟨j, a, b, rfl⟩ | ⟨j, a, b, rfl⟩ | ⟨j, a, b, rfl⟩ | ⟨j, a, rfl⟩
      · rcases q2 with q2 | q2 <;> cases q2
      · rcases q2 with q2 | q2 <;> cases q2
      · rcases q2 with q2 | q2 <;> cases q2
      · rcases q2 with q2 | q2 <;> cases q2
      · rcases q2 with q2 | q2 <;> cases q2
      · rcases q2 with q2 | q2 <;> cases q2
      · exact hcn.2.2.2.2.2.2.1
      · rcases q2 with q2 | q2 <;> cases q2
      · rcases q2 with q2 | q2 <;> cases q2
      · rcases q2 with q2 | q2 <;> cases q2
      · exact hcn.2.2.2.2.2.2.2.2.2.1
      · rcases q2 with q2 | q2 <;> cases q2
    have fin : ∀ {l : List Nat} {K' : TR → Bool}, l = ((scP y).filter (fun z => K' z.1)).map (fun z => otk z.1) → c.1 / 4 ∈ l → ∃ z, z ∈ scP y ∧ otk z.1 = c.1 / 4 ∧ K' z.1 = true := fun {l K'} q1 q2 => by
      rw [q1] at q2
      obtain ⟨z, u1, u2⟩ := List.mem_map.mp q2
      obtain ⟨u1, u3⟩ := List.mem_filter.mp u1
      exact ⟨z, u1, u2, u3⟩
    rcases hi with hi | hi | hi
    · have hi2 := hi
      rw [(ft_fu w).1] at hi2
      obtain ⟨⟨q, cnt, x⟩, u1, u2⟩ := List.mem_map.mp hi2
      have u2 : q = c.1 / 4 := u2
      obtain ⟨i, u3⟩ := List.getElem?_of_mem u1
      have := cf_P C u3
      rw [← u2]
      exact ⟨this.2.2.2.1, by rw [u2]; exact ((ft_fu w).2.1 _ hi).2⟩
    · obtain ⟨z, u1, u2, u3⟩ := fin (K' := lpK) rfl hi.1
      exact nn z u1 u2 (.inl u3)
    · obtain ⟨z, u1, u2, u3⟩ := fin (K' := tbK) rfl hi
      exact nn z u1 u2 (.inr u3)
theorem Lt_inj (h : Mn N M L e) {j j' : Nat} (h1 : L j < L (j + 1)) (h2 : L j' < L (j' + 1)) (hj : j < e) (hj' : j' < e) (q : L j = L j') : j = j' := by
  rcases Nat.lt_trichotomy j j' with c | c | c
  · have := (h (j + 1) j' (by omega) (by omega)).2.2
    omega
  · exact c
  · have := (h (j' + 1) j (by omega) (by omega)).2.2
    omega
/-- the cause's number -/
def csI (y : TR) (Z : List TEv) (F : TPth) (k : Nat) : Prop := (csP y F = none ∧ k = Z.length) ∨ ∃ ev, csP y F = some ev ∧ Z[k]? = some ev
theorem csI_ex {Z : List TEv} {F : TPth} (h : ∀ ev, csP y F = some ev → ev ∈ Z) : ∃ k, k ≤ Z.length ∧ csI y Z F k := by
  cases hc : csP y F with
  | none => exact ⟨Z.length, Nat.le_refl _, .inl ⟨hc, rfl⟩⟩
  | some ev =>
    obtain ⟨k, hk⟩ := List.getElem?_of_mem (h ev hc)
    have := (List.getElem?_eq_some_iff.mp hk).1
    exact ⟨k, by omega, .inr ⟨ev, hc, hk⟩⟩
theorem csI_uq {Z : List TEv} {F F' : TPth} {k : Nat} (h : csI y Z F k) (h' : csI y Z F' k) : csP y F = csP y F' := by
  rcases h with ⟨h1, h2⟩ | ⟨ev, h1, h2⟩
  · rcases h' with ⟨h1', -⟩ | ⟨ev, h1', h2'⟩
    · rw [h1, h1']
    · have := (List.getElem?_eq_some_iff.mp h2').1
      omega
  · rcases h' with ⟨h1', h2'⟩ | ⟨ev', h1', h2'⟩
    · have := (List.getElem?_eq_some_iff.mp h2).1
      omega
    · rw [h2] at h2'
      rw [h1, h1', h2']
/-- slots -/
theorem cnt_sl (C : CGd K pl V y e N M L n ρ τ G) (hsm : sm sl τ ≤ 500) {m : Nat} {Z : List TEv} {SF : Nat → TPth → Nat → Prop} {SC : Nat → TPth → Nat → Nat → Prop} (h1 : ∀ s, s < m → (∃ F o, FrK V y q0 Z F ∧ o < sl (L (hdR F / 4)) ∧ SF s F o) ∨ ∃ P t i, SC s P t i ∧ (P, t, i + 1) ∈ Z) (h2 : ∀ s s' F o, SF s F o → SF s' F o → s = s') (h3 : ∀ s s' P t i, SC s P t i → SC s' P t i → s = s') : m ≤ 500 * (Z.length + 1) + Z.length := by
  have ofs : ∀ {F : TPth} {o : Nat}, FrK V y q0 Z F → o < sl (L (hdR F / 4)) → sm sl (L (hdR F / 4)) + o < 500 := fun {F o} hF ho => by
    have := sm_lt (sl := sl) (fr_L C hF.1 hF.2.2.1).1
    omega
  refine pig (Ky := fun s v => (∃ F o k, FrK V y q0 Z F ∧ o < sl (L (hdR F / 4)) ∧ SF s F o ∧ k ≤ Z.length ∧ csI y Z F k ∧ v = 500 * k + (sm sl (L (hdR F / 4)) + o)) ∨ ∃ P t i k, SC s P t i ∧ Z[k]? = some (P, t, i + 1) ∧ v = 500 * (Z.length + 1) + k) (fun s hs => ?_) (fun s s' v _ _ q q' => ?_)
  · rcases h1 s hs with ⟨F, o, u1, u2, u3⟩ | ⟨P, t, i, u1, u2⟩
    · obtain ⟨k, k1, k2⟩ := csI_ex u1.2.2.2.1
      have := ofs u1 u2
      exact ⟨500 * k + (sm sl (L (hdR F / 4)) + o), by omega, .inl ⟨F, o, k, u1, u2, u3, k1, k2, rfl⟩⟩
    · obtain ⟨k, hk⟩ := List.getElem?_of_mem u2
      have := (List.getElem?_eq_some_iff.mp hk).1
      exact ⟨500 * (Z.length + 1) + k, by omega, .inr ⟨P, t, i, k, u1, hk, rfl⟩⟩
  · rcases q with ⟨F, o, k, u1, u2, u3, u4, u5, u6⟩ | ⟨P, t, i, k, u1, u2, u3⟩
    · have b1 := ofs u1 u2
      rcases q' with ⟨F', o', k', v1, v2, v3, v4, v5, v6⟩ | ⟨P, t, i, k', v1, v2, v3⟩
      · have b2 := ofs v1 v2
        have ek : k = k' := by omega
        subst ek
        have eo : sm sl (L (hdR F / 4)) + o = sm sl (L (hdR F' / 4)) + o' := by omega
        obtain ⟨l1, l2, l3⟩ := fr_L C u1.1 u1.2.2.1
        obtain ⟨l1', l2', l3'⟩ := fr_L C v1.1 v1.2.2.1
        have eL : L (hdR F / 4) = L (hdR F' / 4) := by
          rcases Nat.lt_trichotomy (L (hdR F / 4)) (L (hdR F' / 4)) with c | c | c
          · have := sm_lt (sl := sl) c
            omega
          · exact c
          · have := sm_lt (sl := sl) c
            omega
        have eh := Lt_inj C.2.1 l2 l2' l3 l3' eL
        have e4 := fr_4 C.1 u1.1 u1.2.2.1
        have e4' := fr_4 C.1 v1.1 v1.2.2.1
        have eF := cs_inj C.1 F F' u1.1 v1.1 u1.2.1 v1.2.1 (csI_uq u5 v5) (by omega)
        subst eF
        have eo : o = o' := by omega
        subst eo
        exact h2 s s' F o u3 v3
      · omega
    · rcases q' with ⟨F', o', k', v1, v2, v3, v4, v5, v6⟩ | ⟨P', t', i', k', v1, v2, v3⟩
      · have b2 := ofs v1 v2
        omega
      · have ek : k = k' := by omega
        subst ek
        rw [u2] at v2
        have v2 := Option.some.inj v2
        have e1 : P = P' := congrArg Prod.fst v2
        have e2 : t = t' := congrArg (fun u : TEv => u.2.1) v2
        have e3 : i + 1 = i' + 1 := congrArg (fun u : TEv => u.2.2) v2
        have e3 : i = i' := by omega
        subst e1
        subst e2
        subst e3
        exact h3 s s' P t i u1 v1
/-- a frame that is no first round of a loop -/
theorem cs_in2 (w : PW K y 0 e) {F F' : TPth} (h : POk V y F) (h' : POk V y F') (hi : ifr y (hdR F)) (hi' : ifr y (hdR F')) (ht : F = [(4 * q0, 0)] ∨ F.tail ≠ []) (ht' : F' = [(4 * q0, 0)] ∨ F'.tail ≠ []) (hr : ∀ c Q, F = c :: Q → ¬ (c.1 / 4 ∈ lpP y ∧ c.2 = 0)) (hr' : ∀ c Q, F' = c :: Q → ¬ (c.1 / 4 ∈ lpP y ∧ c.2 = 0)) (hc : csP y F = csP y F') : hdR F = hdR F' := by
  have key : ∀ F, POk V y F → ifr y (hdR F) → (∀ c Q, F = c :: Q → ¬ (c.1 / 4 ∈ lpP y ∧ c.2 = 0)) → (F.tail = [] ∧ csP y F = none) ∨ (∃ D j as γ i q cnt x r, csP y F = some (D, j, 0) ∧ (.tag 4 (.tag j as), γ, r) ∈ scP y ∧ idx V ((ftP y).map Prod.fst) j = some i ∧ (fuP y)[i]? = some (q, cnt, x) ∧ hdR F = 4 * q) ∨ ∃ D i z, z ∈ scP y ∧ (lpK z.1 = true ∨ tbK z.1 = true) ∧ csP y F = some (D, otk z.1, i) ∧ hdR F = 4 * otk z.1 := by
    intro F h hi hr
    have h4 := fr_4 w h hi
    cases F with
    | nil => exact absurd h id
    | cons c Q =>
      have h4 : c.1 = 4 * (c.1 / 4) := h4
      have hi : ifr y c.1 := hi
      rcases pk_cs w h with ⟨f1, f2, f3⟩ | ⟨f1, f2, f3, z, hz, f4, f5, f6⟩
      · rcases f3 with ⟨g1, g2⟩ | ⟨g1, -, g2⟩
        · rw [g1]
          exact .inl ⟨rfl, cs_r f1⟩
        · obtain ⟨as, γ, i, q, cnt, x, u1, u2, u3, u4⟩ := g2
          exact .inr (.inl ⟨Q, c.2, as, γ, i, q, cnt, x, _, cs_f f1 g1, u1, u2, u3, u4⟩)
      · rcases f6 with ⟨g1, g2, g3⟩ | ⟨g1, g2, g3, g4, -⟩ | ⟨g1, g2, -⟩
        · have h0 : c.2 ≠ 0 := fun q => hr c Q rfl ⟨g2, q⟩
          refine .inr (.inr ⟨Q, c.2 - 1, z, hz, .inl g1, ?_, ?_⟩)
          · rw [f4]
            exact cs_i f1 g2 (by omega) h0
          · rw [f4]
            exact h4
        · refine .inr (.inr ⟨Q, c.2 + 1, z, hz, .inr g4, ?_, ?_⟩)
          · rw [f4]
            exact cs_t f1 g1 g2
          · rw [f4]
            exact h4
        · rcases hi with hi | hi | hi
          · exact absurd hi f1
          · exact absurd hi.1 g1
          · exact absurd hi g2
  rcases key F h hi hr with ⟨k1, k2⟩ | ⟨D, j, as, γ, i, q, cnt, x, r, k1, k2, k3, k4, k5⟩ | ⟨D, i, z, k1, k2, k3, k4⟩
  · rcases key F' h' hi' hr' with ⟨v1, v2⟩ | ⟨D', j', as', γ', i', q', cnt', x', r', v1, v2, v3, v4, v5⟩ | ⟨D', i', z', v1, v2, v3, v4⟩
    · rcases ht with ht | ht
      · rcases ht' with ht' | ht'
        · rw [ht, ht']
        · exact absurd v1 ht'
      · exact absurd k1 ht
    · rw [k2, v1] at hc
      cases hc
    · rw [k2, v3] at hc
      cases hc
  · rcases key F' h' hi' hr' with ⟨v1, v2⟩ | ⟨D', j', as', γ', i', q', cnt', x', r', v1, v2, v3, v4, v5⟩ | ⟨D', i', z', v1, v2, v3, v4⟩
    · rw [k1, v2] at hc
      cases hc
    · rw [k1, v1] at hc
      have e1 : j = j' := congrArg (fun u : TEv => u.2.1) (Option.some.inj hc)
      subst e1
      rw [k3] at v3
      cases v3
      rw [k4] at v4
      cases v4
      rw [k5, v5]
    · rw [k1, v3] at hc
      have e1 : j = otk z'.1 := congrArg (fun u : TEv => u.2.1) (Option.some.inj hc)
      have := (ou_P w).2 _ k2 z' v1 e1
      rw [← this] at v2
      rcases v2 with v2 | v2 <;> cases v2
  · rcases key F' h' hi' hr' with ⟨v1, v2⟩ | ⟨D', j', as', γ', i', q', cnt', x', r', v1, v2, v3, v4, v5⟩ | ⟨D', i', z', v1, v2, v3, v4⟩
    · rw [k3, v2] at hc
      cases hc
    · rw [k3, v1] at hc
      have e1 : otk z.1 = j' := congrArg (fun u : TEv => u.2.1) (Option.some.inj hc)
      have := (ou_P w).2 _ v2 z k1 e1.symm
      rw [← this] at k2
      rcases k2 with k2 | k2 <;> cases k2
    · rw [k3, v3] at hc
      have e1 : otk z.1 = otk z'.1 := congrArg (fun u : TEv => u.2.1) (Option.some.inj hc)
      rw [k4, v4, e1]
/-- frames -/
theorem cnt_fr (w : PW K y 0 e) (h20 : nlP y ≤ 20) {m : Nat} {Z : List TEv} {g : Nat → TPth} (hg : ∀ f, f < m → FrK V y q0 Z (g f)) (hi : ∀ f f', f < m → f' < m → g f = g f' → f = f') : m ≤ 21 * (Z.length + 1) := by
  have hl := lp_len w h20
  refine pig (Ky := fun s v => ∃ k b, k ≤ Z.length ∧ csI y Z (g s) k ∧ b ≤ 20 ∧ v = 21 * k + b ∧ ((b = 0 ∧ ∀ c Q, g s = c :: Q → ¬ (c.1 / 4 ∈ lpP y ∧ c.2 = 0)) ∨ ∃ b', b = b' + 1 ∧ (lpP y)[b']? = some (hdR (g s) / 4))) (fun s hs => ?_) (fun s s' v hs hs' q q' => ?_)
  · have hF := hg s hs
    obtain ⟨k, k1, k2⟩ := csI_ex hF.2.2.2.1
    by_cases c0 : ∃ c Q, g s = c :: Q ∧ c.1 / 4 ∈ lpP y ∧ c.2 = 0
    · obtain ⟨c, Q, u1, u2, u3⟩ := c0
      obtain ⟨b', hb⟩ := List.getElem?_of_mem u2
      have hb2 := (List.getElem?_eq_some_iff.mp hb).1
      exact ⟨21 * k + (b' + 1), by omega, k, b' + 1, k1, k2, by omega, rfl, .inr ⟨b', rfl, by rw [u1]; exact hb⟩⟩
    · exact ⟨21 * k + 0, by omega, k, 0, k1, k2, by omega, rfl, .inl ⟨rfl, fun c Q q q' => c0 ⟨c, Q, q, q'⟩⟩⟩
  · obtain ⟨k, b, u1, u2, u3, u4, u5⟩ := q
    obtain ⟨k', b', v1, v2, v3, v4, v5⟩ := q'
    have ek : k = k' := by omega
    have eb : b = b' := by omega
    subst ek
    subst eb
    have hF := hg s hs
    have hF' := hg s' hs'
    refine hi s s' hs hs' (cs_inj w _ _ hF.1 hF'.1 hF.2.1 hF'.2.1 (csI_uq u2 v2) ?_)
    rcases u5 with ⟨u5, u6⟩ | ⟨b1, u5, u6⟩
    · rcases v5 with ⟨v5, v6⟩ | ⟨b2, v5, v6⟩
      · exact cs_in2 w hF.1 hF'.1 hF.2.2.1 hF'.2.2.1 hF.2.2.2.2 hF'.2.2.2.2 u6 v6 (csI_uq u2 v2)
      · omega
    · rcases v5 with ⟨v5, v6⟩ | ⟨b2, v5, v6⟩
      · omega
      · have e1 : b1 = b2 := by omega
        subst e1
        rw [u6] at v6
        have v6 := Option.some.inj v6
        have e4 := fr_4 w hF.1 hF.2.2.1
        have e4' := fr_4 w hF'.1 hF'.2.2.1
        omega
/-- the frames that are there -/
theorem fr_K (w : PW K y 0 e) (hq0 : q0 ∈ (ftP y).map Prod.fst) (A : AB K V y q0 ar En cv vr mv Aw WV WC R H fl) (hly : LY V y L sl nS nF fb fp fi tf tb sow) (hO : MO y q0 N En nF fp fi tf tb ow si fo) {Z : List TEv} (hH : ∀ ev, ev ∈ H → ev ∈ Z) (hT : ∀ P t m i, tb P t = some m → i < m → (P, t, i + 1) ∈ Z) : ∀ f, f < nF → FrK V y q0 Z (fp f) := by
  intro f hf
  obtain ⟨a1, a2, a3, a4, -⟩ := hly.1 f hf
  refine ⟨a2, a3, a4, ?_, ?_⟩
  · intro ev hc
    by_cases c0 : f = 0
    · rw [c0, hO.2.1, cs_r (by show 4 * q0 / 4 ∈ _; rw [show 4 * q0 / 4 = q0 by omega]; exact hq0)] at hc
      cases hc
    · obtain ⟨c, Q, o1, o2, o3, o4, o5, o6, o7, -⟩ := hO.2.2.2 f hf c0
      rw [o1] at hc a2
      by_cases ct : c.1 / 4 ∈ tbP y
      · rcases pk_cs w a2 with ⟨f1, f2, f3⟩ | ⟨f1, f2, f3, z, hz, f4, f5, f6⟩
        · obtain ⟨z, u1, u2⟩ := List.mem_map.mp ct
          obtain ⟨u1, u3⟩ := List.mem_filter.mp u1
          exact absurd u2 ((ft_fu w).2.2 _ f1 z u1)
        · rcases f6 with ⟨g1, g2, g3⟩ | ⟨g1, g2, g3, g4, -⟩ | ⟨g1, g2, -⟩
          · have : tbK z.1 = false := lp_tbK ((tl_P w) z hz).2.1 g1
            have := tb_no w hz this
            rw [f4] at this
            exact absurd ct this
          · rw [cs_t f1 g1 g2] at hc
            cases hc
            obtain ⟨m, m1, m2, -⟩ := o7 ct
            exact hT Q (c.1 / 4) m c.2 m1 m2
          · exact absurd ct g2
      · exact hH ev (cs_H w A _ (o6 ct) ev hc)
  · by_cases c0 : f = 0
    · rw [c0]
      exact .inl hO.2.1
    · obtain ⟨c, Q, o1, o2, -⟩ := hO.2.2.2 f hf c0
      rw [o1]
      exact .inr o2
/-- there is room -/
theorem mroom0 (C : CGd K pl V y e N M L n ρ τ G) (hsm : sm sl τ ≤ 500) (hq0 : q0 ∈ (ftP y).map Prod.fst) (A : AB K V y q0 ar En cv vr mv Aw WV WC R H fl) (hly : LY V y L sl nS nF fb fp fi tf tb sow) (hO : MO y q0 N En nF fp fi tf tb ow si fo) (hcv : CVS L sl nS nF fb fp tf tb) {Z : List TEv} (hH : ∀ ev, ev ∈ H → ev ∈ Z) (hT : ∀ P t m i, tb P t = some m → i < m → (P, t, i + 1) ∈ Z) : nS ≤ 500 * (Z.length + 1) + Z.length := by
  have hK := fr_K C.1 hq0 A hly hO hH hT
  refine cnt_sl C hsm (q0 := q0) (SF := fun s F o => ∃ f, f < nF ∧ fp f = F ∧ s = fb f + o) (SC := fun s P t i => s = tf P t + i) (fun s hs => ?_) (fun s s' F o q q' => ?_) (fun s s' P t i q q' => by rw [q, q'])
  · rcases hcv s hs with ⟨f, o, u1, u2, u3⟩ | ⟨P, t, m, i, u1, u2, u3⟩
    · exact .inl ⟨fp f, o, hK f u1, u2, f, u1, rfl, u3⟩
    · exact .inr ⟨P, t, i, u3, hT P t m i u1 u2⟩
  · obtain ⟨f, u1, u2, u3⟩ := q
    obtain ⟨f', v1, v2, v3⟩ := q'
    have : f = f' := by rw [← (hly.1 f u1).1, ← (hly.1 f' v1).1, u2, v2]
    rw [u3, v3, this]
theorem mroom1 (C : CGd K pl V y e N M L n ρ τ G) (hsm : sm sl τ ≤ 500) (h20 : nlP y ≤ 20) (hq0 : q0 ∈ (ftP y).map Prod.fst) (A : AB K V y q0 ar En cv vr mv Aw WV WC R H fl) (hly : LY V y L sl nS nF fb fp fi tf tb sow) (hO : MO y q0 N En nF fp fi tf tb ow si fo) (hcv : CVS L sl nS nF fb fp tf tb) {Z : List TEv} (hZ : Z.length ≤ 1021) (hH : ∀ ev, ev ∈ H → ev ∈ Z) (hT : ∀ P t m i, tb P t = some m → i < m → (P, t, i + 1) ∈ Z) {F : TPth} (hF : FrK V y q0 Z F) (hn : ∀ f, f < nF → fp f ≠ F) : nS + sl (L (hdR F / 4)) ≤ 523264 ∧ nF < 32768 := by
  have hK := fr_K C.1 hq0 A hly hO hH hT
  have fe : ∀ {f f' : Nat}, f < nF → f' < nF → fp f = fp f' → f = f' := fun {f f'} u1 v1 q => by rw [← (hly.1 f u1).1, ← (hly.1 f' v1).1, q]
  constructor
  · have := cnt_sl C hsm (m := nS + sl (L (hdR F / 4))) (Z := Z) (SF := fun s F' o => (∃ f, f < nF ∧ fp f = F' ∧ s = fb f + o) ∨ (F' = F ∧ s = nS + o)) (SC := fun s P t i => s = tf P t + i) (q0 := q0) (fun s hs => ?_) (fun s s' F' o q q' => ?_) (fun s s' P t i q q' => by rw [q, q'])
    · omega
    · rcases Nat.lt_or_ge s nS with c | c
      · rcases hcv s c with ⟨f, o, u1, u2, u3⟩ | ⟨P, t, m, i, u1, u2, u3⟩
        · exact .inl ⟨fp f, o, hK f u1, u2, .inl ⟨f, u1, rfl, u3⟩⟩
        · exact .inr ⟨P, t, i, u3, hT P t m i u1 u2⟩
      · exact .inl ⟨F, s - nS, hF, by omega, .inr ⟨rfl, by omega⟩⟩
    · rcases q with ⟨f, u1, u2, u3⟩ | ⟨u1, u2⟩
      · rcases q' with ⟨f', v1, v2, v3⟩ | ⟨v1, v2⟩
        · rw [u3, v3, fe u1 v1 (u2.trans v2.symm)]
        · exact absurd (u2.trans v1) (hn f u1)
      · rcases q' with ⟨f', v1, v2, v3⟩ | ⟨v1, v2⟩
        · exact absurd (v2.trans u1) (hn f' v1)
        · rw [u2, v2]
  · have := cnt_fr C.1 h20 (m := nF + 1) (Z := Z) (g := fun f => if f < nF then fp f else F) (q0 := q0) (V := V) (fun f hf => ?_) (fun f f' hf hf' q => ?_)
    · omega
    · show FrK V y q0 Z (if f < nF then fp f else F)
      by_cases c : f < nF
      · rw [if_pos c]
        exact hK f c
      · rw [if_neg c]
        exact hF
    · have q : (if f < nF then fp f else F) = (if f' < nF then fp f' else F) := q
      by_cases c : f < nF
      · by_cases c' : f' < nF
        · rw [if_pos c, if_pos c'] at q
          exact fe c c' q
        · rw [if_pos c, if_neg c'] at q
          exact absurd q (hn f c)
      · by_cases c' : f' < nF
        · rw [if_neg c, if_pos c'] at q
          exact absurd q.symm (hn f' c')
        · omega
end ROM
