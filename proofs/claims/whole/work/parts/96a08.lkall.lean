/-! the reference looks: all together -/
section LKA
variable {K pl : Nat → Nat} {V : Nat → Int64} {m fu fr : Nat} {ft : List (Nat × Nat)} {W : Nat → Int32 × Int32 × Int32} {lo hi rlo rhi : Nat} {ν : Nat → Nat}
theorem RwB_le {S : im_S} : ∀ x : TR, LL x → ∀ i, RwB pl V S rlo rhi ν x i → x ≠ .nil → i + tln x ≤ rhi := by
  refine LL_ind (fun i _ h => absurd rfl h) (fun p x r _ ih i h _ => ?_)
  obtain ⟨h1, h2, h3, h4, h5, h6⟩ := h
  show i + (tln r + 1) ≤ rhi
  cases r with
  | nil => show i + (0 + 1) ≤ rhi; omega
  | append a l => have := ih (i + 1) h6 (fun z => by cases z); omega
  | tag c f => show i + (0 + 1) ≤ rhi; omega
  | _ => show i + (0 + 1) ≤ rhi; omega
theorem rts_LL : ∀ x : TR, LL x → (rts x).length = tln x := by
  refine LL_ind rfl (fun p x r _ ih => ?_)
  show (rts r).length + 1 = tln r + 1
  rw [ih]
set_option maxHeartbeats 1000000 in
theorem lx_7 (T : TH K pl V m) (hfu : 600 ≤ fu) (hhi : hi ≤ 1200 ∧ 75 * fr ≤ lo ∧ hi ≤ 75 * fr + 600) (hrh : rhi ≤ 1200) {fs c ns g : TR} {p b d f e : Nat} (hfs : fs ≠ .nil) (w1 : Wt K fs (p + 1) b 102) (w2 : Wt K c (b + 1) d 0) (w3 : Wt K ns (d + 1) f 102) (w4 : Wt K g (f + 1) e 0) (hem : e ≤ m) (i1 : LL fs → LFh K pl V fu fr ft W lo hi rlo rhi ν fs (p + 1) b) (i2 : LXh K pl V fu fr ft W lo hi rlo rhi ν c (b + 1) d) (i3 : LL ns → LNh K pl V fu fr ft W lo hi rlo rhi ν ns (d + 1) f) (i4 : LXh K pl V fu fr ft W lo hi rlo rhi ν g (f + 1) e) : LXh K pl V fu fr ft W lo hi rlo rhi ν (aLoop p fs c ns g) p e := by
  have l1 := Wt_lt w1
  have l2 := Wt_lt w2
  have l3 := Wt_lt w3
  have l4 := Wt_lt w4
  have hm := T.m_
  refine LXh_of (by omega) hhi List.mem_cons_self (fun dd S γ f0 hd hγ H o wo => ?_)
  obtain ⟨⟨⟨a1, ⟨i0, a2, a3, a4, a5⟩, a6, ⟨j0, a7, a8, a9, a10⟩, a11⟩, b1, b2⟩, o2⟩ := fm_c.mp o
  obtain ⟨o2, o3⟩ := fm_a.mp o2
  obtain ⟨o3, o4⟩ := fm_a.mp o3
  obtain ⟨o4, o5⟩ := fm_a.mp o4
  obtain ⟨wo1, wo2⟩ := fm_c.mp wo
  obtain ⟨wo2, wo3⟩ := fm_a.mp wo2
  obtain ⟨wo3, wo4⟩ := fm_a.mp wo3
  obtain ⟨wo4, wo5⟩ := fm_a.mp wo4
  have wo1 : WbL W (nI (ν p)) fs 0 := wo1
  have b2 : ν p < hi := b2
  have t1 := tln_le w1
  have t3 := tln_le w3
  have t1b := t1.2.2 rfl
  obtain ⟨dd, rfl⟩ : ∃ d', dd = d' + 2 := ⟨dd - 2, by omega⟩
  obtain ⟨Sa, c1, c2, c3, c4⟩ := i1 a5 dd S γ f0 0 i0 (ν p) (tln fs) fu (by omega) (by omega) H o2 wo2 a4 (by omega) (by omega) (by omega) a2 (by omega)
  obtain ⟨Sb, k1, k2, k3⟩ := lk55 (ν := ν) T hfu hrh (Kf := rc_look fu (dd + 1)) (k := ν p) (n := tln fs) (i0 := i0) rfl (by omega) (by omega) fs a5 Sa γ _ 0 fu c2 (by omega) (RwB_fl c3 _ _ a4) wo1 (by omega) (by rw [c3.1 89 (ν p) (by omega) (by omega) (by omega) (by omega) (by omega)]; exact a2) (fun q hq => by have := tks_in w1 q hq; omega) (by omega)
  obtain ⟨δ, d1, d2⟩ := bnd_app fs a5 γ
  have hg' : (bnd fs γ).length = γ.length + tln fs := by rw [d1, List.length_append]; omega
  have Fb : FLk pl S Sb p e γ.length := FLk_trans c3 (FLk_e k3 (p + 1) (p + 1)) (by omega) (by omega) (by omega) (by omega) (Nat.le_refl _) (Nat.le_refl _)
  obtain ⟨Sc, g1, g2, g3, g4⟩ := LX_w T w2 (by omega) hhi (Wt_ms w2) i2 (d := dd) (t := 2) (by omega) (by omega) (by omega) k2 (OKs_fl Fb o3) wo3
  have Fc : FLk pl S Sc p e γ.length := FLk_trans Fb g3 (Nat.le_refl _) (Nat.le_refl _) (by omega) (by omega) (Nat.le_refl _) (by omega)
  have z : ∀ {a : Nat}, (89 ≤ a ∧ a ≤ 92) → Sc.1 a (ν p) = S.1 a (ν p) := fun {a} q => Fc.1 a (ν p) (by omega) (by omega) (by omega) (by omega) (by omega)
  have z93 : ∀ i, Sc.2.1 93 i = S.2.1 93 i := fun i => Fc.2 93 i (by omega)
  obtain ⟨n1, n2⟩ := RwB_N fs a5 i0 a4
  have n3 := RwB_le fs a5 i0 a4 hfs
  obtain ⟨Sd, u1, u2, u3, u4⟩ := i3 a10 dd Sc (bnd fs γ) (tks fs) [] _ 0 i0 j0 (ν p) (tln fs) (tln ns) fu (by omega) (by omega) g2 (OKs_fl Fc o4) wo4 (RwB_fl Fc _ _ a9) (by omega) (by omega) (by omega) (by rw [z (by omega)]; exact a2) (by rw [z (by omega)]; exact a3) (by rw [z (by omega)]; exact a7) (by rw [z (by omega)]; exact a8) (RwN_cp z93 _ _ n1) n2 (by omega) (by omega) trivial rfl (by omega)
  have Fd : FLk pl S Sd p e γ.length := FLk_trans Fc u3 (Nat.le_refl _) (Nat.le_refl _) (by omega) (by omega) (Nat.le_refl _) (by omega)
  obtain ⟨Se, v1, v2, v3, v4⟩ := i4 (dd + 1) Sd (bnd fs γ) _ (by omega) (by omega) u2 (OKs_fl Fd o5) wo5
  have e83 : Sb.1 83 (ν p) = nI (ν (otk c)) := by rw [Fb.1 83 (ν p) (by omega) (by omega) (by omega) (by omega) (by omega)]; exact a6
  have e84 : Sd.1 84 (ν p) = nI (ν (otk g)) := by rw [Fd.1 84 (ν p) (by omega) (by omega) (fun _ => Or.inl (L81 a1 (by omega) (by omega))) (by omega) (by omega)]; exact a11
  have h52 : Se.1 75 52 - nI (tln fs) = nI γ.length := by
    rw [v2.2.2.1, hg', nI_sub (by omega), Nat.add_sub_cancel]
  refine ⟨uI Se 75 52 (Se.1 75 52 - nI (tln fs)), ?_, ?_, FLk_pop (FLk_trans Fd v3 (Nat.le_refl _) (Nat.le_refl _) (by omega) (Nat.le_refl _) (Nat.le_refl _) (by omega)), ?_⟩
  · show f_X11_typed (rc_look fu (dd + 2)) fu (nI (ν p)) S = some (nI (tyk K (tv V) g), _)
    unfold f_X11_typed
    rw [mI_in (a := ν p) (n := 1200) (by omega) (by omega), nI_clamp (show ν p < 2 ^ 31 by omega), a1.1]
    simp only [gd_t]
    rw [if_neg (show ¬ (nI 7 : Int32) = 1 by decide), if_neg (show ¬ (nI 7 : Int32) = 2 by decide), if_neg (show ¬ (nI 7 : Int32) = 3 by decide), if_neg (show ¬ (nI 7 : Int32) = 4 by decide), if_neg (show ¬ (nI 7 : Int32) = 5 by decide), if_neg (show ¬ (nI 7 : Int32) = 6 by decide), if_pos (show (nI 7 : Int32) = 7 from rfl)]
    show (f_X11_lookLoop (rc_look fu (dd + 1)) fu (nI (ν p)) S).bind _ = _
    unfold f_X11_lookLoop
    rw [mI_in (a := ν p) (n := 1200) (by omega) (by omega), nI_clamp (show ν p < 2 ^ 31 by omega), a3]
    simp only [gd_t]
    have c1 : f_X11_lookLoop_L9 (rc_look fu (dd + 1)) fu fu (nI (ν p)) (nI (tln fs)) 0 S = f_X11_lookLoop_L55 (rc_look fu (dd + 1)) fu fu (nI (ν p)) (nI (tln fs)) 0 Sa := c1
    have k1 : f_X11_lookLoop_L55 (rc_look fu (dd + 1)) fu fu (nI (ν p)) (nI (tln fs)) 0 Sa = (rc_look fu (dd + 1) 2 (Sb.1 83 (ν p)) 2 Sb).bind (fun q => f_X11_lookLoop_L112 (rc_look fu (dd + 1)) fu fu (nI (ν p)) (nI (tln fs)) 0 q.2) := k1
    have g1 : rc_look fu (dd + 1) 2 (nI (ν (otk c))) 2 Sb = some (0, Sc) := g1
    have u1 : f_X11_lookLoop_L112 (rc_look fu (dd + 1)) fu fu (nI (ν p)) (nI (tln fs)) 0 Sc = (rc_look fu (dd + 1) 0 (Sd.1 84 (ν p)) 0 Sd).bind (fun q => some (q.1, uI q.2 75 52 (q.2.1 75 52 - nI (tln fs)))) := u1
    rw [c1, k1, e83, g1]
    simp only [Option.bind_some]
    rw [u1, e84, v1]
    rfl
  · have e0 : min f0 (lfc K pl V ft (aLoop p fs c ns g) γ 0 [] []) = min (min (min (min (min f0 (lfW K pl V ft fs γ)) (kbL pl V fs γ)) (min (lfc K pl V ft c (bnd fs γ) 0 [] []) (ckX K pl V c 2))) (lfc K pl V ft ns (bnd fs γ) 105 [] (tks fs))) (lfc K pl V ft g (bnd fs γ) 0 [] []) := by
      show min f0 (min (lfc K pl V ft fs γ 102 [] []) (min (lfc K pl V ft c (bnd fs γ) 0 [] []) (min (ckX K pl V c 2) (min (lfc K pl V ft ns (bnd fs γ) 105 [] (tks fs)) (lfc K pl V ft g (bnd fs γ) 0 [] []))))) = _
      rw [lfc_102 fs a5 γ []]
      show min f0 (min (min (lfW K pl V ft fs γ) (kbL pl V fs γ)) (min (lfc K pl V ft c (bnd fs γ) 0 [] []) (min (ckX K pl V c 2) (min (lfc K pl V ft ns (bnd fs γ) 105 [] (tks fs)) (lfc K pl V ft g (bnd fs γ) 0 [] []))))) = _
      ac_rfl
    rw [e0]
    rw [d1] at v2 ⊢
    exact LkS_pop (δ := δ) v2 h52
  · refine BL_cp (S := Se) (fun a i q => uI_ne (by omega)) (fun r c' hc => ?_)
    have Fa : FLk pl S Sa p e γ.length := FLk_wk c3 (by omega) (by omega) (Nat.le_refl _)
    rcases List.mem_cons.mp hc with rfl | hc
    · trivial
    rcases List.mem_append.mp hc with hc | hc
    · exact BL_fl T w1 (OKs_fl Fd o2) v3 (Or.inl (by omega)) (by omega) hem (BL_fl T w1 (OKs_fl Fc o2) u3 (Or.inl (by omega)) (by omega) (by omega) (BL_fl T w1 (OKs_fl Fb o2) g3 (Or.inl (by omega)) (by omega) (by omega) (BL_fl T w1 (OKs_fl Fa o2) k3 (Or.inr (by omega)) (by omega) (by omega) c4))) r c' hc
    rcases List.mem_append.mp hc with hc | hc
    · exact BL_fl T w2 (OKs_fl Fd o3) v3 (Or.inl (by omega)) (by omega) hem (BL_fl T w2 (OKs_fl Fc o3) u3 (Or.inl (by omega)) (by omega) (by omega) g4) _ c' hc
    rcases List.mem_append.mp hc with hc | hc
    · exact BL_fl T w3 (OKs_fl Fd o4) v3 (Or.inl (by omega)) (by omega) hem u4 _ c' hc
    · exact v4 _ c' hc
def LkA (K pl : Nat → Nat) (V : Nat → Int64) (m fu fr : Nat) (ft : List (Nat × Nat)) (W : Nat → Int32 × Int32 × Int32) (lo hi rlo rhi : Nat) (ν : Nat → Nat) (x : TR) (p e md : Nat) : Prop := e ≤ m → ((∃ c f, x = .tag c f) → LXh K pl V fu fr ft W lo hi rlo rhi ν x p e) ∧ (LL x → x ≠ .nil → md = 101 → LAh K pl V fu fr ft W lo hi rlo rhi ν x p e) ∧ (LL x → x ≠ .nil → md = 102 → LFh K pl V fu fr ft W lo hi rlo rhi ν x p e ∧ LNh K pl V fu fr ft W lo hi rlo rhi ν x p e)
theorem LkA_x {c : Nat} {f : TR} {p e md : Nat} (h : e ≤ m → LXh K pl V fu fr ft W lo hi rlo rhi ν (.tag c f) p e) : LkA K pl V m fu fr ft W lo hi rlo rhi ν (.tag c f) p e md := fun he => ⟨fun _ => h he, fun z => (show False from z).elim, fun z => (show False from z).elim⟩
theorem lk_all (T : TH K pl V m) (hfu : 600 ≤ fu) (hhi : hi ≤ 1200 ∧ 75 * fr ≤ lo ∧ hi ≤ 75 * fr + 600) (hrh : rhi ≤ 1200) (hft : ∀ j b, b ∈ (pmF V ft j).getD [] → Nam (V b)) {x : TR} {p e md : Nat} (w : Wt K x p e md) : LkA K pl V m fu fr ft W lo hi rlo rhi ν x p e md := by
  have hm := T.m_
  refine Wt_ind (K := K) (P := fun x p e md => LkA K pl V m fu fr ft W lo hi rlo rhi ν x p e md) ?_ ?_ ?_ ?_ ?_ ?_ ?_ ?_ ?_ ?_ ?_ ?_ ?_ ?_ ?_ (tsz x) x p e md (Nat.le_refl _) w
  · intro p md _; exact LkA_x (fun _ => lx_1 hhi p)
  · intro p md _; exact LkA_x (fun _ => lx_2 hhi p)
  · intro p md hK; exact LkA_x (fun he => lx_3 T hfu hhi (by omega) hK)
  · intro p md hK; exact LkA_x (fun he => lx_4 T hfu hhi hft hK (Nat.le_refl (p + 2)) rfl he (by show 0 ≤ 500; omega) rfl List.mem_cons_self (la_nil hfu _ _))
  · intro p as b md hK hnn w1 ih
    refine LkA_x (fun he d S γ f hd hγ H o wo => ?_)
    have l1 := Wt_lt w1
    have t1 := tln_le w1
    obtain ⟨⟨⟨_, _, _, _, _, hL⟩, _⟩, _⟩ := fm_c.mp o
    exact lx_4 T hfu hhi hft hK (by omega) rfl he (by omega) (rts_LL as hL) List.mem_cons_self ((ih (by omega)).2.1 hL hnn rfl) d S γ f hd hγ H o wo
  · intro p x y b e md hK w1 w2 i1 i2
    have l2 := Wt_lt w2
    exact LkA_x (fun he => lx_5 T hfu hhi hK w1 w2 he ((i1 (by omega)).1 (Wt_tag w1)) ((i2 he).1 (Wt_tag w2)))
  · intro p x y z b c e md w1 w2 w3 i1 i2 i3
    have l2 := Wt_lt w2
    have l3 := Wt_lt w3
    exact LkA_x (fun he => lx_6 T hhi w1 w2 w3 he ((i1 (by omega)).1 (Wt_tag w1)) ((i2 (by omega)).1 (Wt_tag w2)) ((i3 he).1 (Wt_tag w3)))
  · intro p fs c ns g b d f e md hfs hns w1 w2 w3 w4 i1 i2 i3 i4
    have l2 := Wt_lt w2
    have l3 := Wt_lt w3
    have l4 := Wt_lt w4
    exact LkA_x (fun he => lx_7 T hfu hhi hrh hfs w1 w2 w3 w4 he (fun hL => ((i1 (by omega)).2.2 hL hfs rfl).1) ((i2 (by omega)).1 (Wt_tag w2)) (fun hL => ((i3 (by omega)).2.2 hL hns rfl).2) ((i4 he).1 (Wt_tag w4)))
  · intro p x e md hK w1 ih
    exact LkA_x (fun he => lx_8 T hhi w1 he hK ((ih he).1 (Wt_tag w1)))
  · intro p j x y e md hK w1 w2 i1 i2
    have l2 := Wt_lt w2
    exact LkA_x (fun he => lx_9 T hhi w1 w2 he hK ((i1 (by omega)).1 (Wt_tag w1)) ((i2 he).1 (Wt_tag w2)))
  · intro p j x y b md w1 w2 i1 i2
    have l2 := Wt_lt w2
    exact LkA_x (fun he => lx_10 T hhi w1 w2 he ((i1 (by omega)).1 (Wt_tag w1)) ((i2 (by omega)).1 (Wt_tag w2)))
  · intro p x y b e md hK hK3 w1 w2 i1 i2
    have l2 := Wt_lt w2
    exact LkA_x (fun he => lx_11 T hfu hhi hrh hK hK3 w1 w2 he ((i1 (by omega)).1 (Wt_tag w1)) ((i2 he).1 (Wt_tag w2)))
  · intro p x b md w1 ih
    exact LkA_x (fun he => lx_12 hhi w1 ((ih (by omega)).1 (Wt_tag w1)))
  · intro p x b md hmd hK w1 ih he
    refine ⟨(fun ⟨c, f, h⟩ => by cases h), fun _ _ h1 => ?_, fun _ _ h1 => ?_⟩
    · subst h1
      exact la_cons T hfu hhi hrh w1 (Nat.le_refl _) (Nat.le_refl _) he ((ih he).1 (Wt_tag w1)) (la_nil hfu _ _)
    · subst h1
      have w1 : Wt K x (p + 2) b 0 := w1
      exact ⟨lf_cons T hfu hhi hrh (hK rfl) w1 (Nat.le_refl _) (Nat.le_refl _) he ((ih he).1 (Wt_tag w1)) (lf_nil _ _), ln_cons T hfu hhi hrh (hK rfl) w1 (Nat.le_refl _) (Nat.le_refl _) he ((ih he).1 (Wt_tag w1)) (ln_nil _ _)⟩
  · intro p x l b e md hmd hK hl w1 w2 i1 i2 he
    have l2 := Wt_lt w2
    refine ⟨(fun ⟨c, f, h⟩ => by cases h), fun hL _ h1 => ?_, fun hL _ h1 => ?_⟩
    · subst h1
      exact la_cons T hfu hhi hrh w1 (show b ≤ b + 1 by omega) (by omega) he ((i1 (by omega)).1 (Wt_tag w1)) ((i2 he).2.1 hL hl rfl)
    · subst h1
      have w1 : Wt K x (p + 2) b 0 := w1
      obtain ⟨j1, j2⟩ := (i2 he).2.2 hL hl rfl
      exact ⟨lf_cons T hfu hhi hrh (hK rfl) w1 (show b ≤ b + 1 by omega) (by omega) he ((i1 (by omega)).1 (Wt_tag w1)) j1, ln_cons T hfu hhi hrh (hK rfl) w1 (show b ≤ b + 1 by omega) (by omega) he ((i1 (by omega)).1 (Wt_tag w1)) j2⟩
end LKA
