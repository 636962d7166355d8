/-! the law's loop: as many good calls as the script can hold -/
section LWL
variable {p : Program} {l : Launch} {e : Env} {s : State} {m : MethodId} {below : List Frame} {meth : Method} {c0 : Code} {g : im_G} {u v w : Nat} {b L : Nat} {xs : Nat → Int32}
theorem iv_lawend {ad : Nat → Nat} {nn : Nat} {cn : Nat → va_E} {bc bs : Nat} {lv : List (Nat × Value)} (X : im_X p l s m #[Value.ref b] meth c0 g cL_law 8 RL ret) (hg : g.2.2.1 = s.heap) : im_V p l e room_1 s m #[Value.ref b] below meth c0 g 8 (lw_Z below #[Value.ref b] s) ad nn cn bc bs 711 lv [.int 1] := by
  intro M hM ls H locs cells slots hl hP hD hS h1 h2
  refine va_forget (fun q hq => ?_) ?_
  · have : im_A g q.base := hS.2.2 q hq
    unfold im_A at this
    rw [hg] at this
    exact this
  have h1' : cells + bc = room_1.cells := h1
  have h2' : slots + bs = room_1.slots := h2
  refine W.widen (k := room_1.cells) (n := room_1.slots) (by omega) (by omega) ?_
  exact lw_ret X.1 X.2.1 X.2.2.2.2.2.2.2.2.2.1 X.2.2.2.2.2.2.2.2.2.2 dL_law_711
theorem lw_cmp {L k : Nat} (hL : L < 2 ^ 29) (hk : 10 * k < 2 ^ 29) : (Int32.ofNat L - 10 < nI (10 * k)) ↔ L < 10 * k + 10 := by
  have h1 : (nI L - nI 10).toInt = (L : Int) - 10 := pk_sub_toInt (by omega) (by omega)
  have h2 : (nI (10 * k)).toInt = ((10 * k : Nat) : Int) := nI_toInt (by omega)
  rw [Int32.lt_iff_toInt_lt, h2]
  show (nI L - nI 10).toInt < _ ↔ _
  rw [h1]
  omega
set_option maxHeartbeats 4000000 in
set_option maxRecDepth 100000 in
theorem law_loop (hL : L ≤ 5120) (hlT : l.stackTraces = false) (hZ : ∀ V, g.2.2.2 V → im_Zs g V) (hZt : ∀ V, g.2.2.2 V → im_Zt g V) {q1 q2 : Nat} (hZu : ∀ V, g.2.2.2 V → im_Zu q1 q2 g V) (X : im_X p l s m #[Value.ref b] meth c0 g cL_law 8 RL ret) (hg : g.2.2.1 = s.heap) (hX : va_X b L xs s s.heap) (hbl : b < s.heap.size) (hbA : ¬ im_A g b) (fu : Nat) :
    ∀ (n k : Nat) (S : im_S) (i : Int32) (ad : Nat → Nat) (bc bs : Nat), lw_good fu n S → i = nI (10 * k) → 10 * k ≤ L + 10 → L < 10 * (k + n) + 10 → (lw_B - gP S) / 64 + n ≤ bc → 2 * lw_B + 6 * n ≤ 2 * gP S + bs →
      im_V p l e room_1 s m #[Value.ref b] below meth c0 g 8 (lw_Z below #[Value.ref b] s) (fx u v w ad) im_N (im_cn g (fx u v w ad) S) bc bs 23 [(0, .ref b), (1, .ref (fx u v w ad 0)), (2, .ref (fx u v w ad 75)), (3, .ref (fx u v w ad 134)), (4, .int i)] [] := by
  intro n
  induction n with
  | zero =>
    intro k S i ad bc bs _ ei hk hn _ _
    subst ei
    refine iv_iload (pc := 23) X dL_law_23 rfl ?_
    refine iv_aload_n (pc := 25) X dL_law_25 rfl ?_
    refine iv_slen (pc := 26) X hX hbl hbA dL_law_26 ?_
    refine iv_bipush (pc := 27) X dL_law_27 bc_10 ?_
    refine iv_isub (pc := 29) X dL_law_29 ?_
    refine iv_icmp_gt (pc := 30) X dL_law_30 (tgt := 710) rfl (fun _ => ?_) (fun hb => absurd ((lw_cmp (by omega) (by omega)).mpr (by omega)) hb)
    refine iv_iconst (pc := 710) X dL_law_710 ic_1 ?_
    exact iv_lawend X hg
  | succ n ih =>
    intro k S i ad bc bs hgd ei hk hn hbc hbs
    subst ei
    refine iv_iload (pc := 23) X dL_law_23 rfl ?_
    refine iv_aload_n (pc := 25) X dL_law_25 rfl ?_
    refine iv_slen (pc := 26) X hX hbl hbA dL_law_26 ?_
    refine iv_bipush (pc := 27) X dL_law_27 bc_10 ?_
    refine iv_isub (pc := 29) X dL_law_29 ?_
    refine iv_icmp_gt (pc := 30) X dL_law_30 (tgt := 710) rfl (fun _ => ?_) (fun hb => ?_)
    · refine iv_iconst (pc := 710) X dL_law_710 ic_1 ?_
      exact iv_lawend X hg
    · have hlt : 10 * k + 10 ≤ L := by
        rcases Nat.lt_or_ge L (10 * k + 10) with q | q
        · exact absurd ((lw_cmp (by omega) (by omega)).mpr q) hb
        · exact q
      obtain ⟨S', hst, hp1, hp2, hgd'⟩ := hgd (fun j => xs (10 * k + j))
      refine law_iter (k1 := n) (k2 := 6 * n) hlT hZ hZt hZu X hX hbl hbA (fun j hj => ?_) (fun j hj => ?_) (nI_add (10 * k) 0) fu hst hp1 hp2 (by omega) (by omega) (fun ad bc' bs' h1 h2 => ?_)
      · rw [nI_add]; exact vp_in_nI (by omega) (by omega)
      · rw [nI_add, nI_clamp (by omega)]
      · refine iv_iinc (pc := 704) X dL_law_704 rfl (by decide) (v := nI (10 * (k + 1))) (show nI (10 * k) + nI 10 = _ by rw [nI_add]; rfl) (lv' := [(4, .int (nI (10 * (k + 1)))), (0, .ref b), (1, .ref (fx u v w ad 0)), (2, .ref (fx u v w ad 75)), (3, .ref (fx u v w ad 134))]) rfl ?_
        refine iv_goto (pc := 707) X dL_law_707 (tgt := 23) rfl ?_
        refine iv_sub [1, 2, 3, 4, 0] (lv2 := [(0, .ref b), (1, .ref (fx u v w ad 0)), (2, .ref (fx u v w ad 75)), (3, .ref (fx u v w ad 134)), (4, .int (nI (10 * (k + 1))))]) rfl ?_
        exact ih (k + 1) S' _ ad bc' bs' hgd' rfl (by omega) (by omega) h1 h2
end LWL
