/-! one turn of the law, written by program (wip/whole/lawgen.py) -/
/-- one call of the script (its ten ints c): class and reference go through it, answer alike, and leave S' -/
def lw_step (fu : Nat) (c : Nat → Int32) (S S' : im_S) : Prop := if (c 0 &&& 15) = (0 : Int32) then (∃ (r1 : Int32) (S1 : im_S) (r2 : Int32) (S2 : im_S), f_X10_type fu ((((c 1).toInt64) <<< ((32 : Int32).toInt64 &&& 63)) ||| (((c 2).toInt64) &&& 4294967295)) (c 3) S = some (r1, S1) ∧ f_X11_type fu ((((c 1).toInt64) <<< ((32 : Int32).toInt64 &&& 63)) ||| (((c 2).toInt64) &&& 4294967295)) (c 3) S1 = some (r2, S2) ∧ ((r1 : Int32) = r2) ∧ S2 = S') else (if (c 0 &&& 15) = (1 : Int32) then (∃ (o1 : String ⊕ Int32) (S1 : im_S) (r2 : Int32) (S2 : im_S) (r3 : Int32) (S3 : im_S), f_X10_compile fu  S = some (o1, S1) ∧ (∀ E, o1 = .inl E → E = xIAE) ∧ f_X11_compile fu  (hs_compile o1 S1) = some (r2, S2) ∧ f_X11_thrown  S2 = some (r3, S3) ∧ ((r3 : Int32) = (hk_compile o1)) ∧ ((¬ ((hk_compile o1 : Int32) ≠ 0)) → (lg_cmp (S3.2.1 134 (0 : Int32).toNatClampNeg) r2.toInt64 : Int32) = 0) ∧ gP S ≤ gP S1 ∧ gP S1 ≤ gP S' ∧ S3 = S') else (if (c 0 &&& 15) = (2 : Int32) then (∃ (r1 : Int32) (S1 : im_S) (r2 : Int32) (S2 : im_S), f_X10_fault (c 1) S = some (r1, S1) ∧ f_X11_fault (c 1) S1 = some (r2, S2) ∧ ((r1 : Int32) = r2) ∧ S2 = S') else (if (c 0 &&& 15) = (3 : Int32) then (∃ (r1 : Int32) (S1 : im_S) (r2 : Int32) (S2 : im_S), f_X10_start fu (c 1) ((((c 2).toInt64) <<< ((32 : Int32).toInt64 &&& 63)) ||| (((c 3).toInt64) &&& 4294967295)) ((((c 4).toInt64) <<< ((32 : Int32).toInt64 &&& 63)) ||| (((c 5).toInt64) &&& 4294967295)) ((((c 6).toInt64) <<< ((32 : Int32).toInt64 &&& 63)) ||| (((c 7).toInt64) &&& 4294967295)) ((((c 8).toInt64) <<< ((32 : Int32).toInt64 &&& 63)) ||| (((c 9).toInt64) &&& 4294967295)) S = some (r1, S1) ∧ f_X11_start fu (c 1) ((((c 2).toInt64) <<< ((32 : Int32).toInt64 &&& 63)) ||| (((c 3).toInt64) &&& 4294967295)) ((((c 4).toInt64) <<< ((32 : Int32).toInt64 &&& 63)) ||| (((c 5).toInt64) &&& 4294967295)) ((((c 6).toInt64) <<< ((32 : Int32).toInt64 &&& 63)) ||| (((c 7).toInt64) &&& 4294967295)) ((((c 8).toInt64) <<< ((32 : Int32).toInt64 &&& 63)) ||| (((c 9).toInt64) &&& 4294967295)) S1 = some (r2, S2) ∧ ((r1 : Int32) = r2) ∧ gP S ≤ gP S1 ∧ gP S1 ≤ gP S' ∧ S2 = S') else (if (c 0 &&& 15) = (4 : Int32) then (∃ (o1 : String ⊕ Int32) (S1 : im_S) (r2 : Int32) (S2 : im_S) (r3 : Int32) (S3 : im_S), f_X10_fire fu (c 1) ((((c 2).toInt64) <<< ((32 : Int32).toInt64 &&& 63)) ||| (((c 3).toInt64) &&& 4294967295)) S = some (o1, S1) ∧ (∀ E, o1 = .inl E → E = xISE ∨ E = xIAE ∨ E = xAE) ∧ f_X11_fire (c 1) ((((c 2).toInt64) <<< ((32 : Int32).toInt64 &&& 63)) ||| (((c 3).toInt64) &&& 4294967295)) (hs_fire o1 S1) = some (r2, S2) ∧ f_X11_thrown  S2 = some (r3, S3) ∧ ((r3 : Int32) = (hk_fire o1)) ∧ ((¬ ((hk_fire o1 : Int32) ≠ 0)) → (lg_cmp (S3.2.1 134 (0 : Int32).toNatClampNeg) r2.toInt64 : Int32) = 0) ∧ gP S ≤ gP S1 ∧ gP S1 ≤ gP S' ∧ S3 = S') else (if (c 0 &&& 15) = (5 : Int32) then (∃ (r1 : Int32) (S1 : im_S) (r2 : Int32) (S2 : im_S), f_X10_state  S = some (r1, S1) ∧ f_X11_state  S1 = some (r2, S2) ∧ ((r1 : Int32) = r2) ∧ S2 = S') else (if (c 0 &&& 15) = (6 : Int32) then (∃ (r1 : Int32) (S1 : im_S) (r2 : Int32) (S2 : im_S), f_X10_kind  S = some (r1, S1) ∧ f_X11_kind  S1 = some (r2, S2) ∧ ((r1 : Int32) = r2) ∧ S2 = S') else (if (c 0 &&& 15) = (7 : Int32) then (∃ (o1 : String ⊕ Int64) (S1 : im_S) (r2 : Int64) (S2 : im_S) (r3 : Int32) (S3 : im_S), f_X10_valueL  S = some (o1, S1) ∧ (∀ E, o1 = .inl E → E = xNSE) ∧ f_X11_value  (hs_value o1 S1) = some (r2, S2) ∧ f_X11_thrown  S2 = some (r3, S3) ∧ ((r3 : Int32) = (hk_value o1)) ∧ ((¬ ((hk_value o1 : Int32) ≠ 0)) → (lg_cmp (S3.2.1 134 (0 : Int32).toNatClampNeg) r2 : Int32) = 0) ∧ gP S ≤ gP S1 ∧ gP S1 ≤ gP S' ∧ S3 = S') else (if (c 0 &&& 15) = (8 : Int32) then (∃ (o1 : String ⊕ Int64) (S1 : im_S) (r2 : Int64) (S2 : im_S) (r3 : Int32) (S3 : im_S), f_X10_cellL (c 1) (c 2) S = some (o1, S1) ∧ (∀ E, o1 = .inl E → E = xNSE) ∧ f_X11_cell (c 1) (c 2) (hs_cell o1 S1) = some (r2, S2) ∧ f_X11_thrown  S2 = some (r3, S3) ∧ ((r3 : Int32) = (hk_cell o1)) ∧ ((¬ ((hk_cell o1 : Int32) ≠ 0)) → (lg_cmp (S3.2.1 134 (0 : Int32).toNatClampNeg) r2 : Int32) = 0) ∧ gP S ≤ gP S1 ∧ gP S1 ≤ gP S' ∧ S3 = S') else (if (c 0 &&& 15) = (9 : Int32) then (∃ (r1 : Int32) (S1 : im_S) (r2 : Int32) (S2 : im_S), f_X10_count (c 1) S = some (r1, S1) ∧ f_X11_count (c 1) S1 = some (r2, S2) ∧ ((r1 : Int32) = r2) ∧ S2 = S') else (S' = S))))))))))
def lw_B : Nat := 2228224
def lw_good (fu : Nat) : Nat → im_S → Prop
  | 0, _ => True
  | n + 1, S => ∀ c : Nat → Int32, ∃ S' : im_S, lw_step fu c S S' ∧ gP S ≤ gP S' ∧ gP S' ≤ lw_B ∧ lw_good fu n S'
set_option maxHeartbeats 4000000 in
set_option maxRecDepth 100000 in
theorem law_iter {p : Program} {l : Launch} {e : Env} {s : State} {m : MethodId} {below : List Frame} {meth : Method} {c0 : Code} {g : im_G} {ret : Option FieldType} {Q : State → Prop} {u v w k1 k2 : Nat} {ad : Nat → Nat} {bc bs : Nat} {b L : Nat} {xs : Nat → Int32} {c : Nat → Int32} {i : Int32} (hlT : l.stackTraces = false) (hZ : ∀ V, g.2.2.2 V → im_Zs g V) (hZt : ∀ V, g.2.2.2 V → im_Zt g V) {q1 q2 : Nat} (hZu : ∀ V, g.2.2.2 V → im_Zu q1 q2 g V) (X : im_X p l s m #[Value.ref b] meth c0 g cL_law 8 RL ret) (hX : va_X b L xs s s.heap) (hbl : b < s.heap.size) (hbA : ¬ im_A g b) (hin : ∀ j : Nat, j < 10 → vp_in (i + nI j) L) (hc : ∀ j : Nat, j < 10 → xs (i + nI j).toNatClampNeg = c j) (hi0 : i + nI 0 = i) (fu : Nat) {S S' : im_S} (hm : lw_step fu c S S') (hp1 : gP S ≤ gP S') (hp2 : gP S' ≤ lw_B) (b1 : (lw_B - gP S) / 64 + (k1 + 1) ≤ bc) (b2 : 2 * lw_B + (k2 + 6) ≤ 2 * gP S + bs) (kk : ∀ (ad : Nat → Nat) (bc bs : Nat), (lw_B - gP S') / 64 + k1 ≤ bc → 2 * lw_B + k2 ≤ 2 * gP S' + bs → im_V p l e room_1 s m #[Value.ref b] below meth c0 g 8 Q (fx u v w ad) im_N (im_cn g (fx u v w ad) S') bc bs 704 [(0, .ref b), (1, .ref (fx u v w ad 0)), (2, .ref (fx u v w ad 75)), (3, .ref (fx u v w ad 134)), (4, .int i)] []) : im_V p l e room_1 s m #[Value.ref b] below meth c0 g 8 Q (fx u v w ad) im_N (im_cn g (fx u v w ad) S) bc bs 33 [(0, .ref b), (1, .ref (fx u v w ad 0)), (2, .ref (fx u v w ad 75)), (3, .ref (fx u v w ad 134)), (4, .int i)] [] := by
  have hn0 : vp_in i L := by have := hin 0 (by decide); rw [hi0] at this; exact this
  have hx0 : xs i.toNatClampNeg = c 0 := by have := hc 0 (by decide); rw [hi0] at this; exact this
  unfold lw_step at hm
  refine iv_aload_n (pc := 33) X dL_law_33 rfl ?_
  refine iv_iload (pc := 34) X dL_law_34 rfl ?_
  refine iv_sld (pc := 36) X hX hbl hbA dL_law_36 hn0 hx0 ?_
  refine iv_bipush (pc := 37) X dL_law_37 bc_15 ?_
  refine iv_iand (pc := 39) X dL_law_39 ?_
  by_cases hb0 : (c 0 &&& 15) = (0 : Int32)
  · rw [if_pos hb0] at hm
    obtain ⟨r1, S1, r2, S2, h1, h2, hq1, rfl⟩ := hm
    refine iv_tableIn (pc := 40) X dL_law_40 (off := 56) (tgt := 96) (by rw [hb0]; decide) (by rw [hb0]; decide) (by rw [hb0]; decide) (by decide) ?_
    exact law_0 (B := 0) (k1 := 0) (k2 := 0) hlT hZ hZt hZu X hX hbl hbA hin hc fu h1 h2 hq1 (kk ad bc bs (by omega) (by omega))
  · rw [if_neg hb0] at hm
    by_cases hb1 : (c 0 &&& 15) = (1 : Int32)
    · rw [if_pos hb1] at hm
      obtain ⟨o1, S1, r2, S2, r3, S3, h1, he1, h2, h3, hq1, hq3, m1, m2, rfl⟩ := hm
      refine iv_tableIn (pc := 40) X dL_law_40 (off := 125) (tgt := 165) (by rw [hb1]; decide) (by rw [hb1]; decide) (by rw [hb1]; decide) (by decide) ?_
      exact law_1 hlT hZ hZt hZu X hX hbl hbA hin hc fu h1 he1 h2 h3 hq1 hq3 m1 (Nat.le_trans m2 hp2) b1 b2 (fun ad bc bs b1 b2 => kk ad bc bs (by omega) (by omega))
    · rw [if_neg hb1] at hm
      by_cases hb2 : (c 0 &&& 15) = (2 : Int32)
      · rw [if_pos hb2] at hm
        obtain ⟨r1, S1, r2, S2, h1, h2, hq1, rfl⟩ := hm
        refine iv_tableIn (pc := 40) X dL_law_40 (off := 169) (tgt := 209) (by rw [hb2]; decide) (by rw [hb2]; decide) (by rw [hb2]; decide) (by decide) ?_
        exact law_2 (B := 0) (k1 := 0) (k2 := 0) hlT hZ hZt hZu X hX hbl hbA hin hc fu h1 h2 hq1 (kk ad bc bs (by omega) (by omega))
      · rw [if_neg hb2] at hm
        by_cases hb3 : (c 0 &&& 15) = (3 : Int32)
        · rw [if_pos hb3] at hm
          obtain ⟨r1, S1, r2, S2, h1, h2, hq1, m1, m2, rfl⟩ := hm
          refine iv_tableIn (pc := 40) X dL_law_40 (off := 194) (tgt := 234) (by rw [hb3]; decide) (by rw [hb3]; decide) (by rw [hb3]; decide) (by decide) ?_
          exact law_3 hlT hZ hZt hZu X hX hbl hbA hin hc fu h1 h2 hq1 m1 (Nat.le_trans m2 hp2) b1 b2 (fun ad bc bs b1 b2 => kk ad bc bs (by omega) (by omega))
        · rw [if_neg hb3] at hm
          by_cases hb4 : (c 0 &&& 15) = (4 : Int32)
          · rw [if_pos hb4] at hm
            obtain ⟨o1, S1, r2, S2, r3, S3, h1, he1, h2, h3, hq1, hq3, m1, m2, rfl⟩ := hm
            refine iv_tableIn (pc := 40) X dL_law_40 (off := 403) (tgt := 443) (by rw [hb4]; decide) (by rw [hb4]; decide) (by rw [hb4]; decide) (by decide) ?_
            exact law_4 hlT hZ hZt hZu X hX hbl hbA hin hc fu h1 he1 h2 h3 hq1 hq3 m1 (Nat.le_trans m2 hp2) b1 b2 (fun ad bc bs b1 b2 => kk ad bc bs (by omega) (by omega))
          · rw [if_neg hb4] at hm
            by_cases hb5 : (c 0 &&& 15) = (5 : Int32)
            · rw [if_pos hb5] at hm
              obtain ⟨r1, S1, r2, S2, h1, h2, hq1, rfl⟩ := hm
              refine iv_tableIn (pc := 40) X dL_law_40 (off := 503) (tgt := 543) (by rw [hb5]; decide) (by rw [hb5]; decide) (by rw [hb5]; decide) (by decide) ?_
              exact law_5 (B := 0) (k1 := 0) (k2 := 0) hlT hZ hZt hZu X hX hbl hbA hin hc fu h1 h2 hq1 (kk ad bc bs (by omega) (by omega))
            · rw [if_neg hb5] at hm
              by_cases hb6 : (c 0 &&& 15) = (6 : Int32)
              · rw [if_pos hb6] at hm
                obtain ⟨r1, S1, r2, S2, h1, h2, hq1, rfl⟩ := hm
                refine iv_tableIn (pc := 40) X dL_law_40 (off := 516) (tgt := 556) (by rw [hb6]; decide) (by rw [hb6]; decide) (by rw [hb6]; decide) (by decide) ?_
                exact law_6 (B := 0) (k1 := 0) (k2 := 0) hlT hZ hZt hZu X hX hbl hbA hin hc fu h1 h2 hq1 (kk ad bc bs (by omega) (by omega))
              · rw [if_neg hb6] at hm
                by_cases hb7 : (c 0 &&& 15) = (7 : Int32)
                · rw [if_pos hb7] at hm
                  obtain ⟨o1, S1, r2, S2, r3, S3, h1, he1, h2, h3, hq1, hq3, m1, m2, rfl⟩ := hm
                  refine iv_tableIn (pc := 40) X dL_law_40 (off := 529) (tgt := 569) (by rw [hb7]; decide) (by rw [hb7]; decide) (by rw [hb7]; decide) (by decide) ?_
                  exact law_7 hlT hZ hZt hZu X hX hbl hbA hin hc fu h1 he1 h2 h3 hq1 hq3 m1 (Nat.le_trans m2 hp2) b1 b2 (fun ad bc bs b1 b2 => kk ad bc bs (by omega) (by omega))
                · rw [if_neg hb7] at hm
                  by_cases hb8 : (c 0 &&& 15) = (8 : Int32)
                  · rw [if_pos hb8] at hm
                    obtain ⟨o1, S1, r2, S2, r3, S3, h1, he1, h2, h3, hq1, hq3, m1, m2, rfl⟩ := hm
                    refine iv_tableIn (pc := 40) X dL_law_40 (off := 572) (tgt := 612) (by rw [hb8]; decide) (by rw [hb8]; decide) (by rw [hb8]; decide) (by decide) ?_
                    exact law_8 hlT hZ hZt hZu X hX hbl hbA hin hc fu h1 he1 h2 h3 hq1 hq3 m1 (Nat.le_trans m2 hp2) b1 b2 (fun ad bc bs b1 b2 => kk ad bc bs (by omega) (by omega))
                  · rw [if_neg hb8] at hm
                    by_cases hb9 : (c 0 &&& 15) = (9 : Int32)
                    · rw [if_pos hb9] at hm
                      obtain ⟨r1, S1, r2, S2, h1, h2, hq1, rfl⟩ := hm
                      refine iv_tableIn (pc := 40) X dL_law_40 (off := 639) (tgt := 679) (by rw [hb9]; decide) (by rw [hb9]; decide) (by rw [hb9]; decide) (by decide) ?_
                      exact law_9 (B := 0) (k1 := 0) (k2 := 0) hlT hZ hZt hZu X hX hbl hbA hin hc fu h1 h2 hq1 (kk ad bc bs (by omega) (by omega))
                    · rw [if_neg hb9] at hm
                      have k0 := sw_ne hb0 (n := 0) (by decide)
                      have k1 := sw_ne hb1 (n := 1) (by decide)
                      have k2 := sw_ne hb2 (n := 2) (by decide)
                      have k3 := sw_ne hb3 (n := 3) (by decide)
                      have k4 := sw_ne hb4 (n := 4) (by decide)
                      have k5 := sw_ne hb5 (n := 5) (by decide)
                      have k6 := sw_ne hb6 (n := 6) (by decide)
                      have k7 := sw_ne hb7 (n := 7) (by decide)
                      have k8 := sw_ne hb8 (n := 8) (by decide)
                      have k9 := sw_ne hb9 (n := 9) (by decide)
                      refine iv_tableOut (pc := 40) X dL_law_40 (tgt := 704) (by omega) (by decide) ?_
                      subst hm
                      exact kk ad bc bs (by omega) (by omega)
