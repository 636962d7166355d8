/-! written by program (wip/whole/walk.py): methods as functions, and their contracts -/
def kh_lay (l : Launch) (g : im_G) (ad : Nat → Nat) (K : Nat → Int32 → Int32 → im_S → Option (Int32 × im_S)) (dk : Nat) : Prop := (∀ (a b : Int32) (S : im_S) (r : Int32) (S' : im_S), K 0 a b S = some (r, S') → im_E l g ad dk yX11_lay cX11_lay 4 none [.ref (ad 75), .int a, .int b] S none S') ∧ (∀ (a b : Int32) (S : im_S) (r : Int32) (S' : im_S), K 1 a b S = some (r, S') → im_E l g ad dk yX11_opened cX11_opened 3 (some Jvm.ClassFile.FieldType.int) [.ref (ad 75), .int a] S (some (.int r)) S')
def f_X11_lay_L261 (K : Nat → Int32 → Int32 → im_S → Option (Int32 × im_S)) (fu : Nat) : Nat → Int32 → Int32 → Int32 → im_S → Option (Unit × im_S)
  | 0, _, _, _, _ => none
  | nf + 1, z1, z2, z3, S => gd (in_b z1 1200) (if ((S.1 90) z1.toNatClampNeg : Int32) ≤ z3 then (gd (in_b z1 1200) (gd (in_b z2 640) (gd (in_b z1 1200) (gd (in_b z2 640) (gd (in_b z2 640) (gd (in_b z1 1200) (gd (in_b z2 640) (if ((S.1 107) z2.toNatClampNeg : Int32) ≠ (-1) then (gd (in_b z2 640) (gd (in_b ((S.1 109) z2.toNatClampNeg) 1200) (gd (in_b z2 640) (some ((), (uI (uI (uI (uI (uI (uI S 103 z1.toNatClampNeg z2) 104 z1.toNatClampNeg ((S.1 106) z2.toNatClampNeg)) 106 z2.toNatClampNeg (((S.1 106) z2.toNatClampNeg) + 1)) 108 z1.toNatClampNeg (-1)) 108 (((S.1 109) z2.toNatClampNeg).toNatClampNeg) z1) 109 z2.toNatClampNeg z1)))))) else (gd (in_b z2 640) (gd (in_b z2 640) (some ((), (uI (uI (uI (uI (uI (uI S 103 z1.toNatClampNeg z2) 104 z1.toNatClampNeg ((S.1 106) z2.toNatClampNeg)) 106 z2.toNatClampNeg (((S.1 106) z2.toNatClampNeg) + 1)) 108 z1.toNatClampNeg (-1)) 107 z2.toNatClampNeg z1) 109 z2.toNatClampNeg z1))))))))))))) else (gd (in_b z1 1200) (gd (in_b (((S.1 89) z1.toNatClampNeg) + z3) 1200) ((K 0 ((S.1 95) ((((S.1 89) z1.toNatClampNeg) + z3).toNatClampNeg)) z2 S).bind (fun qS3 => f_X11_lay_L261 K fu nf z1 z2 (z3 + 1) qS3.2)))))
set_option maxHeartbeats 4000000 in
set_option maxRecDepth 100000 in
theorem f_X11_lay_L261_w {l : Launch} {g : im_G} {ad : Nat → Nat} (K : Nat → Int32 → Int32 → im_S → Option (Int32 × im_S)) {D dk : Nat} (hD1 : dk + 1 ≤ D) (hD2 : 1 ≤ D) (hK : kh_lay l g ad K dk) {fu : Nat} (l0 : Launch) (g0 : im_G) (ad0 : Nat → Nat) {p : Program} {e : Env} {s : State} {m : MethodId} {below : List Frame} {meth : Method} {c : Code} {args : Array Value} (X : im_X p l s m args meth c g cX11_lay 4 RX11 none) : ∀ (nf : Nat) (z1 : Int32) (z2 : Int32) (z3 : Int32) (S : im_S) (r : Unit) (S' : im_S), f_X11_lay_L261 K fu nf z1 z2 z3 S = some (r, S') → im_V p l e (im_R D 0 0) s m args below meth c g 4 (im_Z below g ad args s none S') ad im_N (im_cn g ad S) 0 0 261 [(0, .ref (ad 75)), (1, .int z1), (2, .int z2), (3, .int z3)] [] := by
  intro nf
  induction nf with
  | zero =>
    intro z1 z2 z3 S r S' hm
    cases hm
  | succ nf ih =>
    intro z1 z2 z3 S r S' hm
    unfold f_X11_lay_L261 at hm
    refine iv_iload_n (pc := 261) X dX11_lay_261 rfl ?_
    refine iv_aload_n (pc := 262) X dX11_lay_262 rfl ?_
    refine gF_X11_53_75 (pc := 263) X dX11_lay_263 ?_
    refine iv_iload_n (pc := 266) X dX11_lay_266 rfl ?_
    obtain ⟨hg, hm⟩ := gd_some hm
    refine aL_90 (pc := 267) X dX11_lay_267 hg (x := (S.1 90) z1.toNatClampNeg) rfl ?_
    refine iv_icmp_ge (pc := 268) X dX11_lay_268 (tgt := 295) rfl (fun hb1 => ?_) (fun hb1 => ?_)
    · rw [if_pos hb1] at hm
      refine iv_goto (pc := 295) X dX11_lay_295 (tgt := 320) rfl ?_
      refine iv_aload_n (pc := 320) X dX11_lay_320 rfl ?_
      refine gF_X11_92_75 (pc := 321) X dX11_lay_321 ?_
      refine iv_iload_n (pc := 324) X dX11_lay_324 rfl ?_
      refine iv_iload_n (pc := 325) X dX11_lay_325 rfl ?_
      obtain ⟨hg, hm⟩ := gd_some hm
      refine aS_103 (pc := 326) X dX11_lay_326 hg ?_
      refine iv_aload_n (pc := 327) X dX11_lay_327 rfl ?_
      refine gF_X11_95_75 (pc := 328) X dX11_lay_328 ?_
      refine iv_iload_n (pc := 331) X dX11_lay_331 rfl ?_
      refine iv_aload_n (pc := 332) X dX11_lay_332 rfl ?_
      refine gF_X11_101_75 (pc := 333) X dX11_lay_333 ?_
      refine iv_iload_n (pc := 336) X dX11_lay_336 rfl ?_
      obtain ⟨hg, hm⟩ := gd_some hm
      refine aL_106 (pc := 337) X dX11_lay_337 hg (x := (S.1 106) z2.toNatClampNeg) rfl ?_
      obtain ⟨hg, hm⟩ := gd_some hm
      refine aS_104 (pc := 338) X dX11_lay_338 hg ?_
      refine iv_aload_n (pc := 339) X dX11_lay_339 rfl ?_
      refine gF_X11_101_75 (pc := 340) X dX11_lay_340 ?_
      refine iv_iload_n (pc := 343) X dX11_lay_343 rfl ?_
      refine iv_dup2_11 (pc := 344) X dX11_lay_344 rfl rfl ?_
      obtain ⟨hg, hm⟩ := gd_some hm
      refine aL_106 (pc := 345) X dX11_lay_345 hg (x := (S.1 106) z2.toNatClampNeg) rfl ?_
      refine iv_iconst (pc := 346) X dX11_lay_346 ic_1 ?_
      refine iv_iadd (pc := 347) X dX11_lay_347 ?_
      obtain ⟨hg, hm⟩ := gd_some hm
      refine aS_106 (pc := 348) X dX11_lay_348 hg ?_
      refine iv_aload_n (pc := 349) X dX11_lay_349 rfl ?_
      refine gF_X11_107_75 (pc := 350) X dX11_lay_350 ?_
      refine iv_iload_n (pc := 353) X dX11_lay_353 rfl ?_
      refine iv_iconst (pc := 354) X dX11_lay_354 ic_m1 ?_
      obtain ⟨hg, hm⟩ := gd_some hm
      refine aS_108 (pc := 355) X dX11_lay_355 hg ?_
      refine iv_aload_n (pc := 356) X dX11_lay_356 rfl ?_
      refine gF_X11_104_75 (pc := 357) X dX11_lay_357 ?_
      refine iv_iload_n (pc := 360) X dX11_lay_360 rfl ?_
      obtain ⟨hg, hm⟩ := gd_some hm
      refine aL_107 (pc := 361) X dX11_lay_361 hg (x := (S.1 107) z2.toNatClampNeg) rfl ?_
      refine iv_iconst (pc := 362) X dX11_lay_362 ic_m1 ?_
      refine iv_icmp_ne (pc := 363) X dX11_lay_363 (tgt := 376) rfl (fun hb2 => ?_) (fun hb2 => ?_)
      · rw [if_pos hb2] at hm
        refine iv_aload_n (pc := 376) X dX11_lay_376 rfl ?_
        refine gF_X11_107_75 (pc := 377) X dX11_lay_377 ?_
        refine iv_aload_n (pc := 380) X dX11_lay_380 rfl ?_
        refine gF_X11_110_75 (pc := 381) X dX11_lay_381 ?_
        refine iv_iload_n (pc := 384) X dX11_lay_384 rfl ?_
        obtain ⟨hg, hm⟩ := gd_some hm
        refine aL_109 (pc := 385) X dX11_lay_385 hg (x := (S.1 109) z2.toNatClampNeg) rfl ?_
        refine iv_iload_n (pc := 386) X dX11_lay_386 rfl ?_
        obtain ⟨hg, hm⟩ := gd_some hm
        refine aS_108 (pc := 387) X dX11_lay_387 hg ?_
        refine iv_aload_n (pc := 388) X dX11_lay_388 rfl ?_
        refine gF_X11_110_75 (pc := 389) X dX11_lay_389 ?_
        refine iv_iload_n (pc := 392) X dX11_lay_392 rfl ?_
        refine iv_iload_n (pc := 393) X dX11_lay_393 rfl ?_
        obtain ⟨hg, hm⟩ := gd_some hm
        refine aS_109 (pc := 394) X dX11_lay_394 hg ?_
        cases hm
        exact is_vret (pc := 395) X dX11_lay_395
      · rw [if_neg hb2] at hm
        refine iv_aload_n (pc := 366) X dX11_lay_366 rfl ?_
        refine gF_X11_104_75 (pc := 367) X dX11_lay_367 ?_
        refine iv_iload_n (pc := 370) X dX11_lay_370 rfl ?_
        refine iv_iload_n (pc := 371) X dX11_lay_371 rfl ?_
        obtain ⟨hg, hm⟩ := gd_some hm
        refine aS_107 (pc := 372) X dX11_lay_372 hg ?_
        refine iv_goto (pc := 373) X dX11_lay_373 (tgt := 388) rfl ?_
        refine iv_aload_n (pc := 388) X dX11_lay_388 rfl ?_
        refine gF_X11_110_75 (pc := 389) X dX11_lay_389 ?_
        refine iv_iload_n (pc := 392) X dX11_lay_392 rfl ?_
        refine iv_iload_n (pc := 393) X dX11_lay_393 rfl ?_
        obtain ⟨hg, hm⟩ := gd_some hm
        refine aS_109 (pc := 394) X dX11_lay_394 hg ?_
        cases hm
        exact is_vret (pc := 395) X dX11_lay_395
    · rw [if_neg hb1] at hm
      refine iv_aload_n (pc := 271) X dX11_lay_271 rfl ?_
      refine iv_aload_n (pc := 272) X dX11_lay_272 rfl ?_
      refine gF_X11_68_75 (pc := 273) X dX11_lay_273 ?_
      refine iv_aload_n (pc := 276) X dX11_lay_276 rfl ?_
      refine gF_X11_50_75 (pc := 277) X dX11_lay_277 ?_
      refine iv_iload_n (pc := 280) X dX11_lay_280 rfl ?_
      obtain ⟨hg, hm⟩ := gd_some hm
      refine aL_89 (pc := 281) X dX11_lay_281 hg (x := (S.1 89) z1.toNatClampNeg) rfl ?_
      refine iv_iload_n (pc := 282) X dX11_lay_282 rfl ?_
      refine iv_iadd (pc := 283) X dX11_lay_283 ?_
      obtain ⟨hg, hm⟩ := gd_some hm
      refine aL_95 (pc := 284) X dX11_lay_284 hg (x := (S.1 95) ((((S.1 89) z1.toNatClampNeg) + z3).toNatClampNeg)) rfl ?_
      refine iv_iload_n (pc := 285) X dX11_lay_285 rfl ?_
      obtain ⟨⟨r4, S3⟩, hc5, hm⟩ := bd_some hm
      refine cV_X11_382_75 (pc := 286) X [.int ((S.1 95) ((((S.1 89) z1.toNatClampNeg) + z3).toNatClampNeg)), .int z2] [] 2 rfl (hK.1 ((S.1 95) ((((S.1 89) z1.toNatClampNeg) + z3).toNatClampNeg)) z2 S _ _ hc5) (by show (_ : Nat) ≤ D; omega) (by show (_ : Nat) ≤ 40 * D; omega) (Nat.le_of_ble_eq_true rfl) rfl dX11_lay_286 ?_
      refine iv_iinc (pc := 289) X dX11_lay_289 rfl (by decide) (v := z3 + 1) rfl (lv' := [(3, .int (z3 + 1)), (0, .ref (ad 75)), (1, .int z1), (2, .int z2)]) rfl ?_
      refine iv_goto (pc := 292) X dX11_lay_292 (tgt := 261) rfl ?_
      refine iv_sub [1, 2, 3, 0] (lv2 := [(0, .ref (ad 75)), (1, .int z1), (2, .int z2), (3, .int (z3 + 1))]) rfl ?_
      exact ih z1 z2 (z3 + 1) S3 _ _ hm
def f_X11_lay_L171 (K : Nat → Int32 → Int32 → im_S → Option (Int32 × im_S)) (fu : Nat) : Nat → Int32 → Int32 → Int32 → im_S → Option (Unit × im_S)
  | 0, _, _, _, _ => none
  | nf + 1, z1, z2, z3, S => gd (in_b z1 1200) (if ((S.1 92) z1.toNatClampNeg : Int32) ≤ z3 then (gd (in_b z1 1200) ((K 1 ((S.1 84) z1.toNatClampNeg) 0 S).bind (fun qS2 => gd (in_b z1 1200) (gd (in_b z1 1200) (gd (in_b z2 640) (gd (in_b z1 1200) (gd (in_b z2 640) (gd (in_b z2 640) (gd (in_b z1 1200) (gd (in_b z2 640) (if ((qS2.2.1 107) z2.toNatClampNeg : Int32) ≠ (-1) then (gd (in_b z2 640) (gd (in_b ((qS2.2.1 109) z2.toNatClampNeg) 1200) (gd (in_b z2 640) (some ((), (uI (uI (uI (uI (uI (uI (uI qS2.2 112 z1.toNatClampNeg qS2.1) 103 z1.toNatClampNeg z2) 104 z1.toNatClampNeg ((qS2.2.1 106) z2.toNatClampNeg)) 106 z2.toNatClampNeg (((qS2.2.1 106) z2.toNatClampNeg) + 1)) 108 z1.toNatClampNeg (-1)) 108 (((qS2.2.1 109) z2.toNatClampNeg).toNatClampNeg) z1) 109 z2.toNatClampNeg z1)))))) else (gd (in_b z2 640) (gd (in_b z2 640) (some ((), (uI (uI (uI (uI (uI (uI (uI qS2.2 112 z1.toNatClampNeg qS2.1) 103 z1.toNatClampNeg z2) 104 z1.toNatClampNeg ((qS2.2.1 106) z2.toNatClampNeg)) 106 z2.toNatClampNeg (((qS2.2.1 106) z2.toNatClampNeg) + 1)) 108 z1.toNatClampNeg (-1)) 107 z2.toNatClampNeg z1) 109 z2.toNatClampNeg z1)))))))))))))))) else (gd (in_b z1 1200) (gd (in_b (((S.1 91) z1.toNatClampNeg) + z3) 1200) (gd (in_b z1 1200) ((K 0 ((S.1 95) ((((S.1 91) z1.toNatClampNeg) + z3).toNatClampNeg)) ((S.1 111) z1.toNatClampNeg) S).bind (fun qS6 => f_X11_lay_L171 K fu nf z1 z2 (z3 + 1) qS6.2))))))
set_option maxHeartbeats 4000000 in
set_option maxRecDepth 100000 in
theorem f_X11_lay_L171_w {l : Launch} {g : im_G} {ad : Nat → Nat} (K : Nat → Int32 → Int32 → im_S → Option (Int32 × im_S)) {D dk : Nat} (hD1 : dk + 1 ≤ D) (hD2 : 1 ≤ D) (hK : kh_lay l g ad K dk) {fu : Nat} (l0 : Launch) (g0 : im_G) (ad0 : Nat → Nat) {p : Program} {e : Env} {s : State} {m : MethodId} {below : List Frame} {meth : Method} {c : Code} {args : Array Value} (X : im_X p l s m args meth c g cX11_lay 4 RX11 none) : ∀ (nf : Nat) (z1 : Int32) (z2 : Int32) (z3 : Int32) (S : im_S) (r : Unit) (S' : im_S), f_X11_lay_L171 K fu nf z1 z2 z3 S = some (r, S') → im_V p l e (im_R D 0 0) s m args below meth c g 4 (im_Z below g ad args s none S') ad im_N (im_cn g ad S) 0 0 171 [(0, .ref (ad 75)), (1, .int z1), (2, .int z2), (3, .int z3)] [] := by
  intro nf
  induction nf with
  | zero =>
    intro z1 z2 z3 S r S' hm
    cases hm
  | succ nf ih =>
    intro z1 z2 z3 S r S' hm
    unfold f_X11_lay_L171 at hm
    refine iv_iload_n (pc := 171) X dX11_lay_171 rfl ?_
    refine iv_aload_n (pc := 172) X dX11_lay_172 rfl ?_
    refine gF_X11_59_75 (pc := 173) X dX11_lay_173 ?_
    refine iv_iload_n (pc := 176) X dX11_lay_176 rfl ?_
    obtain ⟨hg, hm⟩ := gd_some hm
    refine aL_92 (pc := 177) X dX11_lay_177 hg (x := (S.1 92) z1.toNatClampNeg) rfl ?_
    refine iv_icmp_ge (pc := 178) X dX11_lay_178 (tgt := 210) rfl (fun hb1 => ?_) (fun hb1 => ?_)
    · rw [if_pos hb1] at hm
      refine iv_aload_n (pc := 210) X dX11_lay_210 rfl ?_
      refine gF_X11_119_75 (pc := 211) X dX11_lay_211 ?_
      refine iv_iload_n (pc := 214) X dX11_lay_214 rfl ?_
      refine iv_aload_n (pc := 215) X dX11_lay_215 rfl ?_
      refine iv_aload_n (pc := 216) X dX11_lay_216 rfl ?_
      refine gF_X11_35_75 (pc := 217) X dX11_lay_217 ?_
      refine iv_iload_n (pc := 220) X dX11_lay_220 rfl ?_
      obtain ⟨hg, hm⟩ := gd_some hm
      refine aL_84 (pc := 221) X dX11_lay_221 hg (x := (S.1 84) z1.toNatClampNeg) rfl ?_
      obtain ⟨⟨r3, S2⟩, hc4, hm⟩ := bd_some hm
      refine cV_X11_385_75 (pc := 222) X [.int ((S.1 84) z1.toNatClampNeg)] [.int z1, .ref (ad 112)] 1 rfl (hK.2 ((S.1 84) z1.toNatClampNeg) 0 S _ _ hc4) (by show (_ : Nat) ≤ D; omega) (by show (_ : Nat) ≤ 40 * D; omega) (Nat.le_of_ble_eq_true rfl) rfl dX11_lay_222 ?_
      obtain ⟨hg, hm⟩ := gd_some hm
      refine aS_112 (pc := 225) X dX11_lay_225 hg ?_
      refine iv_goto (pc := 226) X dX11_lay_226 (tgt := 320) rfl ?_
      refine iv_aload_n (pc := 320) X dX11_lay_320 rfl ?_
      refine gF_X11_92_75 (pc := 321) X dX11_lay_321 ?_
      refine iv_iload_n (pc := 324) X dX11_lay_324 rfl ?_
      refine iv_iload_n (pc := 325) X dX11_lay_325 rfl ?_
      obtain ⟨hg, hm⟩ := gd_some hm
      refine aS_103 (pc := 326) X dX11_lay_326 hg ?_
      refine iv_aload_n (pc := 327) X dX11_lay_327 rfl ?_
      refine gF_X11_95_75 (pc := 328) X dX11_lay_328 ?_
      refine iv_iload_n (pc := 331) X dX11_lay_331 rfl ?_
      refine iv_aload_n (pc := 332) X dX11_lay_332 rfl ?_
      refine gF_X11_101_75 (pc := 333) X dX11_lay_333 ?_
      refine iv_iload_n (pc := 336) X dX11_lay_336 rfl ?_
      obtain ⟨hg, hm⟩ := gd_some hm
      refine aL_106 (pc := 337) X dX11_lay_337 hg (x := (S2.1 106) z2.toNatClampNeg) rfl ?_
      obtain ⟨hg, hm⟩ := gd_some hm
      refine aS_104 (pc := 338) X dX11_lay_338 hg ?_
      refine iv_aload_n (pc := 339) X dX11_lay_339 rfl ?_
      refine gF_X11_101_75 (pc := 340) X dX11_lay_340 ?_
      refine iv_iload_n (pc := 343) X dX11_lay_343 rfl ?_
      refine iv_dup2_11 (pc := 344) X dX11_lay_344 rfl rfl ?_
      obtain ⟨hg, hm⟩ := gd_some hm
      refine aL_106 (pc := 345) X dX11_lay_345 hg (x := (S2.1 106) z2.toNatClampNeg) rfl ?_
      refine iv_iconst (pc := 346) X dX11_lay_346 ic_1 ?_
      refine iv_iadd (pc := 347) X dX11_lay_347 ?_
      obtain ⟨hg, hm⟩ := gd_some hm
      refine aS_106 (pc := 348) X dX11_lay_348 hg ?_
      refine iv_aload_n (pc := 349) X dX11_lay_349 rfl ?_
      refine gF_X11_107_75 (pc := 350) X dX11_lay_350 ?_
      refine iv_iload_n (pc := 353) X dX11_lay_353 rfl ?_
      refine iv_iconst (pc := 354) X dX11_lay_354 ic_m1 ?_
      obtain ⟨hg, hm⟩ := gd_some hm
      refine aS_108 (pc := 355) X dX11_lay_355 hg ?_
      refine iv_aload_n (pc := 356) X dX11_lay_356 rfl ?_
      refine gF_X11_104_75 (pc := 357) X dX11_lay_357 ?_
      refine iv_iload_n (pc := 360) X dX11_lay_360 rfl ?_
      obtain ⟨hg, hm⟩ := gd_some hm
      refine aL_107 (pc := 361) X dX11_lay_361 hg (x := (S2.1 107) z2.toNatClampNeg) rfl ?_
      refine iv_iconst (pc := 362) X dX11_lay_362 ic_m1 ?_
      refine iv_icmp_ne (pc := 363) X dX11_lay_363 (tgt := 376) rfl (fun hb5 => ?_) (fun hb5 => ?_)
      · rw [if_pos hb5] at hm
        refine iv_aload_n (pc := 376) X dX11_lay_376 rfl ?_
        refine gF_X11_107_75 (pc := 377) X dX11_lay_377 ?_
        refine iv_aload_n (pc := 380) X dX11_lay_380 rfl ?_
        refine gF_X11_110_75 (pc := 381) X dX11_lay_381 ?_
        refine iv_iload_n (pc := 384) X dX11_lay_384 rfl ?_
        obtain ⟨hg, hm⟩ := gd_some hm
        refine aL_109 (pc := 385) X dX11_lay_385 hg (x := (S2.1 109) z2.toNatClampNeg) rfl ?_
        refine iv_iload_n (pc := 386) X dX11_lay_386 rfl ?_
        obtain ⟨hg, hm⟩ := gd_some hm
        refine aS_108 (pc := 387) X dX11_lay_387 hg ?_
        refine iv_aload_n (pc := 388) X dX11_lay_388 rfl ?_
        refine gF_X11_110_75 (pc := 389) X dX11_lay_389 ?_
        refine iv_iload_n (pc := 392) X dX11_lay_392 rfl ?_
        refine iv_iload_n (pc := 393) X dX11_lay_393 rfl ?_
        obtain ⟨hg, hm⟩ := gd_some hm
        refine aS_109 (pc := 394) X dX11_lay_394 hg ?_
        cases hm
        exact is_vret (pc := 395) X dX11_lay_395
      · rw [if_neg hb5] at hm
        refine iv_aload_n (pc := 366) X dX11_lay_366 rfl ?_
        refine gF_X11_104_75 (pc := 367) X dX11_lay_367 ?_
        refine iv_iload_n (pc := 370) X dX11_lay_370 rfl ?_
        refine iv_iload_n (pc := 371) X dX11_lay_371 rfl ?_
        obtain ⟨hg, hm⟩ := gd_some hm
        refine aS_107 (pc := 372) X dX11_lay_372 hg ?_
        refine iv_goto (pc := 373) X dX11_lay_373 (tgt := 388) rfl ?_
        refine iv_aload_n (pc := 388) X dX11_lay_388 rfl ?_
        refine gF_X11_110_75 (pc := 389) X dX11_lay_389 ?_
        refine iv_iload_n (pc := 392) X dX11_lay_392 rfl ?_
        refine iv_iload_n (pc := 393) X dX11_lay_393 rfl ?_
        obtain ⟨hg, hm⟩ := gd_some hm
        refine aS_109 (pc := 394) X dX11_lay_394 hg ?_
        cases hm
        exact is_vret (pc := 395) X dX11_lay_395
    · rw [if_neg hb1] at hm
      refine iv_aload_n (pc := 181) X dX11_lay_181 rfl ?_
      refine iv_aload_n (pc := 182) X dX11_lay_182 rfl ?_
      refine gF_X11_68_75 (pc := 183) X dX11_lay_183 ?_
      refine iv_aload_n (pc := 186) X dX11_lay_186 rfl ?_
      refine gF_X11_56_75 (pc := 187) X dX11_lay_187 ?_
      refine iv_iload_n (pc := 190) X dX11_lay_190 rfl ?_
      obtain ⟨hg, hm⟩ := gd_some hm
      refine aL_91 (pc := 191) X dX11_lay_191 hg (x := (S.1 91) z1.toNatClampNeg) rfl ?_
      refine iv_iload_n (pc := 192) X dX11_lay_192 rfl ?_
      refine iv_iadd (pc := 193) X dX11_lay_193 ?_
      obtain ⟨hg, hm⟩ := gd_some hm
      refine aL_95 (pc := 194) X dX11_lay_194 hg (x := (S.1 95) ((((S.1 91) z1.toNatClampNeg) + z3).toNatClampNeg)) rfl ?_
      refine iv_aload_n (pc := 195) X dX11_lay_195 rfl ?_
      refine gF_X11_116_75 (pc := 196) X dX11_lay_196 ?_
      refine iv_iload_n (pc := 199) X dX11_lay_199 rfl ?_
      obtain ⟨hg, hm⟩ := gd_some hm
      refine aL_111 (pc := 200) X dX11_lay_200 hg (x := (S.1 111) z1.toNatClampNeg) rfl ?_
      obtain ⟨⟨r7, S6⟩, hc8, hm⟩ := bd_some hm
      refine cV_X11_382_75 (pc := 201) X [.int ((S.1 95) ((((S.1 91) z1.toNatClampNeg) + z3).toNatClampNeg)), .int ((S.1 111) z1.toNatClampNeg)] [] 2 rfl (hK.1 ((S.1 95) ((((S.1 91) z1.toNatClampNeg) + z3).toNatClampNeg)) ((S.1 111) z1.toNatClampNeg) S _ _ hc8) (by show (_ : Nat) ≤ D; omega) (by show (_ : Nat) ≤ 40 * D; omega) (Nat.le_of_ble_eq_true rfl) rfl dX11_lay_201 ?_
      refine iv_iinc (pc := 204) X dX11_lay_204 rfl (by decide) (v := z3 + 1) rfl (lv' := [(3, .int (z3 + 1)), (0, .ref (ad 75)), (1, .int z1), (2, .int z2)]) rfl ?_
      refine iv_goto (pc := 207) X dX11_lay_207 (tgt := 171) rfl ?_
      refine iv_sub [1, 2, 3, 0] (lv2 := [(0, .ref (ad 75)), (1, .int z1), (2, .int z2), (3, .int (z3 + 1))]) rfl ?_
      exact ih z1 z2 (z3 + 1) S6 _ _ hm
def f_X11_lay_L108 (K : Nat → Int32 → Int32 → im_S → Option (Int32 × im_S)) (fu : Nat) : Nat → Int32 → Int32 → Int32 → im_S → Option (Unit × im_S)
  | 0, _, _, _, _ => none
  | nf + 1, z1, z2, z3, S => gd (in_b z1 1200) (if ((S.1 90) z1.toNatClampNeg : Int32) ≤ z3 then (gd (in_b z1 1200) ((K 1 ((S.1 83) z1.toNatClampNeg) 0 S).bind (fun qS2 => gd (in_b z1 1200) ((f_X11_addRegion (-1) (uI qS2.2 110 z1.toNatClampNeg qS2.1)).bind (fun qS5 => gd (in_b z1 1200) (f_X11_lay_L171 K fu fu z1 z2 0 (uI qS5.2 111 z1.toNatClampNeg qS5.1))))))) else (gd (in_b z1 1200) (gd (in_b (((S.1 89) z1.toNatClampNeg) + z3) 1200) ((K 0 ((S.1 95) ((((S.1 89) z1.toNatClampNeg) + z3).toNatClampNeg)) z2 S).bind (fun qS8 => f_X11_lay_L108 K fu nf z1 z2 (z3 + 1) qS8.2)))))
set_option maxHeartbeats 4000000 in
set_option maxRecDepth 100000 in
theorem f_X11_lay_L108_w {l : Launch} {g : im_G} {ad : Nat → Nat} (K : Nat → Int32 → Int32 → im_S → Option (Int32 × im_S)) {D dk : Nat} (hD1 : dk + 1 ≤ D) (hD2 : 1 ≤ D) (hK : kh_lay l g ad K dk) {fu : Nat} (l0 : Launch) (g0 : im_G) (ad0 : Nat → Nat) {p : Program} {e : Env} {s : State} {m : MethodId} {below : List Frame} {meth : Method} {c : Code} {args : Array Value} (X : im_X p l s m args meth c g cX11_lay 4 RX11 none) : ∀ (nf : Nat) (z1 : Int32) (z2 : Int32) (z3 : Int32) (S : im_S) (r : Unit) (S' : im_S), f_X11_lay_L108 K fu nf z1 z2 z3 S = some (r, S') → im_V p l e (im_R D 0 0) s m args below meth c g 4 (im_Z below g ad args s none S') ad im_N (im_cn g ad S) 0 0 108 [(0, .ref (ad 75)), (1, .int z1), (2, .int z2), (3, .int z3)] [] := by
  intro nf
  induction nf with
  | zero =>
    intro z1 z2 z3 S r S' hm
    cases hm
  | succ nf ih =>
    intro z1 z2 z3 S r S' hm
    unfold f_X11_lay_L108 at hm
    refine iv_iload_n (pc := 108) X dX11_lay_108 rfl ?_
    refine iv_aload_n (pc := 109) X dX11_lay_109 rfl ?_
    refine gF_X11_53_75 (pc := 110) X dX11_lay_110 ?_
    refine iv_iload_n (pc := 113) X dX11_lay_113 rfl ?_
    obtain ⟨hg, hm⟩ := gd_some hm
    refine aL_90 (pc := 114) X dX11_lay_114 hg (x := (S.1 90) z1.toNatClampNeg) rfl ?_
    refine iv_icmp_ge (pc := 115) X dX11_lay_115 (tgt := 142) rfl (fun hb1 => ?_) (fun hb1 => ?_)
    · rw [if_pos hb1] at hm
      refine iv_aload_n (pc := 142) X dX11_lay_142 rfl ?_
      refine gF_X11_113_75 (pc := 143) X dX11_lay_143 ?_
      refine iv_iload_n (pc := 146) X dX11_lay_146 rfl ?_
      refine iv_aload_n (pc := 147) X dX11_lay_147 rfl ?_
      refine iv_aload_n (pc := 148) X dX11_lay_148 rfl ?_
      refine gF_X11_32_75 (pc := 149) X dX11_lay_149 ?_
      refine iv_iload_n (pc := 152) X dX11_lay_152 rfl ?_
      obtain ⟨hg, hm⟩ := gd_some hm
      refine aL_83 (pc := 153) X dX11_lay_153 hg (x := (S.1 83) z1.toNatClampNeg) rfl ?_
      obtain ⟨⟨r3, S2⟩, hc4, hm⟩ := bd_some hm
      refine cV_X11_385_75 (pc := 154) X [.int ((S.1 83) z1.toNatClampNeg)] [.int z1, .ref (ad 110)] 1 rfl (hK.2 ((S.1 83) z1.toNatClampNeg) 0 S _ _ hc4) (by show (_ : Nat) ≤ D; omega) (by show (_ : Nat) ≤ 40 * D; omega) (Nat.le_of_ble_eq_true rfl) rfl dX11_lay_154 ?_
      obtain ⟨hg, hm⟩ := gd_some hm
      refine aS_110 (pc := 157) X dX11_lay_157 hg ?_
      refine iv_aload_n (pc := 158) X dX11_lay_158 rfl ?_
      refine gF_X11_116_75 (pc := 159) X dX11_lay_159 ?_
      refine iv_iload_n (pc := 162) X dX11_lay_162 rfl ?_
      refine iv_aload_n (pc := 163) X dX11_lay_163 rfl ?_
      refine iv_iconst (pc := 164) X dX11_lay_164 ic_m1 ?_
      obtain ⟨⟨r6, S5⟩, hc7, hm⟩ := bd_some hm
      refine cV_X11_379_75 (pc := 165) X [.int (-1)] [.int z1, .ref (ad 111)] 1 rfl (f_X11_addRegion_e l g ad (-1) (uI S2 110 z1.toNatClampNeg r3) _ _ hc7) (by show (_ : Nat) ≤ D; omega) (by show (_ : Nat) ≤ 40 * D; omega) (Nat.le_of_ble_eq_true rfl) rfl dX11_lay_165 ?_
      obtain ⟨hg, hm⟩ := gd_some hm
      refine aS_111 (pc := 168) X dX11_lay_168 hg ?_
      refine iv_iconst (pc := 169) X dX11_lay_169 ic_0 ?_
      refine iv_istore_n (pc := 170) X dX11_lay_170 (by decide) (lv' := [(3, .int 0), (0, .ref (ad 75)), (1, .int z1), (2, .int z2)]) rfl ?_
      refine iv_sub [1, 2, 3, 0] (lv2 := [(0, .ref (ad 75)), (1, .int z1), (2, .int z2), (3, .int 0)]) rfl ?_
      exact f_X11_lay_L171_w K hD1 hD2 hK (fu := fu) l g ad X fu z1 z2 0 (uI S5 111 z1.toNatClampNeg r6) _ _ hm
    · rw [if_neg hb1] at hm
      refine iv_aload_n (pc := 118) X dX11_lay_118 rfl ?_
      refine iv_aload_n (pc := 119) X dX11_lay_119 rfl ?_
      refine gF_X11_68_75 (pc := 120) X dX11_lay_120 ?_
      refine iv_aload_n (pc := 123) X dX11_lay_123 rfl ?_
      refine gF_X11_50_75 (pc := 124) X dX11_lay_124 ?_
      refine iv_iload_n (pc := 127) X dX11_lay_127 rfl ?_
      obtain ⟨hg, hm⟩ := gd_some hm
      refine aL_89 (pc := 128) X dX11_lay_128 hg (x := (S.1 89) z1.toNatClampNeg) rfl ?_
      refine iv_iload_n (pc := 129) X dX11_lay_129 rfl ?_
      refine iv_iadd (pc := 130) X dX11_lay_130 ?_
      obtain ⟨hg, hm⟩ := gd_some hm
      refine aL_95 (pc := 131) X dX11_lay_131 hg (x := (S.1 95) ((((S.1 89) z1.toNatClampNeg) + z3).toNatClampNeg)) rfl ?_
      refine iv_iload_n (pc := 132) X dX11_lay_132 rfl ?_
      obtain ⟨⟨r9, S8⟩, hc10, hm⟩ := bd_some hm
      refine cV_X11_382_75 (pc := 133) X [.int ((S.1 95) ((((S.1 89) z1.toNatClampNeg) + z3).toNatClampNeg)), .int z2] [] 2 rfl (hK.1 ((S.1 95) ((((S.1 89) z1.toNatClampNeg) + z3).toNatClampNeg)) z2 S _ _ hc10) (by show (_ : Nat) ≤ D; omega) (by show (_ : Nat) ≤ 40 * D; omega) (Nat.le_of_ble_eq_true rfl) rfl dX11_lay_133 ?_
      refine iv_iinc (pc := 136) X dX11_lay_136 rfl (by decide) (v := z3 + 1) rfl (lv' := [(3, .int (z3 + 1)), (0, .ref (ad 75)), (1, .int z1), (2, .int z2)]) rfl ?_
      refine iv_goto (pc := 139) X dX11_lay_139 (tgt := 108) rfl ?_
      refine iv_sub [1, 2, 3, 0] (lv2 := [(0, .ref (ad 75)), (1, .int z1), (2, .int z2), (3, .int (z3 + 1))]) rfl ?_
      exact ih z1 z2 (z3 + 1) S8 _ _ hm
def f_X11_lay (K : Nat → Int32 → Int32 → im_S → Option (Int32 × im_S)) (fu : Nat) (x1 : Int32) (x2 : Int32) (S : im_S) : Option (Unit × im_S) := if (x1 : Int32) ≠ (-1) then (gd (in_b x1 1200) (if ((S.1 81) x1.toNatClampNeg) = (4 : Int32) then (f_X11_lay_L261 K fu fu x1 x2 0 S) else (if ((S.1 81) x1.toNatClampNeg) = (5 : Int32) then (gd (in_b x1 1200) ((K 0 ((S.1 83) x1.toNatClampNeg) x2 S).bind (fun qS4 => gd (in_b x1 1200) ((K 0 ((qS4.2.1 84) x1.toNatClampNeg) x2 qS4.2).bind (fun qS7 => gd (in_b x1 1200) (gd (in_b x2 640) (gd (in_b x1 1200) (gd (in_b x2 640) (gd (in_b x2 640) (gd (in_b x1 1200) (gd (in_b x2 640) (if ((qS7.2.1 107) x2.toNatClampNeg : Int32) ≠ (-1) then (gd (in_b x2 640) (gd (in_b ((qS7.2.1 109) x2.toNatClampNeg) 1200) (gd (in_b x2 640) (some ((), (uI (uI (uI (uI (uI (uI qS7.2 103 x1.toNatClampNeg x2) 104 x1.toNatClampNeg ((qS7.2.1 106) x2.toNatClampNeg)) 106 x2.toNatClampNeg (((qS7.2.1 106) x2.toNatClampNeg) + 1)) 108 x1.toNatClampNeg (-1)) 108 (((qS7.2.1 109) x2.toNatClampNeg).toNatClampNeg) x1) 109 x2.toNatClampNeg x1)))))) else (gd (in_b x2 640) (gd (in_b x2 640) (some ((), (uI (uI (uI (uI (uI (uI qS7.2 103 x1.toNatClampNeg x2) 104 x1.toNatClampNeg ((qS7.2.1 106) x2.toNatClampNeg)) 106 x2.toNatClampNeg (((qS7.2.1 106) x2.toNatClampNeg) + 1)) 108 x1.toNatClampNeg (-1)) 107 x2.toNatClampNeg x1) 109 x2.toNatClampNeg x1))))))))))))))))) else (if ((S.1 81) x1.toNatClampNeg) = (6 : Int32) then (gd (in_b x1 1200) ((K 0 ((S.1 83) x1.toNatClampNeg) x2 S).bind (fun qS12 => gd (in_b x1 1200) ((K 1 ((qS12.2.1 84) x1.toNatClampNeg) 0 qS12.2).bind (fun qS15 => gd (in_b x1 1200) (gd (in_b x1 1200) ((K 1 ((qS15.2.1 85) x1.toNatClampNeg) 0 (uI qS15.2 110 x1.toNatClampNeg qS15.1)).bind (fun qS18 => gd (in_b x1 1200) (gd (in_b x1 1200) (gd (in_b x2 640) (gd (in_b x1 1200) (gd (in_b x2 640) (gd (in_b x2 640) (gd (in_b x1 1200) (gd (in_b x2 640) (if ((qS18.2.1 107) x2.toNatClampNeg : Int32) ≠ (-1) then (gd (in_b x2 640) (gd (in_b ((qS18.2.1 109) x2.toNatClampNeg) 1200) (gd (in_b x2 640) (some ((), (uI (uI (uI (uI (uI (uI (uI qS18.2 111 x1.toNatClampNeg qS18.1) 103 x1.toNatClampNeg x2) 104 x1.toNatClampNeg ((qS18.2.1 106) x2.toNatClampNeg)) 106 x2.toNatClampNeg (((qS18.2.1 106) x2.toNatClampNeg) + 1)) 108 x1.toNatClampNeg (-1)) 108 (((qS18.2.1 109) x2.toNatClampNeg).toNatClampNeg) x1) 109 x2.toNatClampNeg x1)))))) else (gd (in_b x2 640) (gd (in_b x2 640) (some ((), (uI (uI (uI (uI (uI (uI (uI qS18.2 111 x1.toNatClampNeg qS18.1) 103 x1.toNatClampNeg x2) 104 x1.toNatClampNeg ((qS18.2.1 106) x2.toNatClampNeg)) 106 x2.toNatClampNeg (((qS18.2.1 106) x2.toNatClampNeg) + 1)) 108 x1.toNatClampNeg (-1)) 107 x2.toNatClampNeg x1) 109 x2.toNatClampNeg x1))))))))))))))))))))) else (if ((S.1 81) x1.toNatClampNeg) = (7 : Int32) then (f_X11_lay_L108 K fu fu x1 x2 0 S) else (if ((S.1 81) x1.toNatClampNeg) = (8 : Int32) then (gd (in_b x1 1200) ((K 0 ((S.1 83) x1.toNatClampNeg) x2 S).bind (fun qS24 => gd (in_b x1 1200) ((K 0 ((qS24.2.1 84) x1.toNatClampNeg) x2 qS24.2).bind (fun qS27 => gd (in_b x1 1200) (gd (in_b x2 640) (gd (in_b x1 1200) (gd (in_b x2 640) (gd (in_b x2 640) (gd (in_b x1 1200) (gd (in_b x2 640) (if ((qS27.2.1 107) x2.toNatClampNeg : Int32) ≠ (-1) then (gd (in_b x2 640) (gd (in_b ((qS27.2.1 109) x2.toNatClampNeg) 1200) (gd (in_b x2 640) (some ((), (uI (uI (uI (uI (uI (uI qS27.2 103 x1.toNatClampNeg x2) 104 x1.toNatClampNeg ((qS27.2.1 106) x2.toNatClampNeg)) 106 x2.toNatClampNeg (((qS27.2.1 106) x2.toNatClampNeg) + 1)) 108 x1.toNatClampNeg (-1)) 108 (((qS27.2.1 109) x2.toNatClampNeg).toNatClampNeg) x1) 109 x2.toNatClampNeg x1)))))) else (gd (in_b x2 640) (gd (in_b x2 640) (some ((), (uI (uI (uI (uI (uI (uI qS27.2 103 x1.toNatClampNeg x2) 104 x1.toNatClampNeg ((qS27.2.1 106) x2.toNatClampNeg)) 106 x2.toNatClampNeg (((qS27.2.1 106) x2.toNatClampNeg) + 1)) 108 x1.toNatClampNeg (-1)) 107 x2.toNatClampNeg x1) 109 x2.toNatClampNeg x1))))))))))))))))) else (if ((S.1 81) x1.toNatClampNeg) = (9 : Int32) then (gd (in_b x1 1200) ((K 0 ((S.1 83) x1.toNatClampNeg) x2 S).bind (fun qS32 => gd (in_b x1 1200) ((K 0 ((qS32.2.1 84) x1.toNatClampNeg) x2 qS32.2).bind (fun qS35 => gd (in_b x1 1200) (gd (in_b x2 640) (gd (in_b x1 1200) (gd (in_b x2 640) (gd (in_b x2 640) (gd (in_b x1 1200) (gd (in_b x2 640) (if ((qS35.2.1 107) x2.toNatClampNeg : Int32) ≠ (-1) then (gd (in_b x2 640) (gd (in_b ((qS35.2.1 109) x2.toNatClampNeg) 1200) (gd (in_b x2 640) (some ((), (uI (uI (uI (uI (uI (uI qS35.2 103 x1.toNatClampNeg x2) 104 x1.toNatClampNeg ((qS35.2.1 106) x2.toNatClampNeg)) 106 x2.toNatClampNeg (((qS35.2.1 106) x2.toNatClampNeg) + 1)) 108 x1.toNatClampNeg (-1)) 108 (((qS35.2.1 109) x2.toNatClampNeg).toNatClampNeg) x1) 109 x2.toNatClampNeg x1)))))) else (gd (in_b x2 640) (gd (in_b x2 640) (some ((), (uI (uI (uI (uI (uI (uI qS35.2 103 x1.toNatClampNeg x2) 104 x1.toNatClampNeg ((qS35.2.1 106) x2.toNatClampNeg)) 106 x2.toNatClampNeg (((qS35.2.1 106) x2.toNatClampNeg) + 1)) 108 x1.toNatClampNeg (-1)) 107 x2.toNatClampNeg x1) 109 x2.toNatClampNeg x1))))))))))))))))) else (if ((S.1 81) x1.toNatClampNeg) = (10 : Int32) then (gd (in_b x1 1200) ((K 0 ((S.1 83) x1.toNatClampNeg) x2 S).bind (fun qS40 => gd (in_b x1 1200) ((K 0 ((qS40.2.1 84) x1.toNatClampNeg) x2 qS40.2).bind (fun qS43 => gd (in_b x1 1200) (gd (in_b x2 640) (gd (in_b x1 1200) (gd (in_b x2 640) (gd (in_b x2 640) (gd (in_b x1 1200) (gd (in_b x2 640) (if ((qS43.2.1 107) x2.toNatClampNeg : Int32) ≠ (-1) then (gd (in_b x2 640) (gd (in_b ((qS43.2.1 109) x2.toNatClampNeg) 1200) (gd (in_b x2 640) (some ((), (uI (uI (uI (uI (uI (uI qS43.2 103 x1.toNatClampNeg x2) 104 x1.toNatClampNeg ((qS43.2.1 106) x2.toNatClampNeg)) 106 x2.toNatClampNeg (((qS43.2.1 106) x2.toNatClampNeg) + 1)) 108 x1.toNatClampNeg (-1)) 108 (((qS43.2.1 109) x2.toNatClampNeg).toNatClampNeg) x1) 109 x2.toNatClampNeg x1)))))) else (gd (in_b x2 640) (gd (in_b x2 640) (some ((), (uI (uI (uI (uI (uI (uI qS43.2 103 x1.toNatClampNeg x2) 104 x1.toNatClampNeg ((qS43.2.1 106) x2.toNatClampNeg)) 106 x2.toNatClampNeg (((qS43.2.1 106) x2.toNatClampNeg) + 1)) 108 x1.toNatClampNeg (-1)) 107 x2.toNatClampNeg x1) 109 x2.toNatClampNeg x1))))))))))))))))) else (if ((S.1 81) x1.toNatClampNeg) = (11 : Int32) then (gd (in_b x1 1200) ((K 0 ((S.1 83) x1.toNatClampNeg) x2 S).bind (fun qS48 => gd (in_b x1 1200) ((K 1 ((qS48.2.1 84) x1.toNatClampNeg) 0 qS48.2).bind (fun qS51 => gd (in_b x1 1200) (gd (in_b x1 1200) (gd (in_b x2 640) (gd (in_b x1 1200) (gd (in_b x2 640) (gd (in_b x2 640) (gd (in_b x1 1200) (gd (in_b x2 640) (if ((qS51.2.1 107) x2.toNatClampNeg : Int32) ≠ (-1) then (gd (in_b x2 640) (gd (in_b ((qS51.2.1 109) x2.toNatClampNeg) 1200) (gd (in_b x2 640) (some ((), (uI (uI (uI (uI (uI (uI (uI qS51.2 110 x1.toNatClampNeg qS51.1) 103 x1.toNatClampNeg x2) 104 x1.toNatClampNeg ((qS51.2.1 106) x2.toNatClampNeg)) 106 x2.toNatClampNeg (((qS51.2.1 106) x2.toNatClampNeg) + 1)) 108 x1.toNatClampNeg (-1)) 108 (((qS51.2.1 109) x2.toNatClampNeg).toNatClampNeg) x1) 109 x2.toNatClampNeg x1)))))) else (gd (in_b x2 640) (gd (in_b x2 640) (some ((), (uI (uI (uI (uI (uI (uI (uI qS51.2 110 x1.toNatClampNeg qS51.1) 103 x1.toNatClampNeg x2) 104 x1.toNatClampNeg ((qS51.2.1 106) x2.toNatClampNeg)) 106 x2.toNatClampNeg (((qS51.2.1 106) x2.toNatClampNeg) + 1)) 108 x1.toNatClampNeg (-1)) 107 x2.toNatClampNeg x1) 109 x2.toNatClampNeg x1)))))))))))))))))) else (gd (in_b x1 1200) ((K 0 ((S.1 83) x1.toNatClampNeg) x2 S).bind (fun qS55 => gd (in_b x1 1200) ((K 0 ((qS55.2.1 84) x1.toNatClampNeg) x2 qS55.2).bind (fun qS58 => gd (in_b x1 1200) (gd (in_b x2 640) (gd (in_b x1 1200) (gd (in_b x2 640) (gd (in_b x2 640) (gd (in_b x1 1200) (gd (in_b x2 640) (if ((qS58.2.1 107) x2.toNatClampNeg : Int32) ≠ (-1) then (gd (in_b x2 640) (gd (in_b ((qS58.2.1 109) x2.toNatClampNeg) 1200) (gd (in_b x2 640) (some ((), (uI (uI (uI (uI (uI (uI qS58.2 103 x1.toNatClampNeg x2) 104 x1.toNatClampNeg ((qS58.2.1 106) x2.toNatClampNeg)) 106 x2.toNatClampNeg (((qS58.2.1 106) x2.toNatClampNeg) + 1)) 108 x1.toNatClampNeg (-1)) 108 (((qS58.2.1 109) x2.toNatClampNeg).toNatClampNeg) x1) 109 x2.toNatClampNeg x1)))))) else (gd (in_b x2 640) (gd (in_b x2 640) (some ((), (uI (uI (uI (uI (uI (uI qS58.2 103 x1.toNatClampNeg x2) 104 x1.toNatClampNeg ((qS58.2.1 106) x2.toNatClampNeg)) 106 x2.toNatClampNeg (((qS58.2.1 106) x2.toNatClampNeg) + 1)) 108 x1.toNatClampNeg (-1)) 107 x2.toNatClampNeg x1) 109 x2.toNatClampNeg x1)))))))))))))))))))))))))) else (some ((), S))
set_option maxHeartbeats 4000000 in
set_option maxRecDepth 100000 in
theorem f_X11_lay_e (l : Launch) (g : im_G) (ad : Nat → Nat) (K : Nat → Int32 → Int32 → im_S → Option (Int32 × im_S)) {D dk : Nat} (hD1 : dk + 1 ≤ D) (hD2 : 1 ≤ D) (hK : kh_lay l g ad K dk) (fu : Nat) (x1 : Int32) (x2 : Int32) (S : im_S) (r : Unit) (S' : im_S) (hm : f_X11_lay K fu x1 x2 S = some (r, S')) : im_E l g ad D yX11_lay cX11_lay 4 none [.ref (ad 75), .int x1, .int x2] S none S' := by
  unfold f_X11_lay at hm
  refine is_met (own := RX11) (by decide +kernel) rfl (Nat.le_of_ble_eq_true rfl) (fun p e s m below meth c X => ?_)
  refine iv_iload_n (pc := 0) X dX11_lay_0 rfl ?_
  refine iv_iconst (pc := 1) X dX11_lay_1 ic_m1 ?_
  refine iv_icmp_ne (pc := 2) X dX11_lay_2 (tgt := 6) rfl (fun hb1 => ?_) (fun hb1 => ?_)
  · rw [if_pos hb1] at hm
    refine iv_aload_n (pc := 6) X dX11_lay_6 rfl ?_
    refine gF_X11_26_75 (pc := 7) X dX11_lay_7 ?_
    refine iv_iload_n (pc := 10) X dX11_lay_10 rfl ?_
    obtain ⟨hg, hm⟩ := gd_some hm
    refine aL_81 (pc := 11) X dX11_lay_11 hg (x := (S.1 81) x1.toNatClampNeg) rfl ?_
    by_cases hb2 : ((S.1 81) x1.toNatClampNeg) = (4 : Int32)
    · rw [if_pos hb2] at hm
      refine iv_tableIn X dX11_lay_12 (off := 247) (tgt := 259) (by rw [hb2]; decide) (by rw [hb2]; decide) (by rw [hb2]; decide) (by decide) ?_
      refine iv_iconst (pc := 259) X dX11_lay_259 ic_0 ?_
      refine iv_istore_n (pc := 260) X dX11_lay_260 (by decide) (lv' := [(3, .int 0), (0, .ref (ad 75)), (1, .int x1), (2, .int x2)]) rfl ?_
      refine iv_sub [1, 2, 3, 0] (lv2 := [(0, .ref (ad 75)), (1, .int x1), (2, .int x2), (3, .int 0)]) rfl ?_
      exact f_X11_lay_L261_w K hD1 hD2 hK (fu := fu) l g ad X fu x1 x2 0 S _ _ hm
    · rw [if_neg hb2] at hm
      by_cases hb3 : ((S.1 81) x1.toNatClampNeg) = (5 : Int32)
      · rw [if_pos hb3] at hm
        refine iv_tableIn X dX11_lay_12 (off := 286) (tgt := 298) (by rw [hb3]; decide) (by rw [hb3]; decide) (by rw [hb3]; decide) (by decide) ?_
        refine iv_aload_n (pc := 298) X dX11_lay_298 rfl ?_
        refine iv_aload_n (pc := 299) X dX11_lay_299 rfl ?_
        refine gF_X11_32_75 (pc := 300) X dX11_lay_300 ?_
        refine iv_iload_n (pc := 303) X dX11_lay_303 rfl ?_
        obtain ⟨hg, hm⟩ := gd_some hm
        refine aL_83 (pc := 304) X dX11_lay_304 hg (x := (S.1 83) x1.toNatClampNeg) rfl ?_
        refine iv_iload_n (pc := 305) X dX11_lay_305 rfl ?_
        obtain ⟨⟨r5, S4⟩, hc6, hm⟩ := bd_some hm
        refine cV_X11_382_75 (pc := 306) X [.int ((S.1 83) x1.toNatClampNeg), .int x2] [] 2 rfl (hK.1 ((S.1 83) x1.toNatClampNeg) x2 S _ _ hc6) (by show (_ : Nat) ≤ D; omega) (by show (_ : Nat) ≤ 40 * D; omega) (Nat.le_of_ble_eq_true rfl) rfl dX11_lay_306 ?_
        refine iv_aload_n (pc := 309) X dX11_lay_309 rfl ?_
        refine iv_aload_n (pc := 310) X dX11_lay_310 rfl ?_
        refine gF_X11_35_75 (pc := 311) X dX11_lay_311 ?_
        refine iv_iload_n (pc := 314) X dX11_lay_314 rfl ?_
        obtain ⟨hg, hm⟩ := gd_some hm
        refine aL_84 (pc := 315) X dX11_lay_315 hg (x := (S4.1 84) x1.toNatClampNeg) rfl ?_
        refine iv_iload_n (pc := 316) X dX11_lay_316 rfl ?_
        obtain ⟨⟨r8, S7⟩, hc9, hm⟩ := bd_some hm
        refine cV_X11_382_75 (pc := 317) X [.int ((S4.1 84) x1.toNatClampNeg), .int x2] [] 2 rfl (hK.1 ((S4.1 84) x1.toNatClampNeg) x2 S4 _ _ hc9) (by show (_ : Nat) ≤ D; omega) (by show (_ : Nat) ≤ 40 * D; omega) (Nat.le_of_ble_eq_true rfl) rfl dX11_lay_317 ?_
        refine iv_aload_n (pc := 320) X dX11_lay_320 rfl ?_
        refine gF_X11_92_75 (pc := 321) X dX11_lay_321 ?_
        refine iv_iload_n (pc := 324) X dX11_lay_324 rfl ?_
        refine iv_iload_n (pc := 325) X dX11_lay_325 rfl ?_
        obtain ⟨hg, hm⟩ := gd_some hm
        refine aS_103 (pc := 326) X dX11_lay_326 hg ?_
        refine iv_aload_n (pc := 327) X dX11_lay_327 rfl ?_
        refine gF_X11_95_75 (pc := 328) X dX11_lay_328 ?_
        refine iv_iload_n (pc := 331) X dX11_lay_331 rfl ?_
        refine iv_aload_n (pc := 332) X dX11_lay_332 rfl ?_
        refine gF_X11_101_75 (pc := 333) X dX11_lay_333 ?_
        refine iv_iload_n (pc := 336) X dX11_lay_336 rfl ?_
        obtain ⟨hg, hm⟩ := gd_some hm
        refine aL_106 (pc := 337) X dX11_lay_337 hg (x := (S7.1 106) x2.toNatClampNeg) rfl ?_
        obtain ⟨hg, hm⟩ := gd_some hm
        refine aS_104 (pc := 338) X dX11_lay_338 hg ?_
        refine iv_aload_n (pc := 339) X dX11_lay_339 rfl ?_
        refine gF_X11_101_75 (pc := 340) X dX11_lay_340 ?_
        refine iv_iload_n (pc := 343) X dX11_lay_343 rfl ?_
        refine iv_dup2_11 (pc := 344) X dX11_lay_344 rfl rfl ?_
        obtain ⟨hg, hm⟩ := gd_some hm
        refine aL_106 (pc := 345) X dX11_lay_345 hg (x := (S7.1 106) x2.toNatClampNeg) rfl ?_
        refine iv_iconst (pc := 346) X dX11_lay_346 ic_1 ?_
        refine iv_iadd (pc := 347) X dX11_lay_347 ?_
        obtain ⟨hg, hm⟩ := gd_some hm
        refine aS_106 (pc := 348) X dX11_lay_348 hg ?_
        refine iv_aload_n (pc := 349) X dX11_lay_349 rfl ?_
        refine gF_X11_107_75 (pc := 350) X dX11_lay_350 ?_
        refine iv_iload_n (pc := 353) X dX11_lay_353 rfl ?_
        refine iv_iconst (pc := 354) X dX11_lay_354 ic_m1 ?_
        obtain ⟨hg, hm⟩ := gd_some hm
        refine aS_108 (pc := 355) X dX11_lay_355 hg ?_
        refine iv_aload_n (pc := 356) X dX11_lay_356 rfl ?_
        refine gF_X11_104_75 (pc := 357) X dX11_lay_357 ?_
        refine iv_iload_n (pc := 360) X dX11_lay_360 rfl ?_
        obtain ⟨hg, hm⟩ := gd_some hm
        refine aL_107 (pc := 361) X dX11_lay_361 hg (x := (S7.1 107) x2.toNatClampNeg) rfl ?_
        refine iv_iconst (pc := 362) X dX11_lay_362 ic_m1 ?_
        refine iv_icmp_ne (pc := 363) X dX11_lay_363 (tgt := 376) rfl (fun hb10 => ?_) (fun hb10 => ?_)
        · rw [if_pos hb10] at hm
          refine iv_aload_n (pc := 376) X dX11_lay_376 rfl ?_
          refine gF_X11_107_75 (pc := 377) X dX11_lay_377 ?_
          refine iv_aload_n (pc := 380) X dX11_lay_380 rfl ?_
          refine gF_X11_110_75 (pc := 381) X dX11_lay_381 ?_
          refine iv_iload_n (pc := 384) X dX11_lay_384 rfl ?_
          obtain ⟨hg, hm⟩ := gd_some hm
          refine aL_109 (pc := 385) X dX11_lay_385 hg (x := (S7.1 109) x2.toNatClampNeg) rfl ?_
          refine iv_iload_n (pc := 386) X dX11_lay_386 rfl ?_
          obtain ⟨hg, hm⟩ := gd_some hm
          refine aS_108 (pc := 387) X dX11_lay_387 hg ?_
          refine iv_aload_n (pc := 388) X dX11_lay_388 rfl ?_
          refine gF_X11_110_75 (pc := 389) X dX11_lay_389 ?_
          refine iv_iload_n (pc := 392) X dX11_lay_392 rfl ?_
          refine iv_iload_n (pc := 393) X dX11_lay_393 rfl ?_
          obtain ⟨hg, hm⟩ := gd_some hm
          refine aS_109 (pc := 394) X dX11_lay_394 hg ?_
          cases hm
          exact is_vret (pc := 395) X dX11_lay_395
        · rw [if_neg hb10] at hm
          refine iv_aload_n (pc := 366) X dX11_lay_366 rfl ?_
          refine gF_X11_104_75 (pc := 367) X dX11_lay_367 ?_
          refine iv_iload_n (pc := 370) X dX11_lay_370 rfl ?_
          refine iv_iload_n (pc := 371) X dX11_lay_371 rfl ?_
          obtain ⟨hg, hm⟩ := gd_some hm
          refine aS_107 (pc := 372) X dX11_lay_372 hg ?_
          refine iv_goto (pc := 373) X dX11_lay_373 (tgt := 388) rfl ?_
          refine iv_aload_n (pc := 388) X dX11_lay_388 rfl ?_
          refine gF_X11_110_75 (pc := 389) X dX11_lay_389 ?_
          refine iv_iload_n (pc := 392) X dX11_lay_392 rfl ?_
          refine iv_iload_n (pc := 393) X dX11_lay_393 rfl ?_
          obtain ⟨hg, hm⟩ := gd_some hm
          refine aS_109 (pc := 394) X dX11_lay_394 hg ?_
          cases hm
          exact is_vret (pc := 395) X dX11_lay_395
      · rw [if_neg hb3] at hm
        by_cases hb11 : ((S.1 81) x1.toNatClampNeg) = (6 : Int32)
        · rw [if_pos hb11] at hm
          refine iv_tableIn X dX11_lay_12 (off := 48) (tgt := 60) (by rw [hb11]; decide) (by rw [hb11]; decide) (by rw [hb11]; decide) (by decide) ?_
          refine iv_aload_n (pc := 60) X dX11_lay_60 rfl ?_
          refine iv_aload_n (pc := 61) X dX11_lay_61 rfl ?_
          refine gF_X11_32_75 (pc := 62) X dX11_lay_62 ?_
          refine iv_iload_n (pc := 65) X dX11_lay_65 rfl ?_
          obtain ⟨hg, hm⟩ := gd_some hm
          refine aL_83 (pc := 66) X dX11_lay_66 hg (x := (S.1 83) x1.toNatClampNeg) rfl ?_
          refine iv_iload_n (pc := 67) X dX11_lay_67 rfl ?_
          obtain ⟨⟨r13, S12⟩, hc14, hm⟩ := bd_some hm
          refine cV_X11_382_75 (pc := 68) X [.int ((S.1 83) x1.toNatClampNeg), .int x2] [] 2 rfl (hK.1 ((S.1 83) x1.toNatClampNeg) x2 S _ _ hc14) (by show (_ : Nat) ≤ D; omega) (by show (_ : Nat) ≤ 40 * D; omega) (Nat.le_of_ble_eq_true rfl) rfl dX11_lay_68 ?_
          refine iv_aload_n (pc := 71) X dX11_lay_71 rfl ?_
          refine gF_X11_113_75 (pc := 72) X dX11_lay_72 ?_
          refine iv_iload_n (pc := 75) X dX11_lay_75 rfl ?_
          refine iv_aload_n (pc := 76) X dX11_lay_76 rfl ?_
          refine iv_aload_n (pc := 77) X dX11_lay_77 rfl ?_
          refine gF_X11_35_75 (pc := 78) X dX11_lay_78 ?_
          refine iv_iload_n (pc := 81) X dX11_lay_81 rfl ?_
          obtain ⟨hg, hm⟩ := gd_some hm
          refine aL_84 (pc := 82) X dX11_lay_82 hg (x := (S12.1 84) x1.toNatClampNeg) rfl ?_
          obtain ⟨⟨r16, S15⟩, hc17, hm⟩ := bd_some hm
          refine cV_X11_385_75 (pc := 83) X [.int ((S12.1 84) x1.toNatClampNeg)] [.int x1, .ref (ad 110)] 1 rfl (hK.2 ((S12.1 84) x1.toNatClampNeg) 0 S12 _ _ hc17) (by show (_ : Nat) ≤ D; omega) (by show (_ : Nat) ≤ 40 * D; omega) (Nat.le_of_ble_eq_true rfl) rfl dX11_lay_83 ?_
          obtain ⟨hg, hm⟩ := gd_some hm
          refine aS_110 (pc := 86) X dX11_lay_86 hg ?_
          refine iv_aload_n (pc := 87) X dX11_lay_87 rfl ?_
          refine gF_X11_116_75 (pc := 88) X dX11_lay_88 ?_
          refine iv_iload_n (pc := 91) X dX11_lay_91 rfl ?_
          refine iv_aload_n (pc := 92) X dX11_lay_92 rfl ?_
          refine iv_aload_n (pc := 93) X dX11_lay_93 rfl ?_
          refine gF_X11_38_75 (pc := 94) X dX11_lay_94 ?_
          refine iv_iload_n (pc := 97) X dX11_lay_97 rfl ?_
          obtain ⟨hg, hm⟩ := gd_some hm
          refine aL_85 (pc := 98) X dX11_lay_98 hg (x := (S15.1 85) x1.toNatClampNeg) rfl ?_
          obtain ⟨⟨r19, S18⟩, hc20, hm⟩ := bd_some hm
          refine cV_X11_385_75 (pc := 99) X [.int ((S15.1 85) x1.toNatClampNeg)] [.int x1, .ref (ad 111)] 1 rfl (hK.2 ((S15.1 85) x1.toNatClampNeg) 0 (uI S15 110 x1.toNatClampNeg r16) _ _ hc20) (by show (_ : Nat) ≤ D; omega) (by show (_ : Nat) ≤ 40 * D; omega) (Nat.le_of_ble_eq_true rfl) rfl dX11_lay_99 ?_
          obtain ⟨hg, hm⟩ := gd_some hm
          refine aS_111 (pc := 102) X dX11_lay_102 hg ?_
          refine iv_goto (pc := 103) X dX11_lay_103 (tgt := 320) rfl ?_
          refine iv_aload_n (pc := 320) X dX11_lay_320 rfl ?_
          refine gF_X11_92_75 (pc := 321) X dX11_lay_321 ?_
          refine iv_iload_n (pc := 324) X dX11_lay_324 rfl ?_
          refine iv_iload_n (pc := 325) X dX11_lay_325 rfl ?_
          obtain ⟨hg, hm⟩ := gd_some hm
          refine aS_103 (pc := 326) X dX11_lay_326 hg ?_
          refine iv_aload_n (pc := 327) X dX11_lay_327 rfl ?_
          refine gF_X11_95_75 (pc := 328) X dX11_lay_328 ?_
          refine iv_iload_n (pc := 331) X dX11_lay_331 rfl ?_
          refine iv_aload_n (pc := 332) X dX11_lay_332 rfl ?_
          refine gF_X11_101_75 (pc := 333) X dX11_lay_333 ?_
          refine iv_iload_n (pc := 336) X dX11_lay_336 rfl ?_
          obtain ⟨hg, hm⟩ := gd_some hm
          refine aL_106 (pc := 337) X dX11_lay_337 hg (x := (S18.1 106) x2.toNatClampNeg) rfl ?_
          obtain ⟨hg, hm⟩ := gd_some hm
          refine aS_104 (pc := 338) X dX11_lay_338 hg ?_
          refine iv_aload_n (pc := 339) X dX11_lay_339 rfl ?_
          refine gF_X11_101_75 (pc := 340) X dX11_lay_340 ?_
          refine iv_iload_n (pc := 343) X dX11_lay_343 rfl ?_
          refine iv_dup2_11 (pc := 344) X dX11_lay_344 rfl rfl ?_
          obtain ⟨hg, hm⟩ := gd_some hm
          refine aL_106 (pc := 345) X dX11_lay_345 hg (x := (S18.1 106) x2.toNatClampNeg) rfl ?_
          refine iv_iconst (pc := 346) X dX11_lay_346 ic_1 ?_
          refine iv_iadd (pc := 347) X dX11_lay_347 ?_
          obtain ⟨hg, hm⟩ := gd_some hm
          refine aS_106 (pc := 348) X dX11_lay_348 hg ?_
          refine iv_aload_n (pc := 349) X dX11_lay_349 rfl ?_
          refine gF_X11_107_75 (pc := 350) X dX11_lay_350 ?_
          refine iv_iload_n (pc := 353) X dX11_lay_353 rfl ?_
          refine iv_iconst (pc := 354) X dX11_lay_354 ic_m1 ?_
          obtain ⟨hg, hm⟩ := gd_some hm
          refine aS_108 (pc := 355) X dX11_lay_355 hg ?_
          refine iv_aload_n (pc := 356) X dX11_lay_356 rfl ?_
          refine gF_X11_104_75 (pc := 357) X dX11_lay_357 ?_
          refine iv_iload_n (pc := 360) X dX11_lay_360 rfl ?_
          obtain ⟨hg, hm⟩ := gd_some hm
          refine aL_107 (pc := 361) X dX11_lay_361 hg (x := (S18.1 107) x2.toNatClampNeg) rfl ?_
          refine iv_iconst (pc := 362) X dX11_lay_362 ic_m1 ?_
          refine iv_icmp_ne (pc := 363) X dX11_lay_363 (tgt := 376) rfl (fun hb21 => ?_) (fun hb21 => ?_)
          · rw [if_pos hb21] at hm
            refine iv_aload_n (pc := 376) X dX11_lay_376 rfl ?_
            refine gF_X11_107_75 (pc := 377) X dX11_lay_377 ?_
            refine iv_aload_n (pc := 380) X dX11_lay_380 rfl ?_
            refine gF_X11_110_75 (pc := 381) X dX11_lay_381 ?_
            refine iv_iload_n (pc := 384) X dX11_lay_384 rfl ?_
            obtain ⟨hg, hm⟩ := gd_some hm
            refine aL_109 (pc := 385) X dX11_lay_385 hg (x := (S18.1 109) x2.toNatClampNeg) rfl ?_
            refine iv_iload_n (pc := 386) X dX11_lay_386 rfl ?_
            obtain ⟨hg, hm⟩ := gd_some hm
            refine aS_108 (pc := 387) X dX11_lay_387 hg ?_
            refine iv_aload_n (pc := 388) X dX11_lay_388 rfl ?_
            refine gF_X11_110_75 (pc := 389) X dX11_lay_389 ?_
            refine iv_iload_n (pc := 392) X dX11_lay_392 rfl ?_
            refine iv_iload_n (pc := 393) X dX11_lay_393 rfl ?_
            obtain ⟨hg, hm⟩ := gd_some hm
            refine aS_109 (pc := 394) X dX11_lay_394 hg ?_
            cases hm
            exact is_vret (pc := 395) X dX11_lay_395
          · rw [if_neg hb21] at hm
            refine iv_aload_n (pc := 366) X dX11_lay_366 rfl ?_
            refine gF_X11_104_75 (pc := 367) X dX11_lay_367 ?_
            refine iv_iload_n (pc := 370) X dX11_lay_370 rfl ?_
            refine iv_iload_n (pc := 371) X dX11_lay_371 rfl ?_
            obtain ⟨hg, hm⟩ := gd_some hm
            refine aS_107 (pc := 372) X dX11_lay_372 hg ?_
            refine iv_goto (pc := 373) X dX11_lay_373 (tgt := 388) rfl ?_
            refine iv_aload_n (pc := 388) X dX11_lay_388 rfl ?_
            refine gF_X11_110_75 (pc := 389) X dX11_lay_389 ?_
            refine iv_iload_n (pc := 392) X dX11_lay_392 rfl ?_
            refine iv_iload_n (pc := 393) X dX11_lay_393 rfl ?_
            obtain ⟨hg, hm⟩ := gd_some hm
            refine aS_109 (pc := 394) X dX11_lay_394 hg ?_
            cases hm
            exact is_vret (pc := 395) X dX11_lay_395
        · rw [if_neg hb11] at hm
          by_cases hb22 : ((S.1 81) x1.toNatClampNeg) = (7 : Int32)
          · rw [if_pos hb22] at hm
            refine iv_tableIn X dX11_lay_12 (off := 94) (tgt := 106) (by rw [hb22]; decide) (by rw [hb22]; decide) (by rw [hb22]; decide) (by decide) ?_
            refine iv_iconst (pc := 106) X dX11_lay_106 ic_0 ?_
            refine iv_istore_n (pc := 107) X dX11_lay_107 (by decide) (lv' := [(3, .int 0), (0, .ref (ad 75)), (1, .int x1), (2, .int x2)]) rfl ?_
            refine iv_sub [1, 2, 3, 0] (lv2 := [(0, .ref (ad 75)), (1, .int x1), (2, .int x2), (3, .int 0)]) rfl ?_
            exact f_X11_lay_L108_w K hD1 hD2 hK (fu := fu) l g ad X fu x1 x2 0 S _ _ hm
          · rw [if_neg hb22] at hm
            by_cases hb23 : ((S.1 81) x1.toNatClampNeg) = (8 : Int32)
            · rw [if_pos hb23] at hm
              refine iv_tableIn X dX11_lay_12 (off := 286) (tgt := 298) (by rw [hb23]; decide) (by rw [hb23]; decide) (by rw [hb23]; decide) (by decide) ?_
              refine iv_aload_n (pc := 298) X dX11_lay_298 rfl ?_
              refine iv_aload_n (pc := 299) X dX11_lay_299 rfl ?_
              refine gF_X11_32_75 (pc := 300) X dX11_lay_300 ?_
              refine iv_iload_n (pc := 303) X dX11_lay_303 rfl ?_
              obtain ⟨hg, hm⟩ := gd_some hm
              refine aL_83 (pc := 304) X dX11_lay_304 hg (x := (S.1 83) x1.toNatClampNeg) rfl ?_
              refine iv_iload_n (pc := 305) X dX11_lay_305 rfl ?_
              obtain ⟨⟨r25, S24⟩, hc26, hm⟩ := bd_some hm
              refine cV_X11_382_75 (pc := 306) X [.int ((S.1 83) x1.toNatClampNeg), .int x2] [] 2 rfl (hK.1 ((S.1 83) x1.toNatClampNeg) x2 S _ _ hc26) (by show (_ : Nat) ≤ D; omega) (by show (_ : Nat) ≤ 40 * D; omega) (Nat.le_of_ble_eq_true rfl) rfl dX11_lay_306 ?_
              refine iv_aload_n (pc := 309) X dX11_lay_309 rfl ?_
              refine iv_aload_n (pc := 310) X dX11_lay_310 rfl ?_
              refine gF_X11_35_75 (pc := 311) X dX11_lay_311 ?_
              refine iv_iload_n (pc := 314) X dX11_lay_314 rfl ?_
              obtain ⟨hg, hm⟩ := gd_some hm
              refine aL_84 (pc := 315) X dX11_lay_315 hg (x := (S24.1 84) x1.toNatClampNeg) rfl ?_
              refine iv_iload_n (pc := 316) X dX11_lay_316 rfl ?_
              obtain ⟨⟨r28, S27⟩, hc29, hm⟩ := bd_some hm
              refine cV_X11_382_75 (pc := 317) X [.int ((S24.1 84) x1.toNatClampNeg), .int x2] [] 2 rfl (hK.1 ((S24.1 84) x1.toNatClampNeg) x2 S24 _ _ hc29) (by show (_ : Nat) ≤ D; omega) (by show (_ : Nat) ≤ 40 * D; omega) (Nat.le_of_ble_eq_true rfl) rfl dX11_lay_317 ?_
              refine iv_aload_n (pc := 320) X dX11_lay_320 rfl ?_
              refine gF_X11_92_75 (pc := 321) X dX11_lay_321 ?_
              refine iv_iload_n (pc := 324) X dX11_lay_324 rfl ?_
              refine iv_iload_n (pc := 325) X dX11_lay_325 rfl ?_
              obtain ⟨hg, hm⟩ := gd_some hm
              refine aS_103 (pc := 326) X dX11_lay_326 hg ?_
              refine iv_aload_n (pc := 327) X dX11_lay_327 rfl ?_
              refine gF_X11_95_75 (pc := 328) X dX11_lay_328 ?_
              refine iv_iload_n (pc := 331) X dX11_lay_331 rfl ?_
              refine iv_aload_n (pc := 332) X dX11_lay_332 rfl ?_
              refine gF_X11_101_75 (pc := 333) X dX11_lay_333 ?_
              refine iv_iload_n (pc := 336) X dX11_lay_336 rfl ?_
              obtain ⟨hg, hm⟩ := gd_some hm
              refine aL_106 (pc := 337) X dX11_lay_337 hg (x := (S27.1 106) x2.toNatClampNeg) rfl ?_
              obtain ⟨hg, hm⟩ := gd_some hm
              refine aS_104 (pc := 338) X dX11_lay_338 hg ?_
              refine iv_aload_n (pc := 339) X dX11_lay_339 rfl ?_
              refine gF_X11_101_75 (pc := 340) X dX11_lay_340 ?_
              refine iv_iload_n (pc := 343) X dX11_lay_343 rfl ?_
              refine iv_dup2_11 (pc := 344) X dX11_lay_344 rfl rfl ?_
              obtain ⟨hg, hm⟩ := gd_some hm
              refine aL_106 (pc := 345) X dX11_lay_345 hg (x := (S27.1 106) x2.toNatClampNeg) rfl ?_
              refine iv_iconst (pc := 346) X dX11_lay_346 ic_1 ?_
              refine iv_iadd (pc := 347) X dX11_lay_347 ?_
              obtain ⟨hg, hm⟩ := gd_some hm
              refine aS_106 (pc := 348) X dX11_lay_348 hg ?_
              refine iv_aload_n (pc := 349) X dX11_lay_349 rfl ?_
              refine gF_X11_107_75 (pc := 350) X dX11_lay_350 ?_
              refine iv_iload_n (pc := 353) X dX11_lay_353 rfl ?_
              refine iv_iconst (pc := 354) X dX11_lay_354 ic_m1 ?_
              obtain ⟨hg, hm⟩ := gd_some hm
              refine aS_108 (pc := 355) X dX11_lay_355 hg ?_
              refine iv_aload_n (pc := 356) X dX11_lay_356 rfl ?_
              refine gF_X11_104_75 (pc := 357) X dX11_lay_357 ?_
              refine iv_iload_n (pc := 360) X dX11_lay_360 rfl ?_
              obtain ⟨hg, hm⟩ := gd_some hm
              refine aL_107 (pc := 361) X dX11_lay_361 hg (x := (S27.1 107) x2.toNatClampNeg) rfl ?_
              refine iv_iconst (pc := 362) X dX11_lay_362 ic_m1 ?_
              refine iv_icmp_ne (pc := 363) X dX11_lay_363 (tgt := 376) rfl (fun hb30 => ?_) (fun hb30 => ?_)
              · rw [if_pos hb30] at hm
                refine iv_aload_n (pc := 376) X dX11_lay_376 rfl ?_
                refine gF_X11_107_75 (pc := 377) X dX11_lay_377 ?_
                refine iv_aload_n (pc := 380) X dX11_lay_380 rfl ?_
                refine gF_X11_110_75 (pc := 381) X dX11_lay_381 ?_
                refine iv_iload_n (pc := 384) X dX11_lay_384 rfl ?_
                obtain ⟨hg, hm⟩ := gd_some hm
                refine aL_109 (pc := 385) X dX11_lay_385 hg (x := (S27.1 109) x2.toNatClampNeg) rfl ?_
                refine iv_iload_n (pc := 386) X dX11_lay_386 rfl ?_
                obtain ⟨hg, hm⟩ := gd_some hm
                refine aS_108 (pc := 387) X dX11_lay_387 hg ?_
                refine iv_aload_n (pc := 388) X dX11_lay_388 rfl ?_
                refine gF_X11_110_75 (pc := 389) X dX11_lay_389 ?_
                refine iv_iload_n (pc := 392) X dX11_lay_392 rfl ?_
                refine iv_iload_n (pc := 393) X dX11_lay_393 rfl ?_
                obtain ⟨hg, hm⟩ := gd_some hm
                refine aS_109 (pc := 394) X dX11_lay_394 hg ?_
                cases hm
                exact is_vret (pc := 395) X dX11_lay_395
              · rw [if_neg hb30] at hm
                refine iv_aload_n (pc := 366) X dX11_lay_366 rfl ?_
                refine gF_X11_104_75 (pc := 367) X dX11_lay_367 ?_
                refine iv_iload_n (pc := 370) X dX11_lay_370 rfl ?_
                refine iv_iload_n (pc := 371) X dX11_lay_371 rfl ?_
                obtain ⟨hg, hm⟩ := gd_some hm
                refine aS_107 (pc := 372) X dX11_lay_372 hg ?_
                refine iv_goto (pc := 373) X dX11_lay_373 (tgt := 388) rfl ?_
                refine iv_aload_n (pc := 388) X dX11_lay_388 rfl ?_
                refine gF_X11_110_75 (pc := 389) X dX11_lay_389 ?_
                refine iv_iload_n (pc := 392) X dX11_lay_392 rfl ?_
                refine iv_iload_n (pc := 393) X dX11_lay_393 rfl ?_
                obtain ⟨hg, hm⟩ := gd_some hm
                refine aS_109 (pc := 394) X dX11_lay_394 hg ?_
                cases hm
                exact is_vret (pc := 395) X dX11_lay_395
            · rw [if_neg hb23] at hm
              by_cases hb31 : ((S.1 81) x1.toNatClampNeg) = (9 : Int32)
              · rw [if_pos hb31] at hm
                refine iv_tableIn X dX11_lay_12 (off := 286) (tgt := 298) (by rw [hb31]; decide) (by rw [hb31]; decide) (by rw [hb31]; decide) (by decide) ?_
                refine iv_aload_n (pc := 298) X dX11_lay_298 rfl ?_
                refine iv_aload_n (pc := 299) X dX11_lay_299 rfl ?_
                refine gF_X11_32_75 (pc := 300) X dX11_lay_300 ?_
                refine iv_iload_n (pc := 303) X dX11_lay_303 rfl ?_
                obtain ⟨hg, hm⟩ := gd_some hm
                refine aL_83 (pc := 304) X dX11_lay_304 hg (x := (S.1 83) x1.toNatClampNeg) rfl ?_
                refine iv_iload_n (pc := 305) X dX11_lay_305 rfl ?_
                obtain ⟨⟨r33, S32⟩, hc34, hm⟩ := bd_some hm
                refine cV_X11_382_75 (pc := 306) X [.int ((S.1 83) x1.toNatClampNeg), .int x2] [] 2 rfl (hK.1 ((S.1 83) x1.toNatClampNeg) x2 S _ _ hc34) (by show (_ : Nat) ≤ D; omega) (by show (_ : Nat) ≤ 40 * D; omega) (Nat.le_of_ble_eq_true rfl) rfl dX11_lay_306 ?_
                refine iv_aload_n (pc := 309) X dX11_lay_309 rfl ?_
                refine iv_aload_n (pc := 310) X dX11_lay_310 rfl ?_
                refine gF_X11_35_75 (pc := 311) X dX11_lay_311 ?_
                refine iv_iload_n (pc := 314) X dX11_lay_314 rfl ?_
                obtain ⟨hg, hm⟩ := gd_some hm
                refine aL_84 (pc := 315) X dX11_lay_315 hg (x := (S32.1 84) x1.toNatClampNeg) rfl ?_
                refine iv_iload_n (pc := 316) X dX11_lay_316 rfl ?_
                obtain ⟨⟨r36, S35⟩, hc37, hm⟩ := bd_some hm
                refine cV_X11_382_75 (pc := 317) X [.int ((S32.1 84) x1.toNatClampNeg), .int x2] [] 2 rfl (hK.1 ((S32.1 84) x1.toNatClampNeg) x2 S32 _ _ hc37) (by show (_ : Nat) ≤ D; omega) (by show (_ : Nat) ≤ 40 * D; omega) (Nat.le_of_ble_eq_true rfl) rfl dX11_lay_317 ?_
                refine iv_aload_n (pc := 320) X dX11_lay_320 rfl ?_
                refine gF_X11_92_75 (pc := 321) X dX11_lay_321 ?_
                refine iv_iload_n (pc := 324) X dX11_lay_324 rfl ?_
                refine iv_iload_n (pc := 325) X dX11_lay_325 rfl ?_
                obtain ⟨hg, hm⟩ := gd_some hm
                refine aS_103 (pc := 326) X dX11_lay_326 hg ?_
                refine iv_aload_n (pc := 327) X dX11_lay_327 rfl ?_
                refine gF_X11_95_75 (pc := 328) X dX11_lay_328 ?_
                refine iv_iload_n (pc := 331) X dX11_lay_331 rfl ?_
                refine iv_aload_n (pc := 332) X dX11_lay_332 rfl ?_
                refine gF_X11_101_75 (pc := 333) X dX11_lay_333 ?_
                refine iv_iload_n (pc := 336) X dX11_lay_336 rfl ?_
                obtain ⟨hg, hm⟩ := gd_some hm
                refine aL_106 (pc := 337) X dX11_lay_337 hg (x := (S35.1 106) x2.toNatClampNeg) rfl ?_
                obtain ⟨hg, hm⟩ := gd_some hm
                refine aS_104 (pc := 338) X dX11_lay_338 hg ?_
                refine iv_aload_n (pc := 339) X dX11_lay_339 rfl ?_
                refine gF_X11_101_75 (pc := 340) X dX11_lay_340 ?_
                refine iv_iload_n (pc := 343) X dX11_lay_343 rfl ?_
                refine iv_dup2_11 (pc := 344) X dX11_lay_344 rfl rfl ?_
                obtain ⟨hg, hm⟩ := gd_some hm
                refine aL_106 (pc := 345) X dX11_lay_345 hg (x := (S35.1 106) x2.toNatClampNeg) rfl ?_
                refine iv_iconst (pc := 346) X dX11_lay_346 ic_1 ?_
                refine iv_iadd (pc := 347) X dX11_lay_347 ?_
                obtain ⟨hg, hm⟩ := gd_some hm
                refine aS_106 (pc := 348) X dX11_lay_348 hg ?_
                refine iv_aload_n (pc := 349) X dX11_lay_349 rfl ?_
                refine gF_X11_107_75 (pc := 350) X dX11_lay_350 ?_
                refine iv_iload_n (pc := 353) X dX11_lay_353 rfl ?_
                refine iv_iconst (pc := 354) X dX11_lay_354 ic_m1 ?_
                obtain ⟨hg, hm⟩ := gd_some hm
                refine aS_108 (pc := 355) X dX11_lay_355 hg ?_
                refine iv_aload_n (pc := 356) X dX11_lay_356 rfl ?_
                refine gF_X11_104_75 (pc := 357) X dX11_lay_357 ?_
                refine iv_iload_n (pc := 360) X dX11_lay_360 rfl ?_
                obtain ⟨hg, hm⟩ := gd_some hm
                refine aL_107 (pc := 361) X dX11_lay_361 hg (x := (S35.1 107) x2.toNatClampNeg) rfl ?_
                refine iv_iconst (pc := 362) X dX11_lay_362 ic_m1 ?_
                refine iv_icmp_ne (pc := 363) X dX11_lay_363 (tgt := 376) rfl (fun hb38 => ?_) (fun hb38 => ?_)
                · rw [if_pos hb38] at hm
                  refine iv_aload_n (pc := 376) X dX11_lay_376 rfl ?_
                  refine gF_X11_107_75 (pc := 377) X dX11_lay_377 ?_
                  refine iv_aload_n (pc := 380) X dX11_lay_380 rfl ?_
                  refine gF_X11_110_75 (pc := 381) X dX11_lay_381 ?_
                  refine iv_iload_n (pc := 384) X dX11_lay_384 rfl ?_
                  obtain ⟨hg, hm⟩ := gd_some hm
                  refine aL_109 (pc := 385) X dX11_lay_385 hg (x := (S35.1 109) x2.toNatClampNeg) rfl ?_
                  refine iv_iload_n (pc := 386) X dX11_lay_386 rfl ?_
                  obtain ⟨hg, hm⟩ := gd_some hm
                  refine aS_108 (pc := 387) X dX11_lay_387 hg ?_
                  refine iv_aload_n (pc := 388) X dX11_lay_388 rfl ?_
                  refine gF_X11_110_75 (pc := 389) X dX11_lay_389 ?_
                  refine iv_iload_n (pc := 392) X dX11_lay_392 rfl ?_
                  refine iv_iload_n (pc := 393) X dX11_lay_393 rfl ?_
                  obtain ⟨hg, hm⟩ := gd_some hm
                  refine aS_109 (pc := 394) X dX11_lay_394 hg ?_
                  cases hm
                  exact is_vret (pc := 395) X dX11_lay_395
                · rw [if_neg hb38] at hm
                  refine iv_aload_n (pc := 366) X dX11_lay_366 rfl ?_
                  refine gF_X11_104_75 (pc := 367) X dX11_lay_367 ?_
                  refine iv_iload_n (pc := 370) X dX11_lay_370 rfl ?_
                  refine iv_iload_n (pc := 371) X dX11_lay_371 rfl ?_
                  obtain ⟨hg, hm⟩ := gd_some hm
                  refine aS_107 (pc := 372) X dX11_lay_372 hg ?_
                  refine iv_goto (pc := 373) X dX11_lay_373 (tgt := 388) rfl ?_
                  refine iv_aload_n (pc := 388) X dX11_lay_388 rfl ?_
                  refine gF_X11_110_75 (pc := 389) X dX11_lay_389 ?_
                  refine iv_iload_n (pc := 392) X dX11_lay_392 rfl ?_
                  refine iv_iload_n (pc := 393) X dX11_lay_393 rfl ?_
                  obtain ⟨hg, hm⟩ := gd_some hm
                  refine aS_109 (pc := 394) X dX11_lay_394 hg ?_
                  cases hm
                  exact is_vret (pc := 395) X dX11_lay_395
              · rw [if_neg hb31] at hm
                by_cases hb39 : ((S.1 81) x1.toNatClampNeg) = (10 : Int32)
                · rw [if_pos hb39] at hm
                  refine iv_tableIn X dX11_lay_12 (off := 286) (tgt := 298) (by rw [hb39]; decide) (by rw [hb39]; decide) (by rw [hb39]; decide) (by decide) ?_
                  refine iv_aload_n (pc := 298) X dX11_lay_298 rfl ?_
                  refine iv_aload_n (pc := 299) X dX11_lay_299 rfl ?_
                  refine gF_X11_32_75 (pc := 300) X dX11_lay_300 ?_
                  refine iv_iload_n (pc := 303) X dX11_lay_303 rfl ?_
                  obtain ⟨hg, hm⟩ := gd_some hm
                  refine aL_83 (pc := 304) X dX11_lay_304 hg (x := (S.1 83) x1.toNatClampNeg) rfl ?_
                  refine iv_iload_n (pc := 305) X dX11_lay_305 rfl ?_
                  obtain ⟨⟨r41, S40⟩, hc42, hm⟩ := bd_some hm
                  refine cV_X11_382_75 (pc := 306) X [.int ((S.1 83) x1.toNatClampNeg), .int x2] [] 2 rfl (hK.1 ((S.1 83) x1.toNatClampNeg) x2 S _ _ hc42) (by show (_ : Nat) ≤ D; omega) (by show (_ : Nat) ≤ 40 * D; omega) (Nat.le_of_ble_eq_true rfl) rfl dX11_lay_306 ?_
                  refine iv_aload_n (pc := 309) X dX11_lay_309 rfl ?_
                  refine iv_aload_n (pc := 310) X dX11_lay_310 rfl ?_
                  refine gF_X11_35_75 (pc := 311) X dX11_lay_311 ?_
                  refine iv_iload_n (pc := 314) X dX11_lay_314 rfl ?_
                  obtain ⟨hg, hm⟩ := gd_some hm
                  refine aL_84 (pc := 315) X dX11_lay_315 hg (x := (S40.1 84) x1.toNatClampNeg) rfl ?_
                  refine iv_iload_n (pc := 316) X dX11_lay_316 rfl ?_
                  obtain ⟨⟨r44, S43⟩, hc45, hm⟩ := bd_some hm
                  refine cV_X11_382_75 (pc := 317) X [.int ((S40.1 84) x1.toNatClampNeg), .int x2] [] 2 rfl (hK.1 ((S40.1 84) x1.toNatClampNeg) x2 S40 _ _ hc45) (by show (_ : Nat) ≤ D; omega) (by show (_ : Nat) ≤ 40 * D; omega) (Nat.le_of_ble_eq_true rfl) rfl dX11_lay_317 ?_
                  refine iv_aload_n (pc := 320) X dX11_lay_320 rfl ?_
                  refine gF_X11_92_75 (pc := 321) X dX11_lay_321 ?_
                  refine iv_iload_n (pc := 324) X dX11_lay_324 rfl ?_
                  refine iv_iload_n (pc := 325) X dX11_lay_325 rfl ?_
                  obtain ⟨hg, hm⟩ := gd_some hm
                  refine aS_103 (pc := 326) X dX11_lay_326 hg ?_
                  refine iv_aload_n (pc := 327) X dX11_lay_327 rfl ?_
                  refine gF_X11_95_75 (pc := 328) X dX11_lay_328 ?_
                  refine iv_iload_n (pc := 331) X dX11_lay_331 rfl ?_
                  refine iv_aload_n (pc := 332) X dX11_lay_332 rfl ?_
                  refine gF_X11_101_75 (pc := 333) X dX11_lay_333 ?_
                  refine iv_iload_n (pc := 336) X dX11_lay_336 rfl ?_
                  obtain ⟨hg, hm⟩ := gd_some hm
                  refine aL_106 (pc := 337) X dX11_lay_337 hg (x := (S43.1 106) x2.toNatClampNeg) rfl ?_
                  obtain ⟨hg, hm⟩ := gd_some hm
                  refine aS_104 (pc := 338) X dX11_lay_338 hg ?_
                  refine iv_aload_n (pc := 339) X dX11_lay_339 rfl ?_
                  refine gF_X11_101_75 (pc := 340) X dX11_lay_340 ?_
                  refine iv_iload_n (pc := 343) X dX11_lay_343 rfl ?_
                  refine iv_dup2_11 (pc := 344) X dX11_lay_344 rfl rfl ?_
                  obtain ⟨hg, hm⟩ := gd_some hm
                  refine aL_106 (pc := 345) X dX11_lay_345 hg (x := (S43.1 106) x2.toNatClampNeg) rfl ?_
                  refine iv_iconst (pc := 346) X dX11_lay_346 ic_1 ?_
                  refine iv_iadd (pc := 347) X dX11_lay_347 ?_
                  obtain ⟨hg, hm⟩ := gd_some hm
                  refine aS_106 (pc := 348) X dX11_lay_348 hg ?_
                  refine iv_aload_n (pc := 349) X dX11_lay_349 rfl ?_
                  refine gF_X11_107_75 (pc := 350) X dX11_lay_350 ?_
                  refine iv_iload_n (pc := 353) X dX11_lay_353 rfl ?_
                  refine iv_iconst (pc := 354) X dX11_lay_354 ic_m1 ?_
                  obtain ⟨hg, hm⟩ := gd_some hm
                  refine aS_108 (pc := 355) X dX11_lay_355 hg ?_
                  refine iv_aload_n (pc := 356) X dX11_lay_356 rfl ?_
                  refine gF_X11_104_75 (pc := 357) X dX11_lay_357 ?_
                  refine iv_iload_n (pc := 360) X dX11_lay_360 rfl ?_
                  obtain ⟨hg, hm⟩ := gd_some hm
                  refine aL_107 (pc := 361) X dX11_lay_361 hg (x := (S43.1 107) x2.toNatClampNeg) rfl ?_
                  refine iv_iconst (pc := 362) X dX11_lay_362 ic_m1 ?_
                  refine iv_icmp_ne (pc := 363) X dX11_lay_363 (tgt := 376) rfl (fun hb46 => ?_) (fun hb46 => ?_)
                  · rw [if_pos hb46] at hm
                    refine iv_aload_n (pc := 376) X dX11_lay_376 rfl ?_
                    refine gF_X11_107_75 (pc := 377) X dX11_lay_377 ?_
                    refine iv_aload_n (pc := 380) X dX11_lay_380 rfl ?_
                    refine gF_X11_110_75 (pc := 381) X dX11_lay_381 ?_
                    refine iv_iload_n (pc := 384) X dX11_lay_384 rfl ?_
                    obtain ⟨hg, hm⟩ := gd_some hm
                    refine aL_109 (pc := 385) X dX11_lay_385 hg (x := (S43.1 109) x2.toNatClampNeg) rfl ?_
                    refine iv_iload_n (pc := 386) X dX11_lay_386 rfl ?_
                    obtain ⟨hg, hm⟩ := gd_some hm
                    refine aS_108 (pc := 387) X dX11_lay_387 hg ?_
                    refine iv_aload_n (pc := 388) X dX11_lay_388 rfl ?_
                    refine gF_X11_110_75 (pc := 389) X dX11_lay_389 ?_
                    refine iv_iload_n (pc := 392) X dX11_lay_392 rfl ?_
                    refine iv_iload_n (pc := 393) X dX11_lay_393 rfl ?_
                    obtain ⟨hg, hm⟩ := gd_some hm
                    refine aS_109 (pc := 394) X dX11_lay_394 hg ?_
                    cases hm
                    exact is_vret (pc := 395) X dX11_lay_395
                  · rw [if_neg hb46] at hm
                    refine iv_aload_n (pc := 366) X dX11_lay_366 rfl ?_
                    refine gF_X11_104_75 (pc := 367) X dX11_lay_367 ?_
                    refine iv_iload_n (pc := 370) X dX11_lay_370 rfl ?_
                    refine iv_iload_n (pc := 371) X dX11_lay_371 rfl ?_
                    obtain ⟨hg, hm⟩ := gd_some hm
                    refine aS_107 (pc := 372) X dX11_lay_372 hg ?_
                    refine iv_goto (pc := 373) X dX11_lay_373 (tgt := 388) rfl ?_
                    refine iv_aload_n (pc := 388) X dX11_lay_388 rfl ?_
                    refine gF_X11_110_75 (pc := 389) X dX11_lay_389 ?_
                    refine iv_iload_n (pc := 392) X dX11_lay_392 rfl ?_
                    refine iv_iload_n (pc := 393) X dX11_lay_393 rfl ?_
                    obtain ⟨hg, hm⟩ := gd_some hm
                    refine aS_109 (pc := 394) X dX11_lay_394 hg ?_
                    cases hm
                    exact is_vret (pc := 395) X dX11_lay_395
                · rw [if_neg hb39] at hm
                  by_cases hb47 : ((S.1 81) x1.toNatClampNeg) = (11 : Int32)
                  · rw [if_pos hb47] at hm
                    refine iv_tableIn X dX11_lay_12 (off := 217) (tgt := 229) (by rw [hb47]; decide) (by rw [hb47]; decide) (by rw [hb47]; decide) (by decide) ?_
                    refine iv_aload_n (pc := 229) X dX11_lay_229 rfl ?_
                    refine iv_aload_n (pc := 230) X dX11_lay_230 rfl ?_
                    refine gF_X11_32_75 (pc := 231) X dX11_lay_231 ?_
                    refine iv_iload_n (pc := 234) X dX11_lay_234 rfl ?_
                    obtain ⟨hg, hm⟩ := gd_some hm
                    refine aL_83 (pc := 235) X dX11_lay_235 hg (x := (S.1 83) x1.toNatClampNeg) rfl ?_
                    refine iv_iload_n (pc := 236) X dX11_lay_236 rfl ?_
                    obtain ⟨⟨r49, S48⟩, hc50, hm⟩ := bd_some hm
                    refine cV_X11_382_75 (pc := 237) X [.int ((S.1 83) x1.toNatClampNeg), .int x2] [] 2 rfl (hK.1 ((S.1 83) x1.toNatClampNeg) x2 S _ _ hc50) (by show (_ : Nat) ≤ D; omega) (by show (_ : Nat) ≤ 40 * D; omega) (Nat.le_of_ble_eq_true rfl) rfl dX11_lay_237 ?_
                    refine iv_aload_n (pc := 240) X dX11_lay_240 rfl ?_
                    refine gF_X11_113_75 (pc := 241) X dX11_lay_241 ?_
                    refine iv_iload_n (pc := 244) X dX11_lay_244 rfl ?_
                    refine iv_aload_n (pc := 245) X dX11_lay_245 rfl ?_
                    refine iv_aload_n (pc := 246) X dX11_lay_246 rfl ?_
                    refine gF_X11_35_75 (pc := 247) X dX11_lay_247 ?_
                    refine iv_iload_n (pc := 250) X dX11_lay_250 rfl ?_
                    obtain ⟨hg, hm⟩ := gd_some hm
                    refine aL_84 (pc := 251) X dX11_lay_251 hg (x := (S48.1 84) x1.toNatClampNeg) rfl ?_
                    obtain ⟨⟨r52, S51⟩, hc53, hm⟩ := bd_some hm
                    refine cV_X11_385_75 (pc := 252) X [.int ((S48.1 84) x1.toNatClampNeg)] [.int x1, .ref (ad 110)] 1 rfl (hK.2 ((S48.1 84) x1.toNatClampNeg) 0 S48 _ _ hc53) (by show (_ : Nat) ≤ D; omega) (by show (_ : Nat) ≤ 40 * D; omega) (Nat.le_of_ble_eq_true rfl) rfl dX11_lay_252 ?_
                    obtain ⟨hg, hm⟩ := gd_some hm
                    refine aS_110 (pc := 255) X dX11_lay_255 hg ?_
                    refine iv_goto (pc := 256) X dX11_lay_256 (tgt := 320) rfl ?_
                    refine iv_aload_n (pc := 320) X dX11_lay_320 rfl ?_
                    refine gF_X11_92_75 (pc := 321) X dX11_lay_321 ?_
                    refine iv_iload_n (pc := 324) X dX11_lay_324 rfl ?_
                    refine iv_iload_n (pc := 325) X dX11_lay_325 rfl ?_
                    obtain ⟨hg, hm⟩ := gd_some hm
                    refine aS_103 (pc := 326) X dX11_lay_326 hg ?_
                    refine iv_aload_n (pc := 327) X dX11_lay_327 rfl ?_
                    refine gF_X11_95_75 (pc := 328) X dX11_lay_328 ?_
                    refine iv_iload_n (pc := 331) X dX11_lay_331 rfl ?_
                    refine iv_aload_n (pc := 332) X dX11_lay_332 rfl ?_
                    refine gF_X11_101_75 (pc := 333) X dX11_lay_333 ?_
                    refine iv_iload_n (pc := 336) X dX11_lay_336 rfl ?_
                    obtain ⟨hg, hm⟩ := gd_some hm
                    refine aL_106 (pc := 337) X dX11_lay_337 hg (x := (S51.1 106) x2.toNatClampNeg) rfl ?_
                    obtain ⟨hg, hm⟩ := gd_some hm
                    refine aS_104 (pc := 338) X dX11_lay_338 hg ?_
                    refine iv_aload_n (pc := 339) X dX11_lay_339 rfl ?_
                    refine gF_X11_101_75 (pc := 340) X dX11_lay_340 ?_
                    refine iv_iload_n (pc := 343) X dX11_lay_343 rfl ?_
                    refine iv_dup2_11 (pc := 344) X dX11_lay_344 rfl rfl ?_
                    obtain ⟨hg, hm⟩ := gd_some hm
                    refine aL_106 (pc := 345) X dX11_lay_345 hg (x := (S51.1 106) x2.toNatClampNeg) rfl ?_
                    refine iv_iconst (pc := 346) X dX11_lay_346 ic_1 ?_
                    refine iv_iadd (pc := 347) X dX11_lay_347 ?_
                    obtain ⟨hg, hm⟩ := gd_some hm
                    refine aS_106 (pc := 348) X dX11_lay_348 hg ?_
                    refine iv_aload_n (pc := 349) X dX11_lay_349 rfl ?_
                    refine gF_X11_107_75 (pc := 350) X dX11_lay_350 ?_
                    refine iv_iload_n (pc := 353) X dX11_lay_353 rfl ?_
                    refine iv_iconst (pc := 354) X dX11_lay_354 ic_m1 ?_
                    obtain ⟨hg, hm⟩ := gd_some hm
                    refine aS_108 (pc := 355) X dX11_lay_355 hg ?_
                    refine iv_aload_n (pc := 356) X dX11_lay_356 rfl ?_
                    refine gF_X11_104_75 (pc := 357) X dX11_lay_357 ?_
                    refine iv_iload_n (pc := 360) X dX11_lay_360 rfl ?_
                    obtain ⟨hg, hm⟩ := gd_some hm
                    refine aL_107 (pc := 361) X dX11_lay_361 hg (x := (S51.1 107) x2.toNatClampNeg) rfl ?_
                    refine iv_iconst (pc := 362) X dX11_lay_362 ic_m1 ?_
                    refine iv_icmp_ne (pc := 363) X dX11_lay_363 (tgt := 376) rfl (fun hb54 => ?_) (fun hb54 => ?_)
                    · rw [if_pos hb54] at hm
                      refine iv_aload_n (pc := 376) X dX11_lay_376 rfl ?_
                      refine gF_X11_107_75 (pc := 377) X dX11_lay_377 ?_
                      refine iv_aload_n (pc := 380) X dX11_lay_380 rfl ?_
                      refine gF_X11_110_75 (pc := 381) X dX11_lay_381 ?_
                      refine iv_iload_n (pc := 384) X dX11_lay_384 rfl ?_
                      obtain ⟨hg, hm⟩ := gd_some hm
                      refine aL_109 (pc := 385) X dX11_lay_385 hg (x := (S51.1 109) x2.toNatClampNeg) rfl ?_
                      refine iv_iload_n (pc := 386) X dX11_lay_386 rfl ?_
                      obtain ⟨hg, hm⟩ := gd_some hm
                      refine aS_108 (pc := 387) X dX11_lay_387 hg ?_
                      refine iv_aload_n (pc := 388) X dX11_lay_388 rfl ?_
                      refine gF_X11_110_75 (pc := 389) X dX11_lay_389 ?_
                      refine iv_iload_n (pc := 392) X dX11_lay_392 rfl ?_
                      refine iv_iload_n (pc := 393) X dX11_lay_393 rfl ?_
                      obtain ⟨hg, hm⟩ := gd_some hm
                      refine aS_109 (pc := 394) X dX11_lay_394 hg ?_
                      cases hm
                      exact is_vret (pc := 395) X dX11_lay_395
                    · rw [if_neg hb54] at hm
                      refine iv_aload_n (pc := 366) X dX11_lay_366 rfl ?_
                      refine gF_X11_104_75 (pc := 367) X dX11_lay_367 ?_
                      refine iv_iload_n (pc := 370) X dX11_lay_370 rfl ?_
                      refine iv_iload_n (pc := 371) X dX11_lay_371 rfl ?_
                      obtain ⟨hg, hm⟩ := gd_some hm
                      refine aS_107 (pc := 372) X dX11_lay_372 hg ?_
                      refine iv_goto (pc := 373) X dX11_lay_373 (tgt := 388) rfl ?_
                      refine iv_aload_n (pc := 388) X dX11_lay_388 rfl ?_
                      refine gF_X11_110_75 (pc := 389) X dX11_lay_389 ?_
                      refine iv_iload_n (pc := 392) X dX11_lay_392 rfl ?_
                      refine iv_iload_n (pc := 393) X dX11_lay_393 rfl ?_
                      obtain ⟨hg, hm⟩ := gd_some hm
                      refine aS_109 (pc := 394) X dX11_lay_394 hg ?_
                      cases hm
                      exact is_vret (pc := 395) X dX11_lay_395
                  · rw [if_neg hb47] at hm
                    have k0 := sw_ne hb2 (n := 4) (by decide)
                    have k1 := sw_ne hb3 (n := 5) (by decide)
                    have k2 := sw_ne hb11 (n := 6) (by decide)
                    have k3 := sw_ne hb22 (n := 7) (by decide)
                    have k4 := sw_ne hb23 (n := 8) (by decide)
                    have k5 := sw_ne hb31 (n := 9) (by decide)
                    have k6 := sw_ne hb39 (n := 10) (by decide)
                    have k7 := sw_ne hb47 (n := 11) (by decide)
                    refine iv_tableOut X dX11_lay_12 (tgt := 298) (by omega) (by decide) ?_
                    refine iv_aload_n (pc := 298) X dX11_lay_298 rfl ?_
                    refine iv_aload_n (pc := 299) X dX11_lay_299 rfl ?_
                    refine gF_X11_32_75 (pc := 300) X dX11_lay_300 ?_
                    refine iv_iload_n (pc := 303) X dX11_lay_303 rfl ?_
                    obtain ⟨hg, hm⟩ := gd_some hm
                    refine aL_83 (pc := 304) X dX11_lay_304 hg (x := (S.1 83) x1.toNatClampNeg) rfl ?_
                    refine iv_iload_n (pc := 305) X dX11_lay_305 rfl ?_
                    obtain ⟨⟨r56, S55⟩, hc57, hm⟩ := bd_some hm
                    refine cV_X11_382_75 (pc := 306) X [.int ((S.1 83) x1.toNatClampNeg), .int x2] [] 2 rfl (hK.1 ((S.1 83) x1.toNatClampNeg) x2 S _ _ hc57) (by show (_ : Nat) ≤ D; omega) (by show (_ : Nat) ≤ 40 * D; omega) (Nat.le_of_ble_eq_true rfl) rfl dX11_lay_306 ?_
                    refine iv_aload_n (pc := 309) X dX11_lay_309 rfl ?_
                    refine iv_aload_n (pc := 310) X dX11_lay_310 rfl ?_
                    refine gF_X11_35_75 (pc := 311) X dX11_lay_311 ?_
                    refine iv_iload_n (pc := 314) X dX11_lay_314 rfl ?_
                    obtain ⟨hg, hm⟩ := gd_some hm
                    refine aL_84 (pc := 315) X dX11_lay_315 hg (x := (S55.1 84) x1.toNatClampNeg) rfl ?_
                    refine iv_iload_n (pc := 316) X dX11_lay_316 rfl ?_
                    obtain ⟨⟨r59, S58⟩, hc60, hm⟩ := bd_some hm
                    refine cV_X11_382_75 (pc := 317) X [.int ((S55.1 84) x1.toNatClampNeg), .int x2] [] 2 rfl (hK.1 ((S55.1 84) x1.toNatClampNeg) x2 S55 _ _ hc60) (by show (_ : Nat) ≤ D; omega) (by show (_ : Nat) ≤ 40 * D; omega) (Nat.le_of_ble_eq_true rfl) rfl dX11_lay_317 ?_
                    refine iv_aload_n (pc := 320) X dX11_lay_320 rfl ?_
                    refine gF_X11_92_75 (pc := 321) X dX11_lay_321 ?_
                    refine iv_iload_n (pc := 324) X dX11_lay_324 rfl ?_
                    refine iv_iload_n (pc := 325) X dX11_lay_325 rfl ?_
                    obtain ⟨hg, hm⟩ := gd_some hm
                    refine aS_103 (pc := 326) X dX11_lay_326 hg ?_
                    refine iv_aload_n (pc := 327) X dX11_lay_327 rfl ?_
                    refine gF_X11_95_75 (pc := 328) X dX11_lay_328 ?_
                    refine iv_iload_n (pc := 331) X dX11_lay_331 rfl ?_
                    refine iv_aload_n (pc := 332) X dX11_lay_332 rfl ?_
                    refine gF_X11_101_75 (pc := 333) X dX11_lay_333 ?_
                    refine iv_iload_n (pc := 336) X dX11_lay_336 rfl ?_
                    obtain ⟨hg, hm⟩ := gd_some hm
                    refine aL_106 (pc := 337) X dX11_lay_337 hg (x := (S58.1 106) x2.toNatClampNeg) rfl ?_
                    obtain ⟨hg, hm⟩ := gd_some hm
                    refine aS_104 (pc := 338) X dX11_lay_338 hg ?_
                    refine iv_aload_n (pc := 339) X dX11_lay_339 rfl ?_
                    refine gF_X11_101_75 (pc := 340) X dX11_lay_340 ?_
                    refine iv_iload_n (pc := 343) X dX11_lay_343 rfl ?_
                    refine iv_dup2_11 (pc := 344) X dX11_lay_344 rfl rfl ?_
                    obtain ⟨hg, hm⟩ := gd_some hm
                    refine aL_106 (pc := 345) X dX11_lay_345 hg (x := (S58.1 106) x2.toNatClampNeg) rfl ?_
                    refine iv_iconst (pc := 346) X dX11_lay_346 ic_1 ?_
                    refine iv_iadd (pc := 347) X dX11_lay_347 ?_
                    obtain ⟨hg, hm⟩ := gd_some hm
                    refine aS_106 (pc := 348) X dX11_lay_348 hg ?_
                    refine iv_aload_n (pc := 349) X dX11_lay_349 rfl ?_
                    refine gF_X11_107_75 (pc := 350) X dX11_lay_350 ?_
                    refine iv_iload_n (pc := 353) X dX11_lay_353 rfl ?_
                    refine iv_iconst (pc := 354) X dX11_lay_354 ic_m1 ?_
                    obtain ⟨hg, hm⟩ := gd_some hm
                    refine aS_108 (pc := 355) X dX11_lay_355 hg ?_
                    refine iv_aload_n (pc := 356) X dX11_lay_356 rfl ?_
                    refine gF_X11_104_75 (pc := 357) X dX11_lay_357 ?_
                    refine iv_iload_n (pc := 360) X dX11_lay_360 rfl ?_
                    obtain ⟨hg, hm⟩ := gd_some hm
                    refine aL_107 (pc := 361) X dX11_lay_361 hg (x := (S58.1 107) x2.toNatClampNeg) rfl ?_
                    refine iv_iconst (pc := 362) X dX11_lay_362 ic_m1 ?_
                    refine iv_icmp_ne (pc := 363) X dX11_lay_363 (tgt := 376) rfl (fun hb61 => ?_) (fun hb61 => ?_)
                    · rw [if_pos hb61] at hm
                      refine iv_aload_n (pc := 376) X dX11_lay_376 rfl ?_
                      refine gF_X11_107_75 (pc := 377) X dX11_lay_377 ?_
                      refine iv_aload_n (pc := 380) X dX11_lay_380 rfl ?_
                      refine gF_X11_110_75 (pc := 381) X dX11_lay_381 ?_
                      refine iv_iload_n (pc := 384) X dX11_lay_384 rfl ?_
                      obtain ⟨hg, hm⟩ := gd_some hm
                      refine aL_109 (pc := 385) X dX11_lay_385 hg (x := (S58.1 109) x2.toNatClampNeg) rfl ?_
                      refine iv_iload_n (pc := 386) X dX11_lay_386 rfl ?_
                      obtain ⟨hg, hm⟩ := gd_some hm
                      refine aS_108 (pc := 387) X dX11_lay_387 hg ?_
                      refine iv_aload_n (pc := 388) X dX11_lay_388 rfl ?_
                      refine gF_X11_110_75 (pc := 389) X dX11_lay_389 ?_
                      refine iv_iload_n (pc := 392) X dX11_lay_392 rfl ?_
                      refine iv_iload_n (pc := 393) X dX11_lay_393 rfl ?_
                      obtain ⟨hg, hm⟩ := gd_some hm
                      refine aS_109 (pc := 394) X dX11_lay_394 hg ?_
                      cases hm
                      exact is_vret (pc := 395) X dX11_lay_395
                    · rw [if_neg hb61] at hm
                      refine iv_aload_n (pc := 366) X dX11_lay_366 rfl ?_
                      refine gF_X11_104_75 (pc := 367) X dX11_lay_367 ?_
                      refine iv_iload_n (pc := 370) X dX11_lay_370 rfl ?_
                      refine iv_iload_n (pc := 371) X dX11_lay_371 rfl ?_
                      obtain ⟨hg, hm⟩ := gd_some hm
                      refine aS_107 (pc := 372) X dX11_lay_372 hg ?_
                      refine iv_goto (pc := 373) X dX11_lay_373 (tgt := 388) rfl ?_
                      refine iv_aload_n (pc := 388) X dX11_lay_388 rfl ?_
                      refine gF_X11_110_75 (pc := 389) X dX11_lay_389 ?_
                      refine iv_iload_n (pc := 392) X dX11_lay_392 rfl ?_
                      refine iv_iload_n (pc := 393) X dX11_lay_393 rfl ?_
                      obtain ⟨hg, hm⟩ := gd_some hm
                      refine aS_109 (pc := 394) X dX11_lay_394 hg ?_
                      cases hm
                      exact is_vret (pc := 395) X dX11_lay_395
  · rw [if_neg hb1] at hm
    cases hm
    exact is_vret (pc := 5) X dX11_lay_5
def f_X11_opened (K : Nat → Int32 → Int32 → im_S → Option (Int32 × im_S)) (fu : Nat) (x1 : Int32) (S : im_S) : Option (Int32 × im_S) := (f_X11_addRegion x1 S).bind (fun qS1 => (K 0 x1 qS1.1 qS1.2).bind (fun qS4 => some (qS1.1, qS4.2)))
set_option maxHeartbeats 4000000 in
set_option maxRecDepth 100000 in
theorem f_X11_opened_e (l : Launch) (g : im_G) (ad : Nat → Nat) (K : Nat → Int32 → Int32 → im_S → Option (Int32 × im_S)) {D dk : Nat} (hD1 : dk + 1 ≤ D) (hD2 : 1 ≤ D) (hK : kh_lay l g ad K dk) (fu : Nat) (x1 : Int32) (S : im_S) (r : Int32) (S' : im_S) (hm : f_X11_opened K fu x1 S = some (r, S')) : im_E l g ad D yX11_opened cX11_opened 3 (some Jvm.ClassFile.FieldType.int) [.ref (ad 75), .int x1] S (some (.int r)) S' := by
  unfold f_X11_opened at hm
  refine is_met (own := RX11) (by decide +kernel) rfl (Nat.le_of_ble_eq_true rfl) (fun p e s m below meth c X => ?_)
  refine iv_aload_n (pc := 0) X dX11_opened_0 rfl ?_
  refine iv_iload_n (pc := 1) X dX11_opened_1 rfl ?_
  obtain ⟨⟨r2, S1⟩, hc3, hm⟩ := bd_some hm
  refine cV_X11_379_75 (pc := 2) X [.int x1] [] 1 rfl (f_X11_addRegion_e l g ad x1 S _ _ hc3) (by show (_ : Nat) ≤ D; omega) (by show (_ : Nat) ≤ 40 * D; omega) (Nat.le_of_ble_eq_true rfl) rfl dX11_opened_2 ?_
  refine iv_istore_n (pc := 5) X dX11_opened_5 (by decide) (lv' := [(2, .int r2), (0, .ref (ad 75)), (1, .int x1)]) rfl ?_
  refine iv_aload_n (pc := 6) X dX11_opened_6 rfl ?_
  refine iv_iload_n (pc := 7) X dX11_opened_7 rfl ?_
  refine iv_iload_n (pc := 8) X dX11_opened_8 rfl ?_
  obtain ⟨⟨r5, S4⟩, hc6, hm⟩ := bd_some hm
  refine cV_X11_382_75 (pc := 9) X [.int x1, .int r2] [] 2 rfl (hK.1 x1 r2 S1 _ _ hc6) (by show (_ : Nat) ≤ D; omega) (by show (_ : Nat) ≤ 40 * D; omega) (Nat.le_of_ble_eq_true rfl) rfl dX11_opened_9 ?_
  refine iv_iload_n (pc := 12) X dX11_opened_12 rfl ?_
  cases hm
  exact is_iret (pc := 13) X dX11_opened_13
def rc_lay (fu : Nat) : Nat → Nat → Int32 → Int32 → im_S → Option (Int32 × im_S)
  | 0, _, _, _, _ => none
  | d + 1, lab, a, b, S => if lab = 0 then (f_X11_lay (rc_lay fu d) fu a b S).bind (fun q => some (0, q.2)) else (if lab = 1 then f_X11_opened (rc_lay fu d) fu a S else none)
theorem rc_lay_h (l : Launch) (g : im_G) (ad : Nat → Nat) (fu : Nat) : ∀ d : Nat, kh_lay l g ad (rc_lay fu d) (d + 1) := by
  intro d
  induction d with
  | zero => exact ⟨(fun _ _ _ _ _ h => by cases h), (fun _ _ _ _ _ h => by cases h)⟩
  | succ d ih =>
    refine ⟨(fun a b S r S' hm => ?_), (fun a b S r S' hm => ?_)⟩
    · obtain ⟨⟨u, S1⟩, h1, h2⟩ := bd_some (x := f_X11_lay (rc_lay fu d) fu a b S) hm
      cases h2
      exact f_X11_lay_e l g ad (rc_lay fu d) (dk := d + 1) (by omega) (by omega) ih fu a b S u _ h1
    · exact f_X11_opened_e l g ad (rc_lay fu d) (dk := d + 1) (by omega) (by omega) ih fu a S r S' hm
def g_X11_lay (fu : Nat) (a : Int32) (b : Int32) (S : im_S) : Option (Int32 × im_S) := rc_lay fu 1200 0 a b S
theorem g_X11_lay_e (l : Launch) (g : im_G) (ad : Nat → Nat) (fu : Nat) (a : Int32) (b : Int32) (S : im_S) (r : Int32) (S' : im_S) (hm : g_X11_lay fu a b S = some (r, S')) : im_E l g ad 1201 yX11_lay cX11_lay 4 none [.ref (ad 75), .int a, .int b] S none S' := (rc_lay_h l g ad fu 1200).1 a b S r S' hm
def g_X11_opened (fu : Nat) (a : Int32) (S : im_S) : Option (Int32 × im_S) := rc_lay fu 1200 1 a 0 S
theorem g_X11_opened_e (l : Launch) (g : im_G) (ad : Nat → Nat) (fu : Nat) (a : Int32) (S : im_S) (r : Int32) (S' : im_S) (hm : g_X11_opened fu a S = some (r, S')) : im_E l g ad 1201 yX11_opened cX11_opened 3 (some Jvm.ClassFile.FieldType.int) [.ref (ad 75), .int a] S (some (.int r)) S' := (rc_lay_h l g ad fu 1200).2 a 0 S r S' hm
