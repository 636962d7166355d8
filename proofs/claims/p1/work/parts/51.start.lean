/-! the memory behind the law's makings, by numbers: written by program (wip/whole/mkstart.py) -/
/-- the state of two new objects -/
def S0 : im_S := (fun i => cond (Nat.beq i 72) (fun k => cond (Nat.beq k 2) 1 0) (fun _ => 0), fun _ _ => 0, fun i => cond (Nat.ble i 66) 1024 (cond (Nat.ble i 71) 64 256))
def ad0 (a a2 a3 : Nat) (q q2 : Nat → Nat) : Nat → Nat := fun i => cond (Nat.ble i 66) (cond (Nat.ble i 32) (cond (Nat.ble i 15) (cond (Nat.ble i 7) (cond (Nat.ble i 3) (cond (Nat.ble i 1) (cond (Nat.ble i 0) (a) ((q 0))) (cond (Nat.ble i 2) ((q 1)) ((q 2)))) (cond (Nat.ble i 5) (cond (Nat.ble i 4) ((q 36)) ((q 3))) (cond (Nat.ble i 6) ((q 4)) ((q 13))))) (cond (Nat.ble i 11) (cond (Nat.ble i 9) (cond (Nat.ble i 8) ((q 14)) ((q 15))) (cond (Nat.ble i 10) ((q 16)) ((q 17)))) (cond (Nat.ble i 13) (cond (Nat.ble i 12) ((q 18)) ((q 19))) (cond (Nat.ble i 14) ((q 20)) ((q 21)))))) (cond (Nat.ble i 23) (cond (Nat.ble i 19) (cond (Nat.ble i 17) (cond (Nat.ble i 16) ((q 22)) ((q 23))) (cond (Nat.ble i 18) ((q 24)) ((q 25)))) (cond (Nat.ble i 21) (cond (Nat.ble i 20) ((q 26)) ((q 27))) (cond (Nat.ble i 22) ((q 5)) ((q 6))))) (cond (Nat.ble i 27) (cond (Nat.ble i 25) (cond (Nat.ble i 24) ((q 7)) ((q 8))) (cond (Nat.ble i 26) ((q 9)) ((q 10)))) (cond (Nat.ble i 29) (cond (Nat.ble i 28) ((q 11)) ((q 12))) (cond (Nat.ble i 30) ((q 28)) (cond (Nat.ble i 31) ((q 29)) ((q 30)))))))) (cond (Nat.ble i 49) (cond (Nat.ble i 40) (cond (Nat.ble i 36) (cond (Nat.ble i 34) (cond (Nat.ble i 33) ((q 31)) ((q 32))) (cond (Nat.ble i 35) ((q 33)) ((q 34)))) (cond (Nat.ble i 38) (cond (Nat.ble i 37) ((q 35)) ((q 37))) (cond (Nat.ble i 39) ((q 73)) ((q 38))))) (cond (Nat.ble i 44) (cond (Nat.ble i 42) (cond (Nat.ble i 41) ((q 47)) ((q 48))) (cond (Nat.ble i 43) ((q 49)) ((q 50)))) (cond (Nat.ble i 46) (cond (Nat.ble i 45) ((q 51)) ((q 52))) (cond (Nat.ble i 47) ((q 53)) (cond (Nat.ble i 48) ((q 54)) ((q 55))))))) (cond (Nat.ble i 57) (cond (Nat.ble i 53) (cond (Nat.ble i 51) (cond (Nat.ble i 50) ((q 56)) ((q 57))) (cond (Nat.ble i 52) ((q 58)) ((q 59)))) (cond (Nat.ble i 55) (cond (Nat.ble i 54) ((q 60)) ((q 61))) (cond (Nat.ble i 56) ((q 39)) ((q 40))))) (cond (Nat.ble i 61) (cond (Nat.ble i 59) (cond (Nat.ble i 58) ((q 41)) ((q 42))) (cond (Nat.ble i 60) ((q 43)) ((q 44)))) (cond (Nat.ble i 63) (cond (Nat.ble i 62) ((q 45)) ((q 46))) (cond (Nat.ble i 64) ((q 62)) (cond (Nat.ble i 65) ((q 63)) ((q 64))))))))) (cond (Nat.ble i 100) (cond (Nat.ble i 83) (cond (Nat.ble i 74) (cond (Nat.ble i 70) (cond (Nat.ble i 68) (cond (Nat.ble i 67) ((q 65)) ((q 66))) (cond (Nat.ble i 69) ((q 67)) ((q 68)))) (cond (Nat.ble i 72) (cond (Nat.ble i 71) ((q 69)) ((q 70))) (cond (Nat.ble i 73) ((q 71)) ((q 72))))) (cond (Nat.ble i 78) (cond (Nat.ble i 76) (cond (Nat.ble i 75) (a2) ((q2 0))) (cond (Nat.ble i 77) ((q2 1)) ((q2 2)))) (cond (Nat.ble i 80) (cond (Nat.ble i 79) ((q2 3)) ((q2 4))) (cond (Nat.ble i 81) ((q2 5)) (cond (Nat.ble i 82) ((q2 6)) ((q2 7))))))) (cond (Nat.ble i 91) (cond (Nat.ble i 87) (cond (Nat.ble i 85) (cond (Nat.ble i 84) ((q2 8)) ((q2 9))) (cond (Nat.ble i 86) ((q2 10)) ((q2 11)))) (cond (Nat.ble i 89) (cond (Nat.ble i 88) ((q2 12)) ((q2 13))) (cond (Nat.ble i 90) ((q2 14)) ((q2 15))))) (cond (Nat.ble i 95) (cond (Nat.ble i 93) (cond (Nat.ble i 92) ((q2 16)) ((q2 17))) (cond (Nat.ble i 94) ((q2 18)) ((q2 19)))) (cond (Nat.ble i 97) (cond (Nat.ble i 96) ((q2 20)) ((q2 21))) (cond (Nat.ble i 98) ((q2 22)) (cond (Nat.ble i 99) ((q2 23)) ((q2 24)))))))) (cond (Nat.ble i 117) (cond (Nat.ble i 108) (cond (Nat.ble i 104) (cond (Nat.ble i 102) (cond (Nat.ble i 101) ((q2 25)) ((q2 26))) (cond (Nat.ble i 103) ((q2 27)) ((q2 28)))) (cond (Nat.ble i 106) (cond (Nat.ble i 105) ((q2 29)) ((q2 30))) (cond (Nat.ble i 107) ((q2 31)) ((q2 32))))) (cond (Nat.ble i 112) (cond (Nat.ble i 110) (cond (Nat.ble i 109) ((q2 33)) ((q2 34))) (cond (Nat.ble i 111) ((q2 35)) ((q2 36)))) (cond (Nat.ble i 114) (cond (Nat.ble i 113) ((q2 37)) ((q2 38))) (cond (Nat.ble i 115) ((q2 39)) (cond (Nat.ble i 116) ((q2 40)) ((q2 41))))))) (cond (Nat.ble i 125) (cond (Nat.ble i 121) (cond (Nat.ble i 119) (cond (Nat.ble i 118) ((q2 42)) ((q2 43))) (cond (Nat.ble i 120) ((q2 44)) ((q2 45)))) (cond (Nat.ble i 123) (cond (Nat.ble i 122) ((q2 46)) ((q2 47))) (cond (Nat.ble i 124) ((q2 48)) ((q2 49))))) (cond (Nat.ble i 129) (cond (Nat.ble i 127) (cond (Nat.ble i 126) ((q2 50)) ((q2 51))) (cond (Nat.ble i 128) ((q2 52)) ((q2 53)))) (cond (Nat.ble i 131) (cond (Nat.ble i 130) ((q2 54)) ((q2 55))) (cond (Nat.ble i 132) ((q2 56)) (cond (Nat.ble i 133) ((q2 57)) (a3))))))))
def pi0 : Nat → Nat := fun i => cond (Nat.ble i 66) (cond (Nat.ble i 32) (cond (Nat.ble i 15) (cond (Nat.ble i 7) (cond (Nat.ble i 3) (cond (Nat.ble i 1) (cond (Nat.ble i 0) (0) (1)) (cond (Nat.ble i 2) (2) (3))) (cond (Nat.ble i 5) (cond (Nat.ble i 4) (37) (4)) (cond (Nat.ble i 6) (5) (14)))) (cond (Nat.ble i 11) (cond (Nat.ble i 9) (cond (Nat.ble i 8) (15) (16)) (cond (Nat.ble i 10) (17) (18))) (cond (Nat.ble i 13) (cond (Nat.ble i 12) (19) (20)) (cond (Nat.ble i 14) (21) (22))))) (cond (Nat.ble i 23) (cond (Nat.ble i 19) (cond (Nat.ble i 17) (cond (Nat.ble i 16) (23) (24)) (cond (Nat.ble i 18) (25) (26))) (cond (Nat.ble i 21) (cond (Nat.ble i 20) (27) (28)) (cond (Nat.ble i 22) (6) (7)))) (cond (Nat.ble i 27) (cond (Nat.ble i 25) (cond (Nat.ble i 24) (8) (9)) (cond (Nat.ble i 26) (10) (11))) (cond (Nat.ble i 29) (cond (Nat.ble i 28) (12) (13)) (cond (Nat.ble i 30) (29) (cond (Nat.ble i 31) (30) (31))))))) (cond (Nat.ble i 49) (cond (Nat.ble i 40) (cond (Nat.ble i 36) (cond (Nat.ble i 34) (cond (Nat.ble i 33) (32) (33)) (cond (Nat.ble i 35) (34) (35))) (cond (Nat.ble i 38) (cond (Nat.ble i 37) (36) (38)) (cond (Nat.ble i 39) (74) (39)))) (cond (Nat.ble i 44) (cond (Nat.ble i 42) (cond (Nat.ble i 41) (48) (49)) (cond (Nat.ble i 43) (50) (51))) (cond (Nat.ble i 46) (cond (Nat.ble i 45) (52) (53)) (cond (Nat.ble i 47) (54) (cond (Nat.ble i 48) (55) (56)))))) (cond (Nat.ble i 57) (cond (Nat.ble i 53) (cond (Nat.ble i 51) (cond (Nat.ble i 50) (57) (58)) (cond (Nat.ble i 52) (59) (60))) (cond (Nat.ble i 55) (cond (Nat.ble i 54) (61) (62)) (cond (Nat.ble i 56) (40) (41)))) (cond (Nat.ble i 61) (cond (Nat.ble i 59) (cond (Nat.ble i 58) (42) (43)) (cond (Nat.ble i 60) (44) (45))) (cond (Nat.ble i 63) (cond (Nat.ble i 62) (46) (47)) (cond (Nat.ble i 64) (63) (cond (Nat.ble i 65) (64) (65)))))))) (cond (Nat.ble i 100) (cond (Nat.ble i 83) (cond (Nat.ble i 74) (cond (Nat.ble i 70) (cond (Nat.ble i 68) (cond (Nat.ble i 67) (66) (67)) (cond (Nat.ble i 69) (68) (69))) (cond (Nat.ble i 72) (cond (Nat.ble i 71) (70) (71)) (cond (Nat.ble i 73) (72) (73)))) (cond (Nat.ble i 78) (cond (Nat.ble i 76) (cond (Nat.ble i 75) (75) (76)) (cond (Nat.ble i 77) (77) (78))) (cond (Nat.ble i 80) (cond (Nat.ble i 79) (79) (80)) (cond (Nat.ble i 81) (81) (cond (Nat.ble i 82) (82) (83)))))) (cond (Nat.ble i 91) (cond (Nat.ble i 87) (cond (Nat.ble i 85) (cond (Nat.ble i 84) (84) (85)) (cond (Nat.ble i 86) (86) (87))) (cond (Nat.ble i 89) (cond (Nat.ble i 88) (88) (89)) (cond (Nat.ble i 90) (90) (91)))) (cond (Nat.ble i 95) (cond (Nat.ble i 93) (cond (Nat.ble i 92) (92) (93)) (cond (Nat.ble i 94) (94) (95))) (cond (Nat.ble i 97) (cond (Nat.ble i 96) (96) (97)) (cond (Nat.ble i 98) (98) (cond (Nat.ble i 99) (99) (100))))))) (cond (Nat.ble i 117) (cond (Nat.ble i 108) (cond (Nat.ble i 104) (cond (Nat.ble i 102) (cond (Nat.ble i 101) (101) (102)) (cond (Nat.ble i 103) (103) (104))) (cond (Nat.ble i 106) (cond (Nat.ble i 105) (105) (106)) (cond (Nat.ble i 107) (107) (108)))) (cond (Nat.ble i 112) (cond (Nat.ble i 110) (cond (Nat.ble i 109) (109) (110)) (cond (Nat.ble i 111) (111) (112))) (cond (Nat.ble i 114) (cond (Nat.ble i 113) (113) (114)) (cond (Nat.ble i 115) (115) (cond (Nat.ble i 116) (116) (117)))))) (cond (Nat.ble i 125) (cond (Nat.ble i 121) (cond (Nat.ble i 119) (cond (Nat.ble i 118) (118) (119)) (cond (Nat.ble i 120) (120) (121))) (cond (Nat.ble i 123) (cond (Nat.ble i 122) (122) (123)) (cond (Nat.ble i 124) (124) (125)))) (cond (Nat.ble i 129) (cond (Nat.ble i 127) (cond (Nat.ble i 126) (126) (127)) (cond (Nat.ble i 128) (128) (129))) (cond (Nat.ble i 131) (cond (Nat.ble i 130) (130) (131)) (cond (Nat.ble i 132) (132) (cond (Nat.ble i 133) (133) (134))))))))
def ro0 : Nat → Nat := fun i => cond (Nat.ble i 66) (cond (Nat.ble i 32) (cond (Nat.ble i 15) (cond (Nat.ble i 7) (cond (Nat.ble i 3) (cond (Nat.ble i 1) (cond (Nat.ble i 0) (0) (1)) (cond (Nat.ble i 2) (2) (3))) (cond (Nat.ble i 5) (cond (Nat.ble i 4) (5) (6)) (cond (Nat.ble i 6) (22) (23)))) (cond (Nat.ble i 11) (cond (Nat.ble i 9) (cond (Nat.ble i 8) (24) (25)) (cond (Nat.ble i 10) (26) (27))) (cond (Nat.ble i 13) (cond (Nat.ble i 12) (28) (29)) (cond (Nat.ble i 14) (7) (8))))) (cond (Nat.ble i 23) (cond (Nat.ble i 19) (cond (Nat.ble i 17) (cond (Nat.ble i 16) (9) (10)) (cond (Nat.ble i 18) (11) (12))) (cond (Nat.ble i 21) (cond (Nat.ble i 20) (13) (14)) (cond (Nat.ble i 22) (15) (16)))) (cond (Nat.ble i 27) (cond (Nat.ble i 25) (cond (Nat.ble i 24) (17) (18)) (cond (Nat.ble i 26) (19) (20))) (cond (Nat.ble i 29) (cond (Nat.ble i 28) (21) (30)) (cond (Nat.ble i 30) (31) (cond (Nat.ble i 31) (32) (33))))))) (cond (Nat.ble i 49) (cond (Nat.ble i 40) (cond (Nat.ble i 36) (cond (Nat.ble i 34) (cond (Nat.ble i 33) (34) (35)) (cond (Nat.ble i 35) (36) (37))) (cond (Nat.ble i 38) (cond (Nat.ble i 37) (4) (38)) (cond (Nat.ble i 39) (40) (56)))) (cond (Nat.ble i 44) (cond (Nat.ble i 42) (cond (Nat.ble i 41) (57) (58)) (cond (Nat.ble i 43) (59) (60))) (cond (Nat.ble i 46) (cond (Nat.ble i 45) (61) (62)) (cond (Nat.ble i 47) (63) (cond (Nat.ble i 48) (41) (42)))))) (cond (Nat.ble i 57) (cond (Nat.ble i 53) (cond (Nat.ble i 51) (cond (Nat.ble i 50) (43) (44)) (cond (Nat.ble i 52) (45) (46))) (cond (Nat.ble i 55) (cond (Nat.ble i 54) (47) (48)) (cond (Nat.ble i 56) (49) (50)))) (cond (Nat.ble i 61) (cond (Nat.ble i 59) (cond (Nat.ble i 58) (51) (52)) (cond (Nat.ble i 60) (53) (54))) (cond (Nat.ble i 63) (cond (Nat.ble i 62) (55) (64)) (cond (Nat.ble i 64) (65) (cond (Nat.ble i 65) (66) (67)))))))) (cond (Nat.ble i 100) (cond (Nat.ble i 83) (cond (Nat.ble i 74) (cond (Nat.ble i 70) (cond (Nat.ble i 68) (cond (Nat.ble i 67) (68) (69)) (cond (Nat.ble i 69) (70) (71))) (cond (Nat.ble i 72) (cond (Nat.ble i 71) (72) (73)) (cond (Nat.ble i 73) (74) (39)))) (cond (Nat.ble i 78) (cond (Nat.ble i 76) (cond (Nat.ble i 75) (75) (76)) (cond (Nat.ble i 77) (77) (78))) (cond (Nat.ble i 80) (cond (Nat.ble i 79) (79) (80)) (cond (Nat.ble i 81) (81) (cond (Nat.ble i 82) (82) (83)))))) (cond (Nat.ble i 91) (cond (Nat.ble i 87) (cond (Nat.ble i 85) (cond (Nat.ble i 84) (84) (85)) (cond (Nat.ble i 86) (86) (87))) (cond (Nat.ble i 89) (cond (Nat.ble i 88) (88) (89)) (cond (Nat.ble i 90) (90) (91)))) (cond (Nat.ble i 95) (cond (Nat.ble i 93) (cond (Nat.ble i 92) (92) (93)) (cond (Nat.ble i 94) (94) (95))) (cond (Nat.ble i 97) (cond (Nat.ble i 96) (96) (97)) (cond (Nat.ble i 98) (98) (cond (Nat.ble i 99) (99) (100))))))) (cond (Nat.ble i 117) (cond (Nat.ble i 108) (cond (Nat.ble i 104) (cond (Nat.ble i 102) (cond (Nat.ble i 101) (101) (102)) (cond (Nat.ble i 103) (103) (104))) (cond (Nat.ble i 106) (cond (Nat.ble i 105) (105) (106)) (cond (Nat.ble i 107) (107) (108)))) (cond (Nat.ble i 112) (cond (Nat.ble i 110) (cond (Nat.ble i 109) (109) (110)) (cond (Nat.ble i 111) (111) (112))) (cond (Nat.ble i 114) (cond (Nat.ble i 113) (113) (114)) (cond (Nat.ble i 115) (115) (cond (Nat.ble i 116) (116) (117)))))) (cond (Nat.ble i 125) (cond (Nat.ble i 121) (cond (Nat.ble i 119) (cond (Nat.ble i 118) (118) (119)) (cond (Nat.ble i 120) (120) (121))) (cond (Nat.ble i 123) (cond (Nat.ble i 122) (122) (123)) (cond (Nat.ble i 124) (124) (125)))) (cond (Nat.ble i 129) (cond (Nat.ble i 127) (cond (Nat.ble i 126) (126) (127)) (cond (Nat.ble i 128) (128) (129))) (cond (Nat.ble i 131) (cond (Nat.ble i 130) (130) (131)) (cond (Nat.ble i 132) (132) (cond (Nat.ble i 133) (133) (134))))))))
theorem ro_pi : ∀ i, i < 135 → ro0 (pi0 i) = i := by decide +kernel
set_option maxHeartbeats 4000000 in
set_option maxRecDepth 100000 in
theorem rep0 (g : im_G) (a a2 a3 : Nat) (q q2 : Nat → Nat) (M : im_M) (h : im_L (((([] : List Nat) ++ a :: al_X10c q) ++ a2 :: al_X11c q2) ++ [a3]) (((([] : List va_E) ++ .inr (12, fs_X10 q) :: ct_X10 g q) ++ .inr (13, fs_X11 q2) :: ct_X11 g q2) ++ [.inl (g.2.1 2, 1, .inr (.inl (fun _ => 0)))]) M) : im_Rep (ad0 a a2 a3 q q2) im_N (im_cn g (ad0 a a2 a3 q q2) S0) M := by
  simp only [al_X10c, fs_X10, ct_X10, ct_X10_0, ct_X10_1, al_X11c, fs_X11, ct_X11, ct_X11_0, ct_X11_1, List.nil_append, List.cons_append] at h
  have hat : ∀ i, i < 135 → (M.1)[pi0 i]? = some (ad0 a a2 a3 q q2 i) := by
    rw [h.1]
    intro i hi
    match i, hi with
    | 0, _ => rfl
    | 1, _ => rfl
    | 2, _ => rfl
    | 3, _ => rfl
    | 4, _ => rfl
    | 5, _ => rfl
    | 6, _ => rfl
    | 7, _ => rfl
    | 8, _ => rfl
    | 9, _ => rfl
    | 10, _ => rfl
    | 11, _ => rfl
    | 12, _ => rfl
    | 13, _ => rfl
    | 14, _ => rfl
    | 15, _ => rfl
    | 16, _ => rfl
    | 17, _ => rfl
    | 18, _ => rfl
    | 19, _ => rfl
    | 20, _ => rfl
    | 21, _ => rfl
    | 22, _ => rfl
    | 23, _ => rfl
    | 24, _ => rfl
    | 25, _ => rfl
    | 26, _ => rfl
    | 27, _ => rfl
    | 28, _ => rfl
    | 29, _ => rfl
    | 30, _ => rfl
    | 31, _ => rfl
    | 32, _ => rfl
    | 33, _ => rfl
    | 34, _ => rfl
    | 35, _ => rfl
    | 36, _ => rfl
    | 37, _ => rfl
    | 38, _ => rfl
    | 39, _ => rfl
    | 40, _ => rfl
    | 41, _ => rfl
    | 42, _ => rfl
    | 43, _ => rfl
    | 44, _ => rfl
    | 45, _ => rfl
    | 46, _ => rfl
    | 47, _ => rfl
    | 48, _ => rfl
    | 49, _ => rfl
    | 50, _ => rfl
    | 51, _ => rfl
    | 52, _ => rfl
    | 53, _ => rfl
    | 54, _ => rfl
    | 55, _ => rfl
    | 56, _ => rfl
    | 57, _ => rfl
    | 58, _ => rfl
    | 59, _ => rfl
    | 60, _ => rfl
    | 61, _ => rfl
    | 62, _ => rfl
    | 63, _ => rfl
    | 64, _ => rfl
    | 65, _ => rfl
    | 66, _ => rfl
    | 67, _ => rfl
    | 68, _ => rfl
    | 69, _ => rfl
    | 70, _ => rfl
    | 71, _ => rfl
    | 72, _ => rfl
    | 73, _ => rfl
    | 74, _ => rfl
    | 75, _ => rfl
    | 76, _ => rfl
    | 77, _ => rfl
    | 78, _ => rfl
    | 79, _ => rfl
    | 80, _ => rfl
    | 81, _ => rfl
    | 82, _ => rfl
    | 83, _ => rfl
    | 84, _ => rfl
    | 85, _ => rfl
    | 86, _ => rfl
    | 87, _ => rfl
    | 88, _ => rfl
    | 89, _ => rfl
    | 90, _ => rfl
    | 91, _ => rfl
    | 92, _ => rfl
    | 93, _ => rfl
    | 94, _ => rfl
    | 95, _ => rfl
    | 96, _ => rfl
    | 97, _ => rfl
    | 98, _ => rfl
    | 99, _ => rfl
    | 100, _ => rfl
    | 101, _ => rfl
    | 102, _ => rfl
    | 103, _ => rfl
    | 104, _ => rfl
    | 105, _ => rfl
    | 106, _ => rfl
    | 107, _ => rfl
    | 108, _ => rfl
    | 109, _ => rfl
    | 110, _ => rfl
    | 111, _ => rfl
    | 112, _ => rfl
    | 113, _ => rfl
    | 114, _ => rfl
    | 115, _ => rfl
    | 116, _ => rfl
    | 117, _ => rfl
    | 118, _ => rfl
    | 119, _ => rfl
    | 120, _ => rfl
    | 121, _ => rfl
    | 122, _ => rfl
    | 123, _ => rfl
    | 124, _ => rfl
    | 125, _ => rfl
    | 126, _ => rfl
    | 127, _ => rfl
    | 128, _ => rfl
    | 129, _ => rfl
    | 130, _ => rfl
    | 131, _ => rfl
    | 132, _ => rfl
    | 133, _ => rfl
    | 134, _ => rfl
    | i + 135, h => exact absurd h (by omega)
  refine ⟨fun i hi => ?_, fun i j hi hj hij => ?_⟩
  · match i, hi with
    | 0, _ => exact h.get (j := 0) rfl rfl
    | 1, _ => exact h.get (j := 1) rfl rfl
    | 2, _ => exact h.get (j := 2) rfl rfl
    | 3, _ => exact h.get (j := 3) rfl rfl
    | 4, _ => exact h.get (j := 37) rfl rfl
    | 5, _ => exact h.get (j := 4) rfl rfl
    | 6, _ => exact h.get (j := 5) rfl rfl
    | 7, _ => exact h.get (j := 14) rfl rfl
    | 8, _ => exact h.get (j := 15) rfl rfl
    | 9, _ => exact h.get (j := 16) rfl rfl
    | 10, _ => exact h.get (j := 17) rfl rfl
    | 11, _ => exact h.get (j := 18) rfl rfl
    | 12, _ => exact h.get (j := 19) rfl rfl
    | 13, _ => exact h.get (j := 20) rfl rfl
    | 14, _ => exact h.get (j := 21) rfl rfl
    | 15, _ => exact h.get (j := 22) rfl rfl
    | 16, _ => exact h.get (j := 23) rfl rfl
    | 17, _ => exact h.get (j := 24) rfl rfl
    | 18, _ => exact h.get (j := 25) rfl rfl
    | 19, _ => exact h.get (j := 26) rfl rfl
    | 20, _ => exact h.get (j := 27) rfl rfl
    | 21, _ => exact h.get (j := 28) rfl rfl
    | 22, _ => exact h.get (j := 6) rfl rfl
    | 23, _ => exact h.get (j := 7) rfl rfl
    | 24, _ => exact h.get (j := 8) rfl rfl
    | 25, _ => exact h.get (j := 9) rfl rfl
    | 26, _ => exact h.get (j := 10) rfl rfl
    | 27, _ => exact h.get (j := 11) rfl rfl
    | 28, _ => exact h.get (j := 12) rfl rfl
    | 29, _ => exact h.get (j := 13) rfl rfl
    | 30, _ => exact h.get (j := 29) rfl rfl
    | 31, _ => exact h.get (j := 30) rfl rfl
    | 32, _ => exact h.get (j := 31) rfl rfl
    | 33, _ => exact h.get (j := 32) rfl rfl
    | 34, _ => exact h.get (j := 33) rfl rfl
    | 35, _ => exact h.get (j := 34) rfl rfl
    | 36, _ => exact h.get (j := 35) rfl rfl
    | 37, _ => exact h.get (j := 36) rfl rfl
    | 38, _ => exact h.get (j := 38) rfl rfl
    | 39, _ => exact h.get (j := 74) rfl rfl
    | 40, _ => exact h.get (j := 39) rfl rfl
    | 41, _ => exact h.get (j := 48) rfl rfl
    | 42, _ => exact h.get (j := 49) rfl rfl
    | 43, _ => exact h.get (j := 50) rfl rfl
    | 44, _ => exact h.get (j := 51) rfl rfl
    | 45, _ => exact h.get (j := 52) rfl rfl
    | 46, _ => exact h.get (j := 53) rfl rfl
    | 47, _ => exact h.get (j := 54) rfl rfl
    | 48, _ => exact h.get (j := 55) rfl rfl
    | 49, _ => exact h.get (j := 56) rfl rfl
    | 50, _ => exact h.get (j := 57) rfl rfl
    | 51, _ => exact h.get (j := 58) rfl rfl
    | 52, _ => exact h.get (j := 59) rfl rfl
    | 53, _ => exact h.get (j := 60) rfl rfl
    | 54, _ => exact h.get (j := 61) rfl rfl
    | 55, _ => exact h.get (j := 62) rfl rfl
    | 56, _ => exact h.get (j := 40) rfl rfl
    | 57, _ => exact h.get (j := 41) rfl rfl
    | 58, _ => exact h.get (j := 42) rfl rfl
    | 59, _ => exact h.get (j := 43) rfl rfl
    | 60, _ => exact h.get (j := 44) rfl rfl
    | 61, _ => exact h.get (j := 45) rfl rfl
    | 62, _ => exact h.get (j := 46) rfl rfl
    | 63, _ => exact h.get (j := 47) rfl rfl
    | 64, _ => exact h.get (j := 63) rfl rfl
    | 65, _ => exact h.get (j := 64) rfl rfl
    | 66, _ => exact h.get (j := 65) rfl rfl
    | 67, _ => exact h.get (j := 66) rfl rfl
    | 68, _ => exact h.get (j := 67) rfl rfl
    | 69, _ => exact h.get (j := 68) rfl rfl
    | 70, _ => exact h.get (j := 69) rfl rfl
    | 71, _ => exact h.get (j := 70) rfl rfl
    | 72, _ => exact h.get (j := 71) rfl rfl
    | 73, _ => exact h.get (j := 72) rfl rfl
    | 74, _ => exact h.get (j := 73) rfl rfl
    | 75, _ => exact h.get (j := 75) rfl rfl
    | 76, _ => exact h.get (j := 76) rfl rfl
    | 77, _ => exact h.get (j := 77) rfl rfl
    | 78, _ => exact h.get (j := 78) rfl rfl
    | 79, _ => exact h.get (j := 79) rfl rfl
    | 80, _ => exact h.get (j := 80) rfl rfl
    | 81, _ => exact h.get (j := 81) rfl rfl
    | 82, _ => exact h.get (j := 82) rfl rfl
    | 83, _ => exact h.get (j := 83) rfl rfl
    | 84, _ => exact h.get (j := 84) rfl rfl
    | 85, _ => exact h.get (j := 85) rfl rfl
    | 86, _ => exact h.get (j := 86) rfl rfl
    | 87, _ => exact h.get (j := 87) rfl rfl
    | 88, _ => exact h.get (j := 88) rfl rfl
    | 89, _ => exact h.get (j := 89) rfl rfl
    | 90, _ => exact h.get (j := 90) rfl rfl
    | 91, _ => exact h.get (j := 91) rfl rfl
    | 92, _ => exact h.get (j := 92) rfl rfl
    | 93, _ => exact h.get (j := 93) rfl rfl
    | 94, _ => exact h.get (j := 94) rfl rfl
    | 95, _ => exact h.get (j := 95) rfl rfl
    | 96, _ => exact h.get (j := 96) rfl rfl
    | 97, _ => exact h.get (j := 97) rfl rfl
    | 98, _ => exact h.get (j := 98) rfl rfl
    | 99, _ => exact h.get (j := 99) rfl rfl
    | 100, _ => exact h.get (j := 100) rfl rfl
    | 101, _ => exact h.get (j := 101) rfl rfl
    | 102, _ => exact h.get (j := 102) rfl rfl
    | 103, _ => exact h.get (j := 103) rfl rfl
    | 104, _ => exact h.get (j := 104) rfl rfl
    | 105, _ => exact h.get (j := 105) rfl rfl
    | 106, _ => exact h.get (j := 106) rfl rfl
    | 107, _ => exact h.get (j := 107) rfl rfl
    | 108, _ => exact h.get (j := 108) rfl rfl
    | 109, _ => exact h.get (j := 109) rfl rfl
    | 110, _ => exact h.get (j := 110) rfl rfl
    | 111, _ => exact h.get (j := 111) rfl rfl
    | 112, _ => exact h.get (j := 112) rfl rfl
    | 113, _ => exact h.get (j := 113) rfl rfl
    | 114, _ => exact h.get (j := 114) rfl rfl
    | 115, _ => exact h.get (j := 115) rfl rfl
    | 116, _ => exact h.get (j := 116) rfl rfl
    | 117, _ => exact h.get (j := 117) rfl rfl
    | 118, _ => exact h.get (j := 118) rfl rfl
    | 119, _ => exact h.get (j := 119) rfl rfl
    | 120, _ => exact h.get (j := 120) rfl rfl
    | 121, _ => exact h.get (j := 121) rfl rfl
    | 122, _ => exact h.get (j := 122) rfl rfl
    | 123, _ => exact h.get (j := 123) rfl rfl
    | 124, _ => exact h.get (j := 124) rfl rfl
    | 125, _ => exact h.get (j := 125) rfl rfl
    | 126, _ => exact h.get (j := 126) rfl rfl
    | 127, _ => exact h.get (j := 127) rfl rfl
    | 128, _ => exact h.get (j := 128) rfl rfl
    | 129, _ => exact h.get (j := 129) rfl rfl
    | 130, _ => exact h.get (j := 130) rfl rfl
    | 131, _ => exact h.get (j := 131) rfl rfl
    | 132, _ => exact h.get (j := 132) rfl rfl
    | 133, _ => exact h.get (j := 133) rfl rfl
    | 134, _ => exact h.get (j := 134) rfl rfl
    | i + 135, h => exact absurd h (by show ¬ i + 135 < 135; omega)
  · have h1 := hat i hi
    have h2 := hat j hj
    rw [← hij] at h2
    have hn := h.2.2.1
    rw [← h.1] at hn
    have e := (List.getElem?_inj (List.getElem?_eq_some_iff.mp h1).1 hn).mp (h1.trans h2.symm)
    rw [← ro_pi i hi, ← ro_pi j hj, e]
