/-! the law: its switch, its loop, its start; then the kit's skeleton -/
theorem dL_0 : decode code 0 = .ok (.new 7, 3) := by decide +kernel
theorem dL_3 : decode code 3 = .ok (.dup, 1) := by decide +kernel
theorem dL_4 : decode code 4 = .ok (.invokespecial 9, 3) := by decide +kernel
theorem dL_7 : decode code 7 = .ok (.astore_n 1, 1) := by decide +kernel
theorem dL_8 : decode code 8 = .ok (.new 10, 3) := by decide +kernel
theorem dL_11 : decode code 11 = .ok (.dup, 1) := by decide +kernel
theorem dL_12 : decode code 12 = .ok (.invokespecial 12, 3) := by decide +kernel
theorem dL_15 : decode code 15 = .ok (.astore_n 2, 1) := by decide +kernel
theorem dL_16 : decode code 16 = .ok (.iconst 0, 1) := by decide +kernel
theorem dL_17 : decode code 17 = .ok (.istore_n 3, 1) := by decide +kernel
theorem dL_18 : decode code 18 = .ok (.iload_n 3, 1) := by decide +kernel
theorem dL_19 : decode code 19 = .ok (.aload_n 0, 1) := by decide +kernel
theorem dL_20 : decode code 20 = .ok (.arraylength, 1) := by decide +kernel
theorem dL_21 : decode code 21 = .ok (.iconst 4, 1) := by decide +kernel
theorem dL_22 : decode code 22 = .ok (.isub, 1) := by decide +kernel
theorem dL_23 : decode code 23 = .ok (.if_icmp .gt 1583, 3) := by decide +kernel
theorem dL_26 : decode code 26 = .ok (.aload_n 0, 1) := by decide +kernel
theorem dL_27 : decode code 27 = .ok (.iload_n 3, 1) := by decide +kernel
theorem dL_28 : decode code 28 = .ok (.iaload, 1) := by decide +kernel
theorem dL_29 : decode code 29 = .ok (.bipush 63, 2) := by decide +kernel
theorem dL_31 : decode code 31 = .ok (.iand, 1) := by decide +kernel
theorem dL_32 : decode code 32 = .ok (.tableswitch 1568 0 56 #[244, 267, 280, 313, 356, 379, 392, 435, 468, 501, 514, 547, 580, 593, 616, 639, 662, 695, 708, 721, 744, 767, 790, 813, 826, 849, 872, 885, 898, 931, 965, 988, 1022, 1046, 1069, 1102, 1125, 1148, 1161, 1194, 1207, 1240, 1273, 1296, 1319, 1332, 1355, 1378, 1401, 1414, 1427, 1450, 1463, 1476, 1519, 1532, 1545], 244) := by decide +kernel
theorem dL_1600 : decode code 1600 = .ok (.iinc 3 4, 3) := by decide +kernel
theorem dL_1603 : decode code 1603 = .ok (.goto (-1585), 3) := by decide +kernel
theorem dL_1606 : decode code 1606 = .ok (.iconst 1, 1) := by decide +kernel
theorem dL_1607 : decode code 1607 = .ok (.ireturn, 1) := by decide +kernel
section CASES
variable {p : Program} {l : Launch} {e : Env} {s : State} {m : MethodId} {below : List Frame} {meth : Method} {c : Code} {b L : Nat} {xs : Nat → Int32} {D : va_G} {cA : Nat → ClassId} {aC aR : Nat → Nat}

theorem law_switch (C : CL p s m meth c b L xs D cA aC aR) {i : Nat} {MC MR : Mem} (hi : i + 4 ≤ L) (hL : L ≤ 2048) (hI : Inv MC MR) (kk : ∀ MC' MR' : Mem, Inv MC' MR' → KL p l e s m below meth c b D cA aC aR 1600 (lvL b aC aR i) [] MC' MR') {x : Int32} {v : Nat} (hv : v < 64) (hx : x = nI v) : KL p l e s m below meth c b D cA aC aR 32 (lvL b aC aR i) [.int x] MC MR := by
  have h0 : 0 ≤ v := Nat.zero_le v
  rcases Nat.eq_or_lt_of_le h0 with c0 | h1
  · exact w_tableIn C (0 : Int32) (by rw [hx, ← c0]; rfl) dL_32 (by decide) (by decide) (off := 244) (tgt := 276) rfl (by decide) (case_0 C hi hL hI kk)
  have h1 : 1 ≤ v := h1
  clear h0
  rcases Nat.eq_or_lt_of_le h1 with c1 | h2
  · exact w_tableIn C (1 : Int32) (by rw [hx, ← c1]; rfl) dL_32 (by decide) (by decide) (off := 267) (tgt := 299) rfl (by decide) (case_1 C hi hL hI kk)
  have h2 : 2 ≤ v := h2
  clear h1
  rcases Nat.eq_or_lt_of_le h2 with c2 | h3
  · exact w_tableIn C (2 : Int32) (by rw [hx, ← c2]; rfl) dL_32 (by decide) (by decide) (off := 280) (tgt := 312) rfl (by decide) (case_2 C hi hL hI kk)
  have h3 : 3 ≤ v := h3
  clear h2
  rcases Nat.eq_or_lt_of_le h3 with c3 | h4
  · exact w_tableIn C (3 : Int32) (by rw [hx, ← c3]; rfl) dL_32 (by decide) (by decide) (off := 313) (tgt := 345) rfl (by decide) (case_3 C hi hL hI kk)
  have h4 : 4 ≤ v := h4
  clear h3
  rcases Nat.eq_or_lt_of_le h4 with c4 | h5
  · exact w_tableIn C (4 : Int32) (by rw [hx, ← c4]; rfl) dL_32 (by decide) (by decide) (off := 356) (tgt := 388) rfl (by decide) (case_4 C hi hL hI kk)
  have h5 : 5 ≤ v := h5
  clear h4
  rcases Nat.eq_or_lt_of_le h5 with c5 | h6
  · exact w_tableIn C (5 : Int32) (by rw [hx, ← c5]; rfl) dL_32 (by decide) (by decide) (off := 379) (tgt := 411) rfl (by decide) (case_5 C hi hL hI kk)
  have h6 : 6 ≤ v := h6
  clear h5
  rcases Nat.eq_or_lt_of_le h6 with c6 | h7
  · exact w_tableIn C (6 : Int32) (by rw [hx, ← c6]; rfl) dL_32 (by decide) (by decide) (off := 392) (tgt := 424) rfl (by decide) (case_6 C hi hL hI kk)
  have h7 : 7 ≤ v := h7
  clear h6
  rcases Nat.eq_or_lt_of_le h7 with c7 | h8
  · exact w_tableIn C (7 : Int32) (by rw [hx, ← c7]; rfl) dL_32 (by decide) (by decide) (off := 435) (tgt := 467) rfl (by decide) (case_7 C hi hL hI kk)
  have h8 : 8 ≤ v := h8
  clear h7
  rcases Nat.eq_or_lt_of_le h8 with c8 | h9
  · exact w_tableIn C (8 : Int32) (by rw [hx, ← c8]; rfl) dL_32 (by decide) (by decide) (off := 468) (tgt := 500) rfl (by decide) (case_8 C hi hL hI kk)
  have h9 : 9 ≤ v := h9
  clear h8
  rcases Nat.eq_or_lt_of_le h9 with c9 | h10
  · exact w_tableIn C (9 : Int32) (by rw [hx, ← c9]; rfl) dL_32 (by decide) (by decide) (off := 501) (tgt := 533) rfl (by decide) (case_9 C hi hL hI kk)
  have h10 : 10 ≤ v := h10
  clear h9
  rcases Nat.eq_or_lt_of_le h10 with c10 | h11
  · exact w_tableIn C (10 : Int32) (by rw [hx, ← c10]; rfl) dL_32 (by decide) (by decide) (off := 514) (tgt := 546) rfl (by decide) (case_10 C hi hL hI kk)
  have h11 : 11 ≤ v := h11
  clear h10
  rcases Nat.eq_or_lt_of_le h11 with c11 | h12
  · exact w_tableIn C (11 : Int32) (by rw [hx, ← c11]; rfl) dL_32 (by decide) (by decide) (off := 547) (tgt := 579) rfl (by decide) (case_11 C hi hL hI kk)
  have h12 : 12 ≤ v := h12
  clear h11
  rcases Nat.eq_or_lt_of_le h12 with c12 | h13
  · exact w_tableIn C (12 : Int32) (by rw [hx, ← c12]; rfl) dL_32 (by decide) (by decide) (off := 580) (tgt := 612) rfl (by decide) (case_12 C hi hL hI kk)
  have h13 : 13 ≤ v := h13
  clear h12
  rcases Nat.eq_or_lt_of_le h13 with c13 | h14
  · exact w_tableIn C (13 : Int32) (by rw [hx, ← c13]; rfl) dL_32 (by decide) (by decide) (off := 593) (tgt := 625) rfl (by decide) (case_13 C hi hL hI kk)
  have h14 : 14 ≤ v := h14
  clear h13
  rcases Nat.eq_or_lt_of_le h14 with c14 | h15
  · exact w_tableIn C (14 : Int32) (by rw [hx, ← c14]; rfl) dL_32 (by decide) (by decide) (off := 616) (tgt := 648) rfl (by decide) (case_14 C hi hL hI kk)
  have h15 : 15 ≤ v := h15
  clear h14
  rcases Nat.eq_or_lt_of_le h15 with c15 | h16
  · exact w_tableIn C (15 : Int32) (by rw [hx, ← c15]; rfl) dL_32 (by decide) (by decide) (off := 639) (tgt := 671) rfl (by decide) (case_15 C hi hL hI kk)
  have h16 : 16 ≤ v := h16
  clear h15
  rcases Nat.eq_or_lt_of_le h16 with c16 | h17
  · exact w_tableIn C (16 : Int32) (by rw [hx, ← c16]; rfl) dL_32 (by decide) (by decide) (off := 662) (tgt := 694) rfl (by decide) (case_16 C hi hL hI kk)
  have h17 : 17 ≤ v := h17
  clear h16
  rcases Nat.eq_or_lt_of_le h17 with c17 | h18
  · exact w_tableIn C (17 : Int32) (by rw [hx, ← c17]; rfl) dL_32 (by decide) (by decide) (off := 695) (tgt := 727) rfl (by decide) (case_17 C hi hL hI kk)
  have h18 : 18 ≤ v := h18
  clear h17
  rcases Nat.eq_or_lt_of_le h18 with c18 | h19
  · exact w_tableIn C (18 : Int32) (by rw [hx, ← c18]; rfl) dL_32 (by decide) (by decide) (off := 708) (tgt := 740) rfl (by decide) (case_18 C hi hL hI kk)
  have h19 : 19 ≤ v := h19
  clear h18
  rcases Nat.eq_or_lt_of_le h19 with c19 | h20
  · exact w_tableIn C (19 : Int32) (by rw [hx, ← c19]; rfl) dL_32 (by decide) (by decide) (off := 721) (tgt := 753) rfl (by decide) (case_19 C hi hL hI kk)
  have h20 : 20 ≤ v := h20
  clear h19
  rcases Nat.eq_or_lt_of_le h20 with c20 | h21
  · exact w_tableIn C (20 : Int32) (by rw [hx, ← c20]; rfl) dL_32 (by decide) (by decide) (off := 744) (tgt := 776) rfl (by decide) (case_20 C hi hL hI kk)
  have h21 : 21 ≤ v := h21
  clear h20
  rcases Nat.eq_or_lt_of_le h21 with c21 | h22
  · exact w_tableIn C (21 : Int32) (by rw [hx, ← c21]; rfl) dL_32 (by decide) (by decide) (off := 767) (tgt := 799) rfl (by decide) (case_21 C hi hL hI kk)
  have h22 : 22 ≤ v := h22
  clear h21
  rcases Nat.eq_or_lt_of_le h22 with c22 | h23
  · exact w_tableIn C (22 : Int32) (by rw [hx, ← c22]; rfl) dL_32 (by decide) (by decide) (off := 790) (tgt := 822) rfl (by decide) (case_22 C hi hL hI kk)
  have h23 : 23 ≤ v := h23
  clear h22
  rcases Nat.eq_or_lt_of_le h23 with c23 | h24
  · exact w_tableIn C (23 : Int32) (by rw [hx, ← c23]; rfl) dL_32 (by decide) (by decide) (off := 813) (tgt := 845) rfl (by decide) (case_23 C hi hL hI kk)
  have h24 : 24 ≤ v := h24
  clear h23
  rcases Nat.eq_or_lt_of_le h24 with c24 | h25
  · exact w_tableIn C (24 : Int32) (by rw [hx, ← c24]; rfl) dL_32 (by decide) (by decide) (off := 826) (tgt := 858) rfl (by decide) (case_24 C hi hL hI kk)
  have h25 : 25 ≤ v := h25
  clear h24
  rcases Nat.eq_or_lt_of_le h25 with c25 | h26
  · exact w_tableIn C (25 : Int32) (by rw [hx, ← c25]; rfl) dL_32 (by decide) (by decide) (off := 849) (tgt := 881) rfl (by decide) (case_25 C hi hL hI kk)
  have h26 : 26 ≤ v := h26
  clear h25
  rcases Nat.eq_or_lt_of_le h26 with c26 | h27
  · exact w_tableIn C (26 : Int32) (by rw [hx, ← c26]; rfl) dL_32 (by decide) (by decide) (off := 872) (tgt := 904) rfl (by decide) (case_26 C hi hL hI kk)
  have h27 : 27 ≤ v := h27
  clear h26
  rcases Nat.eq_or_lt_of_le h27 with c27 | h28
  · exact w_tableIn C (27 : Int32) (by rw [hx, ← c27]; rfl) dL_32 (by decide) (by decide) (off := 885) (tgt := 917) rfl (by decide) (case_27 C hi hL hI kk)
  have h28 : 28 ≤ v := h28
  clear h27
  rcases Nat.eq_or_lt_of_le h28 with c28 | h29
  · exact w_tableIn C (28 : Int32) (by rw [hx, ← c28]; rfl) dL_32 (by decide) (by decide) (off := 898) (tgt := 930) rfl (by decide) (case_28 C hi hL hI kk)
  have h29 : 29 ≤ v := h29
  clear h28
  rcases Nat.eq_or_lt_of_le h29 with c29 | h30
  · exact w_tableIn C (29 : Int32) (by rw [hx, ← c29]; rfl) dL_32 (by decide) (by decide) (off := 931) (tgt := 963) rfl (by decide) (case_29 C hi hL hI kk)
  have h30 : 30 ≤ v := h30
  clear h29
  rcases Nat.eq_or_lt_of_le h30 with c30 | h31
  · exact w_tableIn C (30 : Int32) (by rw [hx, ← c30]; rfl) dL_32 (by decide) (by decide) (off := 965) (tgt := 997) rfl (by decide) (case_30 C hi hL hI kk)
  have h31 : 31 ≤ v := h31
  clear h30
  rcases Nat.eq_or_lt_of_le h31 with c31 | h32
  · exact w_tableIn C (31 : Int32) (by rw [hx, ← c31]; rfl) dL_32 (by decide) (by decide) (off := 988) (tgt := 1020) rfl (by decide) (case_31 C hi hL hI kk)
  have h32 : 32 ≤ v := h32
  clear h31
  rcases Nat.eq_or_lt_of_le h32 with c32 | h33
  · exact w_tableIn C (32 : Int32) (by rw [hx, ← c32]; rfl) dL_32 (by decide) (by decide) (off := 1022) (tgt := 1054) rfl (by decide) (case_32 C hi hL hI kk)
  have h33 : 33 ≤ v := h33
  clear h32
  rcases Nat.eq_or_lt_of_le h33 with c33 | h34
  · exact w_tableIn C (33 : Int32) (by rw [hx, ← c33]; rfl) dL_32 (by decide) (by decide) (off := 1046) (tgt := 1078) rfl (by decide) (case_33 C hi hL hI kk)
  have h34 : 34 ≤ v := h34
  clear h33
  rcases Nat.eq_or_lt_of_le h34 with c34 | h35
  · exact w_tableIn C (34 : Int32) (by rw [hx, ← c34]; rfl) dL_32 (by decide) (by decide) (off := 1069) (tgt := 1101) rfl (by decide) (case_34 C hi hL hI kk)
  have h35 : 35 ≤ v := h35
  clear h34
  rcases Nat.eq_or_lt_of_le h35 with c35 | h36
  · exact w_tableIn C (35 : Int32) (by rw [hx, ← c35]; rfl) dL_32 (by decide) (by decide) (off := 1102) (tgt := 1134) rfl (by decide) (case_35 C hi hL hI kk)
  have h36 : 36 ≤ v := h36
  clear h35
  rcases Nat.eq_or_lt_of_le h36 with c36 | h37
  · exact w_tableIn C (36 : Int32) (by rw [hx, ← c36]; rfl) dL_32 (by decide) (by decide) (off := 1125) (tgt := 1157) rfl (by decide) (case_36 C hi hL hI kk)
  have h37 : 37 ≤ v := h37
  clear h36
  rcases Nat.eq_or_lt_of_le h37 with c37 | h38
  · exact w_tableIn C (37 : Int32) (by rw [hx, ← c37]; rfl) dL_32 (by decide) (by decide) (off := 1148) (tgt := 1180) rfl (by decide) (case_37 C hi hL hI kk)
  have h38 : 38 ≤ v := h38
  clear h37
  rcases Nat.eq_or_lt_of_le h38 with c38 | h39
  · exact w_tableIn C (38 : Int32) (by rw [hx, ← c38]; rfl) dL_32 (by decide) (by decide) (off := 1161) (tgt := 1193) rfl (by decide) (case_38 C hi hL hI kk)
  have h39 : 39 ≤ v := h39
  clear h38
  rcases Nat.eq_or_lt_of_le h39 with c39 | h40
  · exact w_tableIn C (39 : Int32) (by rw [hx, ← c39]; rfl) dL_32 (by decide) (by decide) (off := 1194) (tgt := 1226) rfl (by decide) (case_39 C hi hL hI kk)
  have h40 : 40 ≤ v := h40
  clear h39
  rcases Nat.eq_or_lt_of_le h40 with c40 | h41
  · exact w_tableIn C (40 : Int32) (by rw [hx, ← c40]; rfl) dL_32 (by decide) (by decide) (off := 1207) (tgt := 1239) rfl (by decide) (case_40 C hi hL hI kk)
  have h41 : 41 ≤ v := h41
  clear h40
  rcases Nat.eq_or_lt_of_le h41 with c41 | h42
  · exact w_tableIn C (41 : Int32) (by rw [hx, ← c41]; rfl) dL_32 (by decide) (by decide) (off := 1240) (tgt := 1272) rfl (by decide) (case_41 C hi hL hI kk)
  have h42 : 42 ≤ v := h42
  clear h41
  rcases Nat.eq_or_lt_of_le h42 with c42 | h43
  · exact w_tableIn C (42 : Int32) (by rw [hx, ← c42]; rfl) dL_32 (by decide) (by decide) (off := 1273) (tgt := 1305) rfl (by decide) (case_42 C hi hL hI kk)
  have h43 : 43 ≤ v := h43
  clear h42
  rcases Nat.eq_or_lt_of_le h43 with c43 | h44
  · exact w_tableIn C (43 : Int32) (by rw [hx, ← c43]; rfl) dL_32 (by decide) (by decide) (off := 1296) (tgt := 1328) rfl (by decide) (case_43 C hi hL hI kk)
  have h44 : 44 ≤ v := h44
  clear h43
  rcases Nat.eq_or_lt_of_le h44 with c44 | h45
  · exact w_tableIn C (44 : Int32) (by rw [hx, ← c44]; rfl) dL_32 (by decide) (by decide) (off := 1319) (tgt := 1351) rfl (by decide) (case_44 C hi hL hI kk)
  have h45 : 45 ≤ v := h45
  clear h44
  rcases Nat.eq_or_lt_of_le h45 with c45 | h46
  · exact w_tableIn C (45 : Int32) (by rw [hx, ← c45]; rfl) dL_32 (by decide) (by decide) (off := 1332) (tgt := 1364) rfl (by decide) (case_45 C hi hL hI kk)
  have h46 : 46 ≤ v := h46
  clear h45
  rcases Nat.eq_or_lt_of_le h46 with c46 | h47
  · exact w_tableIn C (46 : Int32) (by rw [hx, ← c46]; rfl) dL_32 (by decide) (by decide) (off := 1355) (tgt := 1387) rfl (by decide) (case_46 C hi hL hI kk)
  have h47 : 47 ≤ v := h47
  clear h46
  rcases Nat.eq_or_lt_of_le h47 with c47 | h48
  · exact w_tableIn C (47 : Int32) (by rw [hx, ← c47]; rfl) dL_32 (by decide) (by decide) (off := 1378) (tgt := 1410) rfl (by decide) (case_47 C hi hL hI kk)
  have h48 : 48 ≤ v := h48
  clear h47
  rcases Nat.eq_or_lt_of_le h48 with c48 | h49
  · exact w_tableIn C (48 : Int32) (by rw [hx, ← c48]; rfl) dL_32 (by decide) (by decide) (off := 1401) (tgt := 1433) rfl (by decide) (case_48 C hi hL hI kk)
  have h49 : 49 ≤ v := h49
  clear h48
  rcases Nat.eq_or_lt_of_le h49 with c49 | h50
  · exact w_tableIn C (49 : Int32) (by rw [hx, ← c49]; rfl) dL_32 (by decide) (by decide) (off := 1414) (tgt := 1446) rfl (by decide) (case_49 C hi hL hI kk)
  have h50 : 50 ≤ v := h50
  clear h49
  rcases Nat.eq_or_lt_of_le h50 with c50 | h51
  · exact w_tableIn C (50 : Int32) (by rw [hx, ← c50]; rfl) dL_32 (by decide) (by decide) (off := 1427) (tgt := 1459) rfl (by decide) (case_50 C hi hL hI kk)
  have h51 : 51 ≤ v := h51
  clear h50
  rcases Nat.eq_or_lt_of_le h51 with c51 | h52
  · exact w_tableIn C (51 : Int32) (by rw [hx, ← c51]; rfl) dL_32 (by decide) (by decide) (off := 1450) (tgt := 1482) rfl (by decide) (case_51 C hi hL hI kk)
  have h52 : 52 ≤ v := h52
  clear h51
  rcases Nat.eq_or_lt_of_le h52 with c52 | h53
  · exact w_tableIn C (52 : Int32) (by rw [hx, ← c52]; rfl) dL_32 (by decide) (by decide) (off := 1463) (tgt := 1495) rfl (by decide) (case_52 C hi hL hI kk)
  have h53 : 53 ≤ v := h53
  clear h52
  rcases Nat.eq_or_lt_of_le h53 with c53 | h54
  · exact w_tableIn C (53 : Int32) (by rw [hx, ← c53]; rfl) dL_32 (by decide) (by decide) (off := 1476) (tgt := 1508) rfl (by decide) (case_53 C hi hL hI kk)
  have h54 : 54 ≤ v := h54
  clear h53
  rcases Nat.eq_or_lt_of_le h54 with c54 | h55
  · exact w_tableIn C (54 : Int32) (by rw [hx, ← c54]; rfl) dL_32 (by decide) (by decide) (off := 1519) (tgt := 1551) rfl (by decide) (case_54 C hi hL hI kk)
  have h55 : 55 ≤ v := h55
  clear h54
  rcases Nat.eq_or_lt_of_le h55 with c55 | h56
  · exact w_tableIn C (55 : Int32) (by rw [hx, ← c55]; rfl) dL_32 (by decide) (by decide) (off := 1532) (tgt := 1564) rfl (by decide) (case_55 C hi hL hI kk)
  have h56 : 56 ≤ v := h56
  clear h55
  rcases Nat.eq_or_lt_of_le h56 with c56 | h57
  · exact w_tableIn C (56 : Int32) (by rw [hx, ← c56]; rfl) dL_32 (by decide) (by decide) (off := 1545) (tgt := 1577) rfl (by decide) (case_56 C hi hL hI kk)
  have h57 : 57 ≤ v := h57
  clear h56
  exact w_tableOut C dL_32 (Or.inr (by rw [hx, nI_toInt (by omega)]; omega)) (tgt := 1600) (by decide) (kk MC MR hI)

theorem and63 (x : Int32) : ∃ v, v < 64 ∧ x &&& 63 = nI v := by
  refine ⟨x.toBitVec.toNat &&& 63, Nat.lt_of_le_of_lt Nat.and_le_right (by decide), ?_⟩
  have e : x = nI x.toBitVec.toNat := by
    apply Int32.toBitVec_inj.1
    show x.toBitVec = BitVec.ofNat 32 x.toBitVec.toNat
    simp
  rw [← fa_and]
  exact congrArg (fun z => z &&& nI 63) e
theorem law_loop (C : CL p s m meth c b L xs D cA aC aR) (hL : L ≤ 2048) : ∀ (n i : Nat) (MC MR : Mem), L + 1 ≤ i + n → i ≤ L → Inv MC MR → KL p l e s m below meth c b D cA aC aR 18 (lvL b aC aR i) [] MC MR := by
  intro n
  induction n with
  | zero => intro i MC MR h1 h2; omega
  | succ n ih =>
    intro i MC MR h1 h2 hI H locs ls hP1 hP2 hS hl
    refine lv_iload_n C.1.1 C.1.2.1 dL_18 rfl (lv_at hl 3 rfl) ?_
    refine lv_aload_n C.1.1 C.1.2.1 dL_19 rfl (lv_at hl 0 rfl) ?_
    refine va_slen C.1.1 C.1.2.1 C.1.2.2.2.2.2.2.1 C.1.2.2.2.2.2.2.2.1 (Nat.not_le.mpr C.1.2.2.2.2.2.2.2.1) hS dL_20 ?_
    refine lv_iconst (v := 4) C.1.1 C.1.2.1 dL_21 rfl ?_
    refine lv_isub C.1.1 C.1.2.1 dL_22 ?_
    have key : (Int32.ofNat L - 4 < nI i) ↔ L < i + 4 := by
      by_cases c4 : 4 ≤ L
      · rw [show Int32.ofNat L - 4 = nI (L - 4) from sub_one_nI (k := 4) c4, nI_ltI (by omega) (by omega)]
        omega
      · refine ⟨fun _ => by omega, fun _ => i_neg_lt ?_ (by omega)⟩
        rcases (show L = 0 ∨ L = 1 ∨ L = 2 ∨ L = 3 by omega) with rfl | rfl | rfl | rfl <;> decide
    refine lv_icmp_gt (tgt := 1606) C.1.1 C.1.2.1 dL_23 (by decide) (fun _ => ?_) (fun q => ?_)
    · refine lv_iconst (v := 1) C.1.1 C.1.2.1 dL_1606 rfl ?_
      refine va_forget (fun q hq => hS.2.2 q hq) ?_
      refine W.widen (k := 600000) (n := 7302250) (Nat.le_of_ble_eq_true rfl) (Nat.le_of_ble_eq_true rfl) ?_
      exact lw_ret C.1.1 C.1.2.1 C.1.2.2.1 C.1.2.2.2.2.2.2.2.2.1 dL_1607
    · have hi : i + 4 ≤ L := Nat.not_lt.mp (fun z => q (key.mpr z))
      refine lv_aload_n C.1.1 C.1.2.1 dL_26 rfl (lv_at hl 0 rfl) ?_
      refine lv_iload_n C.1.1 C.1.2.1 dL_27 rfl (lv_at hl 3 rfl) ?_
      refine va_sld C.1.1 C.1.2.1 C.1.2.2.2.2.2.2.1 C.1.2.2.2.2.2.2.2.1 (Nat.not_le.mpr C.1.2.2.2.2.2.2.2.1) hS (i := nI i) (vp_in_nI (by omega) (by omega)) dL_28 ?_
      rw [nI_clamp (by omega)]
      refine lv_bipush (v := 63) C.1.1 C.1.2.1 dL_29 rfl ?_
      refine lv_iand C.1.1 C.1.2.1 dL_31 ?_
      obtain ⟨v, hv, ev⟩ := and63 (xs i)
      refine law_switch C hi hL hI (fun MC' MR' hI' => ?_) hv ev H locs ls hP1 hP2 hS hl
      intro H locs ls hP1 hP2 hS hl
      refine lv_iinc (v := nI (i + 4)) (lv' := [(3, .int (nI (i + 4))), (0, .ref b), (1, .ref (aC 0)), (2, .ref (aR 0))]) C.1.1 C.1.2.1 dL_1600 hl (k := 3) rfl (nI_add i 4) (by decide) rfl (fun ls hl => ?_)
      refine lv_goto (tgt := 18) C.1.1 C.1.2.1 dL_1603 (by decide) ?_
      exact ih (i + 4) MC' MR' (by omega) (by omega) hI' H locs ls hP1 hP2 hS (lv_sub hl [1, 2, 3, 0] rfl)

end CASES
