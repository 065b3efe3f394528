/-! the class's constructor -/
theorem dX11_init_0 : decode cX11_init 0 = .ok (.aload_n 0, 1) := by decide +kernel
theorem dX11_init_1 : decode cX11_init 1 = .ok (.invokespecial 3, 3) := by decide +kernel
theorem dX11_init_4 : decode cX11_init 4 = .ok (.aload_n 0, 1) := by decide +kernel
theorem dX11_init_5 : decode cX11_init 5 = .ok (.new 9, 3) := by decide +kernel
theorem dX11_init_8 : decode cX11_init 8 = .ok (.dup, 1) := by decide +kernel
theorem dX11_init_9 : decode cX11_init 9 = .ok (.invokespecial 11, 3) := by decide +kernel
theorem dX11_init_12 : decode cX11_init 12 = .ok (.putfield 12, 3) := by decide +kernel
theorem dX11_init_15 : decode cX11_init 15 = .ok (.aload_n 0, 1) := by decide +kernel
theorem dX11_init_16 : decode cX11_init 16 = .ok (.new 9, 3) := by decide +kernel
theorem dX11_init_19 : decode cX11_init 19 = .ok (.dup, 1) := by decide +kernel
theorem dX11_init_20 : decode cX11_init 20 = .ok (.invokespecial 11, 3) := by decide +kernel
theorem dX11_init_23 : decode cX11_init 23 = .ok (.putfield 16, 3) := by decide +kernel
theorem dX11_init_26 : decode cX11_init 26 = .ok (.aload_n 0, 1) := by decide +kernel
theorem dX11_init_27 : decode cX11_init 27 = .ok (.iconst 0, 1) := by decide +kernel
theorem dX11_init_28 : decode cX11_init 28 = .ok (.putfield 19, 3) := by decide +kernel
theorem dX11_init_31 : decode cX11_init 31 = .ok (.aload_n 0, 1) := by decide +kernel
theorem dX11_init_32 : decode cX11_init 32 = .ok (.new 23, 3) := by decide +kernel
theorem dX11_init_35 : decode cX11_init 35 = .ok (.dup, 1) := by decide +kernel
theorem dX11_init_36 : decode cX11_init 36 = .ok (.invokespecial 25, 3) := by decide +kernel
theorem dX11_init_39 : decode cX11_init 39 = .ok (.putfield 26, 3) := by decide +kernel
theorem dX11_init_42 : decode cX11_init 42 = .ok (.aload_n 0, 1) := by decide +kernel
theorem dX11_init_43 : decode cX11_init 43 = .ok (.new 30, 3) := by decide +kernel
theorem dX11_init_46 : decode cX11_init 46 = .ok (.dup, 1) := by decide +kernel
theorem dX11_init_47 : decode cX11_init 47 = .ok (.invokespecial 32, 3) := by decide +kernel
theorem dX11_init_50 : decode cX11_init 50 = .ok (.putfield 33, 3) := by decide +kernel
theorem dX11_init_53 : decode cX11_init 53 = .ok (.aload_n 0, 1) := by decide +kernel
theorem dX11_init_54 : decode cX11_init 54 = .ok (.new 37, 3) := by decide +kernel
theorem dX11_init_57 : decode cX11_init 57 = .ok (.dup, 1) := by decide +kernel
theorem dX11_init_58 : decode cX11_init 58 = .ok (.invokespecial 39, 3) := by decide +kernel
theorem dX11_init_61 : decode cX11_init 61 = .ok (.putfield 40, 3) := by decide +kernel
theorem dX11_init_64 : decode cX11_init 64 = .ok (.aload_n 0, 1) := by decide +kernel
theorem dX11_init_65 : decode cX11_init 65 = .ok (.new 44, 3) := by decide +kernel
theorem dX11_init_68 : decode cX11_init 68 = .ok (.dup, 1) := by decide +kernel
theorem dX11_init_69 : decode cX11_init 69 = .ok (.aload_n 0, 1) := by decide +kernel
theorem dX11_init_70 : decode cX11_init 70 = .ok (.getfield 12, 3) := by decide +kernel
theorem dX11_init_73 : decode cX11_init 73 = .ok (.invokespecial 46, 3) := by decide +kernel
theorem dX11_init_76 : decode cX11_init 76 = .ok (.putfield 49, 3) := by decide +kernel
theorem dX11_init_79 : decode cX11_init 79 = .ok (.aload_n 0, 1) := by decide +kernel
theorem dX11_init_80 : decode cX11_init 80 = .ok (.new 53, 3) := by decide +kernel
theorem dX11_init_83 : decode cX11_init 83 = .ok (.dup, 1) := by decide +kernel
theorem dX11_init_84 : decode cX11_init 84 = .ok (.aload_n 0, 1) := by decide +kernel
theorem dX11_init_85 : decode cX11_init 85 = .ok (.getfield 12, 3) := by decide +kernel
theorem dX11_init_88 : decode cX11_init 88 = .ok (.aload_n 0, 1) := by decide +kernel
theorem dX11_init_89 : decode cX11_init 89 = .ok (.getfield 49, 3) := by decide +kernel
theorem dX11_init_92 : decode cX11_init 92 = .ok (.invokespecial 55, 3) := by decide +kernel
theorem dX11_init_95 : decode cX11_init 95 = .ok (.putfield 58, 3) := by decide +kernel
theorem dX11_init_98 : decode cX11_init 98 = .ok (.aload_n 0, 1) := by decide +kernel
theorem dX11_init_99 : decode cX11_init 99 = .ok (.new 62, 3) := by decide +kernel
theorem dX11_init_102 : decode cX11_init 102 = .ok (.dup, 1) := by decide +kernel
theorem dX11_init_103 : decode cX11_init 103 = .ok (.aload_n 0, 1) := by decide +kernel
theorem dX11_init_104 : decode cX11_init 104 = .ok (.getfield 12, 3) := by decide +kernel
theorem dX11_init_107 : decode cX11_init 107 = .ok (.aload_n 0, 1) := by decide +kernel
theorem dX11_init_108 : decode cX11_init 108 = .ok (.getfield 49, 3) := by decide +kernel
theorem dX11_init_111 : decode cX11_init 111 = .ok (.aload_n 0, 1) := by decide +kernel
theorem dX11_init_112 : decode cX11_init 112 = .ok (.getfield 40, 3) := by decide +kernel
theorem dX11_init_115 : decode cX11_init 115 = .ok (.invokespecial 64, 3) := by decide +kernel
theorem dX11_init_118 : decode cX11_init 118 = .ok (.putfield 67, 3) := by decide +kernel
theorem dX11_init_121 : decode cX11_init 121 = .ok (.aload_n 0, 1) := by decide +kernel
theorem dX11_init_122 : decode cX11_init 122 = .ok (.new 71, 3) := by decide +kernel
theorem dX11_init_125 : decode cX11_init 125 = .ok (.dup, 1) := by decide +kernel
theorem dX11_init_126 : decode cX11_init 126 = .ok (.aload_n 0, 1) := by decide +kernel
theorem dX11_init_127 : decode cX11_init 127 = .ok (.getfield 12, 3) := by decide +kernel
theorem dX11_init_130 : decode cX11_init 130 = .ok (.aload_n 0, 1) := by decide +kernel
theorem dX11_init_131 : decode cX11_init 131 = .ok (.getfield 49, 3) := by decide +kernel
theorem dX11_init_134 : decode cX11_init 134 = .ok (.invokespecial 73, 3) := by decide +kernel
theorem dX11_init_137 : decode cX11_init 137 = .ok (.putfield 74, 3) := by decide +kernel
theorem dX11_init_140 : decode cX11_init 140 = .ok (.aload_n 0, 1) := by decide +kernel
theorem dX11_init_141 : decode cX11_init 141 = .ok (.new 78, 3) := by decide +kernel
theorem dX11_init_144 : decode cX11_init 144 = .ok (.dup, 1) := by decide +kernel
theorem dX11_init_145 : decode cX11_init 145 = .ok (.aload_n 0, 1) := by decide +kernel
theorem dX11_init_146 : decode cX11_init 146 = .ok (.getfield 12, 3) := by decide +kernel
theorem dX11_init_149 : decode cX11_init 149 = .ok (.aload_n 0, 1) := by decide +kernel
theorem dX11_init_150 : decode cX11_init 150 = .ok (.getfield 49, 3) := by decide +kernel
theorem dX11_init_153 : decode cX11_init 153 = .ok (.invokespecial 80, 3) := by decide +kernel
theorem dX11_init_156 : decode cX11_init 156 = .ok (.putfield 81, 3) := by decide +kernel
theorem dX11_init_159 : decode cX11_init 159 = .ok (.aload_n 0, 1) := by decide +kernel
theorem dX11_init_160 : decode cX11_init 160 = .ok (.new 85, 3) := by decide +kernel
theorem dX11_init_163 : decode cX11_init 163 = .ok (.dup, 1) := by decide +kernel
theorem dX11_init_164 : decode cX11_init 164 = .ok (.aload_n 0, 1) := by decide +kernel
theorem dX11_init_165 : decode cX11_init 165 = .ok (.getfield 12, 3) := by decide +kernel
theorem dX11_init_168 : decode cX11_init 168 = .ok (.aload_n 0, 1) := by decide +kernel
theorem dX11_init_169 : decode cX11_init 169 = .ok (.getfield 49, 3) := by decide +kernel
theorem dX11_init_172 : decode cX11_init 172 = .ok (.invokespecial 87, 3) := by decide +kernel
theorem dX11_init_175 : decode cX11_init 175 = .ok (.putfield 88, 3) := by decide +kernel
theorem dX11_init_178 : decode cX11_init 178 = .ok (.aload_n 0, 1) := by decide +kernel
theorem dX11_init_179 : decode cX11_init 179 = .ok (.new 92, 3) := by decide +kernel
theorem dX11_init_182 : decode cX11_init 182 = .ok (.dup, 1) := by decide +kernel
theorem dX11_init_183 : decode cX11_init 183 = .ok (.aload_n 0, 1) := by decide +kernel
theorem dX11_init_184 : decode cX11_init 184 = .ok (.getfield 12, 3) := by decide +kernel
theorem dX11_init_187 : decode cX11_init 187 = .ok (.aload_n 0, 1) := by decide +kernel
theorem dX11_init_188 : decode cX11_init 188 = .ok (.getfield 49, 3) := by decide +kernel
theorem dX11_init_191 : decode cX11_init 191 = .ok (.invokespecial 94, 3) := by decide +kernel
theorem dX11_init_194 : decode cX11_init 194 = .ok (.putfield 95, 3) := by decide +kernel
theorem dX11_init_197 : decode cX11_init 197 = .ok (.aload_n 0, 1) := by decide +kernel
theorem dX11_init_198 : decode cX11_init 198 = .ok (.bipush 7, 2) := by decide +kernel
theorem dX11_init_200 : decode cX11_init 200 = .ok (.newarray .int, 2) := by decide +kernel
theorem dX11_init_202 : decode cX11_init 202 = .ok (.putfield 99, 3) := by decide +kernel
theorem dX11_init_205 : decode cX11_init 205 = .ok (.return_, 1) := by decide +kernel
theorem mi_X11 : MI yX11_init cX11_init 1 0 := ⟨(bw 119 (by decide +kernel) (by decide +kernel)), (bw 99 (by decide +kernel) (by decide +kernel)), (bw 120 (by decide +kernel) (by decide +kernel)), ⟨by decide +kernel, by decide +kernel⟩, by decide +kernel, rfl⟩
theorem kw_X11 (D : va_G) (a : Nat → Nat) (cA : Nat → ClassId) : k_ws (D, a, cA) shC M0 = [((a 0), .inr (11, [.ref (a 1), .ref (a 6), .int 0, .ref (a 11), .ref (a 16), .ref (a 23), .ref (a 25), .ref (a 28), .ref (a 32), .ref (a 34), .ref (a 36), .ref (a 41), .ref (a 42), .ref (a 43)])), ((a 1), .inr (0, [.ref (a 2), .ref (a 3), .ref (a 4), .ref (a 5), .int 0, .int 0, .int 0, .int 0])), ((a 2), .inl (cA 0, (8, .inl fun _ => 0))), ((a 3), .inl (cA 0, (8, .inl fun _ => 0))), ((a 4), .inl (cA 0, (8, .inl fun _ => 0))), ((a 5), .inl (cA 0, (12, .inl fun _ => 0))), ((a 6), .inr (0, [.ref (a 7), .ref (a 8), .ref (a 9), .ref (a 10), .int 0, .int 0, .int 0, .int 0])), ((a 7), .inl (cA 0, (8, .inl fun _ => 0))), ((a 8), .inl (cA 0, (8, .inl fun _ => 0))), ((a 9), .inl (cA 0, (8, .inl fun _ => 0))), ((a 10), .inl (cA 0, (12, .inl fun _ => 0))), ((a 11), .inr (10, [.ref (a 12), .ref (a 13), .ref (a 14), .ref (a 15), .int 0])), ((a 12), .inl (cA 0, (8, .inl fun _ => 0))), ((a 13), .inl (cA 0, (8, .inl fun _ => 0))), ((a 14), .inl (cA 0, (8, .inl fun _ => 0))), ((a 15), .inl (cA 0, (8, .inl fun _ => 0))), ((a 16), .inr (1, [.ref (a 17), .ref (a 18), .int 0])), ((a 17), .inl (cA 0, (96, .inl fun _ => 0))), ((a 18), .inr (0, [.ref (a 19), .ref (a 20), .ref (a 21), .ref (a 22), .int 0, .int 0, .int 0, .int 0])), ((a 19), .inl (cA 0, (8, .inl fun _ => 0))), ((a 20), .inl (cA 0, (8, .inl fun _ => 0))), ((a 21), .inl (cA 0, (8, .inl fun _ => 0))), ((a 22), .inl (cA 0, (12, .inl fun _ => 0))), ((a 23), .inr (9, [.ref (a 24), .int 0])), ((a 24), .inl (cA 0, (12, .inl fun _ => 0))), ((a 25), .inr (8, [.ref (a 1), .ref (a 26), .ref (a 27)])), ((a 26), .inl (cA 0, (8, .inl fun _ => 0))), ((a 27), .inl (cA 0, (8, .inl fun _ => 0))), ((a 28), .inr (3, [.ref (a 1), .ref (a 25), .ref (a 29), .ref (a 30), .ref (a 31)])), ((a 29), .inl (cA 0, (12, .inl fun _ => 0))), ((a 30), .inl (cA 0, (12, .inl fun _ => 0))), ((a 31), .inl (cA 0, (12, .inl fun _ => 0))), ((a 32), .inr (7, [.ref (a 1), .ref (a 25), .ref (a 23), .ref (a 33)])), ((a 33), .inl (cA 0, (288, .inl fun _ => 0))), ((a 34), .inr (6, [.ref (a 1), .ref (a 25), .ref (a 35)])), ((a 35), .inl (cA 0, (256, .inl fun _ => 0))), ((a 36), .inr (2, [.ref (a 1), .ref (a 25), .ref (a 37), .ref (a 38), .ref (a 39), .ref (a 40)])), ((a 37), .inl (cA 0, (256, .inl fun _ => 0))), ((a 38), .inl (cA 2, (256, .inl fun _ => 0))), ((a 39), .inl (cA 1, (81, .inr (.inl fun _ => 0)))), ((a 40), .inl (cA 1, (81, .inr (.inl fun _ => 0)))), ((a 41), .inr (5, [.ref (a 1), .ref (a 25)])), ((a 42), .inr (4, [.ref (a 1), .ref (a 25)])), ((a 43), .inl (cA 0, (7, .inl fun _ => 0)))] := by
  unfold k_ws shC
  simp only [List.mapIdx_cons, List.mapIdx_nil, k_cell]
  rfl
theorem kx_X11 (D : va_G) (cA : Nat → ClassId) (h0 q1 q1_q1 q1_q2 q1_q3 q1_q4 q2 q2_q1 q2_q2 q2_q3 q2_q4 q3 q3_q1 q3_q2 q3_q3 q3_q4 q4 q4_q1 q4_q2 q4_q2_q1 q4_q2_q2 q4_q2_q3 q4_q2_q4 q5 q5_q1 q6 q6_q1 q6_q2 q7 q7_q1 q7_q2 q7_q3 q8 q8_q1 q9 q9_q1 q10 q10_q1 q10_q2 q10_q3 q10_q4 q11 q12 q13 : Nat) : (h0, .inr (11, [.ref q1, .ref q2, .int 0, .ref q3, .ref q4, .ref q5, .ref q6, .ref q7, .ref q8, .ref q9, .ref q10, .ref q11, .ref q12, .ref q13])) :: (((((((((((([(q1, .inr (0, [.ref q1_q1, .ref q1_q2, .ref q1_q3, .ref q1_q4, .int 0, .int 0, .int 0, .int 0])), (q1_q1, .inl (cA 0, (8, .inl fun _ => 0))), (q1_q2, .inl (cA 0, (8, .inl fun _ => 0))), (q1_q3, .inl (cA 0, (8, .inl fun _ => 0))), (q1_q4, .inl (cA 0, (12, .inl fun _ => 0)))] ++ [(q2, .inr (0, [.ref q2_q1, .ref q2_q2, .ref q2_q3, .ref q2_q4, .int 0, .int 0, .int 0, .int 0])), (q2_q1, .inl (cA 0, (8, .inl fun _ => 0))), (q2_q2, .inl (cA 0, (8, .inl fun _ => 0))), (q2_q3, .inl (cA 0, (8, .inl fun _ => 0))), (q2_q4, .inl (cA 0, (12, .inl fun _ => 0)))]) ++ [(q3, .inr (10, [.ref q3_q1, .ref q3_q2, .ref q3_q3, .ref q3_q4, .int 0])), (q3_q1, .inl (cA 0, (8, .inl fun _ => 0))), (q3_q2, .inl (cA 0, (8, .inl fun _ => 0))), (q3_q3, .inl (cA 0, (8, .inl fun _ => 0))), (q3_q4, .inl (cA 0, (8, .inl fun _ => 0)))]) ++ [(q4, .inr (1, [.ref q4_q1, .ref q4_q2, .int 0])), (q4_q1, .inl (cA 0, (96, .inl fun _ => 0))), (q4_q2, .inr (0, [.ref q4_q2_q1, .ref q4_q2_q2, .ref q4_q2_q3, .ref q4_q2_q4, .int 0, .int 0, .int 0, .int 0])), (q4_q2_q1, .inl (cA 0, (8, .inl fun _ => 0))), (q4_q2_q2, .inl (cA 0, (8, .inl fun _ => 0))), (q4_q2_q3, .inl (cA 0, (8, .inl fun _ => 0))), (q4_q2_q4, .inl (cA 0, (12, .inl fun _ => 0)))]) ++ [(q5, .inr (9, [.ref q5_q1, .int 0])), (q5_q1, .inl (cA 0, (12, .inl fun _ => 0)))]) ++ [(q6, .inr (8, [.ref q1, .ref q6_q1, .ref q6_q2])), (q6_q1, .inl (cA 0, (8, .inl fun _ => 0))), (q6_q2, .inl (cA 0, (8, .inl fun _ => 0)))]) ++ [(q7, .inr (3, [.ref q1, .ref q6, .ref q7_q1, .ref q7_q2, .ref q7_q3])), (q7_q1, .inl (cA 0, (12, .inl fun _ => 0))), (q7_q2, .inl (cA 0, (12, .inl fun _ => 0))), (q7_q3, .inl (cA 0, (12, .inl fun _ => 0)))]) ++ [(q8, .inr (7, [.ref q1, .ref q6, .ref q5, .ref q8_q1])), (q8_q1, .inl (cA 0, (288, .inl fun _ => 0)))]) ++ [(q9, .inr (6, [.ref q1, .ref q6, .ref q9_q1])), (q9_q1, .inl (cA 0, (256, .inl fun _ => 0)))]) ++ [(q10, .inr (2, [.ref q1, .ref q6, .ref q10_q1, .ref q10_q2, .ref q10_q3, .ref q10_q4])), (q10_q1, .inl (cA 0, (256, .inl fun _ => 0))), (q10_q2, .inl (cA 2, (256, .inl fun _ => 0))), (q10_q3, .inl (cA 1, (81, .inr (.inl fun _ => 0)))), (q10_q4, .inl (cA 1, (81, .inr (.inl fun _ => 0))))]) ++ [(q11, .inr (5, [.ref q1, .ref q6]))]) ++ [(q12, .inr (4, [.ref q1, .ref q6]))]) ++ [(q13, .inl (cA 0, (7, .inl fun _ => 0)))]) = k_ws (D, fun j => [h0, q1, q1_q1, q1_q2, q1_q3, q1_q4, q2, q2_q1, q2_q2, q2_q3, q2_q4, q3, q3_q1, q3_q2, q3_q3, q3_q4, q4, q4_q1, q4_q2, q4_q2_q1, q4_q2_q2, q4_q2_q3, q4_q2_q4, q5, q5_q1, q6, q6_q1, q6_q2, q7, q7_q1, q7_q2, q7_q3, q8, q8_q1, q9, q9_q1, q10, q10_q1, q10_q2, q10_q3, q10_q4, q11, q12, q13].getD j 0, cA) shC M0 := by
  rw [kw_X11]
  rfl
set_option maxHeartbeats 4000000 in
set_option maxRecDepth 100000 in
theorem ci_X11 {l : Launch} (D : va_G) (cA : Nat → ClassId) (h0 : Nat) : I_Met l yX11_init cX11_init 1 3 52 43 1584 D cA h0 [] 11 [.null, .null, .int 0, .null, .null, .null, .null, .null, .null, .null, .null, .null, .null, .null] (fun w => ∃ a : Nat → Nat, a 0 = h0 ∧ w = k_ws (D, a, cA) shC M0) := by
  refine I_Met_of (by decide +kernel) rfl (Nat.le_of_ble_eq_true rfl) fun p e s m args below meth c A C hin hret => ?_
  refine i_aload C 0 rfl rfl dX11_init_0 ?_
  refine i_obj C (bw 121 (by decide +kernel) (by decide +kernel)) w_oi w_oc (Nat.le_of_ble_eq_true rfl) (Nat.le_of_ble_eq_true rfl) dX11_init_1 ?_
  refine i_aload C 0 rfl rfl dX11_init_4 ?_
  refine i_new (fs := [.null, .null, .null, .null, .int 0, .int 0, .int 0, .int 0]) (cells' := 1) (slots' := 8) C in_X0 tyX0 tyX0_ok (bw 124 (by decide +kernel) (by decide +kernel)) (bw 125 (by decide +kernel) (by decide +kernel)) (bw 100 (by decide +kernel) (by decide +kernel)) (ci := 0) rfl (fun j hj => by rcases (show j = 0 ∨ j = 1 ∨ j = 2 ∨ j = 3 ∨ j = 4 ∨ j = 5 ∨ j = 6 ∨ j = 7 by omega) with rfl | rfl | rfl | rfl | rfl | rfl | rfl | rfl <;> rfl) rfl rfl (Nat.le_of_ble_eq_true rfl) (Nat.le_of_ble_eq_true rfl) dX11_init_5 (fun q1 => ?_)
  refine i_dup C rfl dX11_init_8 ?_
  refine i_callN (cells' := 5) (slots' := 44) C (ci_X0 D cA q1 ) mi_X0 (by decide +kernel) rfl rfl ⟨Nat.le_of_ble_eq_true rfl, Nat.le_of_ble_eq_true rfl⟩ (Nat.le_of_ble_eq_true rfl) rfl rfl (Nat.le_of_ble_eq_true rfl) (Nat.le_of_ble_eq_true rfl) dX11_init_9 (fun w1 hw1 => ?_)
  refine i_eq (ws' := (h0, .inr (11, [.null, .null, .int 0, .null, .null, .null, .null, .null, .null, .null, .null, .null, .null, .null])) :: w1) ?_ rfl
  refine i_putF C hin in_X11 tyX11 tyX11_ok nmX11 (ci := 11) rfl 0 (by decide) (bw 374 (by decide +kernel) (by decide +kernel)) rfl rfl rfl rfl (fs' := [.ref q1, .null, .int 0, .null, .null, .null, .null, .null, .null, .null, .null, .null, .null, .null]) (Nat.le_of_ble_eq_true rfl) rfl dX11_init_12 ?_
  refine i_aload C 0 rfl rfl dX11_init_15 ?_
  refine i_new (fs := [.null, .null, .null, .null, .int 0, .int 0, .int 0, .int 0]) (cells' := 6) (slots' := 52) C in_X0 tyX0 tyX0_ok (bw 124 (by decide +kernel) (by decide +kernel)) (bw 125 (by decide +kernel) (by decide +kernel)) (bw 100 (by decide +kernel) (by decide +kernel)) (ci := 0) rfl (fun j hj => by rcases (show j = 0 ∨ j = 1 ∨ j = 2 ∨ j = 3 ∨ j = 4 ∨ j = 5 ∨ j = 6 ∨ j = 7 by omega) with rfl | rfl | rfl | rfl | rfl | rfl | rfl | rfl <;> rfl) rfl rfl (Nat.le_of_ble_eq_true rfl) (Nat.le_of_ble_eq_true rfl) dX11_init_16 (fun q2 => ?_)
  refine i_dup C rfl dX11_init_19 ?_
  refine i_callN (cells' := 10) (slots' := 88) C (ci_X0 D cA q2 ) mi_X0 (by decide +kernel) rfl rfl ⟨Nat.le_of_ble_eq_true rfl, Nat.le_of_ble_eq_true rfl⟩ (Nat.le_of_ble_eq_true rfl) rfl rfl (Nat.le_of_ble_eq_true rfl) (Nat.le_of_ble_eq_true rfl) dX11_init_20 (fun w2 hw2 => ?_)
  refine i_eq (ws' := (h0, .inr (11, [.ref q1, .null, .int 0, .null, .null, .null, .null, .null, .null, .null, .null, .null, .null, .null])) :: (w1 ++ w2)) ?_ rfl
  refine i_putF C hin in_X11 tyX11 tyX11_ok nmX11 (ci := 11) rfl 1 (by decide) (bw 375 (by decide +kernel) (by decide +kernel)) rfl rfl rfl rfl (fs' := [.ref q1, .ref q2, .int 0, .null, .null, .null, .null, .null, .null, .null, .null, .null, .null, .null]) (Nat.le_of_ble_eq_true rfl) rfl dX11_init_23 ?_
  refine i_aload C 0 rfl rfl dX11_init_26 ?_
  refine i_iconst (v := 0) C rfl dX11_init_27 ?_
  refine i_put C in_X11 tyX11 tyX11_ok nmX11 (ci := 11) rfl 2 (by decide) (bw 376 (by decide +kernel) (by decide +kernel)) rfl rfl rfl (fs' := [.ref q1, .ref q2, .int 0, .null, .null, .null, .null, .null, .null, .null, .null, .null, .null, .null]) (Nat.le_of_ble_eq_true rfl) rfl dX11_init_28 ?_
  refine i_aload C 0 rfl rfl dX11_init_31 ?_
  refine i_new (fs := [.null, .null, .null, .null, .int 0]) (cells' := 11) (slots' := 93) C in_X10 tyX10 tyX10_ok (bw 185 (by decide +kernel) (by decide +kernel)) (bw 186 (by decide +kernel) (by decide +kernel)) (bw 101 (by decide +kernel) (by decide +kernel)) (ci := 10) rfl (fun j hj => by rcases (show j = 0 ∨ j = 1 ∨ j = 2 ∨ j = 3 ∨ j = 4 by omega) with rfl | rfl | rfl | rfl | rfl <;> rfl) rfl rfl (Nat.le_of_ble_eq_true rfl) (Nat.le_of_ble_eq_true rfl) dX11_init_32 (fun q3 => ?_)
  refine i_dup C rfl dX11_init_35 ?_
  refine i_callN (cells' := 15) (slots' := 125) C (ci_X10 D cA q3 ) mi_X10 (by decide +kernel) rfl rfl ⟨Nat.le_of_ble_eq_true rfl, Nat.le_of_ble_eq_true rfl⟩ (Nat.le_of_ble_eq_true rfl) rfl rfl (Nat.le_of_ble_eq_true rfl) (Nat.le_of_ble_eq_true rfl) dX11_init_36 (fun w3 hw3 => ?_)
  refine i_eq (ws' := (h0, .inr (11, [.ref q1, .ref q2, .int 0, .null, .null, .null, .null, .null, .null, .null, .null, .null, .null, .null])) :: ((w1 ++ w2) ++ w3)) ?_ rfl
  refine i_putF C hin in_X11 tyX11 tyX11_ok nmX11 (ci := 11) rfl 3 (by decide) (bw 377 (by decide +kernel) (by decide +kernel)) rfl rfl rfl rfl (fs' := [.ref q1, .ref q2, .int 0, .ref q3, .null, .null, .null, .null, .null, .null, .null, .null, .null, .null]) (Nat.le_of_ble_eq_true rfl) rfl dX11_init_39 ?_
  refine i_aload C 0 rfl rfl dX11_init_42 ?_
  refine i_new (fs := [.null, .null, .int 0]) (cells' := 16) (slots' := 128) C in_X1 tyX1 tyX1_ok (bw 208 (by decide +kernel) (by decide +kernel)) (bw 209 (by decide +kernel) (by decide +kernel)) (bw 102 (by decide +kernel) (by decide +kernel)) (ci := 1) rfl (fun j hj => by rcases (show j = 0 ∨ j = 1 ∨ j = 2 by omega) with rfl | rfl | rfl <;> rfl) rfl rfl (Nat.le_of_ble_eq_true rfl) (Nat.le_of_ble_eq_true rfl) dX11_init_43 (fun q4 => ?_)
  refine i_dup C rfl dX11_init_46 ?_
  refine i_callN (cells' := 22) (slots' := 268) C (ci_X1 D cA q4 ) mi_X1 (by decide +kernel) rfl rfl ⟨Nat.le_of_ble_eq_true rfl, Nat.le_of_ble_eq_true rfl⟩ (Nat.le_of_ble_eq_true rfl) rfl rfl (Nat.le_of_ble_eq_true rfl) (Nat.le_of_ble_eq_true rfl) dX11_init_47 (fun w4 hw4 => ?_)
  refine i_eq (ws' := (h0, .inr (11, [.ref q1, .ref q2, .int 0, .ref q3, .null, .null, .null, .null, .null, .null, .null, .null, .null, .null])) :: (((w1 ++ w2) ++ w3) ++ w4)) ?_ rfl
  refine i_putF C hin in_X11 tyX11 tyX11_ok nmX11 (ci := 11) rfl 4 (by decide) (bw 378 (by decide +kernel) (by decide +kernel)) rfl rfl rfl rfl (fs' := [.ref q1, .ref q2, .int 0, .ref q3, .ref q4, .null, .null, .null, .null, .null, .null, .null, .null, .null]) (Nat.le_of_ble_eq_true rfl) rfl dX11_init_50 ?_
  refine i_aload C 0 rfl rfl dX11_init_53 ?_
  refine i_new (fs := [.null, .int 0]) (cells' := 23) (slots' := 270) C in_X9 tyX9 tyX9_ok (bw 227 (by decide +kernel) (by decide +kernel)) (bw 228 (by decide +kernel) (by decide +kernel)) (bw 103 (by decide +kernel) (by decide +kernel)) (ci := 9) rfl (fun j hj => by rcases (show j = 0 ∨ j = 1 by omega) with rfl | rfl <;> rfl) rfl rfl (Nat.le_of_ble_eq_true rfl) (Nat.le_of_ble_eq_true rfl) dX11_init_54 (fun q5 => ?_)
  refine i_dup C rfl dX11_init_57 ?_
  refine i_callN (cells' := 24) (slots' := 282) C (ci_X9 D cA q5 ) mi_X9 (by decide +kernel) rfl rfl ⟨Nat.le_of_ble_eq_true rfl, Nat.le_of_ble_eq_true rfl⟩ (Nat.le_of_ble_eq_true rfl) rfl rfl (Nat.le_of_ble_eq_true rfl) (Nat.le_of_ble_eq_true rfl) dX11_init_58 (fun w5 hw5 => ?_)
  refine i_eq (ws' := (h0, .inr (11, [.ref q1, .ref q2, .int 0, .ref q3, .ref q4, .null, .null, .null, .null, .null, .null, .null, .null, .null])) :: ((((w1 ++ w2) ++ w3) ++ w4) ++ w5)) ?_ rfl
  refine i_putF C hin in_X11 tyX11 tyX11_ok nmX11 (ci := 11) rfl 5 (by decide) (bw 379 (by decide +kernel) (by decide +kernel)) rfl rfl rfl rfl (fs' := [.ref q1, .ref q2, .int 0, .ref q3, .ref q4, .ref q5, .null, .null, .null, .null, .null, .null, .null, .null]) (Nat.le_of_ble_eq_true rfl) rfl dX11_init_61 ?_
  refine i_aload C 0 rfl rfl dX11_init_64 ?_
  refine i_new (fs := [.null, .null, .null]) (cells' := 25) (slots' := 285) C in_X8 tyX8 tyX8_ok (bw 243 (by decide +kernel) (by decide +kernel)) (bw 244 (by decide +kernel) (by decide +kernel)) (bw 104 (by decide +kernel) (by decide +kernel)) (ci := 8) rfl (fun j hj => by rcases (show j = 0 ∨ j = 1 ∨ j = 2 by omega) with rfl | rfl | rfl <;> rfl) rfl rfl (Nat.le_of_ble_eq_true rfl) (Nat.le_of_ble_eq_true rfl) dX11_init_65 (fun q6 => ?_)
  refine i_dup C rfl dX11_init_68 ?_
  refine i_aload C 0 rfl rfl dX11_init_69 ?_
  refine i_get C in_X11 (ci := 11) rfl 0 (by decide) (bw 374 (by decide +kernel) (by decide +kernel)) rfl rfl dX11_init_70 ?_
  refine i_call (cells' := 27) (slots' := 301) C (ci_X8 D cA q6 q1) mi_X8 (bw 245 (by decide +kernel) (by decide +kernel)) rfl rfl ⟨Nat.le_of_ble_eq_true rfl, Nat.le_of_ble_eq_true rfl⟩ (Nat.le_of_ble_eq_true rfl) rfl rfl (Nat.le_of_ble_eq_true rfl) (Nat.le_of_ble_eq_true rfl) dX11_init_73 (fun w6 hw6 => ?_)
  refine i_eq (ws' := (h0, .inr (11, [.ref q1, .ref q2, .int 0, .ref q3, .ref q4, .ref q5, .null, .null, .null, .null, .null, .null, .null, .null])) :: (((((w1 ++ w2) ++ w3) ++ w4) ++ w5) ++ w6)) ?_ rfl
  refine i_putF C hin in_X11 tyX11 tyX11_ok nmX11 (ci := 11) rfl 6 (by decide) (bw 380 (by decide +kernel) (by decide +kernel)) rfl rfl rfl rfl (fs' := [.ref q1, .ref q2, .int 0, .ref q3, .ref q4, .ref q5, .ref q6, .null, .null, .null, .null, .null, .null, .null]) (Nat.le_of_ble_eq_true rfl) rfl dX11_init_76 ?_
  refine i_aload C 0 rfl rfl dX11_init_79 ?_
  refine i_new (fs := [.null, .null, .null, .null, .null]) (cells' := 28) (slots' := 306) C in_X3 tyX3 tyX3_ok (bw 264 (by decide +kernel) (by decide +kernel)) (bw 265 (by decide +kernel) (by decide +kernel)) (bw 105 (by decide +kernel) (by decide +kernel)) (ci := 3) rfl (fun j hj => by rcases (show j = 0 ∨ j = 1 ∨ j = 2 ∨ j = 3 ∨ j = 4 by omega) with rfl | rfl | rfl | rfl | rfl <;> rfl) rfl rfl (Nat.le_of_ble_eq_true rfl) (Nat.le_of_ble_eq_true rfl) dX11_init_80 (fun q7 => ?_)
  refine i_dup C rfl dX11_init_83 ?_
  refine i_aload C 0 rfl rfl dX11_init_84 ?_
  refine i_get C in_X11 (ci := 11) rfl 0 (by decide) (bw 374 (by decide +kernel) (by decide +kernel)) rfl rfl dX11_init_85 ?_
  refine i_aload C 0 rfl rfl dX11_init_88 ?_
  refine i_get C in_X11 (ci := 11) rfl 6 (by decide) (bw 380 (by decide +kernel) (by decide +kernel)) rfl rfl dX11_init_89 ?_
  refine i_call (cells' := 31) (slots' := 342) C (ci_X3 D cA q7 q1 q6) mi_X3 (bw 266 (by decide +kernel) (by decide +kernel)) rfl rfl ⟨Nat.le_of_ble_eq_true rfl, Nat.le_of_ble_eq_true rfl⟩ (Nat.le_of_ble_eq_true rfl) rfl rfl (Nat.le_of_ble_eq_true rfl) (Nat.le_of_ble_eq_true rfl) dX11_init_92 (fun w7 hw7 => ?_)
  refine i_eq (ws' := (h0, .inr (11, [.ref q1, .ref q2, .int 0, .ref q3, .ref q4, .ref q5, .ref q6, .null, .null, .null, .null, .null, .null, .null])) :: ((((((w1 ++ w2) ++ w3) ++ w4) ++ w5) ++ w6) ++ w7)) ?_ rfl
  refine i_putF C hin in_X11 tyX11 tyX11_ok nmX11 (ci := 11) rfl 7 (by decide) (bw 381 (by decide +kernel) (by decide +kernel)) rfl rfl rfl rfl (fs' := [.ref q1, .ref q2, .int 0, .ref q3, .ref q4, .ref q5, .ref q6, .ref q7, .null, .null, .null, .null, .null, .null]) (Nat.le_of_ble_eq_true rfl) rfl dX11_init_95 ?_
  refine i_aload C 0 rfl rfl dX11_init_98 ?_
  refine i_new (fs := [.null, .null, .null, .null]) (cells' := 32) (slots' := 346) C in_X7 tyX7 tyX7_ok (bw 286 (by decide +kernel) (by decide +kernel)) (bw 287 (by decide +kernel) (by decide +kernel)) (bw 106 (by decide +kernel) (by decide +kernel)) (ci := 7) rfl (fun j hj => by rcases (show j = 0 ∨ j = 1 ∨ j = 2 ∨ j = 3 by omega) with rfl | rfl | rfl | rfl <;> rfl) rfl rfl (Nat.le_of_ble_eq_true rfl) (Nat.le_of_ble_eq_true rfl) dX11_init_99 (fun q8 => ?_)
  refine i_dup C rfl dX11_init_102 ?_
  refine i_aload C 0 rfl rfl dX11_init_103 ?_
  refine i_get C in_X11 (ci := 11) rfl 0 (by decide) (bw 374 (by decide +kernel) (by decide +kernel)) rfl rfl dX11_init_104 ?_
  refine i_aload C 0 rfl rfl dX11_init_107 ?_
  refine i_get C in_X11 (ci := 11) rfl 6 (by decide) (bw 380 (by decide +kernel) (by decide +kernel)) rfl rfl dX11_init_108 ?_
  refine i_aload C 0 rfl rfl dX11_init_111 ?_
  refine i_get C in_X11 (ci := 11) rfl 5 (by decide) (bw 379 (by decide +kernel) (by decide +kernel)) rfl rfl dX11_init_112 ?_
  refine i_call (cells' := 33) (slots' := 634) C (ci_X7 D cA q8 q1 q6 q5) mi_X7 (bw 288 (by decide +kernel) (by decide +kernel)) rfl rfl ⟨Nat.le_of_ble_eq_true rfl, Nat.le_of_ble_eq_true rfl⟩ (Nat.le_of_ble_eq_true rfl) rfl rfl (Nat.le_of_ble_eq_true rfl) (Nat.le_of_ble_eq_true rfl) dX11_init_115 (fun w8 hw8 => ?_)
  refine i_eq (ws' := (h0, .inr (11, [.ref q1, .ref q2, .int 0, .ref q3, .ref q4, .ref q5, .ref q6, .ref q7, .null, .null, .null, .null, .null, .null])) :: (((((((w1 ++ w2) ++ w3) ++ w4) ++ w5) ++ w6) ++ w7) ++ w8)) ?_ rfl
  refine i_putF C hin in_X11 tyX11 tyX11_ok nmX11 (ci := 11) rfl 8 (by decide) (bw 382 (by decide +kernel) (by decide +kernel)) rfl rfl rfl rfl (fs' := [.ref q1, .ref q2, .int 0, .ref q3, .ref q4, .ref q5, .ref q6, .ref q7, .ref q8, .null, .null, .null, .null, .null]) (Nat.le_of_ble_eq_true rfl) rfl dX11_init_118 ?_
  refine i_aload C 0 rfl rfl dX11_init_121 ?_
  refine i_new (fs := [.null, .null, .null]) (cells' := 34) (slots' := 637) C in_X6 tyX6 tyX6_ok (bw 305 (by decide +kernel) (by decide +kernel)) (bw 306 (by decide +kernel) (by decide +kernel)) (bw 107 (by decide +kernel) (by decide +kernel)) (ci := 6) rfl (fun j hj => by rcases (show j = 0 ∨ j = 1 ∨ j = 2 by omega) with rfl | rfl | rfl <;> rfl) rfl rfl (Nat.le_of_ble_eq_true rfl) (Nat.le_of_ble_eq_true rfl) dX11_init_122 (fun q9 => ?_)
  refine i_dup C rfl dX11_init_125 ?_
  refine i_aload C 0 rfl rfl dX11_init_126 ?_
  refine i_get C in_X11 (ci := 11) rfl 0 (by decide) (bw 374 (by decide +kernel) (by decide +kernel)) rfl rfl dX11_init_127 ?_
  refine i_aload C 0 rfl rfl dX11_init_130 ?_
  refine i_get C in_X11 (ci := 11) rfl 6 (by decide) (bw 380 (by decide +kernel) (by decide +kernel)) rfl rfl dX11_init_131 ?_
  refine i_call (cells' := 35) (slots' := 893) C (ci_X6 D cA q9 q1 q6) mi_X6 (bw 307 (by decide +kernel) (by decide +kernel)) rfl rfl ⟨Nat.le_of_ble_eq_true rfl, Nat.le_of_ble_eq_true rfl⟩ (Nat.le_of_ble_eq_true rfl) rfl rfl (Nat.le_of_ble_eq_true rfl) (Nat.le_of_ble_eq_true rfl) dX11_init_134 (fun w9 hw9 => ?_)
  refine i_eq (ws' := (h0, .inr (11, [.ref q1, .ref q2, .int 0, .ref q3, .ref q4, .ref q5, .ref q6, .ref q7, .ref q8, .null, .null, .null, .null, .null])) :: ((((((((w1 ++ w2) ++ w3) ++ w4) ++ w5) ++ w6) ++ w7) ++ w8) ++ w9)) ?_ rfl
  refine i_putF C hin in_X11 tyX11 tyX11_ok nmX11 (ci := 11) rfl 9 (by decide) (bw 383 (by decide +kernel) (by decide +kernel)) rfl rfl rfl rfl (fs' := [.ref q1, .ref q2, .int 0, .ref q3, .ref q4, .ref q5, .ref q6, .ref q7, .ref q8, .ref q9, .null, .null, .null, .null]) (Nat.le_of_ble_eq_true rfl) rfl dX11_init_137 ?_
  refine i_aload C 0 rfl rfl dX11_init_140 ?_
  refine i_new (fs := [.null, .null, .null, .null, .null, .null]) (cells' := 36) (slots' := 899) C in_X2 tyX2 tyX2_ok (bw 321 (by decide +kernel) (by decide +kernel)) (bw 322 (by decide +kernel) (by decide +kernel)) (bw 108 (by decide +kernel) (by decide +kernel)) (ci := 2) rfl (fun j hj => by rcases (show j = 0 ∨ j = 1 ∨ j = 2 ∨ j = 3 ∨ j = 4 ∨ j = 5 by omega) with rfl | rfl | rfl | rfl | rfl | rfl <;> rfl) rfl rfl (Nat.le_of_ble_eq_true rfl) (Nat.le_of_ble_eq_true rfl) dX11_init_141 (fun q10 => ?_)
  refine i_dup C rfl dX11_init_144 ?_
  refine i_aload C 0 rfl rfl dX11_init_145 ?_
  refine i_get C in_X11 (ci := 11) rfl 0 (by decide) (bw 374 (by decide +kernel) (by decide +kernel)) rfl rfl dX11_init_146 ?_
  refine i_aload C 0 rfl rfl dX11_init_149 ?_
  refine i_get C in_X11 (ci := 11) rfl 6 (by decide) (bw 380 (by decide +kernel) (by decide +kernel)) rfl rfl dX11_init_150 ?_
  refine i_call (cells' := 40) (slots' := 1573) C (ci_X2 D cA q10 q1 q6) mi_X2 (bw 323 (by decide +kernel) (by decide +kernel)) rfl rfl ⟨Nat.le_of_ble_eq_true rfl, Nat.le_of_ble_eq_true rfl⟩ (Nat.le_of_ble_eq_true rfl) rfl rfl (Nat.le_of_ble_eq_true rfl) (Nat.le_of_ble_eq_true rfl) dX11_init_153 (fun w10 hw10 => ?_)
  refine i_eq (ws' := (h0, .inr (11, [.ref q1, .ref q2, .int 0, .ref q3, .ref q4, .ref q5, .ref q6, .ref q7, .ref q8, .ref q9, .null, .null, .null, .null])) :: (((((((((w1 ++ w2) ++ w3) ++ w4) ++ w5) ++ w6) ++ w7) ++ w8) ++ w9) ++ w10)) ?_ rfl
  refine i_putF C hin in_X11 tyX11 tyX11_ok nmX11 (ci := 11) rfl 10 (by decide) (bw 384 (by decide +kernel) (by decide +kernel)) rfl rfl rfl rfl (fs' := [.ref q1, .ref q2, .int 0, .ref q3, .ref q4, .ref q5, .ref q6, .ref q7, .ref q8, .ref q9, .ref q10, .null, .null, .null]) (Nat.le_of_ble_eq_true rfl) rfl dX11_init_156 ?_
  refine i_aload C 0 rfl rfl dX11_init_159 ?_
  refine i_new (fs := [.null, .null]) (cells' := 41) (slots' := 1575) C in_X5 tyX5 tyX5_ok (bw 348 (by decide +kernel) (by decide +kernel)) (bw 349 (by decide +kernel) (by decide +kernel)) (bw 109 (by decide +kernel) (by decide +kernel)) (ci := 5) rfl (fun j hj => by rcases (show j = 0 ∨ j = 1 by omega) with rfl | rfl <;> rfl) rfl rfl (Nat.le_of_ble_eq_true rfl) (Nat.le_of_ble_eq_true rfl) dX11_init_160 (fun q11 => ?_)
  refine i_dup C rfl dX11_init_163 ?_
  refine i_aload C 0 rfl rfl dX11_init_164 ?_
  refine i_get C in_X11 (ci := 11) rfl 0 (by decide) (bw 374 (by decide +kernel) (by decide +kernel)) rfl rfl dX11_init_165 ?_
  refine i_aload C 0 rfl rfl dX11_init_168 ?_
  refine i_get C in_X11 (ci := 11) rfl 6 (by decide) (bw 380 (by decide +kernel) (by decide +kernel)) rfl rfl dX11_init_169 ?_
  refine i_call (cells' := 41) (slots' := 1575) C (ci_X5 D cA q11 q1 q6) mi_X5 (bw 350 (by decide +kernel) (by decide +kernel)) rfl rfl ⟨Nat.le_of_ble_eq_true rfl, Nat.le_of_ble_eq_true rfl⟩ (Nat.le_of_ble_eq_true rfl) rfl rfl (Nat.le_of_ble_eq_true rfl) (Nat.le_of_ble_eq_true rfl) dX11_init_172 (fun w11 hw11 => ?_)
  refine i_eq (ws' := (h0, .inr (11, [.ref q1, .ref q2, .int 0, .ref q3, .ref q4, .ref q5, .ref q6, .ref q7, .ref q8, .ref q9, .ref q10, .null, .null, .null])) :: ((((((((((w1 ++ w2) ++ w3) ++ w4) ++ w5) ++ w6) ++ w7) ++ w8) ++ w9) ++ w10) ++ w11)) ?_ rfl
  refine i_putF C hin in_X11 tyX11 tyX11_ok nmX11 (ci := 11) rfl 11 (by decide) (bw 385 (by decide +kernel) (by decide +kernel)) rfl rfl rfl rfl (fs' := [.ref q1, .ref q2, .int 0, .ref q3, .ref q4, .ref q5, .ref q6, .ref q7, .ref q8, .ref q9, .ref q10, .ref q11, .null, .null]) (Nat.le_of_ble_eq_true rfl) rfl dX11_init_175 ?_
  refine i_aload C 0 rfl rfl dX11_init_178 ?_
  refine i_new (fs := [.null, .null]) (cells' := 42) (slots' := 1577) C in_X4 tyX4 tyX4_ok (bw 361 (by decide +kernel) (by decide +kernel)) (bw 362 (by decide +kernel) (by decide +kernel)) (bw 110 (by decide +kernel) (by decide +kernel)) (ci := 4) rfl (fun j hj => by rcases (show j = 0 ∨ j = 1 by omega) with rfl | rfl <;> rfl) rfl rfl (Nat.le_of_ble_eq_true rfl) (Nat.le_of_ble_eq_true rfl) dX11_init_179 (fun q12 => ?_)
  refine i_dup C rfl dX11_init_182 ?_
  refine i_aload C 0 rfl rfl dX11_init_183 ?_
  refine i_get C in_X11 (ci := 11) rfl 0 (by decide) (bw 374 (by decide +kernel) (by decide +kernel)) rfl rfl dX11_init_184 ?_
  refine i_aload C 0 rfl rfl dX11_init_187 ?_
  refine i_get C in_X11 (ci := 11) rfl 6 (by decide) (bw 380 (by decide +kernel) (by decide +kernel)) rfl rfl dX11_init_188 ?_
  refine i_call (cells' := 42) (slots' := 1577) C (ci_X4 D cA q12 q1 q6) mi_X4 (bw 363 (by decide +kernel) (by decide +kernel)) rfl rfl ⟨Nat.le_of_ble_eq_true rfl, Nat.le_of_ble_eq_true rfl⟩ (Nat.le_of_ble_eq_true rfl) rfl rfl (Nat.le_of_ble_eq_true rfl) (Nat.le_of_ble_eq_true rfl) dX11_init_191 (fun w12 hw12 => ?_)
  refine i_eq (ws' := (h0, .inr (11, [.ref q1, .ref q2, .int 0, .ref q3, .ref q4, .ref q5, .ref q6, .ref q7, .ref q8, .ref q9, .ref q10, .ref q11, .null, .null])) :: (((((((((((w1 ++ w2) ++ w3) ++ w4) ++ w5) ++ w6) ++ w7) ++ w8) ++ w9) ++ w10) ++ w11) ++ w12)) ?_ rfl
  refine i_putF C hin in_X11 tyX11 tyX11_ok nmX11 (ci := 11) rfl 12 (by decide) (bw 386 (by decide +kernel) (by decide +kernel)) rfl rfl rfl rfl (fs' := [.ref q1, .ref q2, .int 0, .ref q3, .ref q4, .ref q5, .ref q6, .ref q7, .ref q8, .ref q9, .ref q10, .ref q11, .ref q12, .null]) (Nat.le_of_ble_eq_true rfl) rfl dX11_init_194 ?_
  refine i_aload C 0 rfl rfl dX11_init_197 ?_
  refine i_bipush (v := 7) C rfl dX11_init_198 ?_
  refine i_newaI (N := 7) (cells' := 43) (slots' := 1584) C w_aint (by decide) rfl (Nat.le_of_ble_eq_true rfl) rfl rfl (Nat.le_of_ble_eq_true rfl) (Nat.le_of_ble_eq_true rfl) dX11_init_200 (fun q13 => ?_)
  refine i_eq (ws' := (h0, .inr (11, [.ref q1, .ref q2, .int 0, .ref q3, .ref q4, .ref q5, .ref q6, .ref q7, .ref q8, .ref q9, .ref q10, .ref q11, .ref q12, .null])) :: ((((((((((((w1 ++ w2) ++ w3) ++ w4) ++ w5) ++ w6) ++ w7) ++ w8) ++ w9) ++ w10) ++ w11) ++ w12) ++ [(q13, .inl (cA 0, (7, .inl fun _ => 0)))])) ?_ rfl
  refine i_putF C hin in_X11 tyX11 tyX11_ok nmX11 (ci := 11) rfl 13 (by decide) (bw 387 (by decide +kernel) (by decide +kernel)) rfl rfl rfl rfl (fs' := [.ref q1, .ref q2, .int 0, .ref q3, .ref q4, .ref q5, .ref q6, .ref q7, .ref q8, .ref q9, .ref q10, .ref q11, .ref q12, .ref q13]) (Nat.le_of_ble_eq_true rfl) rfl dX11_init_202 ?_
  obtain ⟨q1_q1, q1_q2, q1_q3, q1_q4, rfl⟩ := hw1
  obtain ⟨q2_q1, q2_q2, q2_q3, q2_q4, rfl⟩ := hw2
  obtain ⟨q3_q1, q3_q2, q3_q3, q3_q4, rfl⟩ := hw3
  obtain ⟨q4_q1, q4_q2, q4_q2_q1, q4_q2_q2, q4_q2_q3, q4_q2_q4, rfl⟩ := hw4
  obtain ⟨q5_q1, rfl⟩ := hw5
  obtain ⟨q6_q1, q6_q2, rfl⟩ := hw6
  obtain ⟨q7_q1, q7_q2, q7_q3, rfl⟩ := hw7
  obtain ⟨q8_q1, rfl⟩ := hw8
  obtain ⟨q9_q1, rfl⟩ := hw9
  obtain ⟨q10_q1, q10_q2, q10_q3, q10_q4, rfl⟩ := hw10
  subst hw11
  subst hw12
  exact hret _ _ _ ⟨fun j => [h0, q1, q1_q1, q1_q2, q1_q3, q1_q4, q2, q2_q1, q2_q2, q2_q3, q2_q4, q3, q3_q1, q3_q2, q3_q3, q3_q4, q4, q4_q1, q4_q2, q4_q2_q1, q4_q2_q2, q4_q2_q3, q4_q2_q4, q5, q5_q1, q6, q6_q1, q6_q2, q7, q7_q1, q7_q2, q7_q3, q8, q8_q1, q9, q9_q1, q10, q10_q1, q10_q2, q10_q3, q10_q4, q11, q12, q13].getD j 0, rfl, kx_X11 D cA h0 q1 q1_q1 q1_q2 q1_q3 q1_q4 q2 q2_q1 q2_q2 q2_q3 q2_q4 q3 q3_q1 q3_q2 q3_q3 q3_q4 q4 q4_q1 q4_q2 q4_q2_q1 q4_q2_q2 q4_q2_q3 q4_q2_q4 q5 q5_q1 q6 q6_q1 q6_q2 q7 q7_q1 q7_q2 q7_q3 q8 q8_q1 q9 q9_q1 q10 q10_q1 q10_q2 q10_q3 q10_q4 q11 q12 q13⟩ dX11_init_205
