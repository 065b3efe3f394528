/-! the constructors, printed by a program of mine -/
def M0 : Mem := (fun _ _ => 0, fun _ _ => 0)
theorem w_oi : Cond.instanceMethod Lib.objectInit ∈ bigW := (bw 122 (by decide +kernel) (by decide +kernel))
theorem w_oc : Cond.code Lib.objectInit ⟨#[0xb1]⟩ 1 none ∈ bigW := (bw 123 (by decide +kernel) (by decide +kernel))
theorem w_aint : Cond.arrayClass .int ∈ bigW := (bw 184 (by decide +kernel) (by decide +kernel))
theorem w_along : Cond.arrayClass .long ∈ bigW := (bw 347 (by decide +kernel) (by decide +kernel))
theorem w_aboolean : Cond.arrayClass .boolean ∈ bigW := (bw 346 (by decide +kernel) (by decide +kernel))
theorem dX0_init_0 : decode cX0_init 0 = .ok (.aload_n 0, 1) := by decide +kernel
theorem dX0_init_1 : decode cX0_init 1 = .ok (.invokespecial 3, 3) := by decide +kernel
theorem dX0_init_4 : decode cX0_init 4 = .ok (.aload_n 0, 1) := by decide +kernel
theorem dX0_init_5 : decode cX0_init 5 = .ok (.bipush 8, 2) := by decide +kernel
theorem dX0_init_7 : decode cX0_init 7 = .ok (.newarray .int, 2) := by decide +kernel
theorem dX0_init_9 : decode cX0_init 9 = .ok (.putfield 9, 3) := by decide +kernel
theorem dX0_init_12 : decode cX0_init 12 = .ok (.aload_n 0, 1) := by decide +kernel
theorem dX0_init_13 : decode cX0_init 13 = .ok (.bipush 8, 2) := by decide +kernel
theorem dX0_init_15 : decode cX0_init 15 = .ok (.newarray .int, 2) := by decide +kernel
theorem dX0_init_17 : decode cX0_init 17 = .ok (.putfield 15, 3) := by decide +kernel
theorem dX0_init_20 : decode cX0_init 20 = .ok (.aload_n 0, 1) := by decide +kernel
theorem dX0_init_21 : decode cX0_init 21 = .ok (.bipush 8, 2) := by decide +kernel
theorem dX0_init_23 : decode cX0_init 23 = .ok (.newarray .int, 2) := by decide +kernel
theorem dX0_init_25 : decode cX0_init 25 = .ok (.putfield 18, 3) := by decide +kernel
theorem dX0_init_28 : decode cX0_init 28 = .ok (.aload_n 0, 1) := by decide +kernel
theorem dX0_init_29 : decode cX0_init 29 = .ok (.bipush 12, 2) := by decide +kernel
theorem dX0_init_31 : decode cX0_init 31 = .ok (.newarray .int, 2) := by decide +kernel
theorem dX0_init_33 : decode cX0_init 33 = .ok (.putfield 21, 3) := by decide +kernel
theorem dX0_init_36 : decode cX0_init 36 = .ok (.aload_n 0, 1) := by decide +kernel
theorem dX0_init_37 : decode cX0_init 37 = .ok (.iconst 0, 1) := by decide +kernel
theorem dX0_init_38 : decode cX0_init 38 = .ok (.putfield 24, 3) := by decide +kernel
theorem dX0_init_41 : decode cX0_init 41 = .ok (.aload_n 0, 1) := by decide +kernel
theorem dX0_init_42 : decode cX0_init 42 = .ok (.iconst 0, 1) := by decide +kernel
theorem dX0_init_43 : decode cX0_init 43 = .ok (.putfield 28, 3) := by decide +kernel
theorem dX0_init_46 : decode cX0_init 46 = .ok (.aload_n 0, 1) := by decide +kernel
theorem dX0_init_47 : decode cX0_init 47 = .ok (.iconst 0, 1) := by decide +kernel
theorem dX0_init_48 : decode cX0_init 48 = .ok (.putfield 31, 3) := by decide +kernel
theorem dX0_init_51 : decode cX0_init 51 = .ok (.aload_n 0, 1) := by decide +kernel
theorem dX0_init_52 : decode cX0_init 52 = .ok (.iconst 0, 1) := by decide +kernel
theorem dX0_init_53 : decode cX0_init 53 = .ok (.putfield 34, 3) := by decide +kernel
theorem dX0_init_56 : decode cX0_init 56 = .ok (.return_, 1) := by decide +kernel
theorem mi_X0 : MI yX0_init cX0_init 1 0 := ⟨(bw 127 (by decide +kernel) (by decide +kernel)), (bw 100 (by decide +kernel) (by decide +kernel)), (bw 128 (by decide +kernel) (by decide +kernel)), ⟨by decide +kernel, by decide +kernel⟩, by decide +kernel, rfl⟩
set_option maxHeartbeats 4000000 in
set_option maxRecDepth 100000 in
theorem ci_X0 {l : Launch} (D : va_G) (cA : Nat → ClassId) (h0 : Nat) : I_Met l yX0_init cX0_init 1 1 12 4 36 D cA h0 [] 0 [.null, .null, .null, .null, .int 0, .int 0, .int 0, .int 0] (fun w => ∃ q1 q2 q3 q4 : Nat, w = [(h0, .inr (0, [.ref q1, .ref q2, .ref q3, .ref q4, .int 0, .int 0, .int 0, .int 0])), (q1, .inl (cA 0, (8, .inl fun _ => 0))), (q2, .inl (cA 0, (8, .inl fun _ => 0))), (q3, .inl (cA 0, (8, .inl fun _ => 0))), (q4, .inl (cA 0, (12, .inl fun _ => 0)))]) := by
  refine I_Met_of (by decide +kernel) rfl (Nat.le_of_ble_eq_true rfl) fun p e s m args below meth c A C hin hret => ?_
  refine i_aload C 0 rfl rfl dX0_init_0 ?_
  refine i_obj C (bw 129 (by decide +kernel) (by decide +kernel)) w_oi w_oc (Nat.le_of_ble_eq_true rfl) (Nat.le_of_ble_eq_true rfl) dX0_init_1 ?_
  refine i_aload C 0 rfl rfl dX0_init_4 ?_
  refine i_bipush (v := 8) C rfl dX0_init_5 ?_
  refine i_newaI (N := 8) (cells' := 1) (slots' := 8) C w_aint (by decide) rfl (Nat.le_of_ble_eq_true rfl) rfl rfl (Nat.le_of_ble_eq_true rfl) (Nat.le_of_ble_eq_true rfl) dX0_init_7 (fun q1 => ?_)
  refine i_eq (ws' := (h0, .inr (0, [.null, .null, .null, .null, .int 0, .int 0, .int 0, .int 0])) :: [(q1, .inl (cA 0, (8, .inl fun _ => 0)))]) ?_ rfl
  refine i_putF C hin in_X0 tyX0 tyX0_ok nmX0 (ci := 0) rfl 0 (by decide) (bw 130 (by decide +kernel) (by decide +kernel)) rfl rfl rfl rfl (fs' := [.ref q1, .null, .null, .null, .int 0, .int 0, .int 0, .int 0]) (Nat.le_of_ble_eq_true rfl) rfl dX0_init_9 ?_
  refine i_aload C 0 rfl rfl dX0_init_12 ?_
  refine i_bipush (v := 8) C rfl dX0_init_13 ?_
  refine i_newaI (N := 8) (cells' := 2) (slots' := 16) C w_aint (by decide) rfl (Nat.le_of_ble_eq_true rfl) rfl rfl (Nat.le_of_ble_eq_true rfl) (Nat.le_of_ble_eq_true rfl) dX0_init_15 (fun q2 => ?_)
  refine i_eq (ws' := (h0, .inr (0, [.ref q1, .null, .null, .null, .int 0, .int 0, .int 0, .int 0])) :: ([(q1, .inl (cA 0, (8, .inl fun _ => 0)))] ++ [(q2, .inl (cA 0, (8, .inl fun _ => 0)))])) ?_ rfl
  refine i_putF C hin in_X0 tyX0 tyX0_ok nmX0 (ci := 0) rfl 1 (by decide) (bw 133 (by decide +kernel) (by decide +kernel)) rfl rfl rfl rfl (fs' := [.ref q1, .ref q2, .null, .null, .int 0, .int 0, .int 0, .int 0]) (Nat.le_of_ble_eq_true rfl) rfl dX0_init_17 ?_
  refine i_aload C 0 rfl rfl dX0_init_20 ?_
  refine i_bipush (v := 8) C rfl dX0_init_21 ?_
  refine i_newaI (N := 8) (cells' := 3) (slots' := 24) C w_aint (by decide) rfl (Nat.le_of_ble_eq_true rfl) rfl rfl (Nat.le_of_ble_eq_true rfl) (Nat.le_of_ble_eq_true rfl) dX0_init_23 (fun q3 => ?_)
  refine i_eq (ws' := (h0, .inr (0, [.ref q1, .ref q2, .null, .null, .int 0, .int 0, .int 0, .int 0])) :: (([(q1, .inl (cA 0, (8, .inl fun _ => 0)))] ++ [(q2, .inl (cA 0, (8, .inl fun _ => 0)))]) ++ [(q3, .inl (cA 0, (8, .inl fun _ => 0)))])) ?_ rfl
  refine i_putF C hin in_X0 tyX0 tyX0_ok nmX0 (ci := 0) rfl 2 (by decide) (bw 135 (by decide +kernel) (by decide +kernel)) rfl rfl rfl rfl (fs' := [.ref q1, .ref q2, .ref q3, .null, .int 0, .int 0, .int 0, .int 0]) (Nat.le_of_ble_eq_true rfl) rfl dX0_init_25 ?_
  refine i_aload C 0 rfl rfl dX0_init_28 ?_
  refine i_bipush (v := 12) C rfl dX0_init_29 ?_
  refine i_newaI (N := 12) (cells' := 4) (slots' := 36) C w_aint (by decide) rfl (Nat.le_of_ble_eq_true rfl) rfl rfl (Nat.le_of_ble_eq_true rfl) (Nat.le_of_ble_eq_true rfl) dX0_init_31 (fun q4 => ?_)
  refine i_eq (ws' := (h0, .inr (0, [.ref q1, .ref q2, .ref q3, .null, .int 0, .int 0, .int 0, .int 0])) :: ((([(q1, .inl (cA 0, (8, .inl fun _ => 0)))] ++ [(q2, .inl (cA 0, (8, .inl fun _ => 0)))]) ++ [(q3, .inl (cA 0, (8, .inl fun _ => 0)))]) ++ [(q4, .inl (cA 0, (12, .inl fun _ => 0)))])) ?_ rfl
  refine i_putF C hin in_X0 tyX0 tyX0_ok nmX0 (ci := 0) rfl 3 (by decide) (bw 138 (by decide +kernel) (by decide +kernel)) rfl rfl rfl rfl (fs' := [.ref q1, .ref q2, .ref q3, .ref q4, .int 0, .int 0, .int 0, .int 0]) (Nat.le_of_ble_eq_true rfl) rfl dX0_init_33 ?_
  refine i_aload C 0 rfl rfl dX0_init_36 ?_
  refine i_iconst (v := 0) C rfl dX0_init_37 ?_
  refine i_put C in_X0 tyX0 tyX0_ok nmX0 (ci := 0) rfl 4 (by decide) (bw 144 (by decide +kernel) (by decide +kernel)) rfl rfl rfl (fs' := [.ref q1, .ref q2, .ref q3, .ref q4, .int 0, .int 0, .int 0, .int 0]) (Nat.le_of_ble_eq_true rfl) rfl dX0_init_38 ?_
  refine i_aload C 0 rfl rfl dX0_init_41 ?_
  refine i_iconst (v := 0) C rfl dX0_init_42 ?_
  refine i_put C in_X0 tyX0 tyX0_ok nmX0 (ci := 0) rfl 5 (by decide) (bw 153 (by decide +kernel) (by decide +kernel)) rfl rfl rfl (fs' := [.ref q1, .ref q2, .ref q3, .ref q4, .int 0, .int 0, .int 0, .int 0]) (Nat.le_of_ble_eq_true rfl) rfl dX0_init_43 ?_
  refine i_aload C 0 rfl rfl dX0_init_46 ?_
  refine i_iconst (v := 0) C rfl dX0_init_47 ?_
  refine i_put C in_X0 tyX0 tyX0_ok nmX0 (ci := 0) rfl 6 (by decide) (bw 160 (by decide +kernel) (by decide +kernel)) rfl rfl rfl (fs' := [.ref q1, .ref q2, .ref q3, .ref q4, .int 0, .int 0, .int 0, .int 0]) (Nat.le_of_ble_eq_true rfl) rfl dX0_init_48 ?_
  refine i_aload C 0 rfl rfl dX0_init_51 ?_
  refine i_iconst (v := 0) C rfl dX0_init_52 ?_
  refine i_put C in_X0 tyX0 tyX0_ok nmX0 (ci := 0) rfl 7 (by decide) (bw 164 (by decide +kernel) (by decide +kernel)) rfl rfl rfl (fs' := [.ref q1, .ref q2, .ref q3, .ref q4, .int 0, .int 0, .int 0, .int 0]) (Nat.le_of_ble_eq_true rfl) rfl dX0_init_53 ?_
  exact hret _ _ _ ⟨q1, q2, q3, q4, rfl⟩ dX0_init_56
theorem dX1_init_0 : decode cX1_init 0 = .ok (.aload_n 0, 1) := by decide +kernel
theorem dX1_init_1 : decode cX1_init 1 = .ok (.invokespecial 3, 3) := by decide +kernel
theorem dX1_init_4 : decode cX1_init 4 = .ok (.aload_n 0, 1) := by decide +kernel
theorem dX1_init_5 : decode cX1_init 5 = .ok (.bipush 96, 2) := by decide +kernel
theorem dX1_init_7 : decode cX1_init 7 = .ok (.newarray .int, 2) := by decide +kernel
theorem dX1_init_9 : decode cX1_init 9 = .ok (.putfield 9, 3) := by decide +kernel
theorem dX1_init_12 : decode cX1_init 12 = .ok (.aload_n 0, 1) := by decide +kernel
theorem dX1_init_13 : decode cX1_init 13 = .ok (.new 15, 3) := by decide +kernel
theorem dX1_init_16 : decode cX1_init 16 = .ok (.dup, 1) := by decide +kernel
theorem dX1_init_17 : decode cX1_init 17 = .ok (.invokespecial 17, 3) := by decide +kernel
theorem dX1_init_20 : decode cX1_init 20 = .ok (.putfield 18, 3) := by decide +kernel
theorem dX1_init_23 : decode cX1_init 23 = .ok (.aload_n 0, 1) := by decide +kernel
theorem dX1_init_24 : decode cX1_init 24 = .ok (.iconst 0, 1) := by decide +kernel
theorem dX1_init_25 : decode cX1_init 25 = .ok (.putfield 22, 3) := by decide +kernel
theorem dX1_init_28 : decode cX1_init 28 = .ok (.return_, 1) := by decide +kernel
theorem mi_X1 : MI yX1_init cX1_init 1 0 := ⟨(bw 211 (by decide +kernel) (by decide +kernel)), (bw 102 (by decide +kernel) (by decide +kernel)), (bw 212 (by decide +kernel) (by decide +kernel)), ⟨by decide +kernel, by decide +kernel⟩, by decide +kernel, rfl⟩
set_option maxHeartbeats 4000000 in
set_option maxRecDepth 100000 in
theorem ci_X1 {l : Launch} (D : va_G) (cA : Nat → ClassId) (h0 : Nat) : I_Met l yX1_init cX1_init 1 2 32 6 140 D cA h0 [] 1 [.null, .null, .int 0] (fun w => ∃ q1 q2 q2_q1 q2_q2 q2_q3 q2_q4 : Nat, w = [(h0, .inr (1, [.ref q1, .ref q2, .int 0])), (q1, .inl (cA 0, (96, .inl fun _ => 0))), (q2, .inr (0, [.ref q2_q1, .ref q2_q2, .ref q2_q3, .ref q2_q4, .int 0, .int 0, .int 0, .int 0])), (q2_q1, .inl (cA 0, (8, .inl fun _ => 0))), (q2_q2, .inl (cA 0, (8, .inl fun _ => 0))), (q2_q3, .inl (cA 0, (8, .inl fun _ => 0))), (q2_q4, .inl (cA 0, (12, .inl fun _ => 0)))]) := by
  refine I_Met_of (by decide +kernel) rfl (Nat.le_of_ble_eq_true rfl) fun p e s m args below meth c A C hin hret => ?_
  refine i_aload C 0 rfl rfl dX1_init_0 ?_
  refine i_obj C (bw 213 (by decide +kernel) (by decide +kernel)) w_oi w_oc (Nat.le_of_ble_eq_true rfl) (Nat.le_of_ble_eq_true rfl) dX1_init_1 ?_
  refine i_aload C 0 rfl rfl dX1_init_4 ?_
  refine i_bipush (v := 96) C rfl dX1_init_5 ?_
  refine i_newaI (N := 96) (cells' := 1) (slots' := 96) C w_aint (by decide) rfl (Nat.le_of_ble_eq_true rfl) rfl rfl (Nat.le_of_ble_eq_true rfl) (Nat.le_of_ble_eq_true rfl) dX1_init_7 (fun q1 => ?_)
  refine i_eq (ws' := (h0, .inr (1, [.null, .null, .int 0])) :: [(q1, .inl (cA 0, (96, .inl fun _ => 0)))]) ?_ rfl
  refine i_putF C hin in_X1 tyX1 tyX1_ok nmX1 (ci := 1) rfl 0 (by decide) (bw 216 (by decide +kernel) (by decide +kernel)) rfl rfl rfl rfl (fs' := [.ref q1, .null, .int 0]) (Nat.le_of_ble_eq_true rfl) rfl dX1_init_9 ?_
  refine i_aload C 0 rfl rfl dX1_init_12 ?_
  refine i_new (fs := [.null, .null, .null, .null, .int 0, .int 0, .int 0, .int 0]) (cells' := 2) (slots' := 104) C in_X0 tyX0 tyX0_ok (bw 214 (by decide +kernel) (by decide +kernel)) (bw 125 (by decide +kernel) (by decide +kernel)) (bw 100 (by decide +kernel) (by decide +kernel)) (ci := 0) rfl (fun j hj => by rcases (show j = 0 ∨ j = 1 ∨ j = 2 ∨ j = 3 ∨ j = 4 ∨ j = 5 ∨ j = 6 ∨ j = 7 by omega) with rfl | rfl | rfl | rfl | rfl | rfl | rfl | rfl <;> rfl) rfl rfl (Nat.le_of_ble_eq_true rfl) (Nat.le_of_ble_eq_true rfl) dX1_init_13 (fun q2 => ?_)
  refine i_dup C rfl dX1_init_16 ?_
  refine i_callN (cells' := 6) (slots' := 140) C (ci_X0 D cA q2 ) mi_X0 (by decide +kernel) rfl rfl ⟨Nat.le_of_ble_eq_true rfl, Nat.le_of_ble_eq_true rfl⟩ (Nat.le_of_ble_eq_true rfl) rfl rfl (Nat.le_of_ble_eq_true rfl) (Nat.le_of_ble_eq_true rfl) dX1_init_17 (fun w1 hw1 => ?_)
  refine i_eq (ws' := (h0, .inr (1, [.ref q1, .null, .int 0])) :: ([(q1, .inl (cA 0, (96, .inl fun _ => 0)))] ++ w1)) ?_ rfl
  refine i_putF C hin in_X1 tyX1 tyX1_ok nmX1 (ci := 1) rfl 1 (by decide) (bw 217 (by decide +kernel) (by decide +kernel)) rfl rfl rfl rfl (fs' := [.ref q1, .ref q2, .int 0]) (Nat.le_of_ble_eq_true rfl) rfl dX1_init_20 ?_
  refine i_aload C 0 rfl rfl dX1_init_23 ?_
  refine i_iconst (v := 0) C rfl dX1_init_24 ?_
  refine i_put C in_X1 tyX1 tyX1_ok nmX1 (ci := 1) rfl 2 (by decide) (bw 218 (by decide +kernel) (by decide +kernel)) rfl rfl rfl (fs' := [.ref q1, .ref q2, .int 0]) (Nat.le_of_ble_eq_true rfl) rfl dX1_init_25 ?_
  obtain ⟨q2_q1, q2_q2, q2_q3, q2_q4, rfl⟩ := hw1
  exact hret _ _ _ ⟨q1, q2, q2_q1, q2_q2, q2_q3, q2_q4, rfl⟩ dX1_init_28
theorem dX8_init_0 : decode cX8_init 0 = .ok (.aload_n 0, 1) := by decide +kernel
theorem dX8_init_1 : decode cX8_init 1 = .ok (.invokespecial 3, 3) := by decide +kernel
theorem dX8_init_4 : decode cX8_init 4 = .ok (.aload_n 0, 1) := by decide +kernel
theorem dX8_init_5 : decode cX8_init 5 = .ok (.bipush 8, 2) := by decide +kernel
theorem dX8_init_7 : decode cX8_init 7 = .ok (.newarray .int, 2) := by decide +kernel
theorem dX8_init_9 : decode cX8_init 9 = .ok (.putfield 9, 3) := by decide +kernel
theorem dX8_init_12 : decode cX8_init 12 = .ok (.aload_n 0, 1) := by decide +kernel
theorem dX8_init_13 : decode cX8_init 13 = .ok (.bipush 8, 2) := by decide +kernel
theorem dX8_init_15 : decode cX8_init 15 = .ok (.newarray .int, 2) := by decide +kernel
theorem dX8_init_17 : decode cX8_init 17 = .ok (.putfield 15, 3) := by decide +kernel
theorem dX8_init_20 : decode cX8_init 20 = .ok (.aload_n 0, 1) := by decide +kernel
theorem dX8_init_21 : decode cX8_init 21 = .ok (.aload_n 1, 1) := by decide +kernel
theorem dX8_init_22 : decode cX8_init 22 = .ok (.putfield 18, 3) := by decide +kernel
theorem dX8_init_25 : decode cX8_init 25 = .ok (.return_, 1) := by decide +kernel
theorem mi_X8 : MI yX8_init cX8_init 2 1 := ⟨(bw 246 (by decide +kernel) (by decide +kernel)), (bw 104 (by decide +kernel) (by decide +kernel)), (bw 247 (by decide +kernel) (by decide +kernel)), ⟨by decide +kernel, by decide +kernel⟩, by decide +kernel, rfl⟩
set_option maxHeartbeats 4000000 in
set_option maxRecDepth 100000 in
theorem ci_X8 {l : Launch} (D : va_G) (cA : Nat → ClassId) (h0 : Nat) (b1 : Nat) : I_Met l yX8_init cX8_init 2 1 12 2 16 D cA h0 [.ref b1] 8 [.null, .null, .null] (fun w => ∃ q1 q2 : Nat, w = [(h0, .inr (8, [.ref b1, .ref q1, .ref q2])), (q1, .inl (cA 0, (8, .inl fun _ => 0))), (q2, .inl (cA 0, (8, .inl fun _ => 0)))]) := by
  refine I_Met_of (by decide +kernel) rfl (Nat.le_of_ble_eq_true rfl) fun p e s m args below meth c A C hin hret => ?_
  refine i_aload C 0 rfl rfl dX8_init_0 ?_
  refine i_obj C (bw 248 (by decide +kernel) (by decide +kernel)) w_oi w_oc (Nat.le_of_ble_eq_true rfl) (Nat.le_of_ble_eq_true rfl) dX8_init_1 ?_
  refine i_aload C 0 rfl rfl dX8_init_4 ?_
  refine i_bipush (v := 8) C rfl dX8_init_5 ?_
  refine i_newaI (N := 8) (cells' := 1) (slots' := 8) C w_aint (by decide) rfl (Nat.le_of_ble_eq_true rfl) rfl rfl (Nat.le_of_ble_eq_true rfl) (Nat.le_of_ble_eq_true rfl) dX8_init_7 (fun q1 => ?_)
  refine i_eq (ws' := (h0, .inr (8, [.null, .null, .null])) :: [(q1, .inl (cA 0, (8, .inl fun _ => 0)))]) ?_ rfl
  refine i_putF C hin in_X8 tyX8 tyX8_ok nmX8 (ci := 8) rfl 1 (by decide) (bw 250 (by decide +kernel) (by decide +kernel)) rfl rfl rfl rfl (fs' := [.null, .ref q1, .null]) (Nat.le_of_ble_eq_true rfl) rfl dX8_init_9 ?_
  refine i_aload C 0 rfl rfl dX8_init_12 ?_
  refine i_bipush (v := 8) C rfl dX8_init_13 ?_
  refine i_newaI (N := 8) (cells' := 2) (slots' := 16) C w_aint (by decide) rfl (Nat.le_of_ble_eq_true rfl) rfl rfl (Nat.le_of_ble_eq_true rfl) (Nat.le_of_ble_eq_true rfl) dX8_init_15 (fun q2 => ?_)
  refine i_eq (ws' := (h0, .inr (8, [.null, .ref q1, .null])) :: ([(q1, .inl (cA 0, (8, .inl fun _ => 0)))] ++ [(q2, .inl (cA 0, (8, .inl fun _ => 0)))])) ?_ rfl
  refine i_putF C hin in_X8 tyX8 tyX8_ok nmX8 (ci := 8) rfl 2 (by decide) (bw 254 (by decide +kernel) (by decide +kernel)) rfl rfl rfl rfl (fs' := [.null, .ref q1, .ref q2]) (Nat.le_of_ble_eq_true rfl) rfl dX8_init_17 ?_
  refine i_aload C 0 rfl rfl dX8_init_20 ?_
  refine i_aload C 1 rfl rfl dX8_init_21 ?_
  refine i_putF C hin in_X8 tyX8 tyX8_ok nmX8 (ci := 8) rfl 0 (by decide) (bw 249 (by decide +kernel) (by decide +kernel)) rfl rfl rfl rfl (fs' := [.ref b1, .ref q1, .ref q2]) (Nat.le_of_ble_eq_true rfl) rfl dX8_init_22 ?_
  exact hret _ _ _ ⟨q1, q2, rfl⟩ dX8_init_25
theorem dX9_init_0 : decode cX9_init 0 = .ok (.aload_n 0, 1) := by decide +kernel
theorem dX9_init_1 : decode cX9_init 1 = .ok (.invokespecial 3, 3) := by decide +kernel
theorem dX9_init_4 : decode cX9_init 4 = .ok (.aload_n 0, 1) := by decide +kernel
theorem dX9_init_5 : decode cX9_init 5 = .ok (.bipush 12, 2) := by decide +kernel
theorem dX9_init_7 : decode cX9_init 7 = .ok (.newarray .int, 2) := by decide +kernel
theorem dX9_init_9 : decode cX9_init 9 = .ok (.putfield 9, 3) := by decide +kernel
theorem dX9_init_12 : decode cX9_init 12 = .ok (.aload_n 0, 1) := by decide +kernel
theorem dX9_init_13 : decode cX9_init 13 = .ok (.iconst 0, 1) := by decide +kernel
theorem dX9_init_14 : decode cX9_init 14 = .ok (.putfield 15, 3) := by decide +kernel
theorem dX9_init_17 : decode cX9_init 17 = .ok (.return_, 1) := by decide +kernel
theorem mi_X9 : MI yX9_init cX9_init 1 0 := ⟨(bw 230 (by decide +kernel) (by decide +kernel)), (bw 103 (by decide +kernel) (by decide +kernel)), (bw 231 (by decide +kernel) (by decide +kernel)), ⟨by decide +kernel, by decide +kernel⟩, by decide +kernel, rfl⟩
set_option maxHeartbeats 4000000 in
set_option maxRecDepth 100000 in
theorem ci_X9 {l : Launch} (D : va_G) (cA : Nat → ClassId) (h0 : Nat) : I_Met l yX9_init cX9_init 1 1 12 1 12 D cA h0 [] 9 [.null, .int 0] (fun w => ∃ q1 : Nat, w = [(h0, .inr (9, [.ref q1, .int 0])), (q1, .inl (cA 0, (12, .inl fun _ => 0)))]) := by
  refine I_Met_of (by decide +kernel) rfl (Nat.le_of_ble_eq_true rfl) fun p e s m args below meth c A C hin hret => ?_
  refine i_aload C 0 rfl rfl dX9_init_0 ?_
  refine i_obj C (bw 232 (by decide +kernel) (by decide +kernel)) w_oi w_oc (Nat.le_of_ble_eq_true rfl) (Nat.le_of_ble_eq_true rfl) dX9_init_1 ?_
  refine i_aload C 0 rfl rfl dX9_init_4 ?_
  refine i_bipush (v := 12) C rfl dX9_init_5 ?_
  refine i_newaI (N := 12) (cells' := 1) (slots' := 12) C w_aint (by decide) rfl (Nat.le_of_ble_eq_true rfl) rfl rfl (Nat.le_of_ble_eq_true rfl) (Nat.le_of_ble_eq_true rfl) dX9_init_7 (fun q1 => ?_)
  refine i_eq (ws' := (h0, .inr (9, [.null, .int 0])) :: [(q1, .inl (cA 0, (12, .inl fun _ => 0)))]) ?_ rfl
  refine i_putF C hin in_X9 tyX9 tyX9_ok nmX9 (ci := 9) rfl 0 (by decide) (bw 233 (by decide +kernel) (by decide +kernel)) rfl rfl rfl rfl (fs' := [.ref q1, .int 0]) (Nat.le_of_ble_eq_true rfl) rfl dX9_init_9 ?_
  refine i_aload C 0 rfl rfl dX9_init_12 ?_
  refine i_iconst (v := 0) C rfl dX9_init_13 ?_
  refine i_put C in_X9 tyX9 tyX9_ok nmX9 (ci := 9) rfl 1 (by decide) (bw 235 (by decide +kernel) (by decide +kernel)) rfl rfl rfl (fs' := [.ref q1, .int 0]) (Nat.le_of_ble_eq_true rfl) rfl dX9_init_14 ?_
  exact hret _ _ _ ⟨q1, rfl⟩ dX9_init_17
theorem dX10_init_0 : decode cX10_init 0 = .ok (.aload_n 0, 1) := by decide +kernel
theorem dX10_init_1 : decode cX10_init 1 = .ok (.invokespecial 3, 3) := by decide +kernel
theorem dX10_init_4 : decode cX10_init 4 = .ok (.aload_n 0, 1) := by decide +kernel
theorem dX10_init_5 : decode cX10_init 5 = .ok (.bipush 8, 2) := by decide +kernel
theorem dX10_init_7 : decode cX10_init 7 = .ok (.newarray .int, 2) := by decide +kernel
theorem dX10_init_9 : decode cX10_init 9 = .ok (.putfield 9, 3) := by decide +kernel
theorem dX10_init_12 : decode cX10_init 12 = .ok (.aload_n 0, 1) := by decide +kernel
theorem dX10_init_13 : decode cX10_init 13 = .ok (.bipush 8, 2) := by decide +kernel
theorem dX10_init_15 : decode cX10_init 15 = .ok (.newarray .int, 2) := by decide +kernel
theorem dX10_init_17 : decode cX10_init 17 = .ok (.putfield 15, 3) := by decide +kernel
theorem dX10_init_20 : decode cX10_init 20 = .ok (.aload_n 0, 1) := by decide +kernel
theorem dX10_init_21 : decode cX10_init 21 = .ok (.bipush 8, 2) := by decide +kernel
theorem dX10_init_23 : decode cX10_init 23 = .ok (.newarray .int, 2) := by decide +kernel
theorem dX10_init_25 : decode cX10_init 25 = .ok (.putfield 18, 3) := by decide +kernel
theorem dX10_init_28 : decode cX10_init 28 = .ok (.aload_n 0, 1) := by decide +kernel
theorem dX10_init_29 : decode cX10_init 29 = .ok (.bipush 8, 2) := by decide +kernel
theorem dX10_init_31 : decode cX10_init 31 = .ok (.newarray .int, 2) := by decide +kernel
theorem dX10_init_33 : decode cX10_init 33 = .ok (.putfield 21, 3) := by decide +kernel
theorem dX10_init_36 : decode cX10_init 36 = .ok (.aload_n 0, 1) := by decide +kernel
theorem dX10_init_37 : decode cX10_init 37 = .ok (.iconst 0, 1) := by decide +kernel
theorem dX10_init_38 : decode cX10_init 38 = .ok (.putfield 24, 3) := by decide +kernel
theorem dX10_init_41 : decode cX10_init 41 = .ok (.return_, 1) := by decide +kernel
theorem mi_X10 : MI yX10_init cX10_init 1 0 := ⟨(bw 188 (by decide +kernel) (by decide +kernel)), (bw 101 (by decide +kernel) (by decide +kernel)), (bw 189 (by decide +kernel) (by decide +kernel)), ⟨by decide +kernel, by decide +kernel⟩, by decide +kernel, rfl⟩
set_option maxHeartbeats 4000000 in
set_option maxRecDepth 100000 in
theorem ci_X10 {l : Launch} (D : va_G) (cA : Nat → ClassId) (h0 : Nat) : I_Met l yX10_init cX10_init 1 1 12 4 32 D cA h0 [] 10 [.null, .null, .null, .null, .int 0] (fun w => ∃ q1 q2 q3 q4 : Nat, w = [(h0, .inr (10, [.ref q1, .ref q2, .ref q3, .ref q4, .int 0])), (q1, .inl (cA 0, (8, .inl fun _ => 0))), (q2, .inl (cA 0, (8, .inl fun _ => 0))), (q3, .inl (cA 0, (8, .inl fun _ => 0))), (q4, .inl (cA 0, (8, .inl fun _ => 0)))]) := by
  refine I_Met_of (by decide +kernel) rfl (Nat.le_of_ble_eq_true rfl) fun p e s m args below meth c A C hin hret => ?_
  refine i_aload C 0 rfl rfl dX10_init_0 ?_
  refine i_obj C (bw 190 (by decide +kernel) (by decide +kernel)) w_oi w_oc (Nat.le_of_ble_eq_true rfl) (Nat.le_of_ble_eq_true rfl) dX10_init_1 ?_
  refine i_aload C 0 rfl rfl dX10_init_4 ?_
  refine i_bipush (v := 8) C rfl dX10_init_5 ?_
  refine i_newaI (N := 8) (cells' := 1) (slots' := 8) C w_aint (by decide) rfl (Nat.le_of_ble_eq_true rfl) rfl rfl (Nat.le_of_ble_eq_true rfl) (Nat.le_of_ble_eq_true rfl) dX10_init_7 (fun q1 => ?_)
  refine i_eq (ws' := (h0, .inr (10, [.null, .null, .null, .null, .int 0])) :: [(q1, .inl (cA 0, (8, .inl fun _ => 0)))]) ?_ rfl
  refine i_putF C hin in_X10 tyX10 tyX10_ok nmX10 (ci := 10) rfl 0 (by decide) (bw 191 (by decide +kernel) (by decide +kernel)) rfl rfl rfl rfl (fs' := [.ref q1, .null, .null, .null, .int 0]) (Nat.le_of_ble_eq_true rfl) rfl dX10_init_9 ?_
  refine i_aload C 0 rfl rfl dX10_init_12 ?_
  refine i_bipush (v := 8) C rfl dX10_init_13 ?_
  refine i_newaI (N := 8) (cells' := 2) (slots' := 16) C w_aint (by decide) rfl (Nat.le_of_ble_eq_true rfl) rfl rfl (Nat.le_of_ble_eq_true rfl) (Nat.le_of_ble_eq_true rfl) dX10_init_15 (fun q2 => ?_)
  refine i_eq (ws' := (h0, .inr (10, [.ref q1, .null, .null, .null, .int 0])) :: ([(q1, .inl (cA 0, (8, .inl fun _ => 0)))] ++ [(q2, .inl (cA 0, (8, .inl fun _ => 0)))])) ?_ rfl
  refine i_putF C hin in_X10 tyX10 tyX10_ok nmX10 (ci := 10) rfl 1 (by decide) (bw 192 (by decide +kernel) (by decide +kernel)) rfl rfl rfl rfl (fs' := [.ref q1, .ref q2, .null, .null, .int 0]) (Nat.le_of_ble_eq_true rfl) rfl dX10_init_17 ?_
  refine i_aload C 0 rfl rfl dX10_init_20 ?_
  refine i_bipush (v := 8) C rfl dX10_init_21 ?_
  refine i_newaI (N := 8) (cells' := 3) (slots' := 24) C w_aint (by decide) rfl (Nat.le_of_ble_eq_true rfl) rfl rfl (Nat.le_of_ble_eq_true rfl) (Nat.le_of_ble_eq_true rfl) dX10_init_23 (fun q3 => ?_)
  refine i_eq (ws' := (h0, .inr (10, [.ref q1, .ref q2, .null, .null, .int 0])) :: (([(q1, .inl (cA 0, (8, .inl fun _ => 0)))] ++ [(q2, .inl (cA 0, (8, .inl fun _ => 0)))]) ++ [(q3, .inl (cA 0, (8, .inl fun _ => 0)))])) ?_ rfl
  refine i_putF C hin in_X10 tyX10 tyX10_ok nmX10 (ci := 10) rfl 2 (by decide) (bw 193 (by decide +kernel) (by decide +kernel)) rfl rfl rfl rfl (fs' := [.ref q1, .ref q2, .ref q3, .null, .int 0]) (Nat.le_of_ble_eq_true rfl) rfl dX10_init_25 ?_
  refine i_aload C 0 rfl rfl dX10_init_28 ?_
  refine i_bipush (v := 8) C rfl dX10_init_29 ?_
  refine i_newaI (N := 8) (cells' := 4) (slots' := 32) C w_aint (by decide) rfl (Nat.le_of_ble_eq_true rfl) rfl rfl (Nat.le_of_ble_eq_true rfl) (Nat.le_of_ble_eq_true rfl) dX10_init_31 (fun q4 => ?_)
  refine i_eq (ws' := (h0, .inr (10, [.ref q1, .ref q2, .ref q3, .null, .int 0])) :: ((([(q1, .inl (cA 0, (8, .inl fun _ => 0)))] ++ [(q2, .inl (cA 0, (8, .inl fun _ => 0)))]) ++ [(q3, .inl (cA 0, (8, .inl fun _ => 0)))]) ++ [(q4, .inl (cA 0, (8, .inl fun _ => 0)))])) ?_ rfl
  refine i_putF C hin in_X10 tyX10 tyX10_ok nmX10 (ci := 10) rfl 3 (by decide) (bw 194 (by decide +kernel) (by decide +kernel)) rfl rfl rfl rfl (fs' := [.ref q1, .ref q2, .ref q3, .ref q4, .int 0]) (Nat.le_of_ble_eq_true rfl) rfl dX10_init_33 ?_
  refine i_aload C 0 rfl rfl dX10_init_36 ?_
  refine i_iconst (v := 0) C rfl dX10_init_37 ?_
  refine i_put C in_X10 tyX10 tyX10_ok nmX10 (ci := 10) rfl 4 (by decide) (bw 195 (by decide +kernel) (by decide +kernel)) rfl rfl rfl (fs' := [.ref q1, .ref q2, .ref q3, .ref q4, .int 0]) (Nat.le_of_ble_eq_true rfl) rfl dX10_init_38 ?_
  exact hret _ _ _ ⟨q1, q2, q3, q4, rfl⟩ dX10_init_41
theorem dX2_init_0 : decode cX2_init 0 = .ok (.aload_n 0, 1) := by decide +kernel
theorem dX2_init_1 : decode cX2_init 1 = .ok (.invokespecial 3, 3) := by decide +kernel
theorem dX2_init_4 : decode cX2_init 4 = .ok (.aload_n 0, 1) := by decide +kernel
theorem dX2_init_5 : decode cX2_init 5 = .ok (.sipush 256, 3) := by decide +kernel
theorem dX2_init_8 : decode cX2_init 8 = .ok (.newarray .int, 2) := by decide +kernel
theorem dX2_init_10 : decode cX2_init 10 = .ok (.putfield 9, 3) := by decide +kernel
theorem dX2_init_13 : decode cX2_init 13 = .ok (.aload_n 0, 1) := by decide +kernel
theorem dX2_init_14 : decode cX2_init 14 = .ok (.sipush 256, 3) := by decide +kernel
theorem dX2_init_17 : decode cX2_init 17 = .ok (.newarray .boolean, 2) := by decide +kernel
theorem dX2_init_19 : decode cX2_init 19 = .ok (.putfield 15, 3) := by decide +kernel
theorem dX2_init_22 : decode cX2_init 22 = .ok (.aload_n 0, 1) := by decide +kernel
theorem dX2_init_23 : decode cX2_init 23 = .ok (.bipush 81, 2) := by decide +kernel
theorem dX2_init_25 : decode cX2_init 25 = .ok (.newarray .long, 2) := by decide +kernel
theorem dX2_init_27 : decode cX2_init 27 = .ok (.putfield 19, 3) := by decide +kernel
theorem dX2_init_30 : decode cX2_init 30 = .ok (.aload_n 0, 1) := by decide +kernel
theorem dX2_init_31 : decode cX2_init 31 = .ok (.bipush 81, 2) := by decide +kernel
theorem dX2_init_33 : decode cX2_init 33 = .ok (.newarray .long, 2) := by decide +kernel
theorem dX2_init_35 : decode cX2_init 35 = .ok (.putfield 23, 3) := by decide +kernel
theorem dX2_init_38 : decode cX2_init 38 = .ok (.aload_n 0, 1) := by decide +kernel
theorem dX2_init_39 : decode cX2_init 39 = .ok (.aload_n 1, 1) := by decide +kernel
theorem dX2_init_40 : decode cX2_init 40 = .ok (.putfield 26, 3) := by decide +kernel
theorem dX2_init_43 : decode cX2_init 43 = .ok (.aload_n 0, 1) := by decide +kernel
theorem dX2_init_44 : decode cX2_init 44 = .ok (.aload_n 2, 1) := by decide +kernel
theorem dX2_init_45 : decode cX2_init 45 = .ok (.putfield 30, 3) := by decide +kernel
theorem dX2_init_48 : decode cX2_init 48 = .ok (.return_, 1) := by decide +kernel
theorem mi_X2 : MI yX2_init cX2_init 3 2 := ⟨(bw 324 (by decide +kernel) (by decide +kernel)), (bw 108 (by decide +kernel) (by decide +kernel)), (bw 325 (by decide +kernel) (by decide +kernel)), ⟨by decide +kernel, by decide +kernel⟩, by decide +kernel, rfl⟩
set_option maxHeartbeats 4000000 in
set_option maxRecDepth 100000 in
theorem ci_X2 {l : Launch} (D : va_G) (cA : Nat → ClassId) (h0 : Nat) (b1 : Nat) (b2 : Nat) : I_Met l yX2_init cX2_init 3 1 12 4 674 D cA h0 [.ref b1, .ref b2] 2 [.null, .null, .null, .null, .null, .null] (fun w => ∃ q1 q2 q3 q4 : Nat, w = [(h0, .inr (2, [.ref b1, .ref b2, .ref q1, .ref q2, .ref q3, .ref q4])), (q1, .inl (cA 0, (256, .inl fun _ => 0))), (q2, .inl (cA 2, (256, .inl fun _ => 0))), (q3, .inl (cA 1, (81, .inr (.inl fun _ => 0)))), (q4, .inl (cA 1, (81, .inr (.inl fun _ => 0))))]) := by
  refine I_Met_of (by decide +kernel) rfl (Nat.le_of_ble_eq_true rfl) fun p e s m args below meth c A C hin hret => ?_
  refine i_aload C 0 rfl rfl dX2_init_0 ?_
  refine i_obj C (bw 326 (by decide +kernel) (by decide +kernel)) w_oi w_oc (Nat.le_of_ble_eq_true rfl) (Nat.le_of_ble_eq_true rfl) dX2_init_1 ?_
  refine i_aload C 0 rfl rfl dX2_init_4 ?_
  refine i_sipush (v := 256) C rfl dX2_init_5 ?_
  refine i_newaI (N := 256) (cells' := 1) (slots' := 256) C w_aint (by decide) rfl (Nat.le_of_ble_eq_true rfl) rfl rfl (Nat.le_of_ble_eq_true rfl) (Nat.le_of_ble_eq_true rfl) dX2_init_8 (fun q1 => ?_)
  refine i_eq (ws' := (h0, .inr (2, [.null, .null, .null, .null, .null, .null])) :: [(q1, .inl (cA 0, (256, .inl fun _ => 0)))]) ?_ rfl
  refine i_putF C hin in_X2 tyX2 tyX2_ok nmX2 (ci := 2) rfl 2 (by decide) (bw 329 (by decide +kernel) (by decide +kernel)) rfl rfl rfl rfl (fs' := [.null, .null, .ref q1, .null, .null, .null]) (Nat.le_of_ble_eq_true rfl) rfl dX2_init_10 ?_
  refine i_aload C 0 rfl rfl dX2_init_13 ?_
  refine i_sipush (v := 256) C rfl dX2_init_14 ?_
  refine i_newaZ (N := 256) (cells' := 2) (slots' := 512) C w_aboolean (by decide) rfl (Nat.le_of_ble_eq_true rfl) rfl rfl (Nat.le_of_ble_eq_true rfl) (Nat.le_of_ble_eq_true rfl) dX2_init_17 (fun q2 => ?_)
  refine i_eq (ws' := (h0, .inr (2, [.null, .null, .ref q1, .null, .null, .null])) :: ([(q1, .inl (cA 0, (256, .inl fun _ => 0)))] ++ [(q2, .inl (cA 2, (256, .inl fun _ => 0)))])) ?_ rfl
  refine i_putF C hin in_X2 tyX2 tyX2_ok nmX2 (ci := 2) rfl 3 (by decide) (bw 330 (by decide +kernel) (by decide +kernel)) rfl rfl rfl rfl (fs' := [.null, .null, .ref q1, .ref q2, .null, .null]) (Nat.le_of_ble_eq_true rfl) rfl dX2_init_19 ?_
  refine i_aload C 0 rfl rfl dX2_init_22 ?_
  refine i_bipush (v := 81) C rfl dX2_init_23 ?_
  refine i_newaL (N := 81) (cells' := 3) (slots' := 593) C w_along (by decide) rfl (Nat.le_of_ble_eq_true rfl) rfl rfl (Nat.le_of_ble_eq_true rfl) (Nat.le_of_ble_eq_true rfl) dX2_init_25 (fun q3 => ?_)
  refine i_eq (ws' := (h0, .inr (2, [.null, .null, .ref q1, .ref q2, .null, .null])) :: (([(q1, .inl (cA 0, (256, .inl fun _ => 0)))] ++ [(q2, .inl (cA 2, (256, .inl fun _ => 0)))]) ++ [(q3, .inl (cA 1, (81, .inr (.inl fun _ => 0))))])) ?_ rfl
  refine i_putF C hin in_X2 tyX2 tyX2_ok nmX2 (ci := 2) rfl 4 (by decide) (bw 331 (by decide +kernel) (by decide +kernel)) rfl rfl rfl rfl (fs' := [.null, .null, .ref q1, .ref q2, .ref q3, .null]) (Nat.le_of_ble_eq_true rfl) rfl dX2_init_27 ?_
  refine i_aload C 0 rfl rfl dX2_init_30 ?_
  refine i_bipush (v := 81) C rfl dX2_init_31 ?_
  refine i_newaL (N := 81) (cells' := 4) (slots' := 674) C w_along (by decide) rfl (Nat.le_of_ble_eq_true rfl) rfl rfl (Nat.le_of_ble_eq_true rfl) (Nat.le_of_ble_eq_true rfl) dX2_init_33 (fun q4 => ?_)
  refine i_eq (ws' := (h0, .inr (2, [.null, .null, .ref q1, .ref q2, .ref q3, .null])) :: ((([(q1, .inl (cA 0, (256, .inl fun _ => 0)))] ++ [(q2, .inl (cA 2, (256, .inl fun _ => 0)))]) ++ [(q3, .inl (cA 1, (81, .inr (.inl fun _ => 0))))]) ++ [(q4, .inl (cA 1, (81, .inr (.inl fun _ => 0))))])) ?_ rfl
  refine i_putF C hin in_X2 tyX2 tyX2_ok nmX2 (ci := 2) rfl 5 (by decide) (bw 332 (by decide +kernel) (by decide +kernel)) rfl rfl rfl rfl (fs' := [.null, .null, .ref q1, .ref q2, .ref q3, .ref q4]) (Nat.le_of_ble_eq_true rfl) rfl dX2_init_35 ?_
  refine i_aload C 0 rfl rfl dX2_init_38 ?_
  refine i_aload C 1 rfl rfl dX2_init_39 ?_
  refine i_putF C hin in_X2 tyX2 tyX2_ok nmX2 (ci := 2) rfl 0 (by decide) (bw 327 (by decide +kernel) (by decide +kernel)) rfl rfl rfl rfl (fs' := [.ref b1, .null, .ref q1, .ref q2, .ref q3, .ref q4]) (Nat.le_of_ble_eq_true rfl) rfl dX2_init_40 ?_
  refine i_aload C 0 rfl rfl dX2_init_43 ?_
  refine i_aload C 2 rfl rfl dX2_init_44 ?_
  refine i_putF C hin in_X2 tyX2 tyX2_ok nmX2 (ci := 2) rfl 1 (by decide) (bw 328 (by decide +kernel) (by decide +kernel)) rfl rfl rfl rfl (fs' := [.ref b1, .ref b2, .ref q1, .ref q2, .ref q3, .ref q4]) (Nat.le_of_ble_eq_true rfl) rfl dX2_init_45 ?_
  exact hret _ _ _ ⟨q1, q2, q3, q4, rfl⟩ dX2_init_48
theorem dX3_init_0 : decode cX3_init 0 = .ok (.aload_n 0, 1) := by decide +kernel
theorem dX3_init_1 : decode cX3_init 1 = .ok (.invokespecial 3, 3) := by decide +kernel
theorem dX3_init_4 : decode cX3_init 4 = .ok (.aload_n 0, 1) := by decide +kernel
theorem dX3_init_5 : decode cX3_init 5 = .ok (.bipush 12, 2) := by decide +kernel
theorem dX3_init_7 : decode cX3_init 7 = .ok (.newarray .int, 2) := by decide +kernel
theorem dX3_init_9 : decode cX3_init 9 = .ok (.putfield 9, 3) := by decide +kernel
theorem dX3_init_12 : decode cX3_init 12 = .ok (.aload_n 0, 1) := by decide +kernel
theorem dX3_init_13 : decode cX3_init 13 = .ok (.bipush 12, 2) := by decide +kernel
theorem dX3_init_15 : decode cX3_init 15 = .ok (.newarray .int, 2) := by decide +kernel
theorem dX3_init_17 : decode cX3_init 17 = .ok (.putfield 15, 3) := by decide +kernel
theorem dX3_init_20 : decode cX3_init 20 = .ok (.aload_n 0, 1) := by decide +kernel
theorem dX3_init_21 : decode cX3_init 21 = .ok (.bipush 12, 2) := by decide +kernel
theorem dX3_init_23 : decode cX3_init 23 = .ok (.newarray .int, 2) := by decide +kernel
theorem dX3_init_25 : decode cX3_init 25 = .ok (.putfield 18, 3) := by decide +kernel
theorem dX3_init_28 : decode cX3_init 28 = .ok (.aload_n 0, 1) := by decide +kernel
theorem dX3_init_29 : decode cX3_init 29 = .ok (.aload_n 1, 1) := by decide +kernel
theorem dX3_init_30 : decode cX3_init 30 = .ok (.putfield 21, 3) := by decide +kernel
theorem dX3_init_33 : decode cX3_init 33 = .ok (.aload_n 0, 1) := by decide +kernel
theorem dX3_init_34 : decode cX3_init 34 = .ok (.aload_n 2, 1) := by decide +kernel
theorem dX3_init_35 : decode cX3_init 35 = .ok (.putfield 25, 3) := by decide +kernel
theorem dX3_init_38 : decode cX3_init 38 = .ok (.return_, 1) := by decide +kernel
theorem mi_X3 : MI yX3_init cX3_init 3 2 := ⟨(bw 267 (by decide +kernel) (by decide +kernel)), (bw 105 (by decide +kernel) (by decide +kernel)), (bw 268 (by decide +kernel) (by decide +kernel)), ⟨by decide +kernel, by decide +kernel⟩, by decide +kernel, rfl⟩
set_option maxHeartbeats 4000000 in
set_option maxRecDepth 100000 in
theorem ci_X3 {l : Launch} (D : va_G) (cA : Nat → ClassId) (h0 : Nat) (b1 : Nat) (b2 : Nat) : I_Met l yX3_init cX3_init 3 1 12 3 36 D cA h0 [.ref b1, .ref b2] 3 [.null, .null, .null, .null, .null] (fun w => ∃ q1 q2 q3 : Nat, w = [(h0, .inr (3, [.ref b1, .ref b2, .ref q1, .ref q2, .ref q3])), (q1, .inl (cA 0, (12, .inl fun _ => 0))), (q2, .inl (cA 0, (12, .inl fun _ => 0))), (q3, .inl (cA 0, (12, .inl fun _ => 0)))]) := by
  refine I_Met_of (by decide +kernel) rfl (Nat.le_of_ble_eq_true rfl) fun p e s m args below meth c A C hin hret => ?_
  refine i_aload C 0 rfl rfl dX3_init_0 ?_
  refine i_obj C (bw 269 (by decide +kernel) (by decide +kernel)) w_oi w_oc (Nat.le_of_ble_eq_true rfl) (Nat.le_of_ble_eq_true rfl) dX3_init_1 ?_
  refine i_aload C 0 rfl rfl dX3_init_4 ?_
  refine i_bipush (v := 12) C rfl dX3_init_5 ?_
  refine i_newaI (N := 12) (cells' := 1) (slots' := 12) C w_aint (by decide) rfl (Nat.le_of_ble_eq_true rfl) rfl rfl (Nat.le_of_ble_eq_true rfl) (Nat.le_of_ble_eq_true rfl) dX3_init_7 (fun q1 => ?_)
  refine i_eq (ws' := (h0, .inr (3, [.null, .null, .null, .null, .null])) :: [(q1, .inl (cA 0, (12, .inl fun _ => 0)))]) ?_ rfl
  refine i_putF C hin in_X3 tyX3 tyX3_ok nmX3 (ci := 3) rfl 2 (by decide) (bw 272 (by decide +kernel) (by decide +kernel)) rfl rfl rfl rfl (fs' := [.null, .null, .ref q1, .null, .null]) (Nat.le_of_ble_eq_true rfl) rfl dX3_init_9 ?_
  refine i_aload C 0 rfl rfl dX3_init_12 ?_
  refine i_bipush (v := 12) C rfl dX3_init_13 ?_
  refine i_newaI (N := 12) (cells' := 2) (slots' := 24) C w_aint (by decide) rfl (Nat.le_of_ble_eq_true rfl) rfl rfl (Nat.le_of_ble_eq_true rfl) (Nat.le_of_ble_eq_true rfl) dX3_init_15 (fun q2 => ?_)
  refine i_eq (ws' := (h0, .inr (3, [.null, .null, .ref q1, .null, .null])) :: ([(q1, .inl (cA 0, (12, .inl fun _ => 0)))] ++ [(q2, .inl (cA 0, (12, .inl fun _ => 0)))])) ?_ rfl
  refine i_putF C hin in_X3 tyX3 tyX3_ok nmX3 (ci := 3) rfl 3 (by decide) (bw 273 (by decide +kernel) (by decide +kernel)) rfl rfl rfl rfl (fs' := [.null, .null, .ref q1, .ref q2, .null]) (Nat.le_of_ble_eq_true rfl) rfl dX3_init_17 ?_
  refine i_aload C 0 rfl rfl dX3_init_20 ?_
  refine i_bipush (v := 12) C rfl dX3_init_21 ?_
  refine i_newaI (N := 12) (cells' := 3) (slots' := 36) C w_aint (by decide) rfl (Nat.le_of_ble_eq_true rfl) rfl rfl (Nat.le_of_ble_eq_true rfl) (Nat.le_of_ble_eq_true rfl) dX3_init_23 (fun q3 => ?_)
  refine i_eq (ws' := (h0, .inr (3, [.null, .null, .ref q1, .ref q2, .null])) :: (([(q1, .inl (cA 0, (12, .inl fun _ => 0)))] ++ [(q2, .inl (cA 0, (12, .inl fun _ => 0)))]) ++ [(q3, .inl (cA 0, (12, .inl fun _ => 0)))])) ?_ rfl
  refine i_putF C hin in_X3 tyX3 tyX3_ok nmX3 (ci := 3) rfl 4 (by decide) (bw 274 (by decide +kernel) (by decide +kernel)) rfl rfl rfl rfl (fs' := [.null, .null, .ref q1, .ref q2, .ref q3]) (Nat.le_of_ble_eq_true rfl) rfl dX3_init_25 ?_
  refine i_aload C 0 rfl rfl dX3_init_28 ?_
  refine i_aload C 1 rfl rfl dX3_init_29 ?_
  refine i_putF C hin in_X3 tyX3 tyX3_ok nmX3 (ci := 3) rfl 0 (by decide) (bw 270 (by decide +kernel) (by decide +kernel)) rfl rfl rfl rfl (fs' := [.ref b1, .null, .ref q1, .ref q2, .ref q3]) (Nat.le_of_ble_eq_true rfl) rfl dX3_init_30 ?_
  refine i_aload C 0 rfl rfl dX3_init_33 ?_
  refine i_aload C 2 rfl rfl dX3_init_34 ?_
  refine i_putF C hin in_X3 tyX3 tyX3_ok nmX3 (ci := 3) rfl 1 (by decide) (bw 271 (by decide +kernel) (by decide +kernel)) rfl rfl rfl rfl (fs' := [.ref b1, .ref b2, .ref q1, .ref q2, .ref q3]) (Nat.le_of_ble_eq_true rfl) rfl dX3_init_35 ?_
  exact hret _ _ _ ⟨q1, q2, q3, rfl⟩ dX3_init_38
theorem dX4_init_0 : decode cX4_init 0 = .ok (.aload_n 0, 1) := by decide +kernel
theorem dX4_init_1 : decode cX4_init 1 = .ok (.invokespecial 1, 3) := by decide +kernel
theorem dX4_init_4 : decode cX4_init 4 = .ok (.aload_n 0, 1) := by decide +kernel
theorem dX4_init_5 : decode cX4_init 5 = .ok (.aload_n 1, 1) := by decide +kernel
theorem dX4_init_6 : decode cX4_init 6 = .ok (.putfield 7, 3) := by decide +kernel
theorem dX4_init_9 : decode cX4_init 9 = .ok (.aload_n 0, 1) := by decide +kernel
theorem dX4_init_10 : decode cX4_init 10 = .ok (.aload_n 2, 1) := by decide +kernel
theorem dX4_init_11 : decode cX4_init 11 = .ok (.putfield 13, 3) := by decide +kernel
theorem dX4_init_14 : decode cX4_init 14 = .ok (.return_, 1) := by decide +kernel
theorem mi_X4 : MI yX4_init cX4_init 3 2 := ⟨(bw 364 (by decide +kernel) (by decide +kernel)), (bw 110 (by decide +kernel) (by decide +kernel)), (bw 365 (by decide +kernel) (by decide +kernel)), ⟨by decide +kernel, by decide +kernel⟩, by decide +kernel, rfl⟩
set_option maxHeartbeats 4000000 in
set_option maxRecDepth 100000 in
theorem ci_X4 {l : Launch} (D : va_G) (cA : Nat → ClassId) (h0 : Nat) (b1 : Nat) (b2 : Nat) : I_Met l yX4_init cX4_init 3 1 12 0 0 D cA h0 [.ref b1, .ref b2] 4 [.null, .null] (fun w => w = [(h0, .inr (4, [.ref b1, .ref b2]))]) := by
  refine I_Met_of (by decide +kernel) rfl (Nat.le_of_ble_eq_true rfl) fun p e s m args below meth c A C hin hret => ?_
  refine i_aload C 0 rfl rfl dX4_init_0 ?_
  refine i_obj C (bw 366 (by decide +kernel) (by decide +kernel)) w_oi w_oc (Nat.le_of_ble_eq_true rfl) (Nat.le_of_ble_eq_true rfl) dX4_init_1 ?_
  refine i_aload C 0 rfl rfl dX4_init_4 ?_
  refine i_aload C 1 rfl rfl dX4_init_5 ?_
  refine i_putF C hin in_X4 tyX4 tyX4_ok nmX4 (ci := 4) rfl 0 (by decide) (bw 367 (by decide +kernel) (by decide +kernel)) rfl rfl rfl rfl (fs' := [.ref b1, .null]) (Nat.le_of_ble_eq_true rfl) rfl dX4_init_6 ?_
  refine i_aload C 0 rfl rfl dX4_init_9 ?_
  refine i_aload C 2 rfl rfl dX4_init_10 ?_
  refine i_putF C hin in_X4 tyX4 tyX4_ok nmX4 (ci := 4) rfl 1 (by decide) (bw 368 (by decide +kernel) (by decide +kernel)) rfl rfl rfl rfl (fs' := [.ref b1, .ref b2]) (Nat.le_of_ble_eq_true rfl) rfl dX4_init_11 ?_
  exact hret _ _ _ rfl dX4_init_14
theorem dX5_init_0 : decode cX5_init 0 = .ok (.aload_n 0, 1) := by decide +kernel
theorem dX5_init_1 : decode cX5_init 1 = .ok (.invokespecial 3, 3) := by decide +kernel
theorem dX5_init_4 : decode cX5_init 4 = .ok (.aload_n 0, 1) := by decide +kernel
theorem dX5_init_5 : decode cX5_init 5 = .ok (.aload_n 1, 1) := by decide +kernel
theorem dX5_init_6 : decode cX5_init 6 = .ok (.putfield 9, 3) := by decide +kernel
theorem dX5_init_9 : decode cX5_init 9 = .ok (.aload_n 0, 1) := by decide +kernel
theorem dX5_init_10 : decode cX5_init 10 = .ok (.aload_n 2, 1) := by decide +kernel
theorem dX5_init_11 : decode cX5_init 11 = .ok (.putfield 15, 3) := by decide +kernel
theorem dX5_init_14 : decode cX5_init 14 = .ok (.return_, 1) := by decide +kernel
theorem mi_X5 : MI yX5_init cX5_init 3 2 := ⟨(bw 351 (by decide +kernel) (by decide +kernel)), (bw 109 (by decide +kernel) (by decide +kernel)), (bw 352 (by decide +kernel) (by decide +kernel)), ⟨by decide +kernel, by decide +kernel⟩, by decide +kernel, rfl⟩
set_option maxHeartbeats 4000000 in
set_option maxRecDepth 100000 in
theorem ci_X5 {l : Launch} (D : va_G) (cA : Nat → ClassId) (h0 : Nat) (b1 : Nat) (b2 : Nat) : I_Met l yX5_init cX5_init 3 1 12 0 0 D cA h0 [.ref b1, .ref b2] 5 [.null, .null] (fun w => w = [(h0, .inr (5, [.ref b1, .ref b2]))]) := by
  refine I_Met_of (by decide +kernel) rfl (Nat.le_of_ble_eq_true rfl) fun p e s m args below meth c A C hin hret => ?_
  refine i_aload C 0 rfl rfl dX5_init_0 ?_
  refine i_obj C (bw 353 (by decide +kernel) (by decide +kernel)) w_oi w_oc (Nat.le_of_ble_eq_true rfl) (Nat.le_of_ble_eq_true rfl) dX5_init_1 ?_
  refine i_aload C 0 rfl rfl dX5_init_4 ?_
  refine i_aload C 1 rfl rfl dX5_init_5 ?_
  refine i_putF C hin in_X5 tyX5 tyX5_ok nmX5 (ci := 5) rfl 0 (by decide) (bw 354 (by decide +kernel) (by decide +kernel)) rfl rfl rfl rfl (fs' := [.ref b1, .null]) (Nat.le_of_ble_eq_true rfl) rfl dX5_init_6 ?_
  refine i_aload C 0 rfl rfl dX5_init_9 ?_
  refine i_aload C 2 rfl rfl dX5_init_10 ?_
  refine i_putF C hin in_X5 tyX5 tyX5_ok nmX5 (ci := 5) rfl 1 (by decide) (bw 355 (by decide +kernel) (by decide +kernel)) rfl rfl rfl rfl (fs' := [.ref b1, .ref b2]) (Nat.le_of_ble_eq_true rfl) rfl dX5_init_11 ?_
  exact hret _ _ _ rfl dX5_init_14
theorem dX6_init_0 : decode cX6_init 0 = .ok (.aload_n 0, 1) := by decide +kernel
theorem dX6_init_1 : decode cX6_init 1 = .ok (.invokespecial 3, 3) := by decide +kernel
theorem dX6_init_4 : decode cX6_init 4 = .ok (.aload_n 0, 1) := by decide +kernel
theorem dX6_init_5 : decode cX6_init 5 = .ok (.sipush 256, 3) := by decide +kernel
theorem dX6_init_8 : decode cX6_init 8 = .ok (.newarray .int, 2) := by decide +kernel
theorem dX6_init_10 : decode cX6_init 10 = .ok (.putfield 9, 3) := by decide +kernel
theorem dX6_init_13 : decode cX6_init 13 = .ok (.aload_n 0, 1) := by decide +kernel
theorem dX6_init_14 : decode cX6_init 14 = .ok (.aload_n 1, 1) := by decide +kernel
theorem dX6_init_15 : decode cX6_init 15 = .ok (.putfield 15, 3) := by decide +kernel
theorem dX6_init_18 : decode cX6_init 18 = .ok (.aload_n 0, 1) := by decide +kernel
theorem dX6_init_19 : decode cX6_init 19 = .ok (.aload_n 2, 1) := by decide +kernel
theorem dX6_init_20 : decode cX6_init 20 = .ok (.putfield 19, 3) := by decide +kernel
theorem dX6_init_23 : decode cX6_init 23 = .ok (.return_, 1) := by decide +kernel
theorem mi_X6 : MI yX6_init cX6_init 3 2 := ⟨(bw 308 (by decide +kernel) (by decide +kernel)), (bw 107 (by decide +kernel) (by decide +kernel)), (bw 309 (by decide +kernel) (by decide +kernel)), ⟨by decide +kernel, by decide +kernel⟩, by decide +kernel, rfl⟩
set_option maxHeartbeats 4000000 in
set_option maxRecDepth 100000 in
theorem ci_X6 {l : Launch} (D : va_G) (cA : Nat → ClassId) (h0 : Nat) (b1 : Nat) (b2 : Nat) : I_Met l yX6_init cX6_init 3 1 12 1 256 D cA h0 [.ref b1, .ref b2] 6 [.null, .null, .null] (fun w => ∃ q1 : Nat, w = [(h0, .inr (6, [.ref b1, .ref b2, .ref q1])), (q1, .inl (cA 0, (256, .inl fun _ => 0)))]) := by
  refine I_Met_of (by decide +kernel) rfl (Nat.le_of_ble_eq_true rfl) fun p e s m args below meth c A C hin hret => ?_
  refine i_aload C 0 rfl rfl dX6_init_0 ?_
  refine i_obj C (bw 310 (by decide +kernel) (by decide +kernel)) w_oi w_oc (Nat.le_of_ble_eq_true rfl) (Nat.le_of_ble_eq_true rfl) dX6_init_1 ?_
  refine i_aload C 0 rfl rfl dX6_init_4 ?_
  refine i_sipush (v := 256) C rfl dX6_init_5 ?_
  refine i_newaI (N := 256) (cells' := 1) (slots' := 256) C w_aint (by decide) rfl (Nat.le_of_ble_eq_true rfl) rfl rfl (Nat.le_of_ble_eq_true rfl) (Nat.le_of_ble_eq_true rfl) dX6_init_8 (fun q1 => ?_)
  refine i_eq (ws' := (h0, .inr (6, [.null, .null, .null])) :: [(q1, .inl (cA 0, (256, .inl fun _ => 0)))]) ?_ rfl
  refine i_putF C hin in_X6 tyX6 tyX6_ok nmX6 (ci := 6) rfl 2 (by decide) (bw 313 (by decide +kernel) (by decide +kernel)) rfl rfl rfl rfl (fs' := [.null, .null, .ref q1]) (Nat.le_of_ble_eq_true rfl) rfl dX6_init_10 ?_
  refine i_aload C 0 rfl rfl dX6_init_13 ?_
  refine i_aload C 1 rfl rfl dX6_init_14 ?_
  refine i_putF C hin in_X6 tyX6 tyX6_ok nmX6 (ci := 6) rfl 0 (by decide) (bw 311 (by decide +kernel) (by decide +kernel)) rfl rfl rfl rfl (fs' := [.ref b1, .null, .ref q1]) (Nat.le_of_ble_eq_true rfl) rfl dX6_init_15 ?_
  refine i_aload C 0 rfl rfl dX6_init_18 ?_
  refine i_aload C 2 rfl rfl dX6_init_19 ?_
  refine i_putF C hin in_X6 tyX6 tyX6_ok nmX6 (ci := 6) rfl 1 (by decide) (bw 312 (by decide +kernel) (by decide +kernel)) rfl rfl rfl rfl (fs' := [.ref b1, .ref b2, .ref q1]) (Nat.le_of_ble_eq_true rfl) rfl dX6_init_20 ?_
  exact hret _ _ _ ⟨q1, rfl⟩ dX6_init_23
theorem dX7_init_0 : decode cX7_init 0 = .ok (.aload_n 0, 1) := by decide +kernel
theorem dX7_init_1 : decode cX7_init 1 = .ok (.invokespecial 3, 3) := by decide +kernel
theorem dX7_init_4 : decode cX7_init 4 = .ok (.aload_n 0, 1) := by decide +kernel
theorem dX7_init_5 : decode cX7_init 5 = .ok (.sipush 288, 3) := by decide +kernel
theorem dX7_init_8 : decode cX7_init 8 = .ok (.newarray .int, 2) := by decide +kernel
theorem dX7_init_10 : decode cX7_init 10 = .ok (.putfield 9, 3) := by decide +kernel
theorem dX7_init_13 : decode cX7_init 13 = .ok (.aload_n 0, 1) := by decide +kernel
theorem dX7_init_14 : decode cX7_init 14 = .ok (.aload_n 1, 1) := by decide +kernel
theorem dX7_init_15 : decode cX7_init 15 = .ok (.putfield 15, 3) := by decide +kernel
theorem dX7_init_18 : decode cX7_init 18 = .ok (.aload_n 0, 1) := by decide +kernel
theorem dX7_init_19 : decode cX7_init 19 = .ok (.aload_n 2, 1) := by decide +kernel
theorem dX7_init_20 : decode cX7_init 20 = .ok (.putfield 19, 3) := by decide +kernel
theorem dX7_init_23 : decode cX7_init 23 = .ok (.aload_n 0, 1) := by decide +kernel
theorem dX7_init_24 : decode cX7_init 24 = .ok (.aload_n 3, 1) := by decide +kernel
theorem dX7_init_25 : decode cX7_init 25 = .ok (.putfield 23, 3) := by decide +kernel
theorem dX7_init_28 : decode cX7_init 28 = .ok (.return_, 1) := by decide +kernel
theorem mi_X7 : MI yX7_init cX7_init 4 3 := ⟨(bw 289 (by decide +kernel) (by decide +kernel)), (bw 106 (by decide +kernel) (by decide +kernel)), (bw 290 (by decide +kernel) (by decide +kernel)), ⟨by decide +kernel, by decide +kernel⟩, by decide +kernel, rfl⟩
set_option maxHeartbeats 4000000 in
set_option maxRecDepth 100000 in
theorem ci_X7 {l : Launch} (D : va_G) (cA : Nat → ClassId) (h0 : Nat) (b1 : Nat) (b2 : Nat) (b3 : Nat) : I_Met l yX7_init cX7_init 4 1 12 1 288 D cA h0 [.ref b1, .ref b2, .ref b3] 7 [.null, .null, .null, .null] (fun w => ∃ q1 : Nat, w = [(h0, .inr (7, [.ref b1, .ref b2, .ref b3, .ref q1])), (q1, .inl (cA 0, (288, .inl fun _ => 0)))]) := by
  refine I_Met_of (by decide +kernel) rfl (Nat.le_of_ble_eq_true rfl) fun p e s m args below meth c A C hin hret => ?_
  refine i_aload C 0 rfl rfl dX7_init_0 ?_
  refine i_obj C (bw 291 (by decide +kernel) (by decide +kernel)) w_oi w_oc (Nat.le_of_ble_eq_true rfl) (Nat.le_of_ble_eq_true rfl) dX7_init_1 ?_
  refine i_aload C 0 rfl rfl dX7_init_4 ?_
  refine i_sipush (v := 288) C rfl dX7_init_5 ?_
  refine i_newaI (N := 288) (cells' := 1) (slots' := 288) C w_aint (by decide) rfl (Nat.le_of_ble_eq_true rfl) rfl rfl (Nat.le_of_ble_eq_true rfl) (Nat.le_of_ble_eq_true rfl) dX7_init_8 (fun q1 => ?_)
  refine i_eq (ws' := (h0, .inr (7, [.null, .null, .null, .null])) :: [(q1, .inl (cA 0, (288, .inl fun _ => 0)))]) ?_ rfl
  refine i_putF C hin in_X7 tyX7 tyX7_ok nmX7 (ci := 7) rfl 3 (by decide) (bw 295 (by decide +kernel) (by decide +kernel)) rfl rfl rfl rfl (fs' := [.null, .null, .null, .ref q1]) (Nat.le_of_ble_eq_true rfl) rfl dX7_init_10 ?_
  refine i_aload C 0 rfl rfl dX7_init_13 ?_
  refine i_aload C 1 rfl rfl dX7_init_14 ?_
  refine i_putF C hin in_X7 tyX7 tyX7_ok nmX7 (ci := 7) rfl 0 (by decide) (bw 292 (by decide +kernel) (by decide +kernel)) rfl rfl rfl rfl (fs' := [.ref b1, .null, .null, .ref q1]) (Nat.le_of_ble_eq_true rfl) rfl dX7_init_15 ?_
  refine i_aload C 0 rfl rfl dX7_init_18 ?_
  refine i_aload C 2 rfl rfl dX7_init_19 ?_
  refine i_putF C hin in_X7 tyX7 tyX7_ok nmX7 (ci := 7) rfl 1 (by decide) (bw 293 (by decide +kernel) (by decide +kernel)) rfl rfl rfl rfl (fs' := [.ref b1, .ref b2, .null, .ref q1]) (Nat.le_of_ble_eq_true rfl) rfl dX7_init_20 ?_
  refine i_aload C 0 rfl rfl dX7_init_23 ?_
  refine i_aload C 3 rfl rfl dX7_init_24 ?_
  refine i_putF C hin in_X7 tyX7 tyX7_ok nmX7 (ci := 7) rfl 2 (by decide) (bw 294 (by decide +kernel) (by decide +kernel)) rfl rfl rfl rfl (fs' := [.ref b1, .ref b2, .ref b3, .ref q1]) (Nat.le_of_ble_eq_true rfl) rfl dX7_init_25 ?_
  exact hret _ _ _ ⟨q1, rfl⟩ dX7_init_28
