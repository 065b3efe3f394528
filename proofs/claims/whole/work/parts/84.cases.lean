/-! the law, call by call -/
section CASES
variable {p : Program} {l : Launch} {e : Env} {s : State} {m : MethodId} {below : List Frame} {meth : Method} {c : Code} {b L : Nat} {xs : Nat → Int32} {D : va_G} {cA : Nat → ClassId} {aC aR : Nat → Nat}
theorem mlw_X11_place : ML yX11_place cX11_place 3 (some .int) 2 := ⟨(bw 659 (by decide +kernel) (by decide +kernel)), (bw 660 (by decide +kernel) (by decide +kernel)), (bw 99 (by decide +kernel) (by decide +kernel)), (bw 661 (by decide +kernel) (by decide +kernel)), ⟨by decide +kernel, by decide +kernel⟩, by decide +kernel⟩
theorem mlw_X12_place : ML yX12_place cX12_place 3 (some .int) 2 := ⟨(bw 1491 (by decide +kernel) (by decide +kernel)), (bw 1492 (by decide +kernel) (by decide +kernel)), (bw 111 (by decide +kernel) (by decide +kernel)), (bw 1493 (by decide +kernel) (by decide +kernel)), ⟨by decide +kernel, by decide +kernel⟩, by decide +kernel⟩
theorem dL_579 : decode code 579 = .ok (.aload_n 1, 1) := by decide +kernel
theorem dL_580 : decode code 580 = .ok (.aload_n 0, 1) := by decide +kernel
theorem dL_581 : decode code 581 = .ok (.iload_n 3, 1) := by decide +kernel
theorem dL_582 : decode code 582 = .ok (.iconst 1, 1) := by decide +kernel
theorem dL_583 : decode code 583 = .ok (.iadd, 1) := by decide +kernel
theorem dL_584 : decode code 584 = .ok (.iaload, 1) := by decide +kernel
theorem dL_585 : decode code 585 = .ok (.aload_n 0, 1) := by decide +kernel
theorem dL_586 : decode code 586 = .ok (.iload_n 3, 1) := by decide +kernel
theorem dL_587 : decode code 587 = .ok (.iconst 2, 1) := by decide +kernel
theorem dL_588 : decode code 588 = .ok (.iadd, 1) := by decide +kernel
theorem dL_589 : decode code 589 = .ok (.iaload, 1) := by decide +kernel
theorem dL_590 : decode code 590 = .ok (.invokevirtual 61, 3) := by decide +kernel
theorem dL_593 : decode code 593 = .ok (.aload_n 2, 1) := by decide +kernel
theorem dL_594 : decode code 594 = .ok (.aload_n 0, 1) := by decide +kernel
theorem dL_595 : decode code 595 = .ok (.iload_n 3, 1) := by decide +kernel
theorem dL_596 : decode code 596 = .ok (.iconst 1, 1) := by decide +kernel
theorem dL_597 : decode code 597 = .ok (.iadd, 1) := by decide +kernel
theorem dL_598 : decode code 598 = .ok (.iaload, 1) := by decide +kernel
theorem dL_599 : decode code 599 = .ok (.aload_n 0, 1) := by decide +kernel
theorem dL_600 : decode code 600 = .ok (.iload_n 3, 1) := by decide +kernel
theorem dL_601 : decode code 601 = .ok (.iconst 2, 1) := by decide +kernel
theorem dL_602 : decode code 602 = .ok (.iadd, 1) := by decide +kernel
theorem dL_603 : decode code 603 = .ok (.iaload, 1) := by decide +kernel
theorem dL_604 : decode code 604 = .ok (.invokevirtual 64, 3) := by decide +kernel
theorem dL_607 : decode code 607 = .ok (.if_icmp .eq 993, 3) := by decide +kernel
theorem dL_610 : decode code 610 = .ok (.iconst 0, 1) := by decide +kernel
theorem dL_611 : decode code 611 = .ok (.ireturn, 1) := by decide +kernel
theorem case_11 (C : CL p s m meth c b L xs D cA aC aR) {i : Nat} {MC MR : Mem} (hi : i + 4 ≤ L) (hL : L ≤ 2048) (hI : Inv MC MR) (kk : ∀ MC' MR' : Mem, Inv MC' MR' → KL p l e s m below meth c b D cA aC aR 1600 (lvL b aC aR i) [] MC' MR') : KL p l e s m below meth c b D cA aC aR 579 (lvL b aC aR i) [] MC MR := by
  obtain ⟨v, MC', MR', e1, e2, hI2⟩ := sim_place hI (xs (i + 1)) (xs (i + 2))
  refine w_ald C 1 (by decide) rfl rfl dL_579 ?_
  refine w_arg (k := 1) C (by omega) (by omega) dL_580 dL_581 dL_582 (by decide) dL_583 dL_584 ?_
  refine w_arg (k := 2) C (by omega) (by omega) dL_585 dL_586 dL_587 (by decide) dL_588 dL_589 ?_
  refine w_callCi C (As := [.int (xs (i + 1)), .int (xs (i + 2))]) (c_X11_place C.2.2.2.2.1 (xs (i + 1)) (xs (i + 2)) _ _ e1) mlw_X11_place (bw 658 (by decide +kernel) (by decide +kernel)) rfl rfl (st := []) rfl ⟨Nat.le_of_ble_eq_true rfl, Nat.le_of_ble_eq_true rfl⟩ (Nat.le_of_ble_eq_true rfl) dL_590 ?_
  refine w_ald C 2 (by decide) rfl rfl dL_593 ?_
  refine w_arg (k := 1) C (by omega) (by omega) dL_594 dL_595 dL_596 (by decide) dL_597 dL_598 ?_
  refine w_arg (k := 2) C (by omega) (by omega) dL_599 dL_600 dL_601 (by decide) dL_602 dL_603 ?_
  refine w_callRi C (As := [.int (xs (i + 1)), .int (xs (i + 2))]) (c_X12_place C.2.2.2.2.2.1 (xs (i + 1)) (xs (i + 2)) _ _ e2) mlw_X12_place (bw 1490 (by decide +kernel) (by decide +kernel)) rfl rfl (st := [.int v]) rfl ⟨Nat.le_of_ble_eq_true rfl, Nat.le_of_ble_eq_true rfl⟩ (Nat.le_of_ble_eq_true rfl) dL_604 ?_
  exact w_eq C (tgt := 1600) dL_607 (by decide) (kk MC' MR' hI2)
theorem mlw_X11_allDue : ML yX11_allDue cX11_allDue 1 (some .int) 0 := ⟨(bw 677 (by decide +kernel) (by decide +kernel)), (bw 678 (by decide +kernel) (by decide +kernel)), (bw 99 (by decide +kernel) (by decide +kernel)), (bw 679 (by decide +kernel) (by decide +kernel)), ⟨by decide +kernel, by decide +kernel⟩, by decide +kernel⟩
theorem mlw_X12_allDue : ML yX12_allDue cX12_allDue 1 (some .int) 0 := ⟨(bw 1499 (by decide +kernel) (by decide +kernel)), (bw 1500 (by decide +kernel) (by decide +kernel)), (bw 111 (by decide +kernel) (by decide +kernel)), (bw 1501 (by decide +kernel) (by decide +kernel)), ⟨by decide +kernel, by decide +kernel⟩, by decide +kernel⟩
theorem dL_612 : decode code 612 = .ok (.aload_n 1, 1) := by decide +kernel
theorem dL_613 : decode code 613 = .ok (.invokevirtual 65, 3) := by decide +kernel
theorem dL_616 : decode code 616 = .ok (.aload_n 2, 1) := by decide +kernel
theorem dL_617 : decode code 617 = .ok (.invokevirtual 68, 3) := by decide +kernel
theorem dL_620 : decode code 620 = .ok (.if_icmp .eq 980, 3) := by decide +kernel
theorem dL_623 : decode code 623 = .ok (.iconst 0, 1) := by decide +kernel
theorem dL_624 : decode code 624 = .ok (.ireturn, 1) := by decide +kernel
theorem case_12 (C : CL p s m meth c b L xs D cA aC aR) {i : Nat} {MC MR : Mem} (hi : i + 4 ≤ L) (hL : L ≤ 2048) (hI : Inv MC MR) (kk : ∀ MC' MR' : Mem, Inv MC' MR' → KL p l e s m below meth c b D cA aC aR 1600 (lvL b aC aR i) [] MC' MR') : KL p l e s m below meth c b D cA aC aR 612 (lvL b aC aR i) [] MC MR := by
  obtain ⟨v, MC', MR', e1, e2, hI2⟩ := sim_allDue hI
  obtain ⟨v2, e2, hz2⟩ := Option.map_eq_some_iff.mp e2
  have hv2 : v = v2 := (congrArg Prod.fst hz2).symm
  subst hv2
  have hm2 : MR' = MR := (congrArg Prod.snd hz2).symm
  subst hm2
  refine w_ald C 1 (by decide) rfl rfl dL_612 ?_
  refine w_callCi C (As := []) (c_X11_allDue C.2.2.2.2.1 _ _ e1) mlw_X11_allDue (bw 676 (by decide +kernel) (by decide +kernel)) rfl rfl (st := []) rfl ⟨Nat.le_of_ble_eq_true rfl, Nat.le_of_ble_eq_true rfl⟩ (Nat.le_of_ble_eq_true rfl) dL_613 ?_
  refine w_ald C 2 (by decide) rfl rfl dL_616 ?_
  refine w_callRi C (As := []) (c_X12_allDue C.2.2.2.2.2.1 _ _ e2) mlw_X12_allDue (bw 1498 (by decide +kernel) (by decide +kernel)) rfl rfl (st := [.int v]) rfl ⟨Nat.le_of_ble_eq_true rfl, Nat.le_of_ble_eq_true rfl⟩ (Nat.le_of_ble_eq_true rfl) dL_617 ?_
  exact w_eq C (tgt := 1600) dL_620 (by decide) (kk MC' MR' hI2)
theorem mlw_X11_next : ML yX11_next cX11_next 2 (some .int) 1 := ⟨(bw 689 (by decide +kernel) (by decide +kernel)), (bw 690 (by decide +kernel) (by decide +kernel)), (bw 99 (by decide +kernel) (by decide +kernel)), (bw 691 (by decide +kernel) (by decide +kernel)), ⟨by decide +kernel, by decide +kernel⟩, by decide +kernel⟩
theorem mlw_X12_next : ML yX12_next cX12_next 2 (some .int) 1 := ⟨(bw 1507 (by decide +kernel) (by decide +kernel)), (bw 1508 (by decide +kernel) (by decide +kernel)), (bw 111 (by decide +kernel) (by decide +kernel)), (bw 1509 (by decide +kernel) (by decide +kernel)), ⟨by decide +kernel, by decide +kernel⟩, by decide +kernel⟩
theorem dL_625 : decode code 625 = .ok (.aload_n 1, 1) := by decide +kernel
theorem dL_626 : decode code 626 = .ok (.aload_n 0, 1) := by decide +kernel
theorem dL_627 : decode code 627 = .ok (.iload_n 3, 1) := by decide +kernel
theorem dL_628 : decode code 628 = .ok (.iconst 1, 1) := by decide +kernel
theorem dL_629 : decode code 629 = .ok (.iadd, 1) := by decide +kernel
theorem dL_630 : decode code 630 = .ok (.iaload, 1) := by decide +kernel
theorem dL_631 : decode code 631 = .ok (.invokevirtual 69, 3) := by decide +kernel
theorem dL_634 : decode code 634 = .ok (.aload_n 2, 1) := by decide +kernel
theorem dL_635 : decode code 635 = .ok (.aload_n 0, 1) := by decide +kernel
theorem dL_636 : decode code 636 = .ok (.iload_n 3, 1) := by decide +kernel
theorem dL_637 : decode code 637 = .ok (.iconst 1, 1) := by decide +kernel
theorem dL_638 : decode code 638 = .ok (.iadd, 1) := by decide +kernel
theorem dL_639 : decode code 639 = .ok (.iaload, 1) := by decide +kernel
theorem dL_640 : decode code 640 = .ok (.invokevirtual 72, 3) := by decide +kernel
theorem dL_643 : decode code 643 = .ok (.if_icmp .eq 957, 3) := by decide +kernel
theorem dL_646 : decode code 646 = .ok (.iconst 0, 1) := by decide +kernel
theorem dL_647 : decode code 647 = .ok (.ireturn, 1) := by decide +kernel
theorem case_13 (C : CL p s m meth c b L xs D cA aC aR) {i : Nat} {MC MR : Mem} (hi : i + 4 ≤ L) (hL : L ≤ 2048) (hI : Inv MC MR) (kk : ∀ MC' MR' : Mem, Inv MC' MR' → KL p l e s m below meth c b D cA aC aR 1600 (lvL b aC aR i) [] MC' MR') : KL p l e s m below meth c b D cA aC aR 625 (lvL b aC aR i) [] MC MR := by
  obtain ⟨v, MC', MR', e1, e2, hI2⟩ := sim_next hI (xs (i + 1))
  refine w_ald C 1 (by decide) rfl rfl dL_625 ?_
  refine w_arg (k := 1) C (by omega) (by omega) dL_626 dL_627 dL_628 (by decide) dL_629 dL_630 ?_
  refine w_callCi C (As := [.int (xs (i + 1))]) (c_X11_next C.2.2.2.2.1 (xs (i + 1)) _ _ e1) mlw_X11_next (bw 688 (by decide +kernel) (by decide +kernel)) rfl rfl (st := []) rfl ⟨Nat.le_of_ble_eq_true rfl, Nat.le_of_ble_eq_true rfl⟩ (Nat.le_of_ble_eq_true rfl) dL_631 ?_
  refine w_ald C 2 (by decide) rfl rfl dL_634 ?_
  refine w_arg (k := 1) C (by omega) (by omega) dL_635 dL_636 dL_637 (by decide) dL_638 dL_639 ?_
  refine w_callRi C (As := [.int (xs (i + 1))]) (c_X12_next C.2.2.2.2.2.1 (xs (i + 1)) _ _ e2) mlw_X12_next (bw 1506 (by decide +kernel) (by decide +kernel)) rfl rfl (st := [.int v]) rfl ⟨Nat.le_of_ble_eq_true rfl, Nat.le_of_ble_eq_true rfl⟩ (Nat.le_of_ble_eq_true rfl) dL_640 ?_
  exact w_eq C (tgt := 1600) dL_643 (by decide) (kk MC' MR' hI2)
theorem mlw_X11_best : ML yX11_best cX11_best 2 (some .int) 1 := ⟨(bw 693 (by decide +kernel) (by decide +kernel)), (bw 694 (by decide +kernel) (by decide +kernel)), (bw 99 (by decide +kernel) (by decide +kernel)), (bw 695 (by decide +kernel) (by decide +kernel)), ⟨by decide +kernel, by decide +kernel⟩, by decide +kernel⟩
theorem mlw_X12_best : ML yX12_best cX12_best 5 (some .int) 1 := ⟨(bw 1515 (by decide +kernel) (by decide +kernel)), (bw 1516 (by decide +kernel) (by decide +kernel)), (bw 111 (by decide +kernel) (by decide +kernel)), (bw 1517 (by decide +kernel) (by decide +kernel)), ⟨by decide +kernel, by decide +kernel⟩, by decide +kernel⟩
theorem dL_648 : decode code 648 = .ok (.aload_n 1, 1) := by decide +kernel
theorem dL_649 : decode code 649 = .ok (.aload_n 0, 1) := by decide +kernel
theorem dL_650 : decode code 650 = .ok (.iload_n 3, 1) := by decide +kernel
theorem dL_651 : decode code 651 = .ok (.iconst 1, 1) := by decide +kernel
theorem dL_652 : decode code 652 = .ok (.iadd, 1) := by decide +kernel
theorem dL_653 : decode code 653 = .ok (.iaload, 1) := by decide +kernel
theorem dL_654 : decode code 654 = .ok (.invokevirtual 73, 3) := by decide +kernel
theorem dL_657 : decode code 657 = .ok (.aload_n 2, 1) := by decide +kernel
theorem dL_658 : decode code 658 = .ok (.aload_n 0, 1) := by decide +kernel
theorem dL_659 : decode code 659 = .ok (.iload_n 3, 1) := by decide +kernel
theorem dL_660 : decode code 660 = .ok (.iconst 1, 1) := by decide +kernel
theorem dL_661 : decode code 661 = .ok (.iadd, 1) := by decide +kernel
theorem dL_662 : decode code 662 = .ok (.iaload, 1) := by decide +kernel
theorem dL_663 : decode code 663 = .ok (.invokevirtual 76, 3) := by decide +kernel
theorem dL_666 : decode code 666 = .ok (.if_icmp .eq 934, 3) := by decide +kernel
theorem dL_669 : decode code 669 = .ok (.iconst 0, 1) := by decide +kernel
theorem dL_670 : decode code 670 = .ok (.ireturn, 1) := by decide +kernel
theorem case_14 (C : CL p s m meth c b L xs D cA aC aR) {i : Nat} {MC MR : Mem} (hi : i + 4 ≤ L) (hL : L ≤ 2048) (hI : Inv MC MR) (kk : ∀ MC' MR' : Mem, Inv MC' MR' → KL p l e s m below meth c b D cA aC aR 1600 (lvL b aC aR i) [] MC' MR') : KL p l e s m below meth c b D cA aC aR 648 (lvL b aC aR i) [] MC MR := by
  obtain ⟨v, MC', MR', e1, e2, hI2⟩ := sim_best hI (xs (i + 1))
  refine w_ald C 1 (by decide) rfl rfl dL_648 ?_
  refine w_arg (k := 1) C (by omega) (by omega) dL_649 dL_650 dL_651 (by decide) dL_652 dL_653 ?_
  refine w_callCi C (As := [.int (xs (i + 1))]) (c_X11_best C.2.2.2.2.1 (xs (i + 1)) _ _ e1) mlw_X11_best (bw 692 (by decide +kernel) (by decide +kernel)) rfl rfl (st := []) rfl ⟨Nat.le_of_ble_eq_true rfl, Nat.le_of_ble_eq_true rfl⟩ (Nat.le_of_ble_eq_true rfl) dL_654 ?_
  refine w_ald C 2 (by decide) rfl rfl dL_657 ?_
  refine w_arg (k := 1) C (by omega) (by omega) dL_658 dL_659 dL_660 (by decide) dL_661 dL_662 ?_
  refine w_callRi C (As := [.int (xs (i + 1))]) (c_X12_best C.2.2.2.2.2.1 (xs (i + 1)) _ _ e2) mlw_X12_best (bw 1514 (by decide +kernel) (by decide +kernel)) rfl rfl (st := [.int v]) rfl ⟨Nat.le_of_ble_eq_true rfl, Nat.le_of_ble_eq_true rfl⟩ (Nat.le_of_ble_eq_true rfl) dL_663 ?_
  exact w_eq C (tgt := 1600) dL_666 (by decide) (kk MC' MR' hI2)
theorem mlw_X11_charged : ML yX11_charged cX11_charged 2 (some .int) 1 := ⟨(bw 710 (by decide +kernel) (by decide +kernel)), (bw 711 (by decide +kernel) (by decide +kernel)), (bw 99 (by decide +kernel) (by decide +kernel)), (bw 712 (by decide +kernel) (by decide +kernel)), ⟨by decide +kernel, by decide +kernel⟩, by decide +kernel⟩
theorem mlw_X12_charged : ML yX12_charged cX12_charged 4 (some .int) 1 := ⟨(bw 1519 (by decide +kernel) (by decide +kernel)), (bw 1520 (by decide +kernel) (by decide +kernel)), (bw 111 (by decide +kernel) (by decide +kernel)), (bw 1521 (by decide +kernel) (by decide +kernel)), ⟨by decide +kernel, by decide +kernel⟩, by decide +kernel⟩
theorem dL_671 : decode code 671 = .ok (.aload_n 1, 1) := by decide +kernel
theorem dL_672 : decode code 672 = .ok (.aload_n 0, 1) := by decide +kernel
theorem dL_673 : decode code 673 = .ok (.iload_n 3, 1) := by decide +kernel
theorem dL_674 : decode code 674 = .ok (.iconst 1, 1) := by decide +kernel
theorem dL_675 : decode code 675 = .ok (.iadd, 1) := by decide +kernel
theorem dL_676 : decode code 676 = .ok (.iaload, 1) := by decide +kernel
theorem dL_677 : decode code 677 = .ok (.invokevirtual 77, 3) := by decide +kernel
theorem dL_680 : decode code 680 = .ok (.aload_n 2, 1) := by decide +kernel
theorem dL_681 : decode code 681 = .ok (.aload_n 0, 1) := by decide +kernel
theorem dL_682 : decode code 682 = .ok (.iload_n 3, 1) := by decide +kernel
theorem dL_683 : decode code 683 = .ok (.iconst 1, 1) := by decide +kernel
theorem dL_684 : decode code 684 = .ok (.iadd, 1) := by decide +kernel
theorem dL_685 : decode code 685 = .ok (.iaload, 1) := by decide +kernel
theorem dL_686 : decode code 686 = .ok (.invokevirtual 80, 3) := by decide +kernel
theorem dL_689 : decode code 689 = .ok (.if_icmp .eq 911, 3) := by decide +kernel
theorem dL_692 : decode code 692 = .ok (.iconst 0, 1) := by decide +kernel
theorem dL_693 : decode code 693 = .ok (.ireturn, 1) := by decide +kernel
theorem case_15 (C : CL p s m meth c b L xs D cA aC aR) {i : Nat} {MC MR : Mem} (hi : i + 4 ≤ L) (hL : L ≤ 2048) (hI : Inv MC MR) (kk : ∀ MC' MR' : Mem, Inv MC' MR' → KL p l e s m below meth c b D cA aC aR 1600 (lvL b aC aR i) [] MC' MR') : KL p l e s m below meth c b D cA aC aR 671 (lvL b aC aR i) [] MC MR := by
  obtain ⟨v, MC', MR', e1, e2, hI2⟩ := sim_charged hI (xs (i + 1))
  refine w_ald C 1 (by decide) rfl rfl dL_671 ?_
  refine w_arg (k := 1) C (by omega) (by omega) dL_672 dL_673 dL_674 (by decide) dL_675 dL_676 ?_
  refine w_callCi C (As := [.int (xs (i + 1))]) (c_X11_charged C.2.2.2.2.1 (xs (i + 1)) _ _ e1) mlw_X11_charged (bw 709 (by decide +kernel) (by decide +kernel)) rfl rfl (st := []) rfl ⟨Nat.le_of_ble_eq_true rfl, Nat.le_of_ble_eq_true rfl⟩ (Nat.le_of_ble_eq_true rfl) dL_677 ?_
  refine w_ald C 2 (by decide) rfl rfl dL_680 ?_
  refine w_arg (k := 1) C (by omega) (by omega) dL_681 dL_682 dL_683 (by decide) dL_684 dL_685 ?_
  refine w_callRi C (As := [.int (xs (i + 1))]) (c_X12_charged C.2.2.2.2.2.1 (xs (i + 1)) _ _ e2) mlw_X12_charged (bw 1518 (by decide +kernel) (by decide +kernel)) rfl rfl (st := [.int v]) rfl ⟨Nat.le_of_ble_eq_true rfl, Nat.le_of_ble_eq_true rfl⟩ (Nat.le_of_ble_eq_true rfl) dL_686 ?_
  exact w_eq C (tgt := 1600) dL_689 (by decide) (kk MC' MR' hI2)
theorem mlw_X11_order : ML yX11_order cX11_order 3 (some .int) 2 := ⟨(bw 718 (by decide +kernel) (by decide +kernel)), (bw 719 (by decide +kernel) (by decide +kernel)), (bw 99 (by decide +kernel) (by decide +kernel)), (bw 720 (by decide +kernel) (by decide +kernel)), ⟨by decide +kernel, by decide +kernel⟩, by decide +kernel⟩
theorem mlw_X12_order : ML yX12_order cX12_order 6 (some .int) 2 := ⟨(bw 1523 (by decide +kernel) (by decide +kernel)), (bw 1524 (by decide +kernel) (by decide +kernel)), (bw 111 (by decide +kernel) (by decide +kernel)), (bw 1525 (by decide +kernel) (by decide +kernel)), ⟨by decide +kernel, by decide +kernel⟩, by decide +kernel⟩
theorem dL_694 : decode code 694 = .ok (.aload_n 1, 1) := by decide +kernel
theorem dL_695 : decode code 695 = .ok (.aload_n 0, 1) := by decide +kernel
theorem dL_696 : decode code 696 = .ok (.iload_n 3, 1) := by decide +kernel
theorem dL_697 : decode code 697 = .ok (.iconst 1, 1) := by decide +kernel
theorem dL_698 : decode code 698 = .ok (.iadd, 1) := by decide +kernel
theorem dL_699 : decode code 699 = .ok (.iaload, 1) := by decide +kernel
theorem dL_700 : decode code 700 = .ok (.aload_n 0, 1) := by decide +kernel
theorem dL_701 : decode code 701 = .ok (.iload_n 3, 1) := by decide +kernel
theorem dL_702 : decode code 702 = .ok (.iconst 2, 1) := by decide +kernel
theorem dL_703 : decode code 703 = .ok (.iadd, 1) := by decide +kernel
theorem dL_704 : decode code 704 = .ok (.iaload, 1) := by decide +kernel
theorem dL_705 : decode code 705 = .ok (.invokevirtual 81, 3) := by decide +kernel
theorem dL_708 : decode code 708 = .ok (.aload_n 2, 1) := by decide +kernel
theorem dL_709 : decode code 709 = .ok (.aload_n 0, 1) := by decide +kernel
theorem dL_710 : decode code 710 = .ok (.iload_n 3, 1) := by decide +kernel
theorem dL_711 : decode code 711 = .ok (.iconst 1, 1) := by decide +kernel
theorem dL_712 : decode code 712 = .ok (.iadd, 1) := by decide +kernel
theorem dL_713 : decode code 713 = .ok (.iaload, 1) := by decide +kernel
theorem dL_714 : decode code 714 = .ok (.aload_n 0, 1) := by decide +kernel
theorem dL_715 : decode code 715 = .ok (.iload_n 3, 1) := by decide +kernel
theorem dL_716 : decode code 716 = .ok (.iconst 2, 1) := by decide +kernel
theorem dL_717 : decode code 717 = .ok (.iadd, 1) := by decide +kernel
theorem dL_718 : decode code 718 = .ok (.iaload, 1) := by decide +kernel
theorem dL_719 : decode code 719 = .ok (.invokevirtual 84, 3) := by decide +kernel
theorem dL_722 : decode code 722 = .ok (.if_icmp .eq 878, 3) := by decide +kernel
theorem dL_725 : decode code 725 = .ok (.iconst 0, 1) := by decide +kernel
theorem dL_726 : decode code 726 = .ok (.ireturn, 1) := by decide +kernel
theorem case_16 (C : CL p s m meth c b L xs D cA aC aR) {i : Nat} {MC MR : Mem} (hi : i + 4 ≤ L) (hL : L ≤ 2048) (hI : Inv MC MR) (kk : ∀ MC' MR' : Mem, Inv MC' MR' → KL p l e s m below meth c b D cA aC aR 1600 (lvL b aC aR i) [] MC' MR') : KL p l e s m below meth c b D cA aC aR 694 (lvL b aC aR i) [] MC MR := by
  obtain ⟨v, MC', MR', e1, e2, hI2⟩ := sim_order hI (xs (i + 1)) (xs (i + 2))
  refine w_ald C 1 (by decide) rfl rfl dL_694 ?_
  refine w_arg (k := 1) C (by omega) (by omega) dL_695 dL_696 dL_697 (by decide) dL_698 dL_699 ?_
  refine w_arg (k := 2) C (by omega) (by omega) dL_700 dL_701 dL_702 (by decide) dL_703 dL_704 ?_
  refine w_callCi C (As := [.int (xs (i + 1)), .int (xs (i + 2))]) (c_X11_order C.2.2.2.2.1 (xs (i + 1)) (xs (i + 2)) _ _ e1) mlw_X11_order (bw 717 (by decide +kernel) (by decide +kernel)) rfl rfl (st := []) rfl ⟨Nat.le_of_ble_eq_true rfl, Nat.le_of_ble_eq_true rfl⟩ (Nat.le_of_ble_eq_true rfl) dL_705 ?_
  refine w_ald C 2 (by decide) rfl rfl dL_708 ?_
  refine w_arg (k := 1) C (by omega) (by omega) dL_709 dL_710 dL_711 (by decide) dL_712 dL_713 ?_
  refine w_arg (k := 2) C (by omega) (by omega) dL_714 dL_715 dL_716 (by decide) dL_717 dL_718 ?_
  refine w_callRi C (As := [.int (xs (i + 1)), .int (xs (i + 2))]) (c_X12_order C.2.2.2.2.2.1 (xs (i + 1)) (xs (i + 2)) _ _ e2) mlw_X12_order (bw 1522 (by decide +kernel) (by decide +kernel)) rfl rfl (st := [.int v]) rfl ⟨Nat.le_of_ble_eq_true rfl, Nat.le_of_ble_eq_true rfl⟩ (Nat.le_of_ble_eq_true rfl) dL_719 ?_
  exact w_eq C (tgt := 1600) dL_722 (by decide) (kk MC' MR' hI2)
theorem mlw_X11_unlike : ML yX11_unlike cX11_unlike 1 (some .int) 0 := ⟨(bw 754 (by decide +kernel) (by decide +kernel)), (bw 755 (by decide +kernel) (by decide +kernel)), (bw 99 (by decide +kernel) (by decide +kernel)), (bw 756 (by decide +kernel) (by decide +kernel)), ⟨by decide +kernel, by decide +kernel⟩, by decide +kernel⟩
theorem mlw_X12_unlike : ML yX12_unlike cX12_unlike 3 (some .int) 0 := ⟨(bw 1543 (by decide +kernel) (by decide +kernel)), (bw 1544 (by decide +kernel) (by decide +kernel)), (bw 111 (by decide +kernel) (by decide +kernel)), (bw 1545 (by decide +kernel) (by decide +kernel)), ⟨by decide +kernel, by decide +kernel⟩, by decide +kernel⟩
theorem dL_727 : decode code 727 = .ok (.aload_n 1, 1) := by decide +kernel
theorem dL_728 : decode code 728 = .ok (.invokevirtual 85, 3) := by decide +kernel
theorem dL_731 : decode code 731 = .ok (.aload_n 2, 1) := by decide +kernel
theorem dL_732 : decode code 732 = .ok (.invokevirtual 88, 3) := by decide +kernel
theorem dL_735 : decode code 735 = .ok (.if_icmp .eq 865, 3) := by decide +kernel
theorem dL_738 : decode code 738 = .ok (.iconst 0, 1) := by decide +kernel
theorem dL_739 : decode code 739 = .ok (.ireturn, 1) := by decide +kernel
theorem case_17 (C : CL p s m meth c b L xs D cA aC aR) {i : Nat} {MC MR : Mem} (hi : i + 4 ≤ L) (hL : L ≤ 2048) (hI : Inv MC MR) (kk : ∀ MC' MR' : Mem, Inv MC' MR' → KL p l e s m below meth c b D cA aC aR 1600 (lvL b aC aR i) [] MC' MR') : KL p l e s m below meth c b D cA aC aR 727 (lvL b aC aR i) [] MC MR := by
  obtain ⟨v, MC', MR', e1, e2, hI2⟩ := sim_unlike hI
  obtain ⟨v2, e2, hz2⟩ := Option.map_eq_some_iff.mp e2
  have hv2 : v = v2 := (congrArg Prod.fst hz2).symm
  subst hv2
  have hm2 : MR' = MR := (congrArg Prod.snd hz2).symm
  subst hm2
  refine w_ald C 1 (by decide) rfl rfl dL_727 ?_
  refine w_callCi C (As := []) (c_X11_unlike C.2.2.2.2.1 _ _ e1) mlw_X11_unlike (bw 753 (by decide +kernel) (by decide +kernel)) rfl rfl (st := []) rfl ⟨Nat.le_of_ble_eq_true rfl, Nat.le_of_ble_eq_true rfl⟩ (Nat.le_of_ble_eq_true rfl) dL_728 ?_
  refine w_ald C 2 (by decide) rfl rfl dL_731 ?_
  refine w_callRi C (As := []) (c_X12_unlike C.2.2.2.2.2.1 _ _ e2) mlw_X12_unlike (bw 1542 (by decide +kernel) (by decide +kernel)) rfl rfl (st := [.int v]) rfl ⟨Nat.le_of_ble_eq_true rfl, Nat.le_of_ble_eq_true rfl⟩ (Nat.le_of_ble_eq_true rfl) dL_732 ?_
  exact w_eq C (tgt := 1600) dL_735 (by decide) (kk MC' MR' hI2)
theorem mlw_X11_people : ML yX11_people cX11_people 1 (some .int) 0 := ⟨(bw 772 (by decide +kernel) (by decide +kernel)), (bw 773 (by decide +kernel) (by decide +kernel)), (bw 99 (by decide +kernel) (by decide +kernel)), (bw 774 (by decide +kernel) (by decide +kernel)), ⟨by decide +kernel, by decide +kernel⟩, by decide +kernel⟩
theorem mlw_X12_people : ML yX12_people cX12_people 3 (some .int) 0 := ⟨(bw 1551 (by decide +kernel) (by decide +kernel)), (bw 1552 (by decide +kernel) (by decide +kernel)), (bw 111 (by decide +kernel) (by decide +kernel)), (bw 1553 (by decide +kernel) (by decide +kernel)), ⟨by decide +kernel, by decide +kernel⟩, by decide +kernel⟩
theorem dL_740 : decode code 740 = .ok (.aload_n 1, 1) := by decide +kernel
theorem dL_741 : decode code 741 = .ok (.invokevirtual 89, 3) := by decide +kernel
theorem dL_744 : decode code 744 = .ok (.aload_n 2, 1) := by decide +kernel
theorem dL_745 : decode code 745 = .ok (.invokevirtual 92, 3) := by decide +kernel
theorem dL_748 : decode code 748 = .ok (.if_icmp .eq 852, 3) := by decide +kernel
theorem dL_751 : decode code 751 = .ok (.iconst 0, 1) := by decide +kernel
theorem dL_752 : decode code 752 = .ok (.ireturn, 1) := by decide +kernel
theorem case_18 (C : CL p s m meth c b L xs D cA aC aR) {i : Nat} {MC MR : Mem} (hi : i + 4 ≤ L) (hL : L ≤ 2048) (hI : Inv MC MR) (kk : ∀ MC' MR' : Mem, Inv MC' MR' → KL p l e s m below meth c b D cA aC aR 1600 (lvL b aC aR i) [] MC' MR') : KL p l e s m below meth c b D cA aC aR 740 (lvL b aC aR i) [] MC MR := by
  obtain ⟨v, MC', MR', e1, e2, hI2⟩ := sim_people hI
  refine w_ald C 1 (by decide) rfl rfl dL_740 ?_
  refine w_callCi C (As := []) (c_X11_people C.2.2.2.2.1 _ _ e1) mlw_X11_people (bw 771 (by decide +kernel) (by decide +kernel)) rfl rfl (st := []) rfl ⟨Nat.le_of_ble_eq_true rfl, Nat.le_of_ble_eq_true rfl⟩ (Nat.le_of_ble_eq_true rfl) dL_741 ?_
  refine w_ald C 2 (by decide) rfl rfl dL_744 ?_
  refine w_callRi C (As := []) (c_X12_people C.2.2.2.2.2.1 _ _ e2) mlw_X12_people (bw 1550 (by decide +kernel) (by decide +kernel)) rfl rfl (st := [.int v]) rfl ⟨Nat.le_of_ble_eq_true rfl, Nat.le_of_ble_eq_true rfl⟩ (Nat.le_of_ble_eq_true rfl) dL_745 ?_
  exact w_eq C (tgt := 1600) dL_748 (by decide) (kk MC' MR' hI2)
theorem mlw_X11_like : ML yX11_like cX11_like 2 (some .int) 1 := ⟨(bw 785 (by decide +kernel) (by decide +kernel)), (bw 786 (by decide +kernel) (by decide +kernel)), (bw 99 (by decide +kernel) (by decide +kernel)), (bw 787 (by decide +kernel) (by decide +kernel)), ⟨by decide +kernel, by decide +kernel⟩, by decide +kernel⟩
theorem mlw_X12_like : ML yX12_like cX12_like 4 (some .int) 1 := ⟨(bw 1555 (by decide +kernel) (by decide +kernel)), (bw 1556 (by decide +kernel) (by decide +kernel)), (bw 111 (by decide +kernel) (by decide +kernel)), (bw 1557 (by decide +kernel) (by decide +kernel)), ⟨by decide +kernel, by decide +kernel⟩, by decide +kernel⟩
theorem dL_753 : decode code 753 = .ok (.aload_n 1, 1) := by decide +kernel
theorem dL_754 : decode code 754 = .ok (.aload_n 0, 1) := by decide +kernel
theorem dL_755 : decode code 755 = .ok (.iload_n 3, 1) := by decide +kernel
theorem dL_756 : decode code 756 = .ok (.iconst 1, 1) := by decide +kernel
theorem dL_757 : decode code 757 = .ok (.iadd, 1) := by decide +kernel
theorem dL_758 : decode code 758 = .ok (.iaload, 1) := by decide +kernel
theorem dL_759 : decode code 759 = .ok (.invokevirtual 93, 3) := by decide +kernel
theorem dL_762 : decode code 762 = .ok (.aload_n 2, 1) := by decide +kernel
theorem dL_763 : decode code 763 = .ok (.aload_n 0, 1) := by decide +kernel
theorem dL_764 : decode code 764 = .ok (.iload_n 3, 1) := by decide +kernel
theorem dL_765 : decode code 765 = .ok (.iconst 1, 1) := by decide +kernel
theorem dL_766 : decode code 766 = .ok (.iadd, 1) := by decide +kernel
theorem dL_767 : decode code 767 = .ok (.iaload, 1) := by decide +kernel
theorem dL_768 : decode code 768 = .ok (.invokevirtual 96, 3) := by decide +kernel
theorem dL_771 : decode code 771 = .ok (.if_icmp .eq 829, 3) := by decide +kernel
theorem dL_774 : decode code 774 = .ok (.iconst 0, 1) := by decide +kernel
theorem dL_775 : decode code 775 = .ok (.ireturn, 1) := by decide +kernel
theorem case_19 (C : CL p s m meth c b L xs D cA aC aR) {i : Nat} {MC MR : Mem} (hi : i + 4 ≤ L) (hL : L ≤ 2048) (hI : Inv MC MR) (kk : ∀ MC' MR' : Mem, Inv MC' MR' → KL p l e s m below meth c b D cA aC aR 1600 (lvL b aC aR i) [] MC' MR') : KL p l e s m below meth c b D cA aC aR 753 (lvL b aC aR i) [] MC MR := by
  obtain ⟨v, MC', MR', e1, e2, hI2⟩ := sim_like hI (xs (i + 1))
  refine w_ald C 1 (by decide) rfl rfl dL_753 ?_
  refine w_arg (k := 1) C (by omega) (by omega) dL_754 dL_755 dL_756 (by decide) dL_757 dL_758 ?_
  refine w_callCi C (As := [.int (xs (i + 1))]) (c_X11_like C.2.2.2.2.1 (xs (i + 1)) _ _ e1) mlw_X11_like (bw 784 (by decide +kernel) (by decide +kernel)) rfl rfl (st := []) rfl ⟨Nat.le_of_ble_eq_true rfl, Nat.le_of_ble_eq_true rfl⟩ (Nat.le_of_ble_eq_true rfl) dL_759 ?_
  refine w_ald C 2 (by decide) rfl rfl dL_762 ?_
  refine w_arg (k := 1) C (by omega) (by omega) dL_763 dL_764 dL_765 (by decide) dL_766 dL_767 ?_
  refine w_callRi C (As := [.int (xs (i + 1))]) (c_X12_like C.2.2.2.2.2.1 (xs (i + 1)) _ _ e2) mlw_X12_like (bw 1554 (by decide +kernel) (by decide +kernel)) rfl rfl (st := [.int v]) rfl ⟨Nat.le_of_ble_eq_true rfl, Nat.le_of_ble_eq_true rfl⟩ (Nat.le_of_ble_eq_true rfl) dL_768 ?_
  exact w_eq C (tgt := 1600) dL_771 (by decide) (kk MC' MR' hI2)
theorem mlw_X11_reading : ML yX11_reading cX11_reading 2 (some .int) 1 := ⟨(bw 801 (by decide +kernel) (by decide +kernel)), (bw 802 (by decide +kernel) (by decide +kernel)), (bw 99 (by decide +kernel) (by decide +kernel)), (bw 803 (by decide +kernel) (by decide +kernel)), ⟨by decide +kernel, by decide +kernel⟩, by decide +kernel⟩
theorem mlw_X12_reading : ML yX12_reading cX12_reading 6 (some .int) 1 := ⟨(bw 1563 (by decide +kernel) (by decide +kernel)), (bw 1564 (by decide +kernel) (by decide +kernel)), (bw 111 (by decide +kernel) (by decide +kernel)), (bw 1565 (by decide +kernel) (by decide +kernel)), ⟨by decide +kernel, by decide +kernel⟩, by decide +kernel⟩
theorem dL_776 : decode code 776 = .ok (.aload_n 1, 1) := by decide +kernel
theorem dL_777 : decode code 777 = .ok (.aload_n 0, 1) := by decide +kernel
theorem dL_778 : decode code 778 = .ok (.iload_n 3, 1) := by decide +kernel
theorem dL_779 : decode code 779 = .ok (.iconst 1, 1) := by decide +kernel
theorem dL_780 : decode code 780 = .ok (.iadd, 1) := by decide +kernel
theorem dL_781 : decode code 781 = .ok (.iaload, 1) := by decide +kernel
theorem dL_782 : decode code 782 = .ok (.invokevirtual 97, 3) := by decide +kernel
theorem dL_785 : decode code 785 = .ok (.aload_n 2, 1) := by decide +kernel
theorem dL_786 : decode code 786 = .ok (.aload_n 0, 1) := by decide +kernel
theorem dL_787 : decode code 787 = .ok (.iload_n 3, 1) := by decide +kernel
theorem dL_788 : decode code 788 = .ok (.iconst 1, 1) := by decide +kernel
theorem dL_789 : decode code 789 = .ok (.iadd, 1) := by decide +kernel
theorem dL_790 : decode code 790 = .ok (.iaload, 1) := by decide +kernel
theorem dL_791 : decode code 791 = .ok (.invokevirtual 100, 3) := by decide +kernel
theorem dL_794 : decode code 794 = .ok (.if_icmp .eq 806, 3) := by decide +kernel
theorem dL_797 : decode code 797 = .ok (.iconst 0, 1) := by decide +kernel
theorem dL_798 : decode code 798 = .ok (.ireturn, 1) := by decide +kernel
theorem case_20 (C : CL p s m meth c b L xs D cA aC aR) {i : Nat} {MC MR : Mem} (hi : i + 4 ≤ L) (hL : L ≤ 2048) (hI : Inv MC MR) (kk : ∀ MC' MR' : Mem, Inv MC' MR' → KL p l e s m below meth c b D cA aC aR 1600 (lvL b aC aR i) [] MC' MR') : KL p l e s m below meth c b D cA aC aR 776 (lvL b aC aR i) [] MC MR := by
  obtain ⟨v, MC', MR', e1, e2, hI2⟩ := sim_reading hI (xs (i + 1))
  refine w_ald C 1 (by decide) rfl rfl dL_776 ?_
  refine w_arg (k := 1) C (by omega) (by omega) dL_777 dL_778 dL_779 (by decide) dL_780 dL_781 ?_
  refine w_callCi C (As := [.int (xs (i + 1))]) (c_X11_reading C.2.2.2.2.1 (xs (i + 1)) _ _ e1) mlw_X11_reading (bw 800 (by decide +kernel) (by decide +kernel)) rfl rfl (st := []) rfl ⟨Nat.le_of_ble_eq_true rfl, Nat.le_of_ble_eq_true rfl⟩ (Nat.le_of_ble_eq_true rfl) dL_782 ?_
  refine w_ald C 2 (by decide) rfl rfl dL_785 ?_
  refine w_arg (k := 1) C (by omega) (by omega) dL_786 dL_787 dL_788 (by decide) dL_789 dL_790 ?_
  refine w_callRi C (As := [.int (xs (i + 1))]) (c_X12_reading C.2.2.2.2.2.1 (xs (i + 1)) _ _ e2) mlw_X12_reading (bw 1562 (by decide +kernel) (by decide +kernel)) rfl rfl (st := [.int v]) rfl ⟨Nat.le_of_ble_eq_true rfl, Nat.le_of_ble_eq_true rfl⟩ (Nat.le_of_ble_eq_true rfl) dL_791 ?_
  exact w_eq C (tgt := 1600) dL_794 (by decide) (kk MC' MR' hI2)
theorem mlw_X11_fits : ML yX11_fits cX11_fits 2 (some .int) 1 := ⟨(bw 814 (by decide +kernel) (by decide +kernel)), (bw 815 (by decide +kernel) (by decide +kernel)), (bw 99 (by decide +kernel) (by decide +kernel)), (bw 816 (by decide +kernel) (by decide +kernel)), ⟨by decide +kernel, by decide +kernel⟩, by decide +kernel⟩
theorem mlw_X12_fits : ML yX12_fits cX12_fits 6 (some .int) 1 := ⟨(bw 1582 (by decide +kernel) (by decide +kernel)), (bw 1583 (by decide +kernel) (by decide +kernel)), (bw 111 (by decide +kernel) (by decide +kernel)), (bw 1584 (by decide +kernel) (by decide +kernel)), ⟨by decide +kernel, by decide +kernel⟩, by decide +kernel⟩
theorem dL_799 : decode code 799 = .ok (.aload_n 1, 1) := by decide +kernel
theorem dL_800 : decode code 800 = .ok (.aload_n 0, 1) := by decide +kernel
theorem dL_801 : decode code 801 = .ok (.iload_n 3, 1) := by decide +kernel
theorem dL_802 : decode code 802 = .ok (.iconst 1, 1) := by decide +kernel
theorem dL_803 : decode code 803 = .ok (.iadd, 1) := by decide +kernel
theorem dL_804 : decode code 804 = .ok (.iaload, 1) := by decide +kernel
theorem dL_805 : decode code 805 = .ok (.invokevirtual 101, 3) := by decide +kernel
theorem dL_808 : decode code 808 = .ok (.aload_n 2, 1) := by decide +kernel
theorem dL_809 : decode code 809 = .ok (.aload_n 0, 1) := by decide +kernel
theorem dL_810 : decode code 810 = .ok (.iload_n 3, 1) := by decide +kernel
theorem dL_811 : decode code 811 = .ok (.iconst 1, 1) := by decide +kernel
theorem dL_812 : decode code 812 = .ok (.iadd, 1) := by decide +kernel
theorem dL_813 : decode code 813 = .ok (.iaload, 1) := by decide +kernel
theorem dL_814 : decode code 814 = .ok (.invokevirtual 104, 3) := by decide +kernel
theorem dL_817 : decode code 817 = .ok (.if_icmp .eq 783, 3) := by decide +kernel
theorem dL_820 : decode code 820 = .ok (.iconst 0, 1) := by decide +kernel
theorem dL_821 : decode code 821 = .ok (.ireturn, 1) := by decide +kernel
theorem case_21 (C : CL p s m meth c b L xs D cA aC aR) {i : Nat} {MC MR : Mem} (hi : i + 4 ≤ L) (hL : L ≤ 2048) (hI : Inv MC MR) (kk : ∀ MC' MR' : Mem, Inv MC' MR' → KL p l e s m below meth c b D cA aC aR 1600 (lvL b aC aR i) [] MC' MR') : KL p l e s m below meth c b D cA aC aR 799 (lvL b aC aR i) [] MC MR := by
  obtain ⟨v, MC', MR', e1, e2, hI2⟩ := sim_fits hI (xs (i + 1))
  refine w_ald C 1 (by decide) rfl rfl dL_799 ?_
  refine w_arg (k := 1) C (by omega) (by omega) dL_800 dL_801 dL_802 (by decide) dL_803 dL_804 ?_
  refine w_callCi C (As := [.int (xs (i + 1))]) (c_X11_fits C.2.2.2.2.1 (xs (i + 1)) _ _ e1) mlw_X11_fits (bw 813 (by decide +kernel) (by decide +kernel)) rfl rfl (st := []) rfl ⟨Nat.le_of_ble_eq_true rfl, Nat.le_of_ble_eq_true rfl⟩ (Nat.le_of_ble_eq_true rfl) dL_805 ?_
  refine w_ald C 2 (by decide) rfl rfl dL_808 ?_
  refine w_arg (k := 1) C (by omega) (by omega) dL_809 dL_810 dL_811 (by decide) dL_812 dL_813 ?_
  refine w_callRi C (As := [.int (xs (i + 1))]) (c_X12_fits C.2.2.2.2.2.1 (xs (i + 1)) _ _ e2) mlw_X12_fits (bw 1581 (by decide +kernel) (by decide +kernel)) rfl rfl (st := [.int v]) rfl ⟨Nat.le_of_ble_eq_true rfl, Nat.le_of_ble_eq_true rfl⟩ (Nat.le_of_ble_eq_true rfl) dL_814 ?_
  exact w_eq C (tgt := 1600) dL_817 (by decide) (kk MC' MR' hI2)
theorem mlw_X11_tellsMost : ML yX11_tellsMost cX11_tellsMost 2 (some .int) 1 := ⟨(bw 833 (by decide +kernel) (by decide +kernel)), (bw 834 (by decide +kernel) (by decide +kernel)), (bw 99 (by decide +kernel) (by decide +kernel)), (bw 835 (by decide +kernel) (by decide +kernel)), ⟨by decide +kernel, by decide +kernel⟩, by decide +kernel⟩
theorem mlw_X12_tellsMost : ML yX12_tellsMost cX12_tellsMost 7 (some .int) 1 := ⟨(bw 1590 (by decide +kernel) (by decide +kernel)), (bw 1591 (by decide +kernel) (by decide +kernel)), (bw 111 (by decide +kernel) (by decide +kernel)), (bw 1592 (by decide +kernel) (by decide +kernel)), ⟨by decide +kernel, by decide +kernel⟩, by decide +kernel⟩
theorem dL_822 : decode code 822 = .ok (.aload_n 1, 1) := by decide +kernel
theorem dL_823 : decode code 823 = .ok (.aload_n 0, 1) := by decide +kernel
theorem dL_824 : decode code 824 = .ok (.iload_n 3, 1) := by decide +kernel
theorem dL_825 : decode code 825 = .ok (.iconst 1, 1) := by decide +kernel
theorem dL_826 : decode code 826 = .ok (.iadd, 1) := by decide +kernel
theorem dL_827 : decode code 827 = .ok (.iaload, 1) := by decide +kernel
theorem dL_828 : decode code 828 = .ok (.invokevirtual 105, 3) := by decide +kernel
theorem dL_831 : decode code 831 = .ok (.aload_n 2, 1) := by decide +kernel
theorem dL_832 : decode code 832 = .ok (.aload_n 0, 1) := by decide +kernel
theorem dL_833 : decode code 833 = .ok (.iload_n 3, 1) := by decide +kernel
theorem dL_834 : decode code 834 = .ok (.iconst 1, 1) := by decide +kernel
theorem dL_835 : decode code 835 = .ok (.iadd, 1) := by decide +kernel
theorem dL_836 : decode code 836 = .ok (.iaload, 1) := by decide +kernel
theorem dL_837 : decode code 837 = .ok (.invokevirtual 108, 3) := by decide +kernel
theorem dL_840 : decode code 840 = .ok (.if_icmp .eq 760, 3) := by decide +kernel
theorem dL_843 : decode code 843 = .ok (.iconst 0, 1) := by decide +kernel
theorem dL_844 : decode code 844 = .ok (.ireturn, 1) := by decide +kernel
theorem case_22 (C : CL p s m meth c b L xs D cA aC aR) {i : Nat} {MC MR : Mem} (hi : i + 4 ≤ L) (hL : L ≤ 2048) (hI : Inv MC MR) (kk : ∀ MC' MR' : Mem, Inv MC' MR' → KL p l e s m below meth c b D cA aC aR 1600 (lvL b aC aR i) [] MC' MR') : KL p l e s m below meth c b D cA aC aR 822 (lvL b aC aR i) [] MC MR := by
  obtain ⟨v, MC', MR', e1, e2, hI2⟩ := sim_tellsMost hI (xs (i + 1))
  refine w_ald C 1 (by decide) rfl rfl dL_822 ?_
  refine w_arg (k := 1) C (by omega) (by omega) dL_823 dL_824 dL_825 (by decide) dL_826 dL_827 ?_
  refine w_callCi C (As := [.int (xs (i + 1))]) (c_X11_tellsMost C.2.2.2.2.1 (xs (i + 1)) _ _ e1) mlw_X11_tellsMost (bw 832 (by decide +kernel) (by decide +kernel)) rfl rfl (st := []) rfl ⟨Nat.le_of_ble_eq_true rfl, Nat.le_of_ble_eq_true rfl⟩ (Nat.le_of_ble_eq_true rfl) dL_828 ?_
  refine w_ald C 2 (by decide) rfl rfl dL_831 ?_
  refine w_arg (k := 1) C (by omega) (by omega) dL_832 dL_833 dL_834 (by decide) dL_835 dL_836 ?_
  refine w_callRi C (As := [.int (xs (i + 1))]) (c_X12_tellsMost C.2.2.2.2.2.1 (xs (i + 1)) _ _ e2) mlw_X12_tellsMost (bw 1589 (by decide +kernel) (by decide +kernel)) rfl rfl (st := [.int v]) rfl ⟨Nat.le_of_ble_eq_true rfl, Nat.le_of_ble_eq_true rfl⟩ (Nat.le_of_ble_eq_true rfl) dL_837 ?_
  exact w_eq C (tgt := 1600) dL_840 (by decide) (kk MC' MR' hI2)
theorem mlw_X11_loophole : ML yX11_loophole cX11_loophole 1 (some .int) 0 := ⟨(bw 858 (by decide +kernel) (by decide +kernel)), (bw 859 (by decide +kernel) (by decide +kernel)), (bw 99 (by decide +kernel) (by decide +kernel)), (bw 860 (by decide +kernel) (by decide +kernel)), ⟨by decide +kernel, by decide +kernel⟩, by decide +kernel⟩
theorem mlw_X12_loophole : ML yX12_loophole cX12_loophole 5 (some .int) 0 := ⟨(bw 1598 (by decide +kernel) (by decide +kernel)), (bw 1599 (by decide +kernel) (by decide +kernel)), (bw 111 (by decide +kernel) (by decide +kernel)), (bw 1600 (by decide +kernel) (by decide +kernel)), ⟨by decide +kernel, by decide +kernel⟩, by decide +kernel⟩
theorem dL_845 : decode code 845 = .ok (.aload_n 1, 1) := by decide +kernel
theorem dL_846 : decode code 846 = .ok (.invokevirtual 109, 3) := by decide +kernel
theorem dL_849 : decode code 849 = .ok (.aload_n 2, 1) := by decide +kernel
theorem dL_850 : decode code 850 = .ok (.invokevirtual 112, 3) := by decide +kernel
theorem dL_853 : decode code 853 = .ok (.if_icmp .eq 747, 3) := by decide +kernel
theorem dL_856 : decode code 856 = .ok (.iconst 0, 1) := by decide +kernel
theorem dL_857 : decode code 857 = .ok (.ireturn, 1) := by decide +kernel
theorem case_23 (C : CL p s m meth c b L xs D cA aC aR) {i : Nat} {MC MR : Mem} (hi : i + 4 ≤ L) (hL : L ≤ 2048) (hI : Inv MC MR) (kk : ∀ MC' MR' : Mem, Inv MC' MR' → KL p l e s m below meth c b D cA aC aR 1600 (lvL b aC aR i) [] MC' MR') : KL p l e s m below meth c b D cA aC aR 845 (lvL b aC aR i) [] MC MR := by
  obtain ⟨v, MC', MR', e1, e2, hI2⟩ := sim_loophole hI
  refine w_ald C 1 (by decide) rfl rfl dL_845 ?_
  refine w_callCi C (As := []) (c_X11_loophole C.2.2.2.2.1 _ _ e1) mlw_X11_loophole (bw 857 (by decide +kernel) (by decide +kernel)) rfl rfl (st := []) rfl ⟨Nat.le_of_ble_eq_true rfl, Nat.le_of_ble_eq_true rfl⟩ (Nat.le_of_ble_eq_true rfl) dL_846 ?_
  refine w_ald C 2 (by decide) rfl rfl dL_849 ?_
  refine w_callRi C (As := []) (c_X12_loophole C.2.2.2.2.2.1 _ _ e2) mlw_X12_loophole (bw 1597 (by decide +kernel) (by decide +kernel)) rfl rfl (st := [.int v]) rfl ⟨Nat.le_of_ble_eq_true rfl, Nat.le_of_ble_eq_true rfl⟩ (Nat.le_of_ble_eq_true rfl) dL_850 ?_
  exact w_eq C (tgt := 1600) dL_853 (by decide) (kk MC' MR' hI2)
theorem mlw_X11_shared : ML yX11_shared cX11_shared 2 (some .int) 1 := ⟨(bw 872 (by decide +kernel) (by decide +kernel)), (bw 873 (by decide +kernel) (by decide +kernel)), (bw 99 (by decide +kernel) (by decide +kernel)), (bw 874 (by decide +kernel) (by decide +kernel)), ⟨by decide +kernel, by decide +kernel⟩, by decide +kernel⟩
theorem mlw_X12_shared : ML yX12_shared cX12_shared 6 (some .int) 1 := ⟨(bw 1602 (by decide +kernel) (by decide +kernel)), (bw 1603 (by decide +kernel) (by decide +kernel)), (bw 111 (by decide +kernel) (by decide +kernel)), (bw 1604 (by decide +kernel) (by decide +kernel)), ⟨by decide +kernel, by decide +kernel⟩, by decide +kernel⟩
theorem dL_858 : decode code 858 = .ok (.aload_n 1, 1) := by decide +kernel
theorem dL_859 : decode code 859 = .ok (.aload_n 0, 1) := by decide +kernel
theorem dL_860 : decode code 860 = .ok (.iload_n 3, 1) := by decide +kernel
theorem dL_861 : decode code 861 = .ok (.iconst 1, 1) := by decide +kernel
theorem dL_862 : decode code 862 = .ok (.iadd, 1) := by decide +kernel
theorem dL_863 : decode code 863 = .ok (.iaload, 1) := by decide +kernel
theorem dL_864 : decode code 864 = .ok (.invokevirtual 113, 3) := by decide +kernel
theorem dL_867 : decode code 867 = .ok (.aload_n 2, 1) := by decide +kernel
theorem dL_868 : decode code 868 = .ok (.aload_n 0, 1) := by decide +kernel
theorem dL_869 : decode code 869 = .ok (.iload_n 3, 1) := by decide +kernel
theorem dL_870 : decode code 870 = .ok (.iconst 1, 1) := by decide +kernel
theorem dL_871 : decode code 871 = .ok (.iadd, 1) := by decide +kernel
theorem dL_872 : decode code 872 = .ok (.iaload, 1) := by decide +kernel
theorem dL_873 : decode code 873 = .ok (.invokevirtual 116, 3) := by decide +kernel
theorem dL_876 : decode code 876 = .ok (.if_icmp .eq 724, 3) := by decide +kernel
theorem dL_879 : decode code 879 = .ok (.iconst 0, 1) := by decide +kernel
theorem dL_880 : decode code 880 = .ok (.ireturn, 1) := by decide +kernel
theorem case_24 (C : CL p s m meth c b L xs D cA aC aR) {i : Nat} {MC MR : Mem} (hi : i + 4 ≤ L) (hL : L ≤ 2048) (hI : Inv MC MR) (kk : ∀ MC' MR' : Mem, Inv MC' MR' → KL p l e s m below meth c b D cA aC aR 1600 (lvL b aC aR i) [] MC' MR') : KL p l e s m below meth c b D cA aC aR 858 (lvL b aC aR i) [] MC MR := by
  obtain ⟨v, MC', MR', e1, e2, hI2⟩ := sim_shared hI (xs (i + 1))
  refine w_ald C 1 (by decide) rfl rfl dL_858 ?_
  refine w_arg (k := 1) C (by omega) (by omega) dL_859 dL_860 dL_861 (by decide) dL_862 dL_863 ?_
  refine w_callCi C (As := [.int (xs (i + 1))]) (c_X11_shared C.2.2.2.2.1 (xs (i + 1)) _ _ e1) mlw_X11_shared (bw 871 (by decide +kernel) (by decide +kernel)) rfl rfl (st := []) rfl ⟨Nat.le_of_ble_eq_true rfl, Nat.le_of_ble_eq_true rfl⟩ (Nat.le_of_ble_eq_true rfl) dL_864 ?_
  refine w_ald C 2 (by decide) rfl rfl dL_867 ?_
  refine w_arg (k := 1) C (by omega) (by omega) dL_868 dL_869 dL_870 (by decide) dL_871 dL_872 ?_
  refine w_callRi C (As := [.int (xs (i + 1))]) (c_X12_shared C.2.2.2.2.2.1 (xs (i + 1)) _ _ e2) mlw_X12_shared (bw 1601 (by decide +kernel) (by decide +kernel)) rfl rfl (st := [.int v]) rfl ⟨Nat.le_of_ble_eq_true rfl, Nat.le_of_ble_eq_true rfl⟩ (Nat.le_of_ble_eq_true rfl) dL_873 ?_
  exact w_eq C (tgt := 1600) dL_876 (by decide) (kk MC' MR' hI2)
theorem mlw_X11_saves : ML yX11_saves cX11_saves 2 (some .int) 1 := ⟨(bw 896 (by decide +kernel) (by decide +kernel)), (bw 897 (by decide +kernel) (by decide +kernel)), (bw 99 (by decide +kernel) (by decide +kernel)), (bw 898 (by decide +kernel) (by decide +kernel)), ⟨by decide +kernel, by decide +kernel⟩, by decide +kernel⟩
theorem mlw_X12_saves : ML yX12_saves cX12_saves 4 (some .int) 1 := ⟨(bw 1610 (by decide +kernel) (by decide +kernel)), (bw 1611 (by decide +kernel) (by decide +kernel)), (bw 111 (by decide +kernel) (by decide +kernel)), (bw 1612 (by decide +kernel) (by decide +kernel)), ⟨by decide +kernel, by decide +kernel⟩, by decide +kernel⟩
theorem dL_881 : decode code 881 = .ok (.aload_n 1, 1) := by decide +kernel
theorem dL_882 : decode code 882 = .ok (.aload_n 0, 1) := by decide +kernel
theorem dL_883 : decode code 883 = .ok (.iload_n 3, 1) := by decide +kernel
theorem dL_884 : decode code 884 = .ok (.iconst 1, 1) := by decide +kernel
theorem dL_885 : decode code 885 = .ok (.iadd, 1) := by decide +kernel
theorem dL_886 : decode code 886 = .ok (.iaload, 1) := by decide +kernel
theorem dL_887 : decode code 887 = .ok (.invokevirtual 117, 3) := by decide +kernel
theorem dL_890 : decode code 890 = .ok (.aload_n 2, 1) := by decide +kernel
theorem dL_891 : decode code 891 = .ok (.aload_n 0, 1) := by decide +kernel
theorem dL_892 : decode code 892 = .ok (.iload_n 3, 1) := by decide +kernel
theorem dL_893 : decode code 893 = .ok (.iconst 1, 1) := by decide +kernel
theorem dL_894 : decode code 894 = .ok (.iadd, 1) := by decide +kernel
theorem dL_895 : decode code 895 = .ok (.iaload, 1) := by decide +kernel
theorem dL_896 : decode code 896 = .ok (.invokevirtual 120, 3) := by decide +kernel
theorem dL_899 : decode code 899 = .ok (.if_icmp .eq 701, 3) := by decide +kernel
theorem dL_902 : decode code 902 = .ok (.iconst 0, 1) := by decide +kernel
theorem dL_903 : decode code 903 = .ok (.ireturn, 1) := by decide +kernel
theorem case_25 (C : CL p s m meth c b L xs D cA aC aR) {i : Nat} {MC MR : Mem} (hi : i + 4 ≤ L) (hL : L ≤ 2048) (hI : Inv MC MR) (kk : ∀ MC' MR' : Mem, Inv MC' MR' → KL p l e s m below meth c b D cA aC aR 1600 (lvL b aC aR i) [] MC' MR') : KL p l e s m below meth c b D cA aC aR 881 (lvL b aC aR i) [] MC MR := by
  obtain ⟨v, MC', MR', e1, e2, hI2⟩ := sim_saves hI (xs (i + 1))
  refine w_ald C 1 (by decide) rfl rfl dL_881 ?_
  refine w_arg (k := 1) C (by omega) (by omega) dL_882 dL_883 dL_884 (by decide) dL_885 dL_886 ?_
  refine w_callCi C (As := [.int (xs (i + 1))]) (c_X11_saves C.2.2.2.2.1 (xs (i + 1)) _ _ e1) mlw_X11_saves (bw 895 (by decide +kernel) (by decide +kernel)) rfl rfl (st := []) rfl ⟨Nat.le_of_ble_eq_true rfl, Nat.le_of_ble_eq_true rfl⟩ (Nat.le_of_ble_eq_true rfl) dL_887 ?_
  refine w_ald C 2 (by decide) rfl rfl dL_890 ?_
  refine w_arg (k := 1) C (by omega) (by omega) dL_891 dL_892 dL_893 (by decide) dL_894 dL_895 ?_
  refine w_callRi C (As := [.int (xs (i + 1))]) (c_X12_saves C.2.2.2.2.2.1 (xs (i + 1)) _ _ e2) mlw_X12_saves (bw 1609 (by decide +kernel) (by decide +kernel)) rfl rfl (st := [.int v]) rfl ⟨Nat.le_of_ble_eq_true rfl, Nat.le_of_ble_eq_true rfl⟩ (Nat.le_of_ble_eq_true rfl) dL_896 ?_
  exact w_eq C (tgt := 1600) dL_899 (by decide) (kk MC' MR' hI2)
theorem mlw_X11_turned : ML yX11_turned cX11_turned 1 (some .int) 0 := ⟨(bw 914 (by decide +kernel) (by decide +kernel)), (bw 915 (by decide +kernel) (by decide +kernel)), (bw 99 (by decide +kernel) (by decide +kernel)), (bw 916 (by decide +kernel) (by decide +kernel)), ⟨by decide +kernel, by decide +kernel⟩, by decide +kernel⟩
theorem mlw_X12_turned : ML yX12_turned cX12_turned 2 (some .int) 0 := ⟨(bw 1618 (by decide +kernel) (by decide +kernel)), (bw 1619 (by decide +kernel) (by decide +kernel)), (bw 111 (by decide +kernel) (by decide +kernel)), (bw 1620 (by decide +kernel) (by decide +kernel)), ⟨by decide +kernel, by decide +kernel⟩, by decide +kernel⟩
theorem dL_904 : decode code 904 = .ok (.aload_n 1, 1) := by decide +kernel
theorem dL_905 : decode code 905 = .ok (.invokevirtual 121, 3) := by decide +kernel
theorem dL_908 : decode code 908 = .ok (.aload_n 2, 1) := by decide +kernel
theorem dL_909 : decode code 909 = .ok (.invokevirtual 124, 3) := by decide +kernel
theorem dL_912 : decode code 912 = .ok (.if_icmp .eq 688, 3) := by decide +kernel
theorem dL_915 : decode code 915 = .ok (.iconst 0, 1) := by decide +kernel
theorem dL_916 : decode code 916 = .ok (.ireturn, 1) := by decide +kernel
theorem case_26 (C : CL p s m meth c b L xs D cA aC aR) {i : Nat} {MC MR : Mem} (hi : i + 4 ≤ L) (hL : L ≤ 2048) (hI : Inv MC MR) (kk : ∀ MC' MR' : Mem, Inv MC' MR' → KL p l e s m below meth c b D cA aC aR 1600 (lvL b aC aR i) [] MC' MR') : KL p l e s m below meth c b D cA aC aR 904 (lvL b aC aR i) [] MC MR := by
  obtain ⟨v, MC', MR', e1, e2, hI2⟩ := sim_turned hI
  refine w_ald C 1 (by decide) rfl rfl dL_904 ?_
  refine w_callCi C (As := []) (c_X11_turned C.2.2.2.2.1 _ _ e1) mlw_X11_turned (bw 913 (by decide +kernel) (by decide +kernel)) rfl rfl (st := []) rfl ⟨Nat.le_of_ble_eq_true rfl, Nat.le_of_ble_eq_true rfl⟩ (Nat.le_of_ble_eq_true rfl) dL_905 ?_
  refine w_ald C 2 (by decide) rfl rfl dL_908 ?_
  refine w_callRi C (As := []) (c_X12_turned C.2.2.2.2.2.1 _ _ e2) mlw_X12_turned (bw 1617 (by decide +kernel) (by decide +kernel)) rfl rfl (st := [.int v]) rfl ⟨Nat.le_of_ble_eq_true rfl, Nat.le_of_ble_eq_true rfl⟩ (Nat.le_of_ble_eq_true rfl) dL_909 ?_
  exact w_eq C (tgt := 1600) dL_912 (by decide) (kk MC' MR' hI2)
theorem mlw_X11_changed : ML yX11_changed cX11_changed 1 (some .int) 0 := ⟨(bw 922 (by decide +kernel) (by decide +kernel)), (bw 923 (by decide +kernel) (by decide +kernel)), (bw 99 (by decide +kernel) (by decide +kernel)), (bw 924 (by decide +kernel) (by decide +kernel)), ⟨by decide +kernel, by decide +kernel⟩, by decide +kernel⟩
theorem mlw_X12_changed : ML yX12_changed cX12_changed 6 (some .int) 0 := ⟨(bw 1626 (by decide +kernel) (by decide +kernel)), (bw 1627 (by decide +kernel) (by decide +kernel)), (bw 111 (by decide +kernel) (by decide +kernel)), (bw 1628 (by decide +kernel) (by decide +kernel)), ⟨by decide +kernel, by decide +kernel⟩, by decide +kernel⟩
theorem dL_917 : decode code 917 = .ok (.aload_n 1, 1) := by decide +kernel
theorem dL_918 : decode code 918 = .ok (.invokevirtual 125, 3) := by decide +kernel
theorem dL_921 : decode code 921 = .ok (.aload_n 2, 1) := by decide +kernel
theorem dL_922 : decode code 922 = .ok (.invokevirtual 128, 3) := by decide +kernel
theorem dL_925 : decode code 925 = .ok (.if_icmp .eq 675, 3) := by decide +kernel
theorem dL_928 : decode code 928 = .ok (.iconst 0, 1) := by decide +kernel
theorem dL_929 : decode code 929 = .ok (.ireturn, 1) := by decide +kernel
theorem case_27 (C : CL p s m meth c b L xs D cA aC aR) {i : Nat} {MC MR : Mem} (hi : i + 4 ≤ L) (hL : L ≤ 2048) (hI : Inv MC MR) (kk : ∀ MC' MR' : Mem, Inv MC' MR' → KL p l e s m below meth c b D cA aC aR 1600 (lvL b aC aR i) [] MC' MR') : KL p l e s m below meth c b D cA aC aR 917 (lvL b aC aR i) [] MC MR := by
  obtain ⟨v, MC', MR', e1, e2, hI2⟩ := sim_changed hI
  refine w_ald C 1 (by decide) rfl rfl dL_917 ?_
  refine w_callCi C (As := []) (c_X11_changed C.2.2.2.2.1 _ _ e1) mlw_X11_changed (bw 921 (by decide +kernel) (by decide +kernel)) rfl rfl (st := []) rfl ⟨Nat.le_of_ble_eq_true rfl, Nat.le_of_ble_eq_true rfl⟩ (Nat.le_of_ble_eq_true rfl) dL_918 ?_
  refine w_ald C 2 (by decide) rfl rfl dL_921 ?_
  refine w_callRi C (As := []) (c_X12_changed C.2.2.2.2.2.1 _ _ e2) mlw_X12_changed (bw 1625 (by decide +kernel) (by decide +kernel)) rfl rfl (st := [.int v]) rfl ⟨Nat.le_of_ble_eq_true rfl, Nat.le_of_ble_eq_true rfl⟩ (Nat.le_of_ble_eq_true rfl) dL_922 ?_
  exact w_eq C (tgt := 1600) dL_925 (by decide) (kk MC' MR' hI2)
end CASES
