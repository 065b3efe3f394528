/-! the law, call by call -/
section CASES
variable {p : Program} {l : Launch} {e : Env} {s : State} {m : MethodId} {below : List Frame} {meth : Method} {c : Code} {b L : Nat} {xs : Nat → Int32} {D : va_G} {cA : Nat → ClassId} {aC aR : Nat → Nat}
theorem mlw_X11_wants : ML yX11_wants cX11_wants 3 (some .int) 2 := ⟨(bw 934 (by decide +kernel) (by decide +kernel)), (bw 935 (by decide +kernel) (by decide +kernel)), (bw 99 (by decide +kernel) (by decide +kernel)), (bw 936 (by decide +kernel) (by decide +kernel)), ⟨by decide +kernel, by decide +kernel⟩, by decide +kernel⟩
theorem mlw_X12_wants : ML yX12_wants cX12_wants 7 (some .int) 2 := ⟨(bw 1630 (by decide +kernel) (by decide +kernel)), (bw 1631 (by decide +kernel) (by decide +kernel)), (bw 111 (by decide +kernel) (by decide +kernel)), (bw 1632 (by decide +kernel) (by decide +kernel)), ⟨by decide +kernel, by decide +kernel⟩, by decide +kernel⟩
theorem dL_930 : decode code 930 = .ok (.aload_n 1, 1) := by decide +kernel
theorem dL_931 : decode code 931 = .ok (.aload_n 0, 1) := by decide +kernel
theorem dL_932 : decode code 932 = .ok (.iload_n 3, 1) := by decide +kernel
theorem dL_933 : decode code 933 = .ok (.iconst 1, 1) := by decide +kernel
theorem dL_934 : decode code 934 = .ok (.iadd, 1) := by decide +kernel
theorem dL_935 : decode code 935 = .ok (.iaload, 1) := by decide +kernel
theorem dL_936 : decode code 936 = .ok (.aload_n 0, 1) := by decide +kernel
theorem dL_937 : decode code 937 = .ok (.iload_n 3, 1) := by decide +kernel
theorem dL_938 : decode code 938 = .ok (.iconst 2, 1) := by decide +kernel
theorem dL_939 : decode code 939 = .ok (.iadd, 1) := by decide +kernel
theorem dL_940 : decode code 940 = .ok (.iaload, 1) := by decide +kernel
theorem dL_941 : decode code 941 = .ok (.invokevirtual 129, 3) := by decide +kernel
theorem dL_944 : decode code 944 = .ok (.aload_n 2, 1) := by decide +kernel
theorem dL_945 : decode code 945 = .ok (.aload_n 0, 1) := by decide +kernel
theorem dL_946 : decode code 946 = .ok (.iload_n 3, 1) := by decide +kernel
theorem dL_947 : decode code 947 = .ok (.iconst 1, 1) := by decide +kernel
theorem dL_948 : decode code 948 = .ok (.iadd, 1) := by decide +kernel
theorem dL_949 : decode code 949 = .ok (.iaload, 1) := by decide +kernel
theorem dL_950 : decode code 950 = .ok (.aload_n 0, 1) := by decide +kernel
theorem dL_951 : decode code 951 = .ok (.iload_n 3, 1) := by decide +kernel
theorem dL_952 : decode code 952 = .ok (.iconst 2, 1) := by decide +kernel
theorem dL_953 : decode code 953 = .ok (.iadd, 1) := by decide +kernel
theorem dL_954 : decode code 954 = .ok (.iaload, 1) := by decide +kernel
theorem dL_955 : decode code 955 = .ok (.invokevirtual 132, 3) := by decide +kernel
theorem dL_958 : decode code 958 = .ok (.if_icmp .eq 642, 3) := by decide +kernel
theorem dL_961 : decode code 961 = .ok (.iconst 0, 1) := by decide +kernel
theorem dL_962 : decode code 962 = .ok (.ireturn, 1) := by decide +kernel
theorem case_28 (C : CL p s m meth c b L xs D cA aC aR) {i : Nat} {MC MR : Mem} (hi : i + 4 ≤ L) (hL : L ≤ 2048) (hI : Inv MC MR) (kk : ∀ MC' MR' : Mem, Inv MC' MR' → KL p l e s m below meth c b D cA aC aR 1600 (lvL b aC aR i) [] MC' MR') : KL p l e s m below meth c b D cA aC aR 930 (lvL b aC aR i) [] MC MR := by
  obtain ⟨v, MC', MR', e1, e2, hI2⟩ := sim_wants hI (xs (i + 1)) (xs (i + 2))
  refine w_ald C 1 (by decide) rfl rfl dL_930 ?_
  refine w_arg (k := 1) C (by omega) (by omega) dL_931 dL_932 dL_933 (by decide) dL_934 dL_935 ?_
  refine w_arg (k := 2) C (by omega) (by omega) dL_936 dL_937 dL_938 (by decide) dL_939 dL_940 ?_
  refine w_callCi C (As := [.int (xs (i + 1)), .int (xs (i + 2))]) (c_X11_wants C.2.2.2.2.1 (xs (i + 1)) (xs (i + 2)) _ _ e1) mlw_X11_wants (bw 933 (by decide +kernel) (by decide +kernel)) rfl rfl (st := []) rfl ⟨Nat.le_of_ble_eq_true rfl, Nat.le_of_ble_eq_true rfl⟩ (Nat.le_of_ble_eq_true rfl) dL_941 ?_
  refine w_ald C 2 (by decide) rfl rfl dL_944 ?_
  refine w_arg (k := 1) C (by omega) (by omega) dL_945 dL_946 dL_947 (by decide) dL_948 dL_949 ?_
  refine w_arg (k := 2) C (by omega) (by omega) dL_950 dL_951 dL_952 (by decide) dL_953 dL_954 ?_
  refine w_callRi C (As := [.int (xs (i + 1)), .int (xs (i + 2))]) (c_X12_wants C.2.2.2.2.2.1 (xs (i + 1)) (xs (i + 2)) _ _ e2) mlw_X12_wants (bw 1629 (by decide +kernel) (by decide +kernel)) rfl rfl (st := [.int v]) rfl ⟨Nat.le_of_ble_eq_true rfl, Nat.le_of_ble_eq_true rfl⟩ (Nat.le_of_ble_eq_true rfl) dL_955 ?_
  exact w_eq C (tgt := 1600) dL_958 (by decide) (kk MC' MR' hI2)
theorem mlw_X11_songs : ML yX11_songs cX11_songs 3 (some .long) 2 := ⟨(bw 954 (by decide +kernel) (by decide +kernel)), (bw 955 (by decide +kernel) (by decide +kernel)), (bw 99 (by decide +kernel) (by decide +kernel)), (bw 956 (by decide +kernel) (by decide +kernel)), ⟨by decide +kernel, by decide +kernel⟩, by decide +kernel⟩
theorem mlw_X12_songs : ML yX12_songs cX12_songs 8 (some .long) 2 := ⟨(bw 1642 (by decide +kernel) (by decide +kernel)), (bw 1643 (by decide +kernel) (by decide +kernel)), (bw 111 (by decide +kernel) (by decide +kernel)), (bw 1644 (by decide +kernel) (by decide +kernel)), ⟨by decide +kernel, by decide +kernel⟩, by decide +kernel⟩
theorem dL_963 : decode code 963 = .ok (.aload_n 1, 1) := by decide +kernel
theorem dL_964 : decode code 964 = .ok (.aload_n 0, 1) := by decide +kernel
theorem dL_965 : decode code 965 = .ok (.iload_n 3, 1) := by decide +kernel
theorem dL_966 : decode code 966 = .ok (.iconst 1, 1) := by decide +kernel
theorem dL_967 : decode code 967 = .ok (.iadd, 1) := by decide +kernel
theorem dL_968 : decode code 968 = .ok (.iaload, 1) := by decide +kernel
theorem dL_969 : decode code 969 = .ok (.aload_n 0, 1) := by decide +kernel
theorem dL_970 : decode code 970 = .ok (.iload_n 3, 1) := by decide +kernel
theorem dL_971 : decode code 971 = .ok (.iconst 2, 1) := by decide +kernel
theorem dL_972 : decode code 972 = .ok (.iadd, 1) := by decide +kernel
theorem dL_973 : decode code 973 = .ok (.iaload, 1) := by decide +kernel
theorem dL_974 : decode code 974 = .ok (.invokevirtual 133, 3) := by decide +kernel
theorem dL_977 : decode code 977 = .ok (.aload_n 2, 1) := by decide +kernel
theorem dL_978 : decode code 978 = .ok (.aload_n 0, 1) := by decide +kernel
theorem dL_979 : decode code 979 = .ok (.iload_n 3, 1) := by decide +kernel
theorem dL_980 : decode code 980 = .ok (.iconst 1, 1) := by decide +kernel
theorem dL_981 : decode code 981 = .ok (.iadd, 1) := by decide +kernel
theorem dL_982 : decode code 982 = .ok (.iaload, 1) := by decide +kernel
theorem dL_983 : decode code 983 = .ok (.aload_n 0, 1) := by decide +kernel
theorem dL_984 : decode code 984 = .ok (.iload_n 3, 1) := by decide +kernel
theorem dL_985 : decode code 985 = .ok (.iconst 2, 1) := by decide +kernel
theorem dL_986 : decode code 986 = .ok (.iadd, 1) := by decide +kernel
theorem dL_987 : decode code 987 = .ok (.iaload, 1) := by decide +kernel
theorem dL_988 : decode code 988 = .ok (.invokevirtual 137, 3) := by decide +kernel
theorem dL_991 : decode code 991 = .ok (.lcmp, 1) := by decide +kernel
theorem dL_992 : decode code 992 = .ok (.ifCond .eq 608, 3) := by decide +kernel
theorem dL_995 : decode code 995 = .ok (.iconst 0, 1) := by decide +kernel
theorem dL_996 : decode code 996 = .ok (.ireturn, 1) := by decide +kernel
theorem case_29 (C : CL p s m meth c b L xs D cA aC aR) {i : Nat} {MC MR : Mem} (hi : i + 4 ≤ L) (hL : L ≤ 2048) (hI : Inv MC MR) (kk : ∀ MC' MR' : Mem, Inv MC' MR' → KL p l e s m below meth c b D cA aC aR 1600 (lvL b aC aR i) [] MC' MR') : KL p l e s m below meth c b D cA aC aR 963 (lvL b aC aR i) [] MC MR := by
  obtain ⟨v, MC', MR', e1, e2, hI2⟩ := sim_songs hI (xs (i + 1)) (xs (i + 2))
  refine w_ald C 1 (by decide) rfl rfl dL_963 ?_
  refine w_arg (k := 1) C (by omega) (by omega) dL_964 dL_965 dL_966 (by decide) dL_967 dL_968 ?_
  refine w_arg (k := 2) C (by omega) (by omega) dL_969 dL_970 dL_971 (by decide) dL_972 dL_973 ?_
  refine w_callCl C (As := [.int (xs (i + 1)), .int (xs (i + 2))]) (c_X11_songs C.2.2.2.2.1 (xs (i + 1)) (xs (i + 2)) _ _ e1) mlw_X11_songs (bw 953 (by decide +kernel) (by decide +kernel)) rfl rfl (st := []) rfl ⟨Nat.le_of_ble_eq_true rfl, Nat.le_of_ble_eq_true rfl⟩ (Nat.le_of_ble_eq_true rfl) dL_974 ?_
  refine w_ald C 2 (by decide) rfl rfl dL_977 ?_
  refine w_arg (k := 1) C (by omega) (by omega) dL_978 dL_979 dL_980 (by decide) dL_981 dL_982 ?_
  refine w_arg (k := 2) C (by omega) (by omega) dL_983 dL_984 dL_985 (by decide) dL_986 dL_987 ?_
  refine w_callRl C (As := [.int (xs (i + 1)), .int (xs (i + 2))]) (c_X12_songs C.2.2.2.2.2.1 (xs (i + 1)) (xs (i + 2)) _ _ e2) mlw_X12_songs (bw 1641 (by decide +kernel) (by decide +kernel)) rfl rfl (st := [.long v]) rfl ⟨Nat.le_of_ble_eq_true rfl, Nat.le_of_ble_eq_true rfl⟩ (Nat.le_of_ble_eq_true rfl) dL_988 ?_
  refine w_lcmp C dL_991 ?_
  exact w_eq0 C (tgt := 1600) dL_992 (by decide) (kk MC' MR' hI2)
theorem mlw_X11_inspectors : ML yX11_inspectors cX11_inspectors 2 (some .int) 1 := ⟨(bw 979 (by decide +kernel) (by decide +kernel)), (bw 980 (by decide +kernel) (by decide +kernel)), (bw 99 (by decide +kernel) (by decide +kernel)), (bw 981 (by decide +kernel) (by decide +kernel)), ⟨by decide +kernel, by decide +kernel⟩, by decide +kernel⟩
theorem mlw_X12_inspectors : ML yX12_inspectors cX12_inspectors 5 (some .int) 1 := ⟨(bw 1655 (by decide +kernel) (by decide +kernel)), (bw 1656 (by decide +kernel) (by decide +kernel)), (bw 111 (by decide +kernel) (by decide +kernel)), (bw 1657 (by decide +kernel) (by decide +kernel)), ⟨by decide +kernel, by decide +kernel⟩, by decide +kernel⟩
theorem dL_997 : decode code 997 = .ok (.aload_n 1, 1) := by decide +kernel
theorem dL_998 : decode code 998 = .ok (.aload_n 0, 1) := by decide +kernel
theorem dL_999 : decode code 999 = .ok (.iload_n 3, 1) := by decide +kernel
theorem dL_1000 : decode code 1000 = .ok (.iconst 1, 1) := by decide +kernel
theorem dL_1001 : decode code 1001 = .ok (.iadd, 1) := by decide +kernel
theorem dL_1002 : decode code 1002 = .ok (.iaload, 1) := by decide +kernel
theorem dL_1003 : decode code 1003 = .ok (.invokevirtual 138, 3) := by decide +kernel
theorem dL_1006 : decode code 1006 = .ok (.aload_n 2, 1) := by decide +kernel
theorem dL_1007 : decode code 1007 = .ok (.aload_n 0, 1) := by decide +kernel
theorem dL_1008 : decode code 1008 = .ok (.iload_n 3, 1) := by decide +kernel
theorem dL_1009 : decode code 1009 = .ok (.iconst 1, 1) := by decide +kernel
theorem dL_1010 : decode code 1010 = .ok (.iadd, 1) := by decide +kernel
theorem dL_1011 : decode code 1011 = .ok (.iaload, 1) := by decide +kernel
theorem dL_1012 : decode code 1012 = .ok (.invokevirtual 141, 3) := by decide +kernel
theorem dL_1015 : decode code 1015 = .ok (.if_icmp .eq 585, 3) := by decide +kernel
theorem dL_1018 : decode code 1018 = .ok (.iconst 0, 1) := by decide +kernel
theorem dL_1019 : decode code 1019 = .ok (.ireturn, 1) := by decide +kernel
theorem case_30 (C : CL p s m meth c b L xs D cA aC aR) {i : Nat} {MC MR : Mem} (hi : i + 4 ≤ L) (hL : L ≤ 2048) (hI : Inv MC MR) (kk : ∀ MC' MR' : Mem, Inv MC' MR' → KL p l e s m below meth c b D cA aC aR 1600 (lvL b aC aR i) [] MC' MR') : KL p l e s m below meth c b D cA aC aR 997 (lvL b aC aR i) [] MC MR := by
  obtain ⟨v, MC', MR', e1, e2, hI2⟩ := sim_inspectors hI (xs (i + 1))
  refine w_ald C 1 (by decide) rfl rfl dL_997 ?_
  refine w_arg (k := 1) C (by omega) (by omega) dL_998 dL_999 dL_1000 (by decide) dL_1001 dL_1002 ?_
  refine w_callCi C (As := [.int (xs (i + 1))]) (c_X11_inspectors C.2.2.2.2.1 (xs (i + 1)) _ _ e1) mlw_X11_inspectors (bw 978 (by decide +kernel) (by decide +kernel)) rfl rfl (st := []) rfl ⟨Nat.le_of_ble_eq_true rfl, Nat.le_of_ble_eq_true rfl⟩ (Nat.le_of_ble_eq_true rfl) dL_1003 ?_
  refine w_ald C 2 (by decide) rfl rfl dL_1006 ?_
  refine w_arg (k := 1) C (by omega) (by omega) dL_1007 dL_1008 dL_1009 (by decide) dL_1010 dL_1011 ?_
  refine w_callRi C (As := [.int (xs (i + 1))]) (c_X12_inspectors C.2.2.2.2.2.1 (xs (i + 1)) _ _ e2) mlw_X12_inspectors (bw 1654 (by decide +kernel) (by decide +kernel)) rfl rfl (st := [.int v]) rfl ⟨Nat.le_of_ble_eq_true rfl, Nat.le_of_ble_eq_true rfl⟩ (Nat.le_of_ble_eq_true rfl) dL_1012 ?_
  exact w_eq C (tgt := 1600) dL_1015 (by decide) (kk MC' MR' hI2)
theorem mlw_X11_chance : ML yX11_chance cX11_chance 3 (some .long) 2 := ⟨(bw 987 (by decide +kernel) (by decide +kernel)), (bw 988 (by decide +kernel) (by decide +kernel)), (bw 99 (by decide +kernel) (by decide +kernel)), (bw 989 (by decide +kernel) (by decide +kernel)), ⟨by decide +kernel, by decide +kernel⟩, by decide +kernel⟩
theorem mlw_X12_chance : ML yX12_chance cX12_chance 10 (some .long) 2 := ⟨(bw 1659 (by decide +kernel) (by decide +kernel)), (bw 1660 (by decide +kernel) (by decide +kernel)), (bw 111 (by decide +kernel) (by decide +kernel)), (bw 1661 (by decide +kernel) (by decide +kernel)), ⟨by decide +kernel, by decide +kernel⟩, by decide +kernel⟩
theorem dL_1020 : decode code 1020 = .ok (.aload_n 1, 1) := by decide +kernel
theorem dL_1021 : decode code 1021 = .ok (.aload_n 0, 1) := by decide +kernel
theorem dL_1022 : decode code 1022 = .ok (.iload_n 3, 1) := by decide +kernel
theorem dL_1023 : decode code 1023 = .ok (.iconst 1, 1) := by decide +kernel
theorem dL_1024 : decode code 1024 = .ok (.iadd, 1) := by decide +kernel
theorem dL_1025 : decode code 1025 = .ok (.iaload, 1) := by decide +kernel
theorem dL_1026 : decode code 1026 = .ok (.aload_n 0, 1) := by decide +kernel
theorem dL_1027 : decode code 1027 = .ok (.iload_n 3, 1) := by decide +kernel
theorem dL_1028 : decode code 1028 = .ok (.iconst 2, 1) := by decide +kernel
theorem dL_1029 : decode code 1029 = .ok (.iadd, 1) := by decide +kernel
theorem dL_1030 : decode code 1030 = .ok (.iaload, 1) := by decide +kernel
theorem dL_1031 : decode code 1031 = .ok (.invokevirtual 142, 3) := by decide +kernel
theorem dL_1034 : decode code 1034 = .ok (.aload_n 2, 1) := by decide +kernel
theorem dL_1035 : decode code 1035 = .ok (.aload_n 0, 1) := by decide +kernel
theorem dL_1036 : decode code 1036 = .ok (.iload_n 3, 1) := by decide +kernel
theorem dL_1037 : decode code 1037 = .ok (.iconst 1, 1) := by decide +kernel
theorem dL_1038 : decode code 1038 = .ok (.iadd, 1) := by decide +kernel
theorem dL_1039 : decode code 1039 = .ok (.iaload, 1) := by decide +kernel
theorem dL_1040 : decode code 1040 = .ok (.aload_n 0, 1) := by decide +kernel
theorem dL_1041 : decode code 1041 = .ok (.iload_n 3, 1) := by decide +kernel
theorem dL_1042 : decode code 1042 = .ok (.iconst 2, 1) := by decide +kernel
theorem dL_1043 : decode code 1043 = .ok (.iadd, 1) := by decide +kernel
theorem dL_1044 : decode code 1044 = .ok (.iaload, 1) := by decide +kernel
theorem dL_1045 : decode code 1045 = .ok (.invokevirtual 145, 3) := by decide +kernel
theorem dL_1048 : decode code 1048 = .ok (.lcmp, 1) := by decide +kernel
theorem dL_1049 : decode code 1049 = .ok (.ifCond .eq 551, 3) := by decide +kernel
theorem dL_1052 : decode code 1052 = .ok (.iconst 0, 1) := by decide +kernel
theorem dL_1053 : decode code 1053 = .ok (.ireturn, 1) := by decide +kernel
theorem case_31 (C : CL p s m meth c b L xs D cA aC aR) {i : Nat} {MC MR : Mem} (hi : i + 4 ≤ L) (hL : L ≤ 2048) (hI : Inv MC MR) (kk : ∀ MC' MR' : Mem, Inv MC' MR' → KL p l e s m below meth c b D cA aC aR 1600 (lvL b aC aR i) [] MC' MR') : KL p l e s m below meth c b D cA aC aR 1020 (lvL b aC aR i) [] MC MR := by
  obtain ⟨v, MC', MR', e1, e2, hI2⟩ := sim_chance hI (xs (i + 1)) (xs (i + 2))
  refine w_ald C 1 (by decide) rfl rfl dL_1020 ?_
  refine w_arg (k := 1) C (by omega) (by omega) dL_1021 dL_1022 dL_1023 (by decide) dL_1024 dL_1025 ?_
  refine w_arg (k := 2) C (by omega) (by omega) dL_1026 dL_1027 dL_1028 (by decide) dL_1029 dL_1030 ?_
  refine w_callCl C (As := [.int (xs (i + 1)), .int (xs (i + 2))]) (c_X11_chance C.2.2.2.2.1 (xs (i + 1)) (xs (i + 2)) _ _ e1) mlw_X11_chance (bw 986 (by decide +kernel) (by decide +kernel)) rfl rfl (st := []) rfl ⟨Nat.le_of_ble_eq_true rfl, Nat.le_of_ble_eq_true rfl⟩ (Nat.le_of_ble_eq_true rfl) dL_1031 ?_
  refine w_ald C 2 (by decide) rfl rfl dL_1034 ?_
  refine w_arg (k := 1) C (by omega) (by omega) dL_1035 dL_1036 dL_1037 (by decide) dL_1038 dL_1039 ?_
  refine w_arg (k := 2) C (by omega) (by omega) dL_1040 dL_1041 dL_1042 (by decide) dL_1043 dL_1044 ?_
  refine w_callRl C (As := [.int (xs (i + 1)), .int (xs (i + 2))]) (c_X12_chance C.2.2.2.2.2.1 (xs (i + 1)) (xs (i + 2)) _ _ e2) mlw_X12_chance (bw 1658 (by decide +kernel) (by decide +kernel)) rfl rfl (st := [.long v]) rfl ⟨Nat.le_of_ble_eq_true rfl, Nat.le_of_ble_eq_true rfl⟩ (Nat.le_of_ble_eq_true rfl) dL_1045 ?_
  refine w_lcmp C dL_1048 ?_
  exact w_eq0 C (tgt := 1600) dL_1049 (by decide) (kk MC' MR' hI2)
theorem mlw_X11_mean : ML yX11_mean cX11_mean 2 (some .long) 1 := ⟨(bw 1007 (by decide +kernel) (by decide +kernel)), (bw 1008 (by decide +kernel) (by decide +kernel)), (bw 99 (by decide +kernel) (by decide +kernel)), (bw 1009 (by decide +kernel) (by decide +kernel)), ⟨by decide +kernel, by decide +kernel⟩, by decide +kernel⟩
theorem mlw_X12_mean : ML yX12_mean cX12_mean 2 (some .long) 1 := ⟨(bw 1669 (by decide +kernel) (by decide +kernel)), (bw 1670 (by decide +kernel) (by decide +kernel)), (bw 111 (by decide +kernel) (by decide +kernel)), (bw 1671 (by decide +kernel) (by decide +kernel)), ⟨by decide +kernel, by decide +kernel⟩, by decide +kernel⟩
theorem dL_1054 : decode code 1054 = .ok (.aload_n 1, 1) := by decide +kernel
theorem dL_1055 : decode code 1055 = .ok (.aload_n 0, 1) := by decide +kernel
theorem dL_1056 : decode code 1056 = .ok (.iload_n 3, 1) := by decide +kernel
theorem dL_1057 : decode code 1057 = .ok (.iconst 1, 1) := by decide +kernel
theorem dL_1058 : decode code 1058 = .ok (.iadd, 1) := by decide +kernel
theorem dL_1059 : decode code 1059 = .ok (.iaload, 1) := by decide +kernel
theorem dL_1060 : decode code 1060 = .ok (.invokevirtual 146, 3) := by decide +kernel
theorem dL_1063 : decode code 1063 = .ok (.aload_n 2, 1) := by decide +kernel
theorem dL_1064 : decode code 1064 = .ok (.aload_n 0, 1) := by decide +kernel
theorem dL_1065 : decode code 1065 = .ok (.iload_n 3, 1) := by decide +kernel
theorem dL_1066 : decode code 1066 = .ok (.iconst 1, 1) := by decide +kernel
theorem dL_1067 : decode code 1067 = .ok (.iadd, 1) := by decide +kernel
theorem dL_1068 : decode code 1068 = .ok (.iaload, 1) := by decide +kernel
theorem dL_1069 : decode code 1069 = .ok (.invokevirtual 150, 3) := by decide +kernel
theorem dL_1072 : decode code 1072 = .ok (.lcmp, 1) := by decide +kernel
theorem dL_1073 : decode code 1073 = .ok (.ifCond .eq 527, 3) := by decide +kernel
theorem dL_1076 : decode code 1076 = .ok (.iconst 0, 1) := by decide +kernel
theorem dL_1077 : decode code 1077 = .ok (.ireturn, 1) := by decide +kernel
theorem case_32 (C : CL p s m meth c b L xs D cA aC aR) {i : Nat} {MC MR : Mem} (hi : i + 4 ≤ L) (hL : L ≤ 2048) (hI : Inv MC MR) (kk : ∀ MC' MR' : Mem, Inv MC' MR' → KL p l e s m below meth c b D cA aC aR 1600 (lvL b aC aR i) [] MC' MR') : KL p l e s m below meth c b D cA aC aR 1054 (lvL b aC aR i) [] MC MR := by
  obtain ⟨v, MC', MR', e1, e2, hI2⟩ := sim_mean hI (xs (i + 1))
  refine w_ald C 1 (by decide) rfl rfl dL_1054 ?_
  refine w_arg (k := 1) C (by omega) (by omega) dL_1055 dL_1056 dL_1057 (by decide) dL_1058 dL_1059 ?_
  refine w_callCl C (As := [.int (xs (i + 1))]) (c_X11_mean C.2.2.2.2.1 (xs (i + 1)) _ _ e1) mlw_X11_mean (bw 1006 (by decide +kernel) (by decide +kernel)) rfl rfl (st := []) rfl ⟨Nat.le_of_ble_eq_true rfl, Nat.le_of_ble_eq_true rfl⟩ (Nat.le_of_ble_eq_true rfl) dL_1060 ?_
  refine w_ald C 2 (by decide) rfl rfl dL_1063 ?_
  refine w_arg (k := 1) C (by omega) (by omega) dL_1064 dL_1065 dL_1066 (by decide) dL_1067 dL_1068 ?_
  refine w_callRl C (As := [.int (xs (i + 1))]) (c_X12_mean C.2.2.2.2.2.1 (xs (i + 1)) _ _ e2) mlw_X12_mean (bw 1668 (by decide +kernel) (by decide +kernel)) rfl rfl (st := [.long v]) rfl ⟨Nat.le_of_ble_eq_true rfl, Nat.le_of_ble_eq_true rfl⟩ (Nat.le_of_ble_eq_true rfl) dL_1069 ?_
  refine w_lcmp C dL_1072 ?_
  exact w_eq0 C (tgt := 1600) dL_1073 (by decide) (kk MC' MR' hI2)
theorem mlw_X11_twins : ML yX11_twins cX11_twins 2 (some .int) 1 := ⟨(bw 1016 (by decide +kernel) (by decide +kernel)), (bw 1017 (by decide +kernel) (by decide +kernel)), (bw 99 (by decide +kernel) (by decide +kernel)), (bw 1018 (by decide +kernel) (by decide +kernel)), ⟨by decide +kernel, by decide +kernel⟩, by decide +kernel⟩
theorem mlw_X12_twins : ML yX12_twins cX12_twins 6 (some .int) 1 := ⟨(bw 1673 (by decide +kernel) (by decide +kernel)), (bw 1674 (by decide +kernel) (by decide +kernel)), (bw 111 (by decide +kernel) (by decide +kernel)), (bw 1675 (by decide +kernel) (by decide +kernel)), ⟨by decide +kernel, by decide +kernel⟩, by decide +kernel⟩
theorem dL_1078 : decode code 1078 = .ok (.aload_n 1, 1) := by decide +kernel
theorem dL_1079 : decode code 1079 = .ok (.aload_n 0, 1) := by decide +kernel
theorem dL_1080 : decode code 1080 = .ok (.iload_n 3, 1) := by decide +kernel
theorem dL_1081 : decode code 1081 = .ok (.iconst 1, 1) := by decide +kernel
theorem dL_1082 : decode code 1082 = .ok (.iadd, 1) := by decide +kernel
theorem dL_1083 : decode code 1083 = .ok (.iaload, 1) := by decide +kernel
theorem dL_1084 : decode code 1084 = .ok (.invokevirtual 151, 3) := by decide +kernel
theorem dL_1087 : decode code 1087 = .ok (.aload_n 2, 1) := by decide +kernel
theorem dL_1088 : decode code 1088 = .ok (.aload_n 0, 1) := by decide +kernel
theorem dL_1089 : decode code 1089 = .ok (.iload_n 3, 1) := by decide +kernel
theorem dL_1090 : decode code 1090 = .ok (.iconst 1, 1) := by decide +kernel
theorem dL_1091 : decode code 1091 = .ok (.iadd, 1) := by decide +kernel
theorem dL_1092 : decode code 1092 = .ok (.iaload, 1) := by decide +kernel
theorem dL_1093 : decode code 1093 = .ok (.invokevirtual 154, 3) := by decide +kernel
theorem dL_1096 : decode code 1096 = .ok (.if_icmp .eq 504, 3) := by decide +kernel
theorem dL_1099 : decode code 1099 = .ok (.iconst 0, 1) := by decide +kernel
theorem dL_1100 : decode code 1100 = .ok (.ireturn, 1) := by decide +kernel
theorem case_33 (C : CL p s m meth c b L xs D cA aC aR) {i : Nat} {MC MR : Mem} (hi : i + 4 ≤ L) (hL : L ≤ 2048) (hI : Inv MC MR) (kk : ∀ MC' MR' : Mem, Inv MC' MR' → KL p l e s m below meth c b D cA aC aR 1600 (lvL b aC aR i) [] MC' MR') : KL p l e s m below meth c b D cA aC aR 1078 (lvL b aC aR i) [] MC MR := by
  obtain ⟨v, MC', MR', e1, e2, hI2⟩ := sim_twins hI (xs (i + 1))
  refine w_ald C 1 (by decide) rfl rfl dL_1078 ?_
  refine w_arg (k := 1) C (by omega) (by omega) dL_1079 dL_1080 dL_1081 (by decide) dL_1082 dL_1083 ?_
  refine w_callCi C (As := [.int (xs (i + 1))]) (c_X11_twins C.2.2.2.2.1 (xs (i + 1)) _ _ e1) mlw_X11_twins (bw 1015 (by decide +kernel) (by decide +kernel)) rfl rfl (st := []) rfl ⟨Nat.le_of_ble_eq_true rfl, Nat.le_of_ble_eq_true rfl⟩ (Nat.le_of_ble_eq_true rfl) dL_1084 ?_
  refine w_ald C 2 (by decide) rfl rfl dL_1087 ?_
  refine w_arg (k := 1) C (by omega) (by omega) dL_1088 dL_1089 dL_1090 (by decide) dL_1091 dL_1092 ?_
  refine w_callRi C (As := [.int (xs (i + 1))]) (c_X12_twins C.2.2.2.2.2.1 (xs (i + 1)) _ _ e2) mlw_X12_twins (bw 1672 (by decide +kernel) (by decide +kernel)) rfl rfl (st := [.int v]) rfl ⟨Nat.le_of_ble_eq_true rfl, Nat.le_of_ble_eq_true rfl⟩ (Nat.le_of_ble_eq_true rfl) dL_1093 ?_
  exact w_eq C (tgt := 1600) dL_1096 (by decide) (kk MC' MR' hI2)
theorem mlw_X11_chain : ML yX11_chain cX11_chain 3 (some .int) 2 := ⟨(bw 1024 (by decide +kernel) (by decide +kernel)), (bw 1025 (by decide +kernel) (by decide +kernel)), (bw 99 (by decide +kernel) (by decide +kernel)), (bw 1026 (by decide +kernel) (by decide +kernel)), ⟨by decide +kernel, by decide +kernel⟩, by decide +kernel⟩
theorem mlw_X12_chain : ML yX12_chain cX12_chain 5 (some .int) 2 := ⟨(bw 1677 (by decide +kernel) (by decide +kernel)), (bw 1678 (by decide +kernel) (by decide +kernel)), (bw 111 (by decide +kernel) (by decide +kernel)), (bw 1679 (by decide +kernel) (by decide +kernel)), ⟨by decide +kernel, by decide +kernel⟩, by decide +kernel⟩
theorem dL_1101 : decode code 1101 = .ok (.aload_n 1, 1) := by decide +kernel
theorem dL_1102 : decode code 1102 = .ok (.aload_n 0, 1) := by decide +kernel
theorem dL_1103 : decode code 1103 = .ok (.iload_n 3, 1) := by decide +kernel
theorem dL_1104 : decode code 1104 = .ok (.iconst 1, 1) := by decide +kernel
theorem dL_1105 : decode code 1105 = .ok (.iadd, 1) := by decide +kernel
theorem dL_1106 : decode code 1106 = .ok (.iaload, 1) := by decide +kernel
theorem dL_1107 : decode code 1107 = .ok (.aload_n 0, 1) := by decide +kernel
theorem dL_1108 : decode code 1108 = .ok (.iload_n 3, 1) := by decide +kernel
theorem dL_1109 : decode code 1109 = .ok (.iconst 2, 1) := by decide +kernel
theorem dL_1110 : decode code 1110 = .ok (.iadd, 1) := by decide +kernel
theorem dL_1111 : decode code 1111 = .ok (.iaload, 1) := by decide +kernel
theorem dL_1112 : decode code 1112 = .ok (.invokevirtual 155, 3) := by decide +kernel
theorem dL_1115 : decode code 1115 = .ok (.aload_n 2, 1) := by decide +kernel
theorem dL_1116 : decode code 1116 = .ok (.aload_n 0, 1) := by decide +kernel
theorem dL_1117 : decode code 1117 = .ok (.iload_n 3, 1) := by decide +kernel
theorem dL_1118 : decode code 1118 = .ok (.iconst 1, 1) := by decide +kernel
theorem dL_1119 : decode code 1119 = .ok (.iadd, 1) := by decide +kernel
theorem dL_1120 : decode code 1120 = .ok (.iaload, 1) := by decide +kernel
theorem dL_1121 : decode code 1121 = .ok (.aload_n 0, 1) := by decide +kernel
theorem dL_1122 : decode code 1122 = .ok (.iload_n 3, 1) := by decide +kernel
theorem dL_1123 : decode code 1123 = .ok (.iconst 2, 1) := by decide +kernel
theorem dL_1124 : decode code 1124 = .ok (.iadd, 1) := by decide +kernel
theorem dL_1125 : decode code 1125 = .ok (.iaload, 1) := by decide +kernel
theorem dL_1126 : decode code 1126 = .ok (.invokevirtual 158, 3) := by decide +kernel
theorem dL_1129 : decode code 1129 = .ok (.if_icmp .eq 471, 3) := by decide +kernel
theorem dL_1132 : decode code 1132 = .ok (.iconst 0, 1) := by decide +kernel
theorem dL_1133 : decode code 1133 = .ok (.ireturn, 1) := by decide +kernel
theorem case_34 (C : CL p s m meth c b L xs D cA aC aR) {i : Nat} {MC MR : Mem} (hi : i + 4 ≤ L) (hL : L ≤ 2048) (hI : Inv MC MR) (kk : ∀ MC' MR' : Mem, Inv MC' MR' → KL p l e s m below meth c b D cA aC aR 1600 (lvL b aC aR i) [] MC' MR') : KL p l e s m below meth c b D cA aC aR 1101 (lvL b aC aR i) [] MC MR := by
  obtain ⟨v, MC', MR', e1, e2, hI2⟩ := sim_chain hI (xs (i + 1)) (xs (i + 2))
  refine w_ald C 1 (by decide) rfl rfl dL_1101 ?_
  refine w_arg (k := 1) C (by omega) (by omega) dL_1102 dL_1103 dL_1104 (by decide) dL_1105 dL_1106 ?_
  refine w_arg (k := 2) C (by omega) (by omega) dL_1107 dL_1108 dL_1109 (by decide) dL_1110 dL_1111 ?_
  refine w_callCi C (As := [.int (xs (i + 1)), .int (xs (i + 2))]) (c_X11_chain C.2.2.2.2.1 (xs (i + 1)) (xs (i + 2)) _ _ e1) mlw_X11_chain (bw 1023 (by decide +kernel) (by decide +kernel)) rfl rfl (st := []) rfl ⟨Nat.le_of_ble_eq_true rfl, Nat.le_of_ble_eq_true rfl⟩ (Nat.le_of_ble_eq_true rfl) dL_1112 ?_
  refine w_ald C 2 (by decide) rfl rfl dL_1115 ?_
  refine w_arg (k := 1) C (by omega) (by omega) dL_1116 dL_1117 dL_1118 (by decide) dL_1119 dL_1120 ?_
  refine w_arg (k := 2) C (by omega) (by omega) dL_1121 dL_1122 dL_1123 (by decide) dL_1124 dL_1125 ?_
  refine w_callRi C (As := [.int (xs (i + 1)), .int (xs (i + 2))]) (c_X12_chain C.2.2.2.2.2.1 (xs (i + 1)) (xs (i + 2)) _ _ e2) mlw_X12_chain (bw 1676 (by decide +kernel) (by decide +kernel)) rfl rfl (st := [.int v]) rfl ⟨Nat.le_of_ble_eq_true rfl, Nat.le_of_ble_eq_true rfl⟩ (Nat.le_of_ble_eq_true rfl) dL_1126 ?_
  exact w_eq C (tgt := 1600) dL_1129 (by decide) (kk MC' MR' hI2)
theorem mlw_X11_heaps : ML yX11_heaps cX11_heaps 2 (some .int) 1 := ⟨(bw 1036 (by decide +kernel) (by decide +kernel)), (bw 1037 (by decide +kernel) (by decide +kernel)), (bw 99 (by decide +kernel) (by decide +kernel)), (bw 1038 (by decide +kernel) (by decide +kernel)), ⟨by decide +kernel, by decide +kernel⟩, by decide +kernel⟩
theorem mlw_X12_heaps : ML yX12_heaps cX12_heaps 6 (some .int) 1 := ⟨(bw 1685 (by decide +kernel) (by decide +kernel)), (bw 1686 (by decide +kernel) (by decide +kernel)), (bw 111 (by decide +kernel) (by decide +kernel)), (bw 1687 (by decide +kernel) (by decide +kernel)), ⟨by decide +kernel, by decide +kernel⟩, by decide +kernel⟩
theorem dL_1134 : decode code 1134 = .ok (.aload_n 1, 1) := by decide +kernel
theorem dL_1135 : decode code 1135 = .ok (.aload_n 0, 1) := by decide +kernel
theorem dL_1136 : decode code 1136 = .ok (.iload_n 3, 1) := by decide +kernel
theorem dL_1137 : decode code 1137 = .ok (.iconst 1, 1) := by decide +kernel
theorem dL_1138 : decode code 1138 = .ok (.iadd, 1) := by decide +kernel
theorem dL_1139 : decode code 1139 = .ok (.iaload, 1) := by decide +kernel
theorem dL_1140 : decode code 1140 = .ok (.invokevirtual 159, 3) := by decide +kernel
theorem dL_1143 : decode code 1143 = .ok (.aload_n 2, 1) := by decide +kernel
theorem dL_1144 : decode code 1144 = .ok (.aload_n 0, 1) := by decide +kernel
theorem dL_1145 : decode code 1145 = .ok (.iload_n 3, 1) := by decide +kernel
theorem dL_1146 : decode code 1146 = .ok (.iconst 1, 1) := by decide +kernel
theorem dL_1147 : decode code 1147 = .ok (.iadd, 1) := by decide +kernel
theorem dL_1148 : decode code 1148 = .ok (.iaload, 1) := by decide +kernel
theorem dL_1149 : decode code 1149 = .ok (.invokevirtual 162, 3) := by decide +kernel
theorem dL_1152 : decode code 1152 = .ok (.if_icmp .eq 448, 3) := by decide +kernel
theorem dL_1155 : decode code 1155 = .ok (.iconst 0, 1) := by decide +kernel
theorem dL_1156 : decode code 1156 = .ok (.ireturn, 1) := by decide +kernel
theorem case_35 (C : CL p s m meth c b L xs D cA aC aR) {i : Nat} {MC MR : Mem} (hi : i + 4 ≤ L) (hL : L ≤ 2048) (hI : Inv MC MR) (kk : ∀ MC' MR' : Mem, Inv MC' MR' → KL p l e s m below meth c b D cA aC aR 1600 (lvL b aC aR i) [] MC' MR') : KL p l e s m below meth c b D cA aC aR 1134 (lvL b aC aR i) [] MC MR := by
  obtain ⟨v, MC', MR', e1, e2, hI2⟩ := sim_heaps hI (xs (i + 1))
  refine w_ald C 1 (by decide) rfl rfl dL_1134 ?_
  refine w_arg (k := 1) C (by omega) (by omega) dL_1135 dL_1136 dL_1137 (by decide) dL_1138 dL_1139 ?_
  refine w_callCi C (As := [.int (xs (i + 1))]) (c_X11_heaps C.2.2.2.2.1 (xs (i + 1)) _ _ e1) mlw_X11_heaps (bw 1035 (by decide +kernel) (by decide +kernel)) rfl rfl (st := []) rfl ⟨Nat.le_of_ble_eq_true rfl, Nat.le_of_ble_eq_true rfl⟩ (Nat.le_of_ble_eq_true rfl) dL_1140 ?_
  refine w_ald C 2 (by decide) rfl rfl dL_1143 ?_
  refine w_arg (k := 1) C (by omega) (by omega) dL_1144 dL_1145 dL_1146 (by decide) dL_1147 dL_1148 ?_
  refine w_callRi C (As := [.int (xs (i + 1))]) (c_X12_heaps C.2.2.2.2.2.1 (xs (i + 1)) _ _ e2) mlw_X12_heaps (bw 1684 (by decide +kernel) (by decide +kernel)) rfl rfl (st := [.int v]) rfl ⟨Nat.le_of_ble_eq_true rfl, Nat.le_of_ble_eq_true rfl⟩ (Nat.le_of_ble_eq_true rfl) dL_1149 ?_
  exact w_eq C (tgt := 1600) dL_1152 (by decide) (kk MC' MR' hI2)
theorem mlw_X11_pure : ML yX11_pure cX11_pure 2 (some .int) 1 := ⟨(bw 1049 (by decide +kernel) (by decide +kernel)), (bw 1050 (by decide +kernel) (by decide +kernel)), (bw 99 (by decide +kernel) (by decide +kernel)), (bw 1051 (by decide +kernel) (by decide +kernel)), ⟨by decide +kernel, by decide +kernel⟩, by decide +kernel⟩
theorem mlw_X12_pure : ML yX12_pure cX12_pure 6 (some .int) 1 := ⟨(bw 1693 (by decide +kernel) (by decide +kernel)), (bw 1694 (by decide +kernel) (by decide +kernel)), (bw 111 (by decide +kernel) (by decide +kernel)), (bw 1695 (by decide +kernel) (by decide +kernel)), ⟨by decide +kernel, by decide +kernel⟩, by decide +kernel⟩
theorem dL_1157 : decode code 1157 = .ok (.aload_n 1, 1) := by decide +kernel
theorem dL_1158 : decode code 1158 = .ok (.aload_n 0, 1) := by decide +kernel
theorem dL_1159 : decode code 1159 = .ok (.iload_n 3, 1) := by decide +kernel
theorem dL_1160 : decode code 1160 = .ok (.iconst 1, 1) := by decide +kernel
theorem dL_1161 : decode code 1161 = .ok (.iadd, 1) := by decide +kernel
theorem dL_1162 : decode code 1162 = .ok (.iaload, 1) := by decide +kernel
theorem dL_1163 : decode code 1163 = .ok (.invokevirtual 163, 3) := by decide +kernel
theorem dL_1166 : decode code 1166 = .ok (.aload_n 2, 1) := by decide +kernel
theorem dL_1167 : decode code 1167 = .ok (.aload_n 0, 1) := by decide +kernel
theorem dL_1168 : decode code 1168 = .ok (.iload_n 3, 1) := by decide +kernel
theorem dL_1169 : decode code 1169 = .ok (.iconst 1, 1) := by decide +kernel
theorem dL_1170 : decode code 1170 = .ok (.iadd, 1) := by decide +kernel
theorem dL_1171 : decode code 1171 = .ok (.iaload, 1) := by decide +kernel
theorem dL_1172 : decode code 1172 = .ok (.invokevirtual 166, 3) := by decide +kernel
theorem dL_1175 : decode code 1175 = .ok (.if_icmp .eq 425, 3) := by decide +kernel
theorem dL_1178 : decode code 1178 = .ok (.iconst 0, 1) := by decide +kernel
theorem dL_1179 : decode code 1179 = .ok (.ireturn, 1) := by decide +kernel
theorem case_36 (C : CL p s m meth c b L xs D cA aC aR) {i : Nat} {MC MR : Mem} (hi : i + 4 ≤ L) (hL : L ≤ 2048) (hI : Inv MC MR) (kk : ∀ MC' MR' : Mem, Inv MC' MR' → KL p l e s m below meth c b D cA aC aR 1600 (lvL b aC aR i) [] MC' MR') : KL p l e s m below meth c b D cA aC aR 1157 (lvL b aC aR i) [] MC MR := by
  obtain ⟨v, MC', MR', e1, e2, hI2⟩ := sim_pure hI (xs (i + 1))
  refine w_ald C 1 (by decide) rfl rfl dL_1157 ?_
  refine w_arg (k := 1) C (by omega) (by omega) dL_1158 dL_1159 dL_1160 (by decide) dL_1161 dL_1162 ?_
  refine w_callCi C (As := [.int (xs (i + 1))]) (c_X11_pure C.2.2.2.2.1 (xs (i + 1)) _ _ e1) mlw_X11_pure (bw 1048 (by decide +kernel) (by decide +kernel)) rfl rfl (st := []) rfl ⟨Nat.le_of_ble_eq_true rfl, Nat.le_of_ble_eq_true rfl⟩ (Nat.le_of_ble_eq_true rfl) dL_1163 ?_
  refine w_ald C 2 (by decide) rfl rfl dL_1166 ?_
  refine w_arg (k := 1) C (by omega) (by omega) dL_1167 dL_1168 dL_1169 (by decide) dL_1170 dL_1171 ?_
  refine w_callRi C (As := [.int (xs (i + 1))]) (c_X12_pure C.2.2.2.2.2.1 (xs (i + 1)) _ _ e2) mlw_X12_pure (bw 1692 (by decide +kernel) (by decide +kernel)) rfl rfl (st := [.int v]) rfl ⟨Nat.le_of_ble_eq_true rfl, Nat.le_of_ble_eq_true rfl⟩ (Nat.le_of_ble_eq_true rfl) dL_1172 ?_
  exact w_eq C (tgt := 1600) dL_1175 (by decide) (kk MC' MR' hI2)
theorem mlw_X11_bestT : ML yX11_bestT cX11_bestT 1 (some .int) 0 := ⟨(bw 1061 (by decide +kernel) (by decide +kernel)), (bw 1062 (by decide +kernel) (by decide +kernel)), (bw 99 (by decide +kernel) (by decide +kernel)), (bw 1063 (by decide +kernel) (by decide +kernel)), ⟨by decide +kernel, by decide +kernel⟩, by decide +kernel⟩
theorem mlw_X12_bestT : ML yX12_bestT cX12_bestT 6 (some .int) 0 := ⟨(bw 1701 (by decide +kernel) (by decide +kernel)), (bw 1702 (by decide +kernel) (by decide +kernel)), (bw 111 (by decide +kernel) (by decide +kernel)), (bw 1703 (by decide +kernel) (by decide +kernel)), ⟨by decide +kernel, by decide +kernel⟩, by decide +kernel⟩
theorem dL_1180 : decode code 1180 = .ok (.aload_n 1, 1) := by decide +kernel
theorem dL_1181 : decode code 1181 = .ok (.invokevirtual 167, 3) := by decide +kernel
theorem dL_1184 : decode code 1184 = .ok (.aload_n 2, 1) := by decide +kernel
theorem dL_1185 : decode code 1185 = .ok (.invokevirtual 170, 3) := by decide +kernel
theorem dL_1188 : decode code 1188 = .ok (.if_icmp .eq 412, 3) := by decide +kernel
theorem dL_1191 : decode code 1191 = .ok (.iconst 0, 1) := by decide +kernel
theorem dL_1192 : decode code 1192 = .ok (.ireturn, 1) := by decide +kernel
theorem case_37 (C : CL p s m meth c b L xs D cA aC aR) {i : Nat} {MC MR : Mem} (hi : i + 4 ≤ L) (hL : L ≤ 2048) (hI : Inv MC MR) (kk : ∀ MC' MR' : Mem, Inv MC' MR' → KL p l e s m below meth c b D cA aC aR 1600 (lvL b aC aR i) [] MC' MR') : KL p l e s m below meth c b D cA aC aR 1180 (lvL b aC aR i) [] MC MR := by
  obtain ⟨v, MC', MR', e1, e2, hI2⟩ := sim_bestT hI
  refine w_ald C 1 (by decide) rfl rfl dL_1180 ?_
  refine w_callCi C (As := []) (c_X11_bestT C.2.2.2.2.1 _ _ e1) mlw_X11_bestT (bw 1060 (by decide +kernel) (by decide +kernel)) rfl rfl (st := []) rfl ⟨Nat.le_of_ble_eq_true rfl, Nat.le_of_ble_eq_true rfl⟩ (Nat.le_of_ble_eq_true rfl) dL_1181 ?_
  refine w_ald C 2 (by decide) rfl rfl dL_1184 ?_
  refine w_callRi C (As := []) (c_X12_bestT C.2.2.2.2.2.1 _ _ e2) mlw_X12_bestT (bw 1700 (by decide +kernel) (by decide +kernel)) rfl rfl (st := [.int v]) rfl ⟨Nat.le_of_ble_eq_true rfl, Nat.le_of_ble_eq_true rfl⟩ (Nat.le_of_ble_eq_true rfl) dL_1185 ?_
  exact w_eq C (tgt := 1600) dL_1188 (by decide) (kk MC' MR' hI2)
theorem mlw_X11_margin : ML yX11_margin cX11_margin 3 (some .int) 2 := ⟨(bw 1069 (by decide +kernel) (by decide +kernel)), (bw 1070 (by decide +kernel) (by decide +kernel)), (bw 99 (by decide +kernel) (by decide +kernel)), (bw 1071 (by decide +kernel) (by decide +kernel)), ⟨by decide +kernel, by decide +kernel⟩, by decide +kernel⟩
theorem mlw_X12_margin : ML yX12_margin cX12_margin 7 (some .int) 2 := ⟨(bw 1705 (by decide +kernel) (by decide +kernel)), (bw 1706 (by decide +kernel) (by decide +kernel)), (bw 111 (by decide +kernel) (by decide +kernel)), (bw 1707 (by decide +kernel) (by decide +kernel)), ⟨by decide +kernel, by decide +kernel⟩, by decide +kernel⟩
theorem dL_1193 : decode code 1193 = .ok (.aload_n 1, 1) := by decide +kernel
theorem dL_1194 : decode code 1194 = .ok (.aload_n 0, 1) := by decide +kernel
theorem dL_1195 : decode code 1195 = .ok (.iload_n 3, 1) := by decide +kernel
theorem dL_1196 : decode code 1196 = .ok (.iconst 1, 1) := by decide +kernel
theorem dL_1197 : decode code 1197 = .ok (.iadd, 1) := by decide +kernel
theorem dL_1198 : decode code 1198 = .ok (.iaload, 1) := by decide +kernel
theorem dL_1199 : decode code 1199 = .ok (.aload_n 0, 1) := by decide +kernel
theorem dL_1200 : decode code 1200 = .ok (.iload_n 3, 1) := by decide +kernel
theorem dL_1201 : decode code 1201 = .ok (.iconst 2, 1) := by decide +kernel
theorem dL_1202 : decode code 1202 = .ok (.iadd, 1) := by decide +kernel
theorem dL_1203 : decode code 1203 = .ok (.iaload, 1) := by decide +kernel
theorem dL_1204 : decode code 1204 = .ok (.invokevirtual 171, 3) := by decide +kernel
theorem dL_1207 : decode code 1207 = .ok (.aload_n 2, 1) := by decide +kernel
theorem dL_1208 : decode code 1208 = .ok (.aload_n 0, 1) := by decide +kernel
theorem dL_1209 : decode code 1209 = .ok (.iload_n 3, 1) := by decide +kernel
theorem dL_1210 : decode code 1210 = .ok (.iconst 1, 1) := by decide +kernel
theorem dL_1211 : decode code 1211 = .ok (.iadd, 1) := by decide +kernel
theorem dL_1212 : decode code 1212 = .ok (.iaload, 1) := by decide +kernel
theorem dL_1213 : decode code 1213 = .ok (.aload_n 0, 1) := by decide +kernel
theorem dL_1214 : decode code 1214 = .ok (.iload_n 3, 1) := by decide +kernel
theorem dL_1215 : decode code 1215 = .ok (.iconst 2, 1) := by decide +kernel
theorem dL_1216 : decode code 1216 = .ok (.iadd, 1) := by decide +kernel
theorem dL_1217 : decode code 1217 = .ok (.iaload, 1) := by decide +kernel
theorem dL_1218 : decode code 1218 = .ok (.invokevirtual 174, 3) := by decide +kernel
theorem dL_1221 : decode code 1221 = .ok (.if_icmp .eq 379, 3) := by decide +kernel
theorem dL_1224 : decode code 1224 = .ok (.iconst 0, 1) := by decide +kernel
theorem dL_1225 : decode code 1225 = .ok (.ireturn, 1) := by decide +kernel
theorem case_38 (C : CL p s m meth c b L xs D cA aC aR) {i : Nat} {MC MR : Mem} (hi : i + 4 ≤ L) (hL : L ≤ 2048) (hI : Inv MC MR) (kk : ∀ MC' MR' : Mem, Inv MC' MR' → KL p l e s m below meth c b D cA aC aR 1600 (lvL b aC aR i) [] MC' MR') : KL p l e s m below meth c b D cA aC aR 1193 (lvL b aC aR i) [] MC MR := by
  obtain ⟨v, MC', MR', e1, e2, hI2⟩ := sim_margin hI (xs (i + 1)) (xs (i + 2))
  refine w_ald C 1 (by decide) rfl rfl dL_1193 ?_
  refine w_arg (k := 1) C (by omega) (by omega) dL_1194 dL_1195 dL_1196 (by decide) dL_1197 dL_1198 ?_
  refine w_arg (k := 2) C (by omega) (by omega) dL_1199 dL_1200 dL_1201 (by decide) dL_1202 dL_1203 ?_
  refine w_callCi C (As := [.int (xs (i + 1)), .int (xs (i + 2))]) (c_X11_margin C.2.2.2.2.1 (xs (i + 1)) (xs (i + 2)) _ _ e1) mlw_X11_margin (bw 1068 (by decide +kernel) (by decide +kernel)) rfl rfl (st := []) rfl ⟨Nat.le_of_ble_eq_true rfl, Nat.le_of_ble_eq_true rfl⟩ (Nat.le_of_ble_eq_true rfl) dL_1204 ?_
  refine w_ald C 2 (by decide) rfl rfl dL_1207 ?_
  refine w_arg (k := 1) C (by omega) (by omega) dL_1208 dL_1209 dL_1210 (by decide) dL_1211 dL_1212 ?_
  refine w_arg (k := 2) C (by omega) (by omega) dL_1213 dL_1214 dL_1215 (by decide) dL_1216 dL_1217 ?_
  refine w_callRi C (As := [.int (xs (i + 1)), .int (xs (i + 2))]) (c_X12_margin C.2.2.2.2.2.1 (xs (i + 1)) (xs (i + 2)) _ _ e2) mlw_X12_margin (bw 1704 (by decide +kernel) (by decide +kernel)) rfl rfl (st := [.int v]) rfl ⟨Nat.le_of_ble_eq_true rfl, Nat.le_of_ble_eq_true rfl⟩ (Nat.le_of_ble_eq_true rfl) dL_1218 ?_
  exact w_eq C (tgt := 1600) dL_1221 (by decide) (kk MC' MR' hI2)
theorem mlw_X11_firsts : ML yX11_firsts cX11_firsts 1 (some .int) 0 := ⟨(bw 1078 (by decide +kernel) (by decide +kernel)), (bw 1079 (by decide +kernel) (by decide +kernel)), (bw 99 (by decide +kernel) (by decide +kernel)), (bw 1080 (by decide +kernel) (by decide +kernel)), ⟨by decide +kernel, by decide +kernel⟩, by decide +kernel⟩
theorem mlw_X12_firsts : ML yX12_firsts cX12_firsts 3 (some .int) 0 := ⟨(bw 1709 (by decide +kernel) (by decide +kernel)), (bw 1710 (by decide +kernel) (by decide +kernel)), (bw 111 (by decide +kernel) (by decide +kernel)), (bw 1711 (by decide +kernel) (by decide +kernel)), ⟨by decide +kernel, by decide +kernel⟩, by decide +kernel⟩
theorem dL_1226 : decode code 1226 = .ok (.aload_n 1, 1) := by decide +kernel
theorem dL_1227 : decode code 1227 = .ok (.invokevirtual 175, 3) := by decide +kernel
theorem dL_1230 : decode code 1230 = .ok (.aload_n 2, 1) := by decide +kernel
theorem dL_1231 : decode code 1231 = .ok (.invokevirtual 178, 3) := by decide +kernel
theorem dL_1234 : decode code 1234 = .ok (.if_icmp .eq 366, 3) := by decide +kernel
theorem dL_1237 : decode code 1237 = .ok (.iconst 0, 1) := by decide +kernel
theorem dL_1238 : decode code 1238 = .ok (.ireturn, 1) := by decide +kernel
theorem case_39 (C : CL p s m meth c b L xs D cA aC aR) {i : Nat} {MC MR : Mem} (hi : i + 4 ≤ L) (hL : L ≤ 2048) (hI : Inv MC MR) (kk : ∀ MC' MR' : Mem, Inv MC' MR' → KL p l e s m below meth c b D cA aC aR 1600 (lvL b aC aR i) [] MC' MR') : KL p l e s m below meth c b D cA aC aR 1226 (lvL b aC aR i) [] MC MR := by
  obtain ⟨v, MC', MR', e1, e2, hI2⟩ := sim_firsts hI
  obtain ⟨v2, e2, hz2⟩ := Option.map_eq_some_iff.mp e2
  have hv2 : v = v2 := (congrArg Prod.fst hz2).symm
  subst hv2
  have hm2 : MR' = MR := (congrArg Prod.snd hz2).symm
  subst hm2
  refine w_ald C 1 (by decide) rfl rfl dL_1226 ?_
  refine w_callCi C (As := []) (c_X11_firsts C.2.2.2.2.1 _ _ e1) mlw_X11_firsts (bw 1077 (by decide +kernel) (by decide +kernel)) rfl rfl (st := []) rfl ⟨Nat.le_of_ble_eq_true rfl, Nat.le_of_ble_eq_true rfl⟩ (Nat.le_of_ble_eq_true rfl) dL_1227 ?_
  refine w_ald C 2 (by decide) rfl rfl dL_1230 ?_
  refine w_callRi C (As := []) (c_X12_firsts C.2.2.2.2.2.1 _ _ e2) mlw_X12_firsts (bw 1708 (by decide +kernel) (by decide +kernel)) rfl rfl (st := [.int v]) rfl ⟨Nat.le_of_ble_eq_true rfl, Nat.le_of_ble_eq_true rfl⟩ (Nat.le_of_ble_eq_true rfl) dL_1231 ?_
  exact w_eq C (tgt := 1600) dL_1234 (by decide) (kk MC' MR' hI2)
end CASES
