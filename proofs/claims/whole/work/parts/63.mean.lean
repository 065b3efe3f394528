/-! mean -/
theorem mxL_n {g : Nat} (h0 : 0 < g) (hg : g < 2 ^ 63) : mxL 1 (nL g) = nL g := by
  unfold mxL
  by_cases c : g = 1
  · subst c; rw [if_neg (by decide)]
  · rw [if_neg]
    rw [Int64.lt_iff_toInt_lt, nL_toInt hg]
    show ¬ (g : Int) < 1
    omega
theorem part_eq {x y : Nat} (hx : x < 2 ^ 31) (hy : y < 90000) (h0 : 0 < y) {v4 : Int32} (hv : v4 = 0 ∨ v4 = 1) : ∃ r, f_X4_lowest (nL x) (nL y) v4 = some r ∧ f_X12_partOf (nL x) (nL y) v4 = some r := by
  have hg : 0 < Nat.gcd x y := Nat.gcd_pos_of_pos_right x h0
  have hgl : Nat.gcd x y ≤ y := Nat.gcd_le_right x h0
  have ed : f_X12_divisor (nL x) (nL y) = some (nL (Nat.gcd x y)) := by
    unfold f_X12_divisor
    exact divR_lp y x y FU (Nat.le_refl y) (FU_big (by omega)) hx (by omega)
  have ep : f_X12_partOf (nL x) (nL y) v4 = some (nL ((if v4 = 0 then x else y) / Nat.gcd x y)) := by
    unfold f_X12_partOf
    rw [ed, Option.bind_some]
    rcases hv with rfl | rfl
    · rw [if_pos rfl, if_pos rfl, dvL_n (by omega) hg (by omega)]; rfl
    · rw [if_neg n10, if_neg n10, dvL_n (by omega) hg (by omega)]; rfl
  refine ⟨_, ?_, ep⟩
  unfold f_X4_lowest
  by_cases c : x = 0
  · subst c
    rw [if_pos (by rw [cmp_0 (by omega)]), Nat.gcd_zero_left]
    rcases hv with rfl | rfl
    · rw [if_pos rfl, Nat.zero_div]; rfl
    · rw [if_neg n10, Nat.div_self h0]; rfl
  · rw [if_neg (by rw [cmp_0 (by omega)]; exact c), if_neg (by rw [cmp_0 (by omega)]; omega)]
    refine (lowC_lp (v4 := v4) hx (show y < 2 ^ 31 by omega) 31 x y FU 0 (by omega) hx (by omega) hg (by omega) (FU_big (by omega))).trans ?_
    unfold f_X4_lowest_b60
    rw [mxL_n hg (by omega)]
    rcases hv with rfl | rfl
    · rw [if_pos rfl, if_pos rfl, dvL_n (by omega) hg (by omega)]; rfl
    · rw [if_neg n10, if_neg n10, dvL_n (by omega) hg (by omega)]; rfl
theorem sumN_nxS (B : Bd) {n : Nat} : ∀ k, k ≤ n → nxS B (2 ^ n - 1) k = sumN (gPre B B.2.2) k := by
  intro k
  induction k with
  | zero => intro _; rfl
  | succ k ih =>
    intro hk
    show (if (2 ^ n - 1).testBit k = true then nxS B (2 ^ n - 1) k + gPre B B.2.2 k else nxS B (2 ^ n - 1) k) = sumN _ k + _
    rw [if_pos (by rw [Nat.testBit_two_pow_sub_one]; exact decide_eq_true (by omega)), ih (by omega)]
theorem meC {B : Bd} {M : Mem} {v1 : Int32} (hw : wfB B) (h : RK B B.1.1 B.1.2 B.2.2 M) : ∀ (k i fuel : Nat), i + k = bn B → k < fuel →
    f_X4_meanNext_b12 fuel v1 (nL (sumN (gPre B B.2.2) i)) (nI i) M = (f_X4_lowest (nL (sumN (gPre B B.2.2) (bn B))) (nL (bn B)) v1).bind fun t4 => some (t4, M) := by
  have hn := hw.2.2.1
  have h12 : B.2.2.length ≤ 12 := hw.2.2.2.1
  intro k
  induction k with
  | zero =>
    intro i fuel hi hf
    obtain ⟨f, rfl⟩ : ∃ f, fuel = f + 1 := ⟨fuel - 1, by omega⟩
    obtain rfl : i = bn B := by omega
    unfold f_X4_meanNext_b12
    rw [h.1.1, if_pos (nI_le (by omega) (by omega)), nI_long (by omega)]
  | succ k ih =>
    intro i fuel hi hf
    obtain ⟨f, rfl⟩ : ∃ f, fuel = f + 1 := ⟨fuel - 1, by omega⟩
    have hg := gPre_lt hw (pre := B.2.2) (by omega) i
    unfold f_X4_meanNext_b12
    rw [h.1.1, if_neg (nI_ge (by omega) (by omega)), dueNow_ok hw h (by omega) (by omega), Option.bind_some, nI_1]
    have e : (nI (due B i (cnt (lw B B.1.1 B.1.2) B.2.2 i))).toInt64 = nL (gPre B B.2.2 i) := nI_long (n := gPre B B.2.2 i) (by omega)
    rw [e, nL_add]
    exact ih (i + 1) f (by omega) (by omega)
theorem sim_mean {MC MR : Mem} (h : Inv MC MR) (a : Int32) : Sim (f_X11_mean a MC) (f_X12_mean a MR) := by
  obtain ⟨B, im, S, lt, rw', hw, hC, hR, hf⟩ := id h
  have hn := hw.1.2.2.1
  have h8 := p8 hn
  unfold f_X11_mean f_X12_mean
  simp only [bind_bp]
  rw [hR.1.1]
  have go : (a = 0 ∨ a = 1) → Sim (f_X4_meanNext a MC) (if nI (bn B) = 0 then some (a.toInt64, MR) else (f_X12_nextsOf ((jshl 1 (nI (bn B))) - 1) MR).bind fun t3 => (f_X12_partOf t3.toInt64 (nI (bn B)).toInt64 a).bind fun t4 => some (t4, MR)) := by
    intro ha
    by_cases c : bn B = 0
    · rw [if_pos (show nI (bn B) = 0 by rw [c]; rfl)]
      refine Sim.q h a.toInt64 (ok2_mk ?_) ⟨_, _, rfl, rfl, agR.rf⟩
      unfold f_X4_meanNext
      refine ok_bind (behind_ok hw.1 hC.1) (fun M1 ⟨h1, f1⟩ => ?_)
      refine ok_eq (meC hw.1 h1 (bn B) 0 FU (by omega) (FU_big (by omega)) |>.trans ?_) (a := (a.toInt64, M1)) ⟨rfl, f1.q (by decide)⟩
      rw [c]
      unfold f_X4_lowest
      rw [if_pos (by rw [show nL (sumN (gPre B B.2.2) 0) = nL 0 from rfl, cmp_0 (by decide)])]
      rfl
    · have h1 : 1 ≤ 2 ^ bn B := Nat.one_le_two_pow
      have hs : sumN (gPre B B.2.2) (bn B) < 200000 := by
        rw [← sumN_nxS B (n := bn B) (bn B) (Nat.le_refl _)]
        exact gNx_lt hw.1 _
      obtain ⟨r, e1, e2⟩ := part_eq (x := sumN (gPre B B.2.2) (bn B)) (y := bn B) (by omega) (by omega) (by omega) ha
      rw [if_neg (show ¬ nI (bn B) = 0 from fun q => c (nI_e (b := 0) (by omega) (by decide) q)), jshl_1 (by omega), show nI (2 ^ bn B) - 1 = nI (2 ^ bn B - 1) from sub_one_nI (k := 1) h1]
      have e3 : f_X12_nextsOf (nI (2 ^ bn B - 1)) MR = some (nI (sumN (gPre B B.2.2) (bn B))) := by
        have := nxSR (s := 2 ^ bn B - 1) hw.1 hR.1 (by omega) (bn B) 0 FU (by omega) (FU_big (by omega))
        rw [sumN_nxS B (bn B) (Nat.le_refl _)] at this
        exact this
      rw [e3, Option.bind_some, nI_long (by omega), nI_long (by omega), e2]
      refine Sim.q h r (ok2_mk ?_) ⟨_, _, rfl, rfl, agR.rf⟩
      unfold f_X4_meanNext
      refine ok_bind (behind_ok hw.1 hC.1) (fun M1 ⟨h1, f1⟩ => ?_)
      refine ok_eq (meC hw.1 h1 (bn B) 0 FU (by omega) (FU_big (by omega)) |>.trans ?_) (a := (r, M1)) ⟨rfl, f1.q (by decide)⟩
      rw [e1]
      rfl
  rcases either a with ⟨e1, e2⟩ | ⟨e1, e2, e3⟩ | ⟨e1, e2, e3⟩
  · rw [e1, e2, if_pos p00, if_pos p00]; exact Sim.noL h 2 (by decide) _ (by decide)
  · rw [e1, e2, if_neg n10, if_neg n10]; exact go (Or.inl e3)
  · rw [e1, e2, if_neg n10, if_neg n10]; exact go (Or.inr e3)
