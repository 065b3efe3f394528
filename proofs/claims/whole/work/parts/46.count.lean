/-! count, doing -/
def mkS (B : Bd) : Nat → Nat
  | 0 => 0
  | k + 1 => mkS B k + pc (mk B k)
theorem mkC_lp {B : Bd} {M : Mem} (hw : wfB B) (hb : brdC 1 B M) : ∀ (k i fuel : Nat), i + k = bn B → k < fuel → f_X5_allCounted_b4 M fuel (nI (mkS B i)) (nI i) = some (nI (mkS B (bn B))) := by
  have hn := hw.2.2.1
  intro k
  induction k with
  | zero =>
    intro i fuel hi hf
    obtain ⟨f, rfl⟩ : ∃ f, fuel = f + 1 := ⟨fuel - 1, by omega⟩
    obtain rfl : i = bn B := by omega
    unfold f_X5_allCounted_b4
    rw [hb.1, if_pos (nI_le (by omega) (by omega))]
  | succ k ih =>
    intro i fuel hi hf
    obtain ⟨f, rfl⟩ : ∃ f, fuel = f + 1 := ⟨fuel - 1, by omega⟩
    have mi := (hw.2.2.2.2.1 i).2.2
    unfold f_X5_allCounted_b4
    rw [hb.1, if_neg (nI_ge (by omega) (by omega)), ldMkC hb hw (by omega), Option.bind_some, bitCount_n (by omega), nI_add, nI_1]
    exact ih (i + 1) f (by omega) (by omega)
theorem mkR_lp {B : Bd} {M : Mem} (hw : wfB B) (hb : brdR B M) : ∀ (k i fuel : Nat), i + k = bn B → k < fuel → f_X12_count_b103 M fuel (nI (mkS B i)) (nI i) = some (nI (mkS B (bn B))) := by
  have hn := hw.2.2.1
  intro k
  induction k with
  | zero =>
    intro i fuel hi hf
    obtain ⟨f, rfl⟩ : ∃ f, fuel = f + 1 := ⟨fuel - 1, by omega⟩
    obtain rfl : i = bn B := by omega
    unfold f_X12_count_b103
    rw [hb.1, if_pos (nI_le (by omega) (by omega))]
  | succ k ih =>
    intro i fuel hi hf
    obtain ⟨f, rfl⟩ : ∃ f, fuel = f + 1 := ⟨fuel - 1, by omega⟩
    have mi := (hw.2.2.2.2.1 i).2.2
    unfold f_X12_count_b103
    rw [hb.1, if_neg (nI_ge (by omega) (by omega)), ldMkR hb hw (by omega), Option.bind_some, bitsR (by omega), Option.bind_some, nI_add, nI_1]
    exact ih (i + 1) f (by omega) (by omega)
theorem add_back (v : Int32) : v = (v - 10) + 10 := by
  rw [Int32.sub_add_cancel]
theorem isIn_neg {v : Int32} {a b : Nat} (h : v < 0) (ha : a < 2 ^ 31) : f_X12_isIn v (nI a) (nI b) = 0 := by
  unfold f_X12_isIn
  rw [if_pos (i_neg_lt h ha)]
theorem isIn_n {a b d : Nat} (ha : a < 2 ^ 31) (hb : b < 2 ^ 31) (hd : d < 2 ^ 31) : f_X12_isIn (nI d) (nI a) (nI b) = bI (decide (a ≤ d ∧ d ≤ b)) := by
  unfold f_X12_isIn
  by_cases c : d < a
  · rw [if_pos ((nI_ltI hd ha).mpr c), decide_eq_false (by omega)]; rfl
  · rw [if_neg (fun q => c ((nI_ltI hd ha).mp q))]
    by_cases c2 : b < d
    · rw [if_pos ((nI_ltI hb hd).mpr c2), decide_eq_false (by omega)]; rfl
    · rw [if_neg (fun q => c2 ((nI_ltI hb hd).mp q)), decide_eq_true (by omega)]; rfl
theorem refused_none {v : Int32} {M : Mem} (h : ∀ d, 11 ≤ d → d ≤ 16 → v ≠ nI d) : f_X11_countRefused (v - 10) M = some (-9) := by
  unfold f_X11_countRefused
  rcases i_cases (v - 10) with h0 | ⟨d, hd, e⟩
  · rw [if_pos (show v - 10 < 1 from i_neg_lt h0 (n := 1) (by decide))]
  · rw [e]
    by_cases c : d = 0
    · subst c; rw [if_pos (by decide)]
    · rw [if_neg (show ¬ nI d < 1 from fun q => absurd ((nI_ltI (b := 1) hd (by decide)).mp q) (by omega))]
      by_cases c2 : 7 ≤ d
      · rw [if_pos ((nI_leI (by decide) hd).mpr c2)]
      · have : v = nI (d + 10) := by rw [add_back v, e]; exact nI_add d 10
        exact absurd this (h (d + 10) (by omega) (by omega))
theorem sim_count {MC MR : Mem} (h : Inv MC MR) (a : Int32) : Sim (f_X11_count a MC) ((f_X12_count a MR).map (·, MR)) := by
  obtain ⟨B, im, S, lt, rw', hw, hC, hR, hf⟩ := id h
  have hn := hw.1.2.2.1
  have c5 : f_X5_allCounted MC = some (nI (mkS B (bn B))) := mkC_lp hw.1 hC.1 (bn B) 0 FU (by omega) (FU_big (by omega))
  have r5 : f_X12_count_b103 MR FU 0 0 = some (nI (mkS B (bn B))) := mkR_lp hw.1 hR.1 (bn B) 0 FU (by omega) (FU_big (by omega))
  unfold f_X11_count f_X12_count
  simp only [bind_bp]
  rw [c5, r5, allR hR.1 hw.1, hC.1.1, hC.1.2.1, hC.1.2.2.1, hC.1.2.2.2.1, hR.1.1, hR.1.2.1, hR.1.2.2.1, hR.1.2.2.2.1, hC.2.2.2.1, hC.2.2.2.2.2.1, hC.2.2.2.2.2.2.2.1, hR.2.2.2.1, hR.2.2.2.2.2.1, hR.2.2.2.2.2.2.2.1]
  by_cases e0 : a = 0
  · subst e0; rw [if_pos rfl, if_pos (by decide), if_pos rfl]; exact ⟨_, _, _, rfl, rfl, h⟩
  by_cases e1 : a = 1
  · subst e1; rw [if_neg n10, if_pos rfl, if_pos (by decide), if_neg n10, if_pos rfl]; exact ⟨_, _, _, rfl, rfl, h⟩
  by_cases e2 : a = 2
  · subst e2; rw [if_neg e0, if_neg e1, if_pos rfl, if_pos (by decide), if_neg e0, if_neg e1, if_pos rfl]; exact ⟨_, _, _, rfl, rfl, h⟩
  by_cases e3 : a = 3
  · subst e3; rw [if_neg e0, if_neg e1, if_neg e2, if_pos rfl, if_pos (by decide), if_neg e0, if_neg e1, if_neg e2, if_pos rfl]; exact ⟨_, _, _, rfl, rfl, h⟩
  by_cases e4 : a = 4
  · subst e4
    rw [if_neg e0, if_neg e1, if_neg e2, if_neg e3, if_pos rfl, if_pos (by decide), if_neg e0, if_neg e1, if_neg e2, if_neg e3, if_pos rfl]
    exact Sim.q h _ (total_q hw.1 hC.1) ⟨_, _, rfl, rfl, agR.rf⟩
  by_cases e5 : a = 5
  · subst e5; rw [if_neg e0, if_neg e1, if_neg e2, if_neg e3, if_neg e4, if_pos rfl, if_pos (by decide), if_neg e0, if_neg e1, if_neg e2, if_neg e3, if_neg e4, if_pos rfl]; exact ⟨_, _, _, rfl, rfl, h⟩
  by_cases e6 : a = 6
  · subst e6; rw [if_neg e0, if_neg e1, if_neg e2, if_neg e3, if_neg e4, if_neg e5, if_pos rfl, if_pos (by decide), if_neg e0, if_neg e1, if_neg e2, if_neg e3, if_neg e4, if_neg e5, if_pos rfl]; exact ⟨_, _, _, rfl, rfl, h⟩
  by_cases e7 : a = 7
  · subst e7; rw [if_neg e0, if_neg e1, if_neg e2, if_neg e3, if_neg e4, if_neg e5, if_neg e6, if_pos rfl, if_pos (by decide), if_neg e0, if_neg e1, if_neg e2, if_neg e3, if_neg e4, if_neg e5, if_neg e6, if_pos rfl]; exact ⟨_, _, _, rfl, rfl, h⟩
  by_cases e8 : a = 8
  · subst e8; rw [if_neg e0, if_neg e1, if_neg e2, if_neg e3, if_neg e4, if_neg e5, if_neg e6, if_neg e7, if_pos rfl, if_pos (by decide), if_neg e0, if_neg e1, if_neg e2, if_neg e3, if_neg e4, if_neg e5, if_neg e6, if_neg e7, if_pos rfl]; exact ⟨_, _, _, rfl, rfl, h⟩
  rw [if_neg e0, if_neg e1, if_neg e2, if_neg e3, if_neg e4, if_neg e5, if_neg e6, if_neg e7, if_neg e8]
  have no : (∀ d, 11 ≤ d → d ≤ 16 → a ≠ nI d) → f_X12_isIn a 11 16 = 0 → Sim ((f_X11_countRefused (a - 10) MC).bind fun t12 => some (t12, MC)) ((if f_X12_isIn a 11 16 = 0 then (if a = 0 then some (nI (bn B)) else if a = 1 then some (nI (bpl B)) else if a = 2 then some (nI B.1.1) else if a = 3 then some (nI B.1.2) else if a = 4 then (some (nI (tot B B.2.2))).bind (fun t7 => some t7) else if a = 5 then some (nI (mkS B (bn B))) else if a = 6 then some (nI lt.length) else if a = 7 then some (nI rw'.length) else if a = 8 then some (nI S.length) else some (-9)) else (ldI MR 1 7 (a - 10)).bind fun t15 => some t15).map (·, MR)) := by
    intro q1 q2
    rw [refused_none q1, q2, if_pos p00, if_neg e0, if_neg e1, if_neg e2, if_neg e3, if_neg e4, if_neg e5, if_neg e6, if_neg e7, if_neg e8]
    exact ⟨_, _, _, rfl, rfl, h⟩
  rcases i_cases a with hn' | ⟨d, hd, rfl⟩
  · exact no (fun d h1 h2 => i_neg_ne hn' (by omega)) (isIn_neg (a := 11) (b := 16) hn' (by decide))
  · by_cases c : 11 ≤ d ∧ d ≤ 16
    · have e : f_X12_isIn (nI d) 11 16 = 1 := by rw [show f_X12_isIn (nI d) 11 16 = bI (decide (11 ≤ d ∧ d ≤ 16)) from isIn_n (a := 11) (b := 16) (by decide) (by decide) hd, decide_eq_true c]; rfl
      rw [e, if_neg n10, l_10, sub_one_nI (by omega)]
      unfold f_X11_countRefused
      rw [if_neg (show ¬ nI (d - 10) < 1 from fun q => absurd ((nI_ltI (b := 1) (by omega) (by decide)).mp q) (by omega)), if_neg (nI_ge (by omega) (by decide)), ldI_n (by omega) (by decide), ldI_n (by omega) (by decide), hf _ (by omega)]
      exact ⟨_, _, _, rfl, rfl, h⟩
    · refine no (fun d' h1 h2 q => c ?_) ?_
      · have := nI_e hd (by omega) q; omega
      · rw [show f_X12_isIn (nI d) 11 16 = bI (decide (11 ≤ d ∧ d ≤ 16)) from isIn_n (a := 11) (b := 16) (by decide) (by decide) hd, decide_eq_false c]; rfl
/-- what is a kind -/
theorem kindR (v : Int32) : (f_X11_isKind v = 0 ∧ f_X12_isIn v 0 5 = 0) ∨ (f_X11_isKind v = 1 ∧ f_X12_isIn v 0 5 = 1 ∧ ∃ k, k < 6 ∧ v = nI k) := by
  rcases i_cases v with h | ⟨d, hd, rfl⟩
  · left
    refine ⟨?_, isIn_neg (a := 0) (b := 5) h (by decide)⟩
    unfold f_X11_isKind
    rw [if_pos h]
  · have e : f_X12_isIn (nI d) 0 5 = bI (decide (0 ≤ d ∧ d ≤ 5)) := isIn_n (a := 0) (b := 5) (by decide) (by decide) hd
    rw [e]
    unfold f_X11_isKind
    rw [if_neg (nI_pos hd)]
    by_cases c : d < 6
    · right
      rw [if_neg (show ¬ 6 ≤ nI d from fun q => absurd ((nI_leI (a := 6) (by decide) hd).mp q) (by omega)), decide_eq_true (by omega)]
      exact ⟨rfl, rfl, d, c, rfl⟩
    · left
      rw [if_pos (show 6 ≤ nI d from (nI_leI (a := 6) (by decide) hd).mpr (by omega)), decide_eq_false (by omega)]
      exact ⟨rfl, rfl⟩
def adB (B : Bd) (x : Nat × Nat × Nat) : Bd := (B.1, B.2.1 ++ [x], B.2.2)
theorem adB_n (B : Bd) (x : Nat × Nat × Nat) : bn (adB B x) = bn B + 1 := by unfold bn adB; simp
theorem adB_at (B : Bd) (x : Nat × Nat × Nat) (d : Nat) : (adB B x).2.1.getD d (0, 0, 0) = if d < bn B then B.2.1.getD d (0, 0, 0) else if d = bn B then x else (0, 0, 0) := getD_snoc
theorem adB_wf {B : Bd} (hw : wfB B) {k f m : Nat} (hn : bn B < 8) (hk : k < 6) (hf : f ≤ 9) (hm : m < 256) : wfB (adB B (k, f, m)) := by
  refine ⟨hw.1, hw.2.1, by rw [adB_n]; omega, hw.2.2.2.1, fun d => ?_, fun d hd => by rw [adB_n]; have := hw.2.2.2.2.2 d hd; omega⟩
  unfold kd fg mk
  rw [adB_at]
  by_cases c : d < bn B
  · rw [if_pos c]; exact hw.2.2.2.2.1 d
  · rw [if_neg c]
    by_cases c2 : d = bn B
    · rw [if_pos c2]; exact ⟨hk, hf, hm⟩
    · rw [if_neg c2]; exact ⟨by decide, by decide, by decide⟩
theorem sim_doing {MC MR : Mem} (h : Inv MC MR) (a b c : Int32) : Sim (f_X11_doing a b c MC) (f_X12_doing a b c MR) := by
  obtain ⟨B, im, S, lt, rw', hw, hC, hR, hf⟩ := id h
  have hn := hw.1.2.2.1
  unfold f_X11_doing f_X12_doing f_X12_doing_b55 f_X0_hasRoomForDoing
  simp only [bind_bp]
  rw [hC.1.1, hR.1.1]
  rcases kindR a with ⟨e1, e2⟩ | ⟨e1, e2, k, hk, rfl⟩
  · rw [e1, e2, if_pos p00, if_pos p00, if_neg (show ¬ (-2 : Int32) = 0 by decide)]; exact Sim.no2 h
  rw [e1, e2, if_neg n10, if_neg n10]
  rcases i_cases b with hb | ⟨f, hb, rfl⟩
  · rw [if_pos hb, if_pos hb, if_neg (show ¬ (-4 : Int32) = 0 by decide)]; exact Sim.no4 h
  rw [if_neg (nI_pos hb), if_neg (nI_pos hb)]
  rcases i_cases c with hc | ⟨m, hc, rfl⟩
  · rw [if_neg (show ¬ 0 ≤ c from i_neg_nle hc (n := 0) (by decide)), if_neg (show ¬ 0 ≤ c from i_neg_nle hc (n := 0) (by decide)), if_neg (show ¬ (-4 : Int32) = 0 by decide)]; exact Sim.no4 h
  rw [if_pos (nI_pos' hc), if_pos (nI_pos' hc)]
  by_cases q1 : 9 < f
  · rw [if_pos (show 9 < nI f from nI_lt (a := 9) q1 hb), if_pos (show 9 < nI f from nI_lt (a := 9) q1 hb), if_neg (show ¬ (-6 : Int32) = 0 by decide)]; exact Sim.no6 h
  have z1 : ¬ 9 < nI f := fun q => q1 ((nI_ltI (a := 9) (by decide) hb).mp q)
  rw [if_neg z1, if_neg z1]
  by_cases q2 : 255 < m
  · rw [if_pos (show 255 < nI m from nI_lt (a := 255) q2 hc), if_pos (show 255 < nI m from nI_lt (a := 255) q2 hc), if_neg (show ¬ (-6 : Int32) = 0 by decide)]; exact Sim.no6 h
  have z2 : ¬ 255 < nI m := fun q => q2 ((nI_ltI (a := 255) (by decide) hc).mp q)
  rw [if_neg z2, if_neg z2]
  by_cases q3 : bn B = 8
  · rw [q3, if_pos (show (8 : Int32) ≤ nI 8 by decide), if_pos p00, if_pos (show nI 8 = 8 from rfl), if_neg (show ¬ (-6 : Int32) = 0 by decide)]; exact Sim.no6 h
  have z3 : ¬ (8 : Int32) ≤ nI (bn B) := fun q => absurd ((nI_leI (a := 8) (by decide) (by omega)).mp q) (by omega)
  rw [if_neg z3, if_neg n10, if_neg (show ¬ nI (bn B) = 8 from fun q => q3 (nI_e (b := 8) (by omega) (by decide) q)), if_pos p00]
  unfold f_X10_forget f_X0_addDoing f_X0_hasRoomForDoing f_X0_setKind f_X12_adds
  have v4 : (wI MC 11 4 0).1 1 4 = nI (bn B) := by rw [wI_other (by decide)]; exact hC.1.1
  have u5 : (wI MR 0 20 0).1 0 5 = nI (bn B) := by rw [wI_at, if_neg (by omega)]; exact hR.1.1
  rw [Option.bind_some, v4, if_neg z3, if_neg n10, stI_n (by omega) (by decide), Option.bind_some, stI_n (by omega) (by decide), Option.bind_some, Option.bind_some, stI_n (by omega) (by decide), Option.bind_some, nI_1, u5, stI_n (by omega) (by decide), Option.bind_some]
  have u5' : (wI (wI MR 0 20 0) 2 (bn B) (nI k)).1 0 5 = nI (bn B) := by rw [wI_other (by decide)]; exact u5
  rw [u5', stI_n (by omega) (by decide), Option.bind_some]
  have u5'' : (wI (wI (wI MR 0 20 0) 2 (bn B) (nI k)) 3 (bn B) (nI f)).1 0 5 = nI (bn B) := by rw [wI_other (by decide)]; exact u5'
  rw [u5'', stI_n (by omega) (by decide), Option.bind_some]
  have u5''' : (wI (wI (wI (wI MR 0 20 0) 2 (bn B) (nI k)) 3 (bn B) (nI f)) 4 (bn B) (nI m)).1 0 5 = nI (bn B) := by rw [wI_other (by decide)]; exact u5''
  rw [u5''', nI_1, Option.bind_some]
  have u6 : (wI (wI (wI (wI (wI MR 0 20 0) 2 (bn B) (nI k)) 3 (bn B) (nI f)) 4 (bn B) (nI m)) 0 5 (nI (bn B + 1))).1 0 5 - 1 = nI (bn B) := by
    rw [wI_at, if_pos ⟨rfl, rfl⟩]
    exact (sub_one_nI (k := 1) (by omega)).trans (by rw [Nat.add_sub_cancel])
  rw [u6]
  have at' : ∀ d, d < bn B + 1 → (kd (adB B (k, f, m)) d = if d = bn B then k else kd B d) ∧ (fg (adB B (k, f, m)) d = if d = bn B then f else fg B d) ∧ (mk (adB B (k, f, m)) d = if d = bn B then m else mk B d) := by
    intro d hd
    unfold kd fg mk
    rw [adB_at]
    by_cases c : d < bn B
    · rw [if_pos c, if_neg (by omega), if_neg (by omega), if_neg (by omega)]; exact ⟨rfl, rfl, rfl⟩
    · obtain rfl : d = bn B := by omega
      rw [if_neg c, if_pos rfl, if_pos rfl, if_pos rfl, if_pos rfl]; exact ⟨rfl, rfl, rfl⟩
  obtain ⟨h1, h2, h3, h4, h5, h6, h7, h8⟩ := hC.1
  obtain ⟨k1, k2, k3, k4, k5, k6, k7, k8⟩ := hR.1
  refine ⟨nI (bn B), _, _, rfl, rfl, adB B (k, f, m), im, [], lt, rw', ⟨adB_wf hw.1 (by omega) hk (by omega) (by omega), hw.2.1, Nat.zero_le _, (fun I hI => by cases hI), hw.2.2.2.2⟩, hC.bd ?_ (fun r hr => ?_) ⟨?_, ?_, ?_, ?_, fun j hj => ?_, fun j hj => ?_, fun j hj => ?_, fun j hj => ?_⟩ ?_, hR.bd ⟨?_, ?_, ?_, ?_, fun j hj => ?_, fun j hj => ?_, fun j hj => ?_, fun j hj => ?_⟩ (fun k hk => ?_) (fun r hr => ?_) ?_, fun k hk => ?_⟩
  · simp only [wI_at]; simp
  · rw [wI_other (by omega), wI_other (by omega), wI_other (by omega), wI_other (by omega), wI_other (by omega)]
  · rw [adB_n]; simp only [wI_at]; simp
  · simp only [wI_at]; simp; exact h2
  · simp only [wI_at]; simp; exact h3
  · simp only [wI_at]; simp; exact h4
  · rw [adB_n] at hj; rw [(at' j hj).1]; simp only [wI_at]; simp
    by_cases c : j = bn B
    · rw [if_pos c, if_pos c]
    · rw [if_neg c, if_neg c]; exact h5 j (by omega)
  · rw [adB_n] at hj; rw [(at' j hj).2.1]; simp only [wI_at]; simp
    by_cases c : j = bn B
    · rw [if_pos c, if_pos c]
    · rw [if_neg c, if_neg c]; exact h6 j (by omega)
  · rw [adB_n] at hj; rw [(at' j hj).2.2]; simp only [wI_at]; simp
    by_cases c : j = bn B
    · rw [if_pos c, if_pos c]
    · rw [if_neg c, if_neg c]; exact h7 j (by omega)
  · simp only [wI_at]; simp; exact h8 j hj
  · simp only [wI_at]; simp; rfl
  · rw [adB_n]; simp only [wI_at]; simp
  · simp only [wI_at]; simp; exact k2
  · simp only [wI_at]; simp; exact k3
  · simp only [wI_at]; simp; exact k4
  · rw [adB_n] at hj; rw [(at' j hj).1]; simp only [wI_at]; simp
    by_cases c : j = bn B
    · rw [if_pos c, if_pos c]
    · rw [if_neg c, if_neg c]; exact k5 j (by omega)
  · rw [adB_n] at hj; rw [(at' j hj).2.1]; simp only [wI_at]; simp
    by_cases c : j = bn B
    · rw [if_pos c, if_pos c]
    · rw [if_neg c, if_neg c]; exact k6 j (by omega)
  · rw [adB_n] at hj; rw [(at' j hj).2.2]; simp only [wI_at]; simp
    by_cases c : j = bn B
    · rw [if_pos c, if_pos c]
    · rw [if_neg c, if_neg c]; exact k7 j (by omega)
  · simp only [wI_at]; simp; exact k8 j hj
  · rw [wI_at, if_neg (by omega), wI_at, if_neg (by omega), wI_at, if_neg (by omega), wI_at, if_neg (by omega), wI_at, if_neg (by omega)]
  · rw [wI_other (by omega), wI_other (by omega), wI_other (by omega), wI_other (by omega), wI_other (by omega)]
  · simp only [wI_at]; simp; rfl
  · rw [wI_other (by omega), wI_other (by omega), wI_other (by omega), wI_other (by omega), wI_other (by omega), wI_other (by omega), wI_other (by omega), wI_other (by omega), wI_other (by omega), wI_other (by omega)]; exact hf k hk
