/-! calls that change little: count, doingOf, row, judge, clear, feed, empties, image, restore, doing, marks, law -/
theorem sub_one_nI {j k : Nat} (h : k ≤ j) : nI j - nI k = nI (j - k) := pk_sub h
theorem RC.rw {B : Bd} {im : Option Bd} {S : List Bd} {lt rw rw2 : List Nat} {M M' : Mem} (h : RC B im S lt rw M) (e : ∀ r, r ≠ 23 → r ≠ 24 → M'.1 r = M.1 r) (h1' : M'.1 23 1 = nI rw2.length) (h2' : ∀ j, j < rw2.length → M'.1 24 j = nI (rw2.getD j 0)) : RC B im S lt rw2 M' := by
  obtain ⟨h1, h2, h3, h4, h5, h6, h7, h8, h9⟩ := h
  refine ⟨h1.cong fun r a b => e r (by omega) (by omega), ?_, fun I hI => (h3 I hI).cong fun r a b => e r (by omega) (by omega), ?_, fun k hk => ?_, ?_, fun j hj => ?_, h1', h2'⟩
  · rw [e 0 (by omega) (by omega)]; exact h2
  · rw [e 11 (by omega) (by omega)]; exact h4
  · unfold TBk
    rw [e 12 (by omega) (by omega), e 13 (by omega) (by omega), e 14 (by omega) (by omega), e 15 (by omega) (by omega)]
    exact h5 k hk
  · rw [e 16 (by omega) (by omega)]; exact h6
  · rw [e 17 (by omega) (by omega)]; exact h7 j hj
theorem RC.lt {B : Bd} {im : Option Bd} {S : List Bd} {lt lt2 rw : List Nat} {M M' : Mem} (h : RC B im S lt rw M) (e : ∀ r, r ≠ 16 → r ≠ 17 → M'.1 r = M.1 r) (h1' : M'.1 16 2 = nI lt2.length) (h2' : ∀ j, j < lt2.length → M'.1 17 j = nI (lt2.getD j 0)) : RC B im S lt2 rw M' := by
  obtain ⟨h1, h2, h3, h4, h5, h6, h7, h8, h9⟩ := h
  refine ⟨h1.cong fun r a b => e r (by omega) (by omega), ?_, fun I hI => (h3 I hI).cong fun r a b => e r (by omega) (by omega), ?_, fun k hk => ?_, h1', h2', ?_, fun j hj => ?_⟩
  · rw [e 0 (by omega) (by omega)]; exact h2
  · rw [e 11 (by omega) (by omega)]; exact h4
  · unfold TBk
    rw [e 12 (by omega) (by omega), e 13 (by omega) (by omega), e 14 (by omega) (by omega), e 15 (by omega) (by omega)]
    exact h5 k hk
  · rw [e 23 (by omega) (by omega)]; exact h8
  · rw [e 24 (by omega) (by omega)]; exact h9 j hj
theorem RC.bd {B B2 : Bd} {im : Option Bd} {S : List Bd} {lt rw : List Nat} {M M' : Mem} (h : RC B im S lt rw M) (e0 : M'.1 0 2 = M.1 0 2) (e : ∀ r, (6 ≤ r ∧ r ≤ 10) ∨ r = 16 ∨ r = 17 ∨ r = 23 ∨ r = 24 → M'.1 r = M.1 r) (hb : brdC 1 B2 M') (h4' : M'.1 11 4 = nI 0) : RC B2 im [] lt rw M' := by
  obtain ⟨h1, h2, h3, h4, h5, h6, h7, h8, h9⟩ := h
  refine ⟨hb, e0.trans h2, fun I hI => (h3 I hI).cong fun r a b => e r (by omega), h4', fun k hk => absurd hk (Nat.not_lt_zero k), ?_, fun j hj => ?_, ?_, fun j hj => ?_⟩
  · rw [e 16 (by omega)]; exact h6
  · rw [e 17 (by omega)]; exact h7 j hj
  · rw [e 23 (by omega)]; exact h8
  · rw [e 24 (by omega)]; exact h9 j hj
theorem RR.rw {B : Bd} {im : Option Bd} {S : List Bd} {lt rw rw2 : List Nat} {M M' : Mem} (h : RR B im S lt rw M) (e0 : ∀ k, k ≠ 24 → M'.1 0 k = M.1 0 k) (e : ∀ r, r ≠ 0 → r ≠ 13 → M'.1 r = M.1 r) (h1' : M'.1 0 24 = nI rw2.length) (h2' : ∀ j, j < rw2.length → M'.1 13 j = nI (rw2.getD j 0)) : RR B im S lt rw2 M' := by
  unfold RR brdR at *
  rw [e0 5 (by decide), e0 6 (by decide), e0 7 (by decide), e0 8 (by decide), e0 17 (by decide), e0 20 (by decide), e0 13 (by decide), e 2 (by decide) (by decide), e 3 (by decide) (by decide), e 4 (by decide) (by decide), e 5 (by decide) (by decide), e 6 (by decide) (by decide), e 10 (by decide) (by decide)]
  exact ⟨h.1, h.2.1, h.2.2.1, h.2.2.2.1, h.2.2.2.2.1, h.2.2.2.2.2.1, h.2.2.2.2.2.2.1, h1', h2'⟩
theorem RR.lt {B : Bd} {im : Option Bd} {S : List Bd} {lt lt2 rw : List Nat} {M M' : Mem} (h : RR B im S lt rw M) (e0 : ∀ k, k ≠ 13 → M'.1 0 k = M.1 0 k) (e : ∀ r, r ≠ 0 → r ≠ 6 → M'.1 r = M.1 r) (h1' : M'.1 0 13 = nI lt2.length) (h2' : ∀ j, j < lt2.length → M'.1 6 j = nI (lt2.getD j 0)) : RR B im S lt2 rw M' := by
  unfold RR brdR at *
  rw [e0 5 (by decide), e0 6 (by decide), e0 7 (by decide), e0 8 (by decide), e0 17 (by decide), e0 20 (by decide), e0 24 (by decide), e 2 (by decide) (by decide), e 3 (by decide) (by decide), e 4 (by decide) (by decide), e 5 (by decide) (by decide), e 13 (by decide) (by decide), e 10 (by decide) (by decide)]
  exact ⟨h.1, h.2.1, h.2.2.1, h.2.2.2.1, h.2.2.2.2.1, h1', h2', h.2.2.2.2.2.2.2⟩
theorem RR.bd {B B2 : Bd} {im : Option Bd} {S : List Bd} {lt rw : List Nat} {M M' : Mem} (h : RR B im S lt rw M) (hb : brdR B2 M') (e0 : ∀ k, k = 13 ∨ k = 17 ∨ k = 24 → M'.1 0 k = M.1 0 k) (e : ∀ r, r = 6 ∨ r = 10 ∨ r = 13 → M'.1 r = M.1 r) (h4' : M'.1 0 20 = nI 0) : RR B2 im [] lt rw M' := by
  obtain ⟨h1, h2, h3, h4, h5, h6, h7, h8, h9⟩ := h
  refine ⟨hb, ?_, ?_, h4', fun k hk => absurd hk (Nat.not_lt_zero k), ?_, ?_, ?_, ?_⟩
  · rw [e0 17 (by omega)]; exact h2
  · rw [e 10 (by omega)]; exact h3
  · rw [e0 13 (by omega)]; exact h6
  · rw [e 6 (by omega)]; exact h7
  · rw [e0 24 (by omega)]; exact h8
  · rw [e 13 (by omega)]; exact h9
theorem getD_snoc {α : Type} {l : List α} {x a : α} {d : Nat} : (l ++ [x]).getD d a = if d < l.length then l.getD d a else if d = l.length then x else a := by
  by_cases c : d < l.length
  · rw [if_pos c, List.getD_eq_getElem?_getD, List.getD_eq_getElem?_getD, List.getElem?_append_left c]
  · rw [if_neg c]
    by_cases c2 : d = l.length
    · subst c2; rw [if_pos rfl]; simp
    · rw [if_neg c2, List.getD_eq_getElem?_getD, List.getElem?_eq_none (by simp; omega)]; rfl
/-! row -/
theorem sim_row {MC MR : Mem} (h : Inv MC MR) (a : Int32) : Sim (f_X11_row a MC) (f_X12_row a MR) := by
  obtain ⟨B, im, S, lt, rw', hw, hC, hR, hf⟩ := id h
  have hl := hw.2.2.2.2.2.2.1
  have c1 : MC.1 23 1 = nI rw'.length := hC.2.2.2.2.2.2.2.1
  have c2 := hC.2.2.2.2.2.2.2.2
  have r1 : MR.1 0 24 = nI rw'.length := hR.2.2.2.2.2.2.2.1
  have r2 := hR.2.2.2.2.2.2.2.2
  unfold f_X11_row f_X12_row f_X12_row_b24
  simp only [bind_bp]
  rw [c1, r1]
  rcases boundR a 99 (by decide) with ⟨h0, e⟩ | ⟨d, hd, hm, rfl, e⟩ | ⟨d, hd, rfl, e⟩
  · rw [show f_X12_bound a 0 99 = -4 from e, if_neg (show ¬ 0 ≤ a from i_neg_nle h0 (n := 0) (by decide)), if_neg (show ¬ (-4 : Int32) = 0 by decide), if_neg (show ¬ (-4 : Int32) = 0 by decide)]
    exact Sim.no4 h
  · rw [show f_X12_bound (nI d) 0 99 = -6 from e, if_pos (nI_pos' hd), if_pos (show 99 < nI d from nI_lt (a := 99) hm hd), if_neg (show ¬ (-6 : Int32) = 0 by decide), if_neg (show ¬ (-6 : Int32) = 0 by decide)]
    exact Sim.no6 h
  · rw [show f_X12_bound (nI d) 0 99 = 0 from e, if_pos (nI_pos' (by omega)), if_neg (show ¬ 99 < nI d from fun q => absurd ((nI_ltI (a := 99) (by decide) (by omega)).mp q) (by omega)), if_pos p00]
    by_cases c : rw'.length = 12
    · rw [c, if_neg (show ¬ nI 12 < 12 by decide), if_pos (show nI 12 = 12 from rfl), if_neg (show ¬ (-6 : Int32) = 0 by decide)]
      exact Sim.no6 h
    · rw [if_pos (show nI rw'.length < 12 from nI_lt (b := 12) (by omega) (by decide)), if_neg (show ¬ nI rw'.length = 12 from fun q => c (nI_e (b := 12) (by omega) (by decide) q)), if_pos p00]
      unfold f_X9_add
      rw [c1, if_neg (show ¬ 12 ≤ nI rw'.length from fun q => absurd ((nI_leI (a := 12) (by decide) (by omega)).mp q) (by omega)), stI_n (by omega) (by decide), stI_n (by omega) (by decide), Option.bind_some, Option.bind_some, nI_1]
      have w1 : (wI (wI MC 23 1 (nI (rw'.length + 1))) 24 rw'.length (nI d)).1 23 1 = nI (rw'.length + 1) := by rw [wI_at, if_neg (by omega), wI_at, if_pos ⟨rfl, rfl⟩]
      have w2 : (wI MR 13 rw'.length (nI d)).1 0 24 = nI rw'.length := by rw [wI_at, if_neg (by omega), r1]
      have w3 : (wI (wI MR 13 rw'.length (nI d)) 0 24 (nI (rw'.length + 1))).1 0 24 = nI (rw'.length + 1) := by rw [wI_at, if_pos ⟨rfl, rfl⟩]
      rw [w1, w2, nI_1, w3]
      have hlen : (rw' ++ [d]).length = rw'.length + 1 := by simp
      refine ⟨nI (rw'.length + 1), _, _, rfl, rfl, B, im, S, lt, rw' ++ [d], ⟨hw.1, hw.2.1, hw.2.2.1, hw.2.2.2.1, hw.2.2.2.2.1, hw.2.2.2.2.2.1, by rw [hlen]; omega, fun x hx => ?_⟩, hC.rw (fun r q1 q2 => ?_) ?_ (fun j hj => ?_), hR.rw (fun k hk => ?_) (fun r q1 q2 => ?_) ?_ (fun j hj => ?_), fun k hk => ?_⟩
      · rcases List.mem_append.mp hx with q | q
        · exact hw.2.2.2.2.2.2.2 x q
        · rw [List.mem_singleton] at q; omega
      · rw [wI_other q2, wI_other q1]
      · rw [w1, hlen]
      · rw [hlen] at hj
        rw [wI_at, getD_snoc]
        by_cases c3 : j = rw'.length
        · rw [if_pos ⟨rfl, c3⟩, if_neg (by omega), if_pos c3]
        · rw [if_neg (by omega), if_pos (by omega), wI_other (by decide)]; exact c2 j (by omega)
      · rw [wI_at, if_neg (by omega), wI_other (by decide)]
      · rw [wI_other q1, wI_other q2]
      · rw [wI_at, if_pos ⟨rfl, rfl⟩, hlen]
      · rw [hlen] at hj
        rw [wI_other (by decide), wI_at, getD_snoc]
        by_cases c3 : j = rw'.length
        · rw [if_pos ⟨rfl, c3⟩, if_neg (by omega), if_pos c3]
        · rw [if_neg (by omega), if_pos (by omega)]; exact r2 j (by omega)
      · rw [wI_other (by decide), wI_other (by decide), wI_other (by decide), wI_other (by decide)]; exact hf k hk
/-- an empty row on both sides -/
theorem Inv.clear {MC MR : Mem} (h : Inv MC MR) : Inv (wI MC 23 1 0) (wI MR 0 24 0) := by
  obtain ⟨B, im, S, lt, rw', hw, hC, hR, hf⟩ := h
  refine ⟨B, im, S, lt, [], ⟨hw.1, hw.2.1, hw.2.2.1, hw.2.2.2.1, hw.2.2.2.2.1, hw.2.2.2.2.2.1, by decide, fun x hx => by cases hx⟩, hC.rw (fun r q1 q2 => wI_other q1) ?_ (fun j hj => absurd hj (Nat.not_lt_zero j)), hR.rw (fun k hk => ?_) (fun r q1 q2 => wI_other q1) ?_ (fun j hj => absurd hj (Nat.not_lt_zero j)), fun k hk => ?_⟩
  · rw [wI_at, if_pos ⟨rfl, rfl⟩]; rfl
  · rw [wI_at, if_neg (by omega)]
  · rw [wI_at, if_pos ⟨rfl, rfl⟩]; rfl
  · rw [wI_other (by decide), wI_other (by decide)]; exact hf k hk
theorem sim_clear {MC MR : Mem} (h : Inv MC MR) : Sim (f_X11_clear MC) (f_X12_clear MR) := by
  have g := h.clear
  obtain ⟨B, im, S, lt, rw', hw, hC, hR, hf⟩ := h
  unfold f_X11_clear f_X12_clear
  rw [hC.2.2.2.2.2.2.2.1, hR.2.2.2.2.2.2.2.1]
  exact ⟨_, _, _, rfl, rfl, g⟩
theorem judge_lp {B : Bd} {im : Option Bd} {S : List Bd} {lt rw' : List Nat} {MC MR : Mem} (hw : wfS B im S lt rw') (hC : RC B im S lt rw' MC) (hR : RR B im S lt rw' MR) : ∀ (k i fuel fuel' : Nat), i + k = rw'.length → k < fuel → k < fuel' →
    ∃ v, f_X9_firstNotIn_b2 MC fuel (nI i) = some v ∧ f_X12_judge_b12 fuel' (nI rw'.length) (nI i) (wI MR 0 24 0) = some (v, wI MR 0 24 0) := by
  have hl := hw.2.2.2.2.2.2.1
  have h12 := hw.1.2.2.2.1
  intro k
  induction k with
  | zero =>
    intro i fuel fuel' hi hf hf'
    obtain ⟨f, rfl⟩ : ∃ f, fuel = f + 1 := ⟨fuel - 1, by omega⟩
    obtain ⟨f', rfl⟩ : ∃ f, fuel' = f + 1 := ⟨fuel' - 1, by omega⟩
    unfold f_X9_firstNotIn_b2 f_X12_judge_b12
    rw [hC.2.2.2.2.2.2.2.1, if_pos (nI_le (by omega) (by omega)), if_pos (nI_le (by omega) (by omega))]
    exact ⟨_, rfl, rfl⟩
  | succ k ih =>
    intro i fuel fuel' hi hf hf'
    obtain ⟨f, rfl⟩ : ∃ f, fuel = f + 1 := ⟨fuel - 1, by omega⟩
    obtain ⟨f', rfl⟩ : ∃ f, fuel' = f + 1 := ⟨fuel' - 1, by omega⟩
    have w6 : (wI MR 0 24 0).1 0 6 = nI (bpl B) := by rw [wI_at, if_neg (by omega)]; exact hR.1.2.1
    unfold f_X9_firstNotIn_b2 f_X12_judge_b12
    rw [hC.2.2.2.2.2.2.2.1, if_neg (nI_ge (by omega) (by omega)), if_neg (nI_ge (by omega) (by omega)), w6]
    unfold f_X0_hasPlace
    rw [if_neg (nI_pos (by omega)), hC.1.2.1]
    by_cases c : bpl B ≤ i
    · rw [if_pos (nI_le c (by omega)), if_pos p00, if_pos (nI_le c (by omega))]
      exact ⟨_, rfl, rfl⟩
    · rw [if_neg (nI_ge (by omega) (by omega)), if_neg n10, if_neg (nI_ge (by omega) (by omega)), ldI_n (by omega) (by decide), ldI_n (by omega) (by decide), ldI_n (by omega) (by decide), ldI_n (by omega) (by decide), Option.bind_some, Option.bind_some, Option.bind_some, Option.bind_some, wI_other (by decide), wI_other (by decide), hC.2.2.2.2.2.2.2.2 i (by omega), hR.2.2.2.2.2.2.2.2 i (by omega), hR.1.2.2.2.2.2.2.2 i (by omega), show MC.1 5 i = nI (lgA B i) from hC.1.2.2.2.2.2.2.2 i (by omega), nI_1]
      by_cases e : nI (lgA B i) = nI (rw'.getD i 0)
      · rw [if_pos e, if_pos e]
        exact ih (i + 1) f f' (by omega) (by omega) (by omega)
      · rw [if_neg e, if_neg e]
        exact ⟨_, rfl, rfl⟩
theorem sim_judge {MC MR : Mem} (h : Inv MC MR) : Sim (f_X11_judge MC) (f_X12_judge MR) := by
  have g := h.clear
  obtain ⟨B, im, S, lt, rw', hw, hC, hR, hf⟩ := h
  have hl := hw.2.2.2.2.2.2.1
  unfold f_X11_judge f_X12_judge
  rw [hR.2.2.2.2.2.2.2.1]
  obtain ⟨v, e1, e2⟩ := judge_lp hw hC hR rw'.length 0 FU FU (by omega) (FU_big (by omega)) (FU_big (by omega))
  rw [show f_X9_firstNotIn MC = some v from e1]
  exact ⟨v, _, _, rfl, e2, g⟩
/-! feed -/
theorem sim_feed {MC MR : Mem} (h : Inv MC MR) (a : Int32) : Sim (f_X11_feed a MC) (f_X12_feed a MR) := by
  obtain ⟨B, im, S, lt, rw', hw, hC, hR, hf⟩ := id h
  have hl := hw.2.2.2.2.1
  have c1 : MC.1 16 2 = nI lt.length := hC.2.2.2.2.2.1
  have c2 := hC.2.2.2.2.2.2.1
  have r1 : MR.1 0 13 = nI lt.length := hR.2.2.2.2.2.1
  have r2 := hR.2.2.2.2.2.2.1
  unfold f_X11_feed f_X12_feed f_X12_feed_b25
  simp only [bind_bp]
  rw [c1, r1]
  rcases boundR a 255 (by decide) with ⟨h0, e⟩ | ⟨d, hd, hm, rfl, e⟩ | ⟨d, hd, rfl, e⟩
  · rw [show f_X12_bound a 0 255 = -4 from e, if_neg (show ¬ 0 ≤ a from i_neg_nle h0 (n := 0) (by decide)), if_neg (show ¬ (-4 : Int32) = 0 by decide), if_neg (show ¬ (-4 : Int32) = 0 by decide)]
    exact Sim.no4 h
  · rw [show f_X12_bound (nI d) 0 255 = -6 from e, if_pos (nI_pos' hd), if_pos (show 255 < nI d from nI_lt (a := 255) hm hd), if_neg (show ¬ (-6 : Int32) = 0 by decide), if_neg (show ¬ (-6 : Int32) = 0 by decide)]
    exact Sim.no6 h
  · rw [show f_X12_bound (nI d) 0 255 = 0 from e, if_pos (nI_pos' (by omega)), if_neg (show ¬ 255 < nI d from fun q => absurd ((nI_ltI (a := 255) (by decide) (by omega)).mp q) (by omega)), if_pos p00]
    by_cases c : lt.length = 96
    · rw [c, if_neg (show ¬ nI 96 < 96 by decide), if_pos (show nI 96 = 96 from rfl), if_neg (show ¬ (-6 : Int32) = 0 by decide)]
      exact Sim.no6 h
    · rw [if_pos (show nI lt.length < 96 from nI_lt (b := 96) (by omega) (by decide)), if_neg (show ¬ nI lt.length = 96 from fun q => c (nI_e (b := 96) (by omega) (by decide) q)), if_pos p00]
      unfold f_X1_add
      rw [c1, if_neg (show ¬ 96 ≤ nI lt.length from fun q => absurd ((nI_leI (a := 96) (by decide) (by omega)).mp q) (by omega)), stI_n (by omega) (by decide), stI_n (by omega) (by decide), Option.bind_some, Option.bind_some, nI_1]
      have w1 : (wI (wI MC 16 2 (nI (lt.length + 1))) 17 lt.length (nI d)).1 16 2 = nI (lt.length + 1) := by rw [wI_at, if_neg (by omega), wI_at, if_pos ⟨rfl, rfl⟩]
      have w2 : (wI MR 6 lt.length (nI d)).1 0 13 = nI lt.length := by rw [wI_at, if_neg (by omega), r1]
      have w3 : (wI (wI MR 6 lt.length (nI d)) 0 13 (nI (lt.length + 1))).1 0 13 = nI (lt.length + 1) := by rw [wI_at, if_pos ⟨rfl, rfl⟩]
      rw [w1, w2, nI_1, w3]
      have hlen : (lt ++ [d]).length = lt.length + 1 := by simp
      refine ⟨nI (lt.length + 1), _, _, rfl, rfl, B, im, S, lt ++ [d], rw', ⟨hw.1, hw.2.1, hw.2.2.1, hw.2.2.2.1, by rw [hlen]; omega, fun x hx => ?_, hw.2.2.2.2.2.2⟩, hC.lt (fun r q1 q2 => ?_) ?_ (fun j hj => ?_), hR.lt (fun k hk => ?_) (fun r q1 q2 => ?_) ?_ (fun j hj => ?_), fun k hk => ?_⟩
      · rcases List.mem_append.mp hx with q | q
        · exact hw.2.2.2.2.2.1 x q
        · rw [List.mem_singleton] at q; omega
      · rw [wI_other q2, wI_other q1]
      · rw [w1, hlen]
      · rw [hlen] at hj
        rw [wI_at, getD_snoc]
        by_cases c3 : j = lt.length
        · rw [if_pos ⟨rfl, c3⟩, if_neg (by omega), if_pos c3]
        · rw [if_neg (by omega), if_pos (by omega), wI_other (by decide)]; exact c2 j (by omega)
      · rw [wI_at, if_neg (by omega), wI_other (by decide)]
      · rw [wI_other q1, wI_other q2]
      · rw [wI_at, if_pos ⟨rfl, rfl⟩, hlen]
      · rw [hlen] at hj
        rw [wI_other (by decide), wI_at, getD_snoc]
        by_cases c3 : j = lt.length
        · rw [if_pos ⟨rfl, c3⟩, if_neg (by omega), if_pos c3]
        · rw [if_neg (by omega), if_pos (by omega)]; exact r2 j (by omega)
      · rw [wI_other (by decide), wI_other (by decide), wI_other (by decide), wI_other (by decide)]; exact hf k hk
/-! doingOf -/
theorem sim_doingOf {MC MR : Mem} (h : Inv MC MR) (a b : Int32) : Sim (f_X11_doingOf a b MC) (f_X12_doingOf a b MR) := by
  obtain ⟨B, im, S, lt, rw', hw, hC, hR, hf⟩ := id h
  have hn := hw.1.2.2.1
  unfold f_X11_doingOf f_X12_doingOf
  simp only [bind_bp]
  rcases knows hC.1 hR.1 hw.1 a with ⟨e1, e2⟩ | ⟨e1, e2, d, hd, rfl⟩
  · rw [e1, e2, if_pos p00, if_pos p00]; exact Sim.no1 h
  · rw [e1, e2, if_neg n10, if_neg n10]
    by_cases c0 : b = 0
    · rw [if_pos c0, if_pos c0, ldI_n (by omega) (by decide), ldI_n (by omega) (by decide), show MC.1 2 d = nI (kd B d) from hC.1.2.2.2.2.1 d hd, hR.1.2.2.2.2.1 d hd]
      exact ⟨_, _, _, rfl, rfl, h⟩
    · rw [if_neg c0, if_neg c0]
      by_cases c1 : b = 1
      · rw [if_pos c1, if_pos c1, ldI_n (by omega) (by decide), ldI_n (by omega) (by decide), show MC.1 3 d = nI (fg B d) from hC.1.2.2.2.2.2.1 d hd, hR.1.2.2.2.2.2.1 d hd]
        exact ⟨_, _, _, rfl, rfl, h⟩
      · rw [if_neg c1, if_neg c1]
        by_cases c2 : b = 2
        · rw [if_pos c2, if_pos c2, ldMkC hC.1 hw.1 hd, ldMkR hR.1 hw.1 hd]
          exact ⟨_, _, _, rfl, rfl, h⟩
        · rw [if_neg c2, if_neg c2]; exact Sim.no2 h
/-! empties -/
theorem sim_empties {MC MR : Mem} (h : Inv MC MR) : Sim (f_X11_empties MC) (f_X12_empties MR) := by
  obtain ⟨B, im, S, lt, rw', hw, hC, hR, hf⟩ := h
  unfold f_X11_empties f_X12_empties f_X10_forget
  rw [Option.bind_some, hC.1.2.1]
  have w6 : (wI MR 0 20 0).1 0 6 = nI (bpl B) := by rw [wI_at, if_neg (by omega)]; exact hR.1.2.1
  rw [w6]
  refine ⟨nI (bpl B), _, _, rfl, rfl, (B.1, B.2.1, []), im, [], lt, rw', ⟨⟨hw.1.1, hw.1.2.1, hw.1.2.2.1, Nat.zero_le _, hw.1.2.2.2.2.1, (fun d hd => by cases hd)⟩, hw.2.1, Nat.zero_le _, (fun I hI => by cases hI), hw.2.2.2.2⟩, hC.bd ?_ (fun r hr => ?_) ?_ ?_, hR.bd ?_ (fun k hk => ?_) (fun r hr => ?_) ?_, fun k hk => ?_⟩
  · rw [wI_at, if_neg (by omega), wI_at, if_neg (by omega)]
  · rw [wI_other (by omega), wI_other (by omega)]
  · obtain ⟨h1, h2, h3, h4, h5, h6, h7, h8⟩ := hC.1
    refine ⟨?_, ?_, ?_, ?_, fun j hj => ?_, fun j hj => ?_, fun j hj => ?_, fun j hj => absurd hj (Nat.not_lt_zero j)⟩
    · rw [wI_at, if_neg (by omega), wI_at, if_neg (by omega)]; exact h1
    · rw [wI_at, if_neg (by omega), wI_at, if_pos ⟨rfl, rfl⟩]; rfl
    · rw [wI_at, if_neg (by omega), wI_at, if_neg (by omega)]; exact h3
    · rw [wI_at, if_neg (by omega), wI_at, if_neg (by omega)]; exact h4
    · rw [wI_other (by decide), wI_other (by decide)]; exact h5 j hj
    · rw [wI_other (by decide), wI_other (by decide)]; exact h6 j hj
    · rw [wI_other (by decide), wI_other (by decide)]; exact h7 j hj
  · rw [wI_at, if_pos ⟨rfl, rfl⟩]; rfl
  · obtain ⟨h1, h2, h3, h4, h5, h6, h7, h8⟩ := hR.1
    refine ⟨?_, ?_, ?_, ?_, fun j hj => ?_, fun j hj => ?_, fun j hj => ?_, fun j hj => absurd hj (Nat.not_lt_zero j)⟩
    · rw [wI_at, if_neg (by omega), wI_at, if_neg (by omega)]; exact h1
    · rw [wI_at, if_pos ⟨rfl, rfl⟩]; rfl
    · rw [wI_at, if_neg (by omega), wI_at, if_neg (by omega)]; exact h3
    · rw [wI_at, if_neg (by omega), wI_at, if_neg (by omega)]; exact h4
    · rw [wI_other (by decide), wI_other (by decide)]; exact h5 j hj
    · rw [wI_other (by decide), wI_other (by decide)]; exact h6 j hj
    · rw [wI_other (by decide), wI_other (by decide)]; exact h7 j hj
  · rw [wI_at, if_neg (by omega), wI_at, if_neg (by omega)]
  · rw [wI_other (by omega), wI_other (by omega)]
  · rw [wI_at, if_neg (by omega), wI_at, if_pos ⟨rfl, rfl⟩]; rfl
  · rw [wI_other (by decide), wI_other (by decide), wI_other (by decide), wI_other (by decide)]; exact hf k hk
/-! image, restore -/
theorem cpI_n {M : Mem} {q0 q1 n : Nat} (hn : n < 2 ^ 31) : cpI M q0 n q1 n 0 0 (nI n) = some (wA M q1 (fun k => if k < n then M.1 q0 k else M.1 q1 k)) := by
  have hc := nI_clamp (n := n) hn
  have h0 : (0 : Int32).toNatClampNeg = 0 := rfl
  unfold cpI
  rw [hc, h0, if_neg (by
    intro q
    rcases q with q | q | q | q | q
    · exact absurd q (by decide)
    · exact absurd q (by decide)
    · exact nI_pos hn q
    · omega
    · omega)]
  congr 2
  funext k
  unfold va_cpy
  by_cases c : k < n
  · rw [if_pos ⟨Nat.zero_le _, by omega⟩, if_pos c, Nat.sub_zero, Nat.zero_add]
  · rw [if_neg (by omega), if_neg c]
theorem wA_at {M : Mem} {r r' : Nat} {f : Nat → Int32} : (wA M r f).1 r' = if r' = r then f else M.1 r' := rfl
theorem become_ok {b b2 : Nat} {B : Bd} {M : Mem} (hw : wfB B) (h : brdC b2 B M) (hd : b + 4 < b2 ∨ b2 + 4 < b) : ok (f_X0_become b b2 M) (fun M' => brdC b B M' ∧ (∀ r, r < b ∨ b + 4 < r → M'.1 r = M.1 r)) := by
  have hn := hw.2.2.1
  have h12 := hw.2.2.2.1
  obtain ⟨h1, h2, h3, h4, h5, h6, h7, h8⟩ := h
  unfold f_X0_become f_X0_setLaw
  rw [show (8 : Int32) = nI 8 from rfl, show (12 : Int32) = nI 12 from rfl, cpI_n (by decide), Option.bind_some, cpI_n (by decide), Option.bind_some, cpI_n (by decide), Option.bind_some, cpI_n (by decide), Option.bind_some, Option.bind_some]
  refine ok_some ⟨⟨?_, ?_, ?_, ?_, fun j hj => ?_, fun j hj => ?_, fun j hj => ?_, fun j hj => ?_⟩, fun r hr => ?_⟩
  · simp only [wI_at, wA_at]
    simp
    rw [if_neg (by omega), if_neg (by omega), if_neg (by omega), if_neg (by omega)]; exact h1
  · simp only [wI_at, wA_at]
    simp
    rw [if_neg (by omega), if_neg (by omega), if_neg (by omega), if_neg (by omega)]; exact h2
  · simp only [wI_at, wA_at]
    simp
    rw [if_neg (by omega), if_neg (by omega), if_neg (by omega), if_neg (by omega)]; exact h3
  · simp only [wI_at, wA_at]
    simp
    rw [if_neg (by omega), if_neg (by omega), if_neg (by omega), if_neg (by omega)]; exact h4
  · rw [wI_other (by omega), wI_other (by omega), wI_other (by omega), wI_other (by omega)]
    simp only [wA_at]
    rw [if_neg (by omega), if_neg (by omega), if_neg (by omega), if_pos trivial]
    show (if j < 8 then _ else _) = _
    rw [if_pos (by omega)]
    exact h5 j hj
  · rw [wI_other (by omega), wI_other (by omega), wI_other (by omega), wI_other (by omega)]
    simp only [wA_at]
    rw [if_neg (by omega), if_neg (by omega), if_pos trivial]
    show (if j < 8 then _ else _) = _
    rw [if_pos (by omega), if_neg (by omega)]
    exact h6 j hj
  · rw [wI_other (by omega), wI_other (by omega), wI_other (by omega), wI_other (by omega)]
    simp only [wA_at]
    rw [if_neg (by omega), if_pos trivial]
    show (if j < 8 then _ else _) = _
    rw [if_pos (by omega), if_neg (by omega), if_neg (by omega)]
    exact h7 j hj
  · rw [wI_other (by omega), wI_other (by omega), wI_other (by omega), wI_other (by omega)]
    simp only [wA_at]
    rw [if_pos trivial]
    show (if j < 12 then _ else _) = _
    rw [if_pos (by omega), if_neg (by omega), if_neg (by omega), if_neg (by omega)]
    exact h8 j hj
  · rw [wI_other (by omega), wI_other (by omega), wI_other (by omega), wI_other (by omega)]
    simp only [wA_at]
    rw [if_neg (by omega), if_neg (by omega), if_neg (by omega), if_neg (by omega)]
theorem sim_image {MC MR : Mem} (h : Inv MC MR) : Sim (f_X11_image MC) (f_X12_image MR) := by
  obtain ⟨B, im, S, lt, rw', hw, hC, hR, hf⟩ := h
  obtain ⟨M1, e1, b1, b2⟩ := become_ok (b := 6) (b2 := 1) hw.1 hC.1 (by omega)
  obtain ⟨M2, e2, g1, g2, g3, g4⟩ := allK (w := 0) (M := wI MR 0 17 1) (by decide)
  unfold f_X11_image f_X12_image
  rw [e1, show f_X12_passesAll 0 1 (wI MR 0 17 1) = some M2 from e2, Option.bind_some, Option.bind_some]
  have bC : brdC 1 B M1 := hC.1.cong fun r q1 q2 => b2 r (by omega)
  have gk : ∀ k, k ≠ 17 → k ≠ 18 → k ≠ 19 → M2.1 0 k = MR.1 0 k := fun k q1 q2 q3 => by rw [g3 k q2 q3, wI_at, if_neg (by omega)]
  have gr : ∀ r, r ≠ 0 → r ≠ 10 → M2.1 r = MR.1 r := fun r q1 q2 => by rw [g4 r q1 q2, wI_other q1]
  have hbR : brdR B M2 := by
    obtain ⟨h1, h2, h3, h4, h5, h6, h7, h8⟩ := hR.1
    unfold brdR
    rw [gk 5 (by decide) (by decide) (by decide), gk 6 (by decide) (by decide) (by decide), gk 7 (by decide) (by decide) (by decide), gk 8 (by decide) (by decide) (by decide), gr 2 (by decide) (by decide), gr 3 (by decide) (by decide), gr 4 (by decide) (by decide), gr 5 (by decide) (by decide)]
    exact ⟨h1, h2, h3, h4, h5, h6, h7, h8⟩
  have hbR' : brdR B (wI MR 0 17 1) := by
    obtain ⟨h1, h2, h3, h4, h5, h6, h7, h8⟩ := hR.1
    unfold brdR
    rw [wI_at, if_neg (by omega), wI_at, if_neg (by omega), wI_at, if_neg (by omega), wI_at, if_neg (by omega), wI_other (by decide), wI_other (by decide), wI_other (by decide), wI_other (by decide)]
    exact ⟨h1, h2, h3, h4, h5, h6, h7, h8⟩
  have w1 : (wI M1 0 2 1).1 1 5 = nI (bpl B) := by rw [wI_at, if_neg (by omega)]; exact bC.2.1
  rw [w1, show M2.1 0 6 = nI (bpl B) from hbR.2.1]
  obtain ⟨h1, h2, h3, h4, h5, h6, h7, h8, h9⟩ := hC
  obtain ⟨k1, k2, k3, k4, k5, k6, k7, k8, k9⟩ := hR
  refine ⟨nI (bpl B), _, _, rfl, rfl, B, some B, S, lt, rw', ⟨hw.1, fun I hI => by cases hI; exact hw.1, hw.2.2⟩, ⟨?_, ?_, fun I hI => ?_, ?_, fun k hk => ?_, ?_, fun j hj => ?_, ?_, fun j hj => ?_⟩, ⟨hbR, ?_, fun I hI => ?_, ?_, fun k hk => ?_, ?_, fun j hj => ?_, ?_, fun j hj => ?_⟩, fun k hk => ?_⟩
  · exact bC.cong fun r q1 q2 => wI_other (by omega)
  · rw [wI_at, if_pos ⟨rfl, rfl⟩]; rfl
  · cases hI
    exact b1.cong fun r q1 q2 => wI_other (by omega)
  · rw [wI_other (by decide), b2 11 (by omega)]; exact h4
  · unfold TBk
    rw [wI_other (by decide), wI_other (by decide), wI_other (by decide), wI_other (by decide), b2 12 (by omega), b2 13 (by omega), b2 14 (by omega), b2 15 (by omega)]
    exact h5 k hk
  · rw [wI_other (by decide), b2 16 (by omega)]; exact h6
  · rw [wI_other (by decide), b2 17 (by omega)]; exact h7 j hj
  · rw [wI_other (by decide), b2 23 (by omega)]; exact h8
  · rw [wI_other (by decide), b2 24 (by omega)]; exact h9 j hj
  · rw [g3 17 (by decide) (by decide), wI_at, if_pos ⟨rfl, rfl⟩]; rfl
  · cases hI
    refine brdV_cong hw.1 ((brdV_R hw.1).mpr hbR') (fun i hi => ?_)
    have := g1 i hi
    rw [show 40 * 0 + i = i by omega] at this
    exact this
  · rw [gk 20 (by decide) (by decide) (by decide)]; exact k4
  · refine brdV_cong (hw.2.2.2.1 _ ?_) (k5 k hk) (fun i hi => ?_)
    · rw [List.getD_eq_getElem?_getD, List.getElem?_eq_getElem hk]
      exact List.getElem_mem hk
    · rw [g2 _ (by omega), wI_other (by decide)]
  · rw [gk 13 (by decide) (by decide) (by decide)]; exact k6
  · rw [gr 6 (by decide) (by decide)]; exact k7 j hj
  · rw [gk 24 (by decide) (by decide) (by decide)]; exact k8
  · rw [gr 13 (by decide) (by decide)]; exact k9 j hj
  · rw [wI_other (by decide), b2 43 (by omega), gr 1 (by decide) (by decide)]; exact hf k hk
theorem sim_restore {MC MR : Mem} (h : Inv MC MR) : Sim (f_X11_restore MC) (f_X12_restore MR) := by
  obtain ⟨B, im, S, lt, rw', hw, hC, hR, hf⟩ := id h
  unfold f_X11_restore f_X12_restore
  simp only [bind_bp]
  rw [hC.2.1, hR.2.1]
  cases im with
  | none => rw [if_pos (show bI (none : Option Bd).isSome = 0 by decide), if_pos (show bI (none : Option Bd).isSome = 0 by decide)]; exact Sim.no3 h
  | some I =>
    rw [if_neg (show ¬ bI (some I).isSome = 0 from n10), if_neg (show ¬ bI (some I).isSome = 0 from n10)]
    have hI := hw.2.1 I rfl
    obtain ⟨M1, e1, b1, b2⟩ := become_ok (b := 1) (b2 := 6) (M := MC) hI (hC.2.2.1 I rfl) (by omega)
    obtain ⟨M2, e2, g1, g2, g3, g4⟩ := allB (w := 0) (M := MR) (by decide)
    unfold f_X10_forget
    rw [e1, show f_X12_passesAll 0 0 MR = some M2 from e2, Option.bind_some, Option.bind_some, Option.bind_some]
    have bR : brdR I M2 := (brdV_R hI).mp (brdV_cong hI (hR.2.2.1 I rfl) (fun i hi => by
      have := g1 i hi
      rw [show 40 * 0 + i = i by omega] at this
      exact this))
    have w1 : (wI M1 11 4 0).1 1 5 = nI (bpl I) := by rw [wI_other (by decide)]; exact b1.2.1
    have w2 : (wI M2 0 20 0).1 0 6 = nI (bpl I) := by rw [wI_at, if_neg (by omega)]; exact bR.2.1
    rw [w1, w2]
    refine ⟨nI (bpl I), _, _, rfl, rfl, I, some I, [], lt, rw', ⟨hI, hw.2.1, Nat.zero_le _, (fun I hI => by cases hI), hw.2.2.2.2⟩, hC.bd ?_ (fun r hr => ?_) ?_ ?_, hR.bd ?_ (fun k hk => ?_) (fun r hr => ?_) ?_, fun k hk => ?_⟩
    · rw [wI_other (by decide), b2 0 (by omega)]
    · rw [wI_other (by omega), b2 r (by omega)]
    · exact b1.cong fun r q1 q2 => wI_other (by omega)
    · rw [wI_at, if_pos ⟨rfl, rfl⟩]; rfl
    · obtain ⟨h1, h2, h3, h4, h5, h6, h7, h8⟩ := bR
      unfold brdR
      rw [wI_at, if_neg (by omega), wI_at, if_neg (by omega), wI_at, if_neg (by omega), wI_at, if_neg (by omega), wI_other (by decide), wI_other (by decide), wI_other (by decide), wI_other (by decide)]
      exact ⟨h1, h2, h3, h4, h5, h6, h7, h8⟩
    · rw [wI_at, if_neg (by omega), g3 k (by omega) (by omega) (by omega)]
    · rw [wI_other (by omega)]
      by_cases c : r = 10
      · rw [c, g2]
      · rw [g4 r (by omega) (by omega)]
    · rw [wI_at, if_pos ⟨rfl, rfl⟩]; rfl
    · rw [wI_other (by decide), wI_other (by decide), b2 43 (by omega), g4 1 (by decide) (by decide)]; exact hf k hk
