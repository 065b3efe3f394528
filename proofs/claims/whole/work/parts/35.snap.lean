/-! the model's snapshots: a board kept in a row of 40, put back -/
theorem passK_lp {q n c0 : Nat} (hq : q ≠ 0) (hq2 : q ≠ 10) (hn : n ≤ 12) (hc : c0 + n ≤ 480) : ∀ (k i fuel : Nat) (M : Mem), i + k = n → k < fuel → M.1 0 18 = 1 → M.1 0 19 = nI (c0 + i) →
    ok (f_X12_passes_b2 q n fuel (nI i) M) (fun M' => (∀ j, i ≤ j → j < n → M'.1 10 (c0 + j) = M.1 q j) ∧ (∀ j, j < c0 + i ∨ c0 + n ≤ j → M'.1 10 j = M.1 10 j) ∧ M'.1 0 19 = nI (c0 + n) ∧ (∀ k, k ≠ 19 → M'.1 0 k = M.1 0 k) ∧ (∀ r, r ≠ 0 → r ≠ 10 → M'.1 r = M.1 r)) := by
  intro k
  induction k with
  | zero =>
    intro i fuel M hi hf h18 h19
    obtain ⟨f, rfl⟩ : ∃ f, fuel = f + 1 := ⟨fuel - 1, by omega⟩
    obtain rfl : i = n := by omega
    unfold f_X12_passes_b2
    exact ok_pos (nI_le (by omega) (by omega)) (ok_some ⟨fun j h1 h2 => by omega, fun _ _ => rfl, h19, fun _ _ => rfl, fun _ _ _ => rfl⟩)
  | succ k ih =>
    intro i fuel M hi hf h18 h19
    obtain ⟨f, rfl⟩ : ∃ f, fuel = f + 1 := ⟨fuel - 1, by omega⟩
    unfold f_X12_passes_b2
    refine ok_neg (nI_ge (by omega) (by omega)) ?_
    rw [h18]
    refine ok_neg (by decide) (ok_ld (by omega) (by omega) rfl ?_)
    rw [h19]
    refine ok_st (by omega) (by decide) ?_
    rw [nI_1]
    have e19 : (wI M 10 (c0 + i) (M.1 q i)).1 0 19 + 1 = nI (c0 + (i + 1)) := by
      rw [wI_at, if_neg (by omega), h19]; exact nI_1 _
    rw [e19]
    refine ok_mono (ih (i + 1) f _ (by omega) (by omega) (by rw [wI_at, if_neg (by omega), wI_at, if_neg (by omega)]; exact h18) (by rw [wI_at, if_pos ⟨rfl, rfl⟩])) (fun M' ⟨g1, g2, g3, g4, g5⟩ => ⟨fun j h1 h2 => ?_, fun j hj => ?_, g3, fun k hk => ?_, fun r h1 h2 => ?_⟩)
    · by_cases z : j = i
      · subst z
        rw [g2 (c0 + j) (by omega), wI_at, if_neg (by omega), wI_at, if_pos ⟨rfl, rfl⟩]
      · rw [g1 j (by omega) h2, wI_at, if_neg (by omega), wI_at, if_neg (by omega)]
    · rw [g2 j (by omega), wI_at, if_neg (by omega), wI_at, if_neg (by omega)]
    · rw [g4 k hk, wI_at, if_neg (by omega), wI_at, if_neg (by omega)]
    · rw [g5 r h1 h2, wI_other h1, wI_other h2]
theorem passB_lp {q n c0 : Nat} (hq : q ≠ 0) (hq2 : q ≠ 10) (hn : n ≤ 12) (hc : c0 + n ≤ 480) : ∀ (k i fuel : Nat) (M : Mem), i + k = n → k < fuel → M.1 0 18 = 0 → M.1 0 19 = nI (c0 + i) →
    ok (f_X12_passes_b2 q n fuel (nI i) M) (fun M' => (∀ j, i ≤ j → j < n → M'.1 q j = M.1 10 (c0 + j)) ∧ (∀ j, j < i → M'.1 q j = M.1 q j) ∧ M'.1 0 19 = nI (c0 + n) ∧ (∀ k, k ≠ 19 → M'.1 0 k = M.1 0 k) ∧ (∀ r, r ≠ 0 → r ≠ q → M'.1 r = M.1 r)) := by
  intro k
  induction k with
  | zero =>
    intro i fuel M hi hf h18 h19
    obtain ⟨f, rfl⟩ : ∃ f, fuel = f + 1 := ⟨fuel - 1, by omega⟩
    obtain rfl : i = n := by omega
    unfold f_X12_passes_b2
    exact ok_pos (nI_le (by omega) (by omega)) (ok_some ⟨fun j h1 h2 => by omega, fun _ _ => rfl, h19, fun _ _ => rfl, fun _ _ _ => rfl⟩)
  | succ k ih =>
    intro i fuel M hi hf h18 h19
    obtain ⟨f, rfl⟩ : ∃ f, fuel = f + 1 := ⟨fuel - 1, by omega⟩
    unfold f_X12_passes_b2
    refine ok_neg (nI_ge (by omega) (by omega)) ?_
    rw [h18]
    refine ok_pos rfl ?_
    rw [h19]
    refine ok_ld (by omega) (by omega) rfl ?_
    refine ok_st (by omega) (by omega) ?_
    rw [nI_1]
    have e19 : (wI M q i (M.1 10 (c0 + i))).1 0 19 + 1 = nI (c0 + (i + 1)) := by
      rw [wI_at, if_neg (by omega), h19]; exact nI_1 _
    rw [e19]
    refine ok_mono (ih (i + 1) f _ (by omega) (by omega) (by rw [wI_at, if_neg (by omega), wI_at, if_neg (by omega)]; exact h18) (by rw [wI_at, if_pos ⟨rfl, rfl⟩])) (fun M' ⟨g1, g2, g3, g4, g5⟩ => ⟨fun j h1 h2 => ?_, fun j hj => ?_, g3, fun k hk => ?_, fun r h1 h2 => ?_⟩)
    · by_cases z : j = i
      · subst z
        rw [g2 j (by omega), wI_at, if_neg (by omega), wI_at, if_pos ⟨rfl, rfl⟩]
      · rw [g1 j (by omega) h2, wI_at, if_neg (by omega), wI_at, if_neg (by omega)]
    · rw [g2 j (by omega), wI_at, if_neg (by omega), wI_at, if_neg (by omega)]
    · rw [g4 k hk, wI_at, if_neg (by omega), wI_at, if_neg (by omega)]
    · rw [g5 r h1 h2, wI_other h1, wI_other h2]
theorem passK {q n c0 : Nat} {M : Mem} (hq : q ≠ 0) (hq2 : q ≠ 10) (hn : n ≤ 12) (hc : c0 + n ≤ 480) (h18 : M.1 0 18 = 1) (h19 : M.1 0 19 = nI c0) :
    ok (f_X12_passes q n M) (fun M' => (∀ j, j < n → M'.1 10 (c0 + j) = M.1 q j) ∧ (∀ j, j < c0 ∨ c0 + n ≤ j → M'.1 10 j = M.1 10 j) ∧ M'.1 0 19 = nI (c0 + n) ∧ (∀ k, k ≠ 19 → M'.1 0 k = M.1 0 k) ∧ (∀ r, r ≠ 0 → r ≠ 10 → M'.1 r = M.1 r)) := by
  unfold f_X12_passes
  exact ok_mono (passK_lp hq hq2 hn hc n 0 FU M (by omega) (FU_big (by omega)) h18 h19) (fun M' ⟨g1, g2⟩ => ⟨fun j hj => g1 j (by omega) hj, g2⟩)
theorem passB {q n c0 : Nat} {M : Mem} (hq : q ≠ 0) (hq2 : q ≠ 10) (hn : n ≤ 12) (hc : c0 + n ≤ 480) (h18 : M.1 0 18 = 0) (h19 : M.1 0 19 = nI c0) :
    ok (f_X12_passes q n M) (fun M' => (∀ j, j < n → M'.1 q j = M.1 10 (c0 + j)) ∧ M'.1 0 19 = nI (c0 + n) ∧ (∀ k, k ≠ 19 → M'.1 0 k = M.1 0 k) ∧ (∀ r, r ≠ 0 → r ≠ q → M'.1 r = M.1 r)) := by
  unfold f_X12_passes
  exact ok_mono (passB_lp hq hq2 hn hc n 0 FU M (by omega) (FU_big (by omega)) h18 h19) (fun M' ⟨g1, g2, g3⟩ => ⟨fun j hj => g1 j (by omega) hj, g3⟩)
theorem pass1K {c0 : Nat} {v : Int32} {M : Mem} (hc : c0 < 480) (h18 : M.1 0 18 = 1) (h19 : M.1 0 19 = nI c0) :
    f_X12_passOne v M = some (v, wI (wI M 10 c0 v) 0 19 (nI (c0 + 1))) := by
  unfold f_X12_passOne f_X12_passOne_b20
  rw [h18, if_neg (by decide), if_neg (by decide), h19, stI_n hc (by decide), Option.bind_some, wI_at, if_neg (by omega), h19, nI_1]
theorem pass1B {c0 : Nat} {v : Int32} {M : Mem} (hc : c0 < 480) (h18 : M.1 0 18 = 0) (h19 : M.1 0 19 = nI c0) :
    f_X12_passOne v M = some (M.1 10 c0, wI M 0 19 (nI (c0 + 1))) := by
  unfold f_X12_passOne f_X12_passOne_b20
  rw [h18, if_pos rfl, h19, ldI_n hc (by decide), Option.bind_some, if_pos rfl, nI_1]
def bv (M : Mem) (i : Nat) : Int32 := if i < 8 then M.1 2 i else if i < 16 then M.1 3 (i - 8) else if i < 24 then M.1 4 (i - 16) else if i < 36 then M.1 5 (i - 24) else M.1 0 (i - 31)
theorem allK {w : Nat} {M : Mem} (hw : w < 12) : ok (f_X12_passesAll (nI w) 1 M) (fun M' => (∀ i, i < 40 → M'.1 10 (40 * w + i) = bv M i) ∧ (∀ j, j < 40 * w ∨ 40 * w + 40 ≤ j → M'.1 10 j = M.1 10 j) ∧ (∀ k, k ≠ 18 → k ≠ 19 → M'.1 0 k = M.1 0 k) ∧ (∀ r, r ≠ 0 → r ≠ 10 → M'.1 r = M.1 r)) := by
  unfold f_X12_passesAll
  rw [gZ1, Option.bind_some, l_40, pk_mul]
  have a18 : (wI (wI M 0 19 (nI (40 * w))) 0 18 1).1 0 18 = 1 := by rw [wI_at, if_pos ⟨rfl, rfl⟩]
  have a19 : (wI (wI M 0 19 (nI (40 * w))) 0 18 1).1 0 19 = nI (40 * w) := by rw [wI_at, if_neg (by decide), wI_at, if_pos ⟨rfl, rfl⟩]
  have a0 : ∀ k, k ≠ 18 → k ≠ 19 → (wI (wI M 0 19 (nI (40 * w))) 0 18 1).1 0 k = M.1 0 k := fun k h1 h2 => by rw [wI_at, if_neg (by omega), wI_at, if_neg (by omega)]
  have ar : ∀ r, r ≠ 0 → (wI (wI M 0 19 (nI (40 * w))) 0 18 1).1 r = M.1 r := fun r h1 => by rw [wI_other h1, wI_other h1]
  revert a18 a19 a0 ar
  generalize wI (wI M 0 19 (nI (40 * w))) 0 18 1 = M1
  intro a18 a19 a0 ar
  refine ok_bind (passK (q := 2) (n := 8) (c0 := 40 * w) (by decide) (by decide) (by decide) (by omega) a18 a19) (fun M2 ⟨b1, b2, b3, b4, b5⟩ => ?_)
  refine ok_bind (passK (q := 3) (n := 8) (c0 := 40 * w + 8) (by decide) (by decide) (by decide) (by omega) (by rw [b4 18 (by decide)]; exact a18) b3) (fun M3 ⟨c1, c2, c3, c4, c5⟩ => ?_)
  refine ok_bind (passK (q := 4) (n := 8) (c0 := 40 * w + 8 + 8) (by decide) (by decide) (by decide) (by omega) (by rw [c4 18 (by decide), b4 18 (by decide)]; exact a18) c3) (fun M4 ⟨d1, d2, d3, d4, d5⟩ => ?_)
  refine ok_bind (passK (q := 5) (n := 12) (c0 := 40 * w + 8 + 8 + 8) (by decide) (by decide) (by decide) (by omega) (by rw [d4 18 (by decide), c4 18 (by decide), b4 18 (by decide)]; exact a18) d3) (fun M5 ⟨e1, e2, e3, e4, e5⟩ => ?_)
  have f18 : M5.1 0 18 = 1 := by rw [e4 18 (by decide), d4 18 (by decide), c4 18 (by decide), b4 18 (by decide)]; exact a18
  have fk : ∀ k, k ≠ 18 → k ≠ 19 → M5.1 0 k = M.1 0 k := fun k h1 h2 => by rw [e4 k h2, d4 k h2, c4 k h2, b4 k h2, a0 k h1 h2]
  have fr' : ∀ r, r ≠ 0 → r ≠ 10 → M5.1 r = M.1 r := fun r h1 h2 => by rw [e5 r h1 h2, d5 r h1 h2, c5 r h1 h2, b5 r h1 h2, ar r h1]
  have g1 : ∀ i, i < 36 → M5.1 10 (40 * w + i) = bv M i := by
    intro i hi
    unfold bv
    by_cases q1 : i < 8
    · rw [if_pos q1, e2 _ (by omega), d2 _ (by omega), c2 _ (by omega), b1 i q1, ar 2 (by decide)]
    · rw [if_neg q1]
      by_cases q2 : i < 16
      · rw [if_pos q2, e2 _ (by omega), d2 _ (by omega)]
        have := c1 (i - 8) (by omega)
        rw [show 40 * w + 8 + (i - 8) = 40 * w + i by omega] at this
        rw [this, b5 3 (by decide) (by decide), ar 3 (by decide)]
      · rw [if_neg q2]
        by_cases q3 : i < 24
        · rw [if_pos q3, e2 _ (by omega)]
          have := d1 (i - 16) (by omega)
          rw [show 40 * w + 8 + 8 + (i - 16) = 40 * w + i by omega] at this
          rw [this, c5 4 (by decide) (by decide), b5 4 (by decide) (by decide), ar 4 (by decide)]
        · rw [if_neg q3, if_pos hi]
          have := e1 (i - 24) (by omega)
          rw [show 40 * w + 8 + 8 + 8 + (i - 24) = 40 * w + i by omega] at this
          rw [this, d5 5 (by decide) (by decide), c5 5 (by decide) (by decide), b5 5 (by decide) (by decide), ar 5 (by decide)]
  have g2 : ∀ j, j < 40 * w ∨ 40 * w + 36 ≤ j → M5.1 10 j = M.1 10 j := fun j hj => by
    rw [e2 j (by omega), d2 j (by omega), c2 j (by omega), b2 j (by omega), ar 10 (by decide)]
  have e3' : M5.1 0 19 = nI (40 * w + 36) := e3
  clear e3 e1 e2 e4 e5 d1 d2 d3 d4 d5 c1 c2 c3 c4 c5 b1 b2 b3 b4 b5 a18 a19 a0 ar
  rw [pass1K (by omega) f18 e3', Option.bind_some]
  simp only [bp]
  rw [pass1K (c0 := 40 * w + 37) (by omega) (by simp only [wI_at]; simp; exact f18) (by simp [wI_at]), Option.bind_some]
  simp only [bp]
  rw [pass1K (c0 := 40 * w + 38) (by omega) (by simp only [wI_at]; simp; exact f18) (by simp [wI_at]), Option.bind_some]
  simp only [bp]
  rw [pass1K (c0 := 40 * w + 39) (by omega) (by simp only [wI_at]; simp; exact f18) (by simp [wI_at]), Option.bind_some]
  simp only [bp]
  refine ok_some ⟨fun i hi => ?_, fun j hj => ?_, fun k h1 h2 => ?_, fun r h1 h2 => ?_⟩
  · by_cases q : i < 36
    · simp only [wI_at]
      simp
      rw [if_neg (by omega), if_neg (by omega), if_neg (by omega), if_neg (by omega)]
      exact g1 i q
    · have : i = 36 ∨ i = 37 ∨ i = 38 ∨ i = 39 := by omega
      rcases this with rfl | rfl | rfl | rfl <;> simp [wI_at, bv, fk]
  · simp only [wI_at]
    simp
    rw [if_neg (by omega), if_neg (by omega), if_neg (by omega), if_neg (by omega)]
    exact g2 j (by omega)
  · simp only [wI_at]
    simp [h2]
    rcases (show k = 5 ∨ k = 6 ∨ k = 7 ∨ k = 8 ∨ (k ≠ 5 ∧ k ≠ 6 ∧ k ≠ 7 ∧ k ≠ 8) by omega) with rfl | rfl | rfl | rfl | ⟨z1, z2, z3, z4⟩
    · simp [fk]
    · simp [fk]
    · simp [fk]
    · simp [fk]
    · simp [z1, z2, z3, z4, fk k h1 h2]
  · rw [wI_other h1, wI_other h1, wI_other h2, wI_other h1, wI_other h1, wI_other h2, wI_other h1, wI_other h1, wI_other h2, wI_other h1, wI_other h1, wI_other h2]
    exact fr' r h1 h2
theorem allB {w : Nat} {M : Mem} (hw : w < 12) : ok (f_X12_passesAll (nI w) 0 M) (fun M' => (∀ i, i < 40 → bv M' i = M.1 10 (40 * w + i)) ∧ M'.1 10 = M.1 10 ∧ (∀ k, (k < 5 ∨ 8 < k) → k ≠ 18 → k ≠ 19 → M'.1 0 k = M.1 0 k) ∧ (∀ r, r ≠ 0 → (r < 2 ∨ 5 < r) → M'.1 r = M.1 r)) := by
  unfold f_X12_passesAll
  rw [gZ0, Option.bind_some, l_40, pk_mul]
  have a18 : (wI (wI M 0 19 (nI (40 * w))) 0 18 0).1 0 18 = 0 := by rw [wI_at, if_pos ⟨rfl, rfl⟩]
  have a19 : (wI (wI M 0 19 (nI (40 * w))) 0 18 0).1 0 19 = nI (40 * w) := by rw [wI_at, if_neg (by decide), wI_at, if_pos ⟨rfl, rfl⟩]
  have a0 : ∀ k, k ≠ 18 → k ≠ 19 → (wI (wI M 0 19 (nI (40 * w))) 0 18 0).1 0 k = M.1 0 k := fun k h1 h2 => by rw [wI_at, if_neg (by omega), wI_at, if_neg (by omega)]
  have ar : ∀ r, r ≠ 0 → (wI (wI M 0 19 (nI (40 * w))) 0 18 0).1 r = M.1 r := fun r h1 => by rw [wI_other h1, wI_other h1]
  revert a18 a19 a0 ar
  generalize wI (wI M 0 19 (nI (40 * w))) 0 18 0 = M1
  intro a18 a19 a0 ar
  refine ok_bind (passB (q := 2) (n := 8) (c0 := 40 * w) (by decide) (by decide) (by decide) (by omega) a18 a19) (fun M2 ⟨b1, b3, b4, b5⟩ => ?_)
  refine ok_bind (passB (q := 3) (n := 8) (c0 := 40 * w + 8) (by decide) (by decide) (by decide) (by omega) (by rw [b4 18 (by decide)]; exact a18) b3) (fun M3 ⟨c1, c3, c4, c5⟩ => ?_)
  refine ok_bind (passB (q := 4) (n := 8) (c0 := 40 * w + 8 + 8) (by decide) (by decide) (by decide) (by omega) (by rw [c4 18 (by decide), b4 18 (by decide)]; exact a18) c3) (fun M4 ⟨d1, d3, d4, d5⟩ => ?_)
  refine ok_bind (passB (q := 5) (n := 12) (c0 := 40 * w + 8 + 8 + 8) (by decide) (by decide) (by decide) (by omega) (by rw [d4 18 (by decide), c4 18 (by decide), b4 18 (by decide)]; exact a18) d3) (fun M5 ⟨e1, e3, e4, e5⟩ => ?_)
  have f18 : M5.1 0 18 = 0 := by rw [e4 18 (by decide), d4 18 (by decide), c4 18 (by decide), b4 18 (by decide)]; exact a18
  have fk : ∀ k, k ≠ 18 → k ≠ 19 → M5.1 0 k = M.1 0 k := fun k h1 h2 => by rw [e4 k h2, d4 k h2, c4 k h2, b4 k h2, a0 k h1 h2]
  have fr' : ∀ r, r ≠ 0 → (r < 2 ∨ 5 < r) → M5.1 r = M.1 r := fun r h1 h2 => by rw [e5 r h1 (by omega), d5 r h1 (by omega), c5 r h1 (by omega), b5 r h1 (by omega), ar r h1]
  have f10 : M5.1 10 = M.1 10 := fr' 10 (by decide) (by decide)
  have m2 : M2.1 10 = M.1 10 := by rw [b5 10 (by decide) (by decide), ar 10 (by decide)]
  have m3 : M3.1 10 = M.1 10 := by rw [c5 10 (by decide) (by decide), m2]
  have m4 : M4.1 10 = M.1 10 := by rw [d5 10 (by decide) (by decide), m3]
  have g1 : ∀ i, i < 36 → bv M5 i = M.1 10 (40 * w + i) := by
    intro i hi
    unfold bv
    by_cases q1 : i < 8
    · rw [if_pos q1, e5 2 (by decide) (by decide), d5 2 (by decide) (by decide), c5 2 (by decide) (by decide), b1 i q1, ar 10 (by decide)]
    · rw [if_neg q1]
      by_cases q2 : i < 16
      · rw [if_pos q2, e5 3 (by decide) (by decide), d5 3 (by decide) (by decide), c1 (i - 8) (by omega), m2, show 40 * w + 8 + (i - 8) = 40 * w + i by omega]
      · rw [if_neg q2]
        by_cases q3 : i < 24
        · rw [if_pos q3, e5 4 (by decide) (by decide), d1 (i - 16) (by omega), m3, show 40 * w + 8 + 8 + (i - 16) = 40 * w + i by omega]
        · rw [if_neg q3, if_pos hi, e1 (i - 24) (by omega), m4, show 40 * w + 8 + 8 + 8 + (i - 24) = 40 * w + i by omega]
  have e3' : M5.1 0 19 = nI (40 * w + 36) := e3
  clear e3 e1 e4 e5 d1 d3 d4 d5 c1 c3 c4 c5 b1 b3 b4 b5 a18 a19 a0 ar m2 m3 m4
  rw [pass1B (by omega) f18 e3', Option.bind_some]
  simp only [bp]
  rw [pass1B (c0 := 40 * w + 37) (by omega) (by simp only [wI_at]; simp; exact f18) (by simp [wI_at]), Option.bind_some]
  simp only [bp]
  rw [pass1B (c0 := 40 * w + 38) (by omega) (by simp only [wI_at]; simp; exact f18) (by simp [wI_at]), Option.bind_some]
  simp only [bp]
  rw [pass1B (c0 := 40 * w + 39) (by omega) (by simp only [wI_at]; simp; exact f18) (by simp [wI_at]), Option.bind_some]
  simp only [bp]
  refine ok_some ⟨fun i hi => ?_, ?_, fun k h0 h1 h2 => ?_, fun r h1 h2 => ?_⟩
  · by_cases q : i < 36
    · have := g1 i q
      unfold bv at *
      rw [wI_other (show (2 : Nat) ≠ 0 by decide), wI_other (show (3 : Nat) ≠ 0 by decide), wI_other (show (4 : Nat) ≠ 0 by decide), wI_other (show (5 : Nat) ≠ 0 by decide)]
      simp only [wI_other (show (2 : Nat) ≠ 0 by decide), wI_other (show (3 : Nat) ≠ 0 by decide), wI_other (show (4 : Nat) ≠ 0 by decide), wI_other (show (5 : Nat) ≠ 0 by decide)]
      rw [if_pos q] at this ⊢
      exact this
    · have : i = 36 ∨ i = 37 ∨ i = 38 ∨ i = 39 := by omega
      rcases this with rfl | rfl | rfl | rfl <;> simp [wI_at, bv, f10]
  · simp only [wI_other (show (10 : Nat) ≠ 0 by decide)]
    exact f10
  · simp only [wI_at]
    simp [h2]
    simp [show k ≠ 5 by omega, show k ≠ 6 by omega, show k ≠ 7 by omega, show k ≠ 8 by omega, fk k h1 h2]
  · simp only [wI_other h1]
    exact fr' r h1 h2
theorem brdR_bv {B : Bd} {M M' : Mem} (hw : wfB B) (h : brdR B M) (e : ∀ i, i < 40 → bv M' i = bv M i) : brdR B M' := by
  have hn := hw.2.2.1
  have h12 := hw.2.2.2.1
  have f0 : ∀ k, k < 4 → M'.1 0 (k + 5) = M.1 0 (k + 5) := fun k hk => by
    have := e (k + 36) (by omega)
    unfold bv at this
    rw [if_neg (by omega), if_neg (by omega), if_neg (by omega), if_neg (by omega), if_neg (by omega), if_neg (by omega), if_neg (by omega), if_neg (by omega)] at this
    rw [show k + 36 - 31 = k + 5 by omega] at this
    exact this
  have f2 : ∀ j, j < 8 → M'.1 2 j = M.1 2 j := fun j hj => by
    have := e j (by omega)
    unfold bv at this
    rwa [if_pos hj, if_pos hj] at this
  have f3 : ∀ j, j < 8 → M'.1 3 j = M.1 3 j := fun j hj => by
    have := e (j + 8) (by omega)
    unfold bv at this
    rw [if_neg (by omega), if_pos (by omega), if_neg (by omega), if_pos (by omega), Nat.add_sub_cancel] at this
    exact this
  have f4 : ∀ j, j < 8 → M'.1 4 j = M.1 4 j := fun j hj => by
    have := e (j + 16) (by omega)
    unfold bv at this
    rw [if_neg (by omega), if_neg (by omega), if_pos (by omega), if_neg (by omega), if_neg (by omega), if_pos (by omega), Nat.add_sub_cancel] at this
    exact this
  have f5 : ∀ j, j < 12 → M'.1 5 j = M.1 5 j := fun j hj => by
    have := e (j + 24) (by omega)
    unfold bv at this
    rw [if_neg (by omega), if_neg (by omega), if_neg (by omega), if_pos (by omega), if_neg (by omega), if_neg (by omega), if_neg (by omega), if_pos (by omega), Nat.add_sub_cancel] at this
    exact this
  obtain ⟨h0, h1, h2, h3, hk, hf, hm, hl⟩ := h
  exact ⟨(f0 0 (by omega)).trans h0, (f0 1 (by omega)).trans h1, (f0 2 (by omega)).trans h2, (f0 3 (by omega)).trans h3, fun j hj => (f2 j (by omega)).trans (hk j hj), fun j hj => (f3 j (by omega)).trans (hf j hj), fun j hj => (f4 j (by omega)).trans (hm j hj), fun j hj => (f5 j (by omega)).trans (hl j hj)⟩
/-- all that other calls can see of the model is as it was -/
def agR (M M' : Mem) : Prop := (∀ i, i < 40 → bv M' i = bv M i) ∧ (∀ k, k = 13 ∨ k = 17 ∨ k = 20 ∨ k = 24 → M'.1 0 k = M.1 0 k) ∧ (∀ r, r = 1 ∨ r = 6 ∨ r = 13 → M'.1 r = M.1 r) ∧ (∀ j, j < 40 ∨ 120 ≤ j → M'.1 10 j = M.1 10 j)
theorem agR.rf {M : Mem} : agR M M := ⟨fun _ _ => rfl, fun _ _ => rfl, fun _ _ => rfl, fun _ _ => rfl⟩
theorem agR.tr {M M' M'' : Mem} (h : agR M M') (g : agR M' M'') : agR M M'' := ⟨fun i hi => (g.1 i hi).trans (h.1 i hi), fun k hk => (g.2.1 k hk).trans (h.2.1 k hk), fun r hr => (g.2.2.1 r hr).trans (h.2.2.1 r hr), fun j hj => (g.2.2.2 j hj).trans (h.2.2.2 j hj)⟩
/-- between thinks() and forgets(): only the board, and what is scratch, may have changed -/
def mR (M M' : Mem) : Prop := (∀ k, k = 13 ∨ k = 17 ∨ k = 20 ∨ k = 24 → M'.1 0 k = M.1 0 k) ∧ (∀ r, r = 1 ∨ r = 6 ∨ r = 13 ∨ r = 10 → M'.1 r = M.1 r)
theorem mR.rf {M : Mem} : mR M M := ⟨fun _ _ => rfl, fun _ _ => rfl⟩
theorem mR.tr {M M' M'' : Mem} (h : mR M M') (g : mR M' M'') : mR M M'' := ⟨fun k hk => (g.1 k hk).trans (h.1 k hk), fun r hr => (g.2 r hr).trans (h.2 r hr)⟩
/-- a written place that is of the board, or scratch -/
theorem mR.wI {M : Mem} {r i : Nat} {v : Int32} (h : (r = 0 ∧ i ≠ 13 ∧ i ≠ 17 ∧ i ≠ 20 ∧ i ≠ 24) ∨ (r ≠ 0 ∧ r ≠ 1 ∧ r ≠ 6 ∧ r ≠ 13 ∧ r ≠ 10)) : mR M (wI M r i v) :=
  ⟨fun k hk => by rw [wI_at, if_neg (by omega)], fun r' hr => wI_other (by omega)⟩
def TH (M M1 : Mem) : Prop := (∀ i, i < 40 → M1.1 10 (80 + i) = bv M i) ∧ (∀ i, i < 40 → bv M1 i = bv M i) ∧ agR M M1
theorem thinks_ok {M : Mem} : ok (f_X12_thinks M) (TH M) := by
  unfold f_X12_thinks
  refine ok_bind (allK (w := 2) (by decide)) (fun M1 ⟨g1, g2, g3, g4⟩ => ok_some ?_)
  have hb : ∀ i, i < 40 → bv M1 i = bv M i := fun i hi => by
    unfold bv
    rw [g4 2 (by decide) (by decide), g4 3 (by decide) (by decide), g4 4 (by decide) (by decide), g4 5 (by decide) (by decide)]
    by_cases q : i < 36
    · rw [if_pos q, if_pos q]
    · rw [if_neg q, if_neg q, g3 (i - 31) (by omega) (by omega)]
  exact ⟨g1, hb, hb, fun k hk => g3 k (by omega) (by omega), fun r hr => g4 r (by omega) (by omega), fun j hj => g2 j (by omega)⟩
theorem forgets_ok {M M1 M2 : Mem} (h : TH M M1) (g : mR M1 M2) : ok (f_X12_forgets M2) (fun M3 => agR M M3) := by
  unfold f_X12_forgets
  refine ok_bind (allB (w := 2) (by decide)) (fun M3 ⟨g1, g2, g3, g4⟩ => ok_some ?_)
  refine ⟨fun i hi => ?_, fun k hk => ?_, fun r hr => ?_, fun j hj => ?_⟩
  · rw [g1 i hi, g.2 10 (by omega), h.1 i hi]
  · rw [g3 k (by omega) (by omega) (by omega), g.1 k hk, h.2.2.2.1 k hk]
  · rw [g4 r (by omega) (by omega), g.2 r (by omega), h.2.2.2.2.1 r hr]
  · rw [g2, g.2 10 (by omega), h.2.2.2.2.2 j hj]
