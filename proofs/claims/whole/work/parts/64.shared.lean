/-! shared -/
def spC (B : Bd) (s j : Nat) : Nat := cntN (fun i => decide (s.testBit i = s.testBit j) && sm B (lgA B i) (lgA B j)) j
def spT (B : Bd) (s : Nat) (n : Nat) : Nat := sumN (fun j => due B (lgA B j) (spC B s j)) n
theorem spC_le (B : Bd) (s j : Nat) : spC B s j ≤ j := cntN_le _ _
theorem spT_le {B : Bd} (hw : wfB B) (s : Nat) : ∀ n, n ≤ 12 → spT B s n ≤ n * 300 := by
  intro n
  induction n with
  | zero => intro _; exact Nat.le_refl _
  | succ n ih =>
    intro hn
    have h1 := ih (by omega)
    have h2 := due_le hw (lgA B n) (r := spC B s n)
    have h3 := spC_le B s n
    show spT B s n + due B (lgA B n) (spC B s n) ≤ _
    omega
theorem spC_not {B : Bd} {s s' p j : Nat} (h : ∀ i, i < p → s'.testBit i = !s.testBit i) (hj : j < p) : spC B s' j = spC B s j := by
  unfold spC
  refine cntN_cong j (fun i hi => ?_)
  rw [h i (by omega), h j hj]
  congr 1
  rw [decide_eq_decide]
  cases s.testBit i <;> cases s.testBit j <;> simp
theorem spT_not {B : Bd} {s s' p : Nat} (h : ∀ i, i < p → s'.testBit i = !s.testBit i) : spT B s' p = spT B s p := by
  unfold spT
  exact sumN_cong p (fun j hj => by rw [spC_not h hj])
theorem two_in {B : Bd} {M : Mem} {s j : Nat} (hw : wfB B) (hb : brdR B M) (hs : s < 4096) (hj : j < bpl B) (v2 : Int32) (kont : Int32 → Int32 → Int32 → Option Int32) : ∀ (k i fuel : Nat), i + k = j → k < fuel →
    f_X12_dueOfTwo_b18 M kont fuel (nI s) v2 (nI j) (nI (cntN (fun i => decide (s.testBit i = s.testBit j) && sm B (lgA B i) (lgA B j)) i)) (nI i) = kont (nI s) (v2 + nI (due B (lgA B j) (spC B s j))) (nI (j + 1)) := by
  have h12 := hw.2.2.2.1
  have lj := lgA_in hw hj
  intro k
  induction k with
  | zero =>
    intro i fuel hi hf
    obtain ⟨f, rfl⟩ : ∃ f, fuel = f + 1 := ⟨fuel - 1, by omega⟩
    obtain rfl : i = j := by omega
    have hc := spC_le B s i
    unfold f_X12_dueOfTwo_b18
    rw [if_pos (nI_le (by omega) (by omega)), ldI_n (by omega) (by decide), hb.2.2.2.2.2.2.2 i hj, Option.bind_some, show cntN (fun i_1 => decide (s.testBit i_1 = s.testBit i) && sm B (lgA B i_1) (lgA B i)) i = spC B s i from rfl, dueOfR hb hw lj (by omega), Option.bind_some, nI_1]
  | succ k ih =>
    intro i fuel hi hf
    obtain ⟨f, rfl⟩ : ∃ f, fuel = f + 1 := ⟨fuel - 1, by omega⟩
    have := ih (i + 1) f (by omega) (by omega)
    have st : cntN (fun i => decide (s.testBit i = s.testBit j) && sm B (lgA B i) (lgA B j)) (i + 1) = cntN (fun i => decide (s.testBit i = s.testBit j) && sm B (lgA B i) (lgA B j)) i + (decide (s.testBit i = s.testBit j) && sm B (lgA B i) (lgA B j)).toNat := rfl
    rw [st] at this
    unfold f_X12_dueOfTwo_b18
    rw [if_neg (nI_ge (by omega) (by omega)), has_n (by omega) (by omega), has_n (by omega) (by omega), ldI_n (by omega) (by decide), hb.2.2.2.2.2.2.2 i (by omega), Option.bind_some, ldI_n (by omega) (by decide), hb.2.2.2.2.2.2.2 j hj, Option.bind_some, areSameR hb hw (lgA_in hw (by omega)) lj, Option.bind_some, nI_1]
    by_cases c : s.testBit i = s.testBit j
    · rw [if_pos (by rw [c])]
      rw [decide_eq_true c, Bool.true_and] at this
      cases q : sm B (lgA B i) (lgA B j) with
      | false => rw [q] at this; rw [if_pos (show bI false = 0 from rfl), show ∀ z, nI z + 0 = nI z from fun z => nI_add z 0]; exact this
      | true => rw [q] at this; rw [if_neg (show ¬ bI true = 0 from n10), nI_1]; exact this
    · rw [decide_eq_false c, Bool.false_and] at this
      rw [if_neg (show ¬ bI (s.testBit i) = bI (s.testBit j) from fun z => c (by revert z; cases s.testBit i <;> cases s.testBit j <;> simp [bI])), show ∀ z, nI z + 0 = nI z from fun z => nI_add z 0]
      exact this
theorem twoR {B : Bd} {M : Mem} {s : Nat} (hw : wfB B) (hb : brdR B M) (hs : s < 4096) : f_X12_dueOfTwo (nI s) M = some (nI (spT B s (bpl B))) := by
  have h12 := hw.2.2.2.1
  have lp : ∀ (k i fuel : Nat), i + k = bpl B → k < fuel → f_X12_dueOfTwo_b4 M fuel (nI s) (nI (spT B s i)) (nI i) = some (nI (spT B s (bpl B))) := by
    intro k
    induction k with
    | zero =>
      intro i fuel hi hf
      obtain ⟨f, rfl⟩ : ∃ f, fuel = f + 1 := ⟨fuel - 1, by omega⟩
      obtain rfl : i = bpl B := by omega
      unfold f_X12_dueOfTwo_b4
      rw [hb.2.1, if_pos (nI_le (by omega) (by omega))]
    | succ k ih =>
      intro i fuel hi hf
      obtain ⟨f, rfl⟩ : ∃ f, fuel = f + 1 := ⟨fuel - 1, by omega⟩
      unfold f_X12_dueOfTwo_b4
      rw [hb.2.1, if_neg (nI_ge (by omega) (by omega))]
      refine (two_in hw hb hs (by omega) (nI (spT B s i)) _ i 0 FU (by omega) (FU_big (by omega))).trans ?_
      rw [nI_add]
      exact ih (i + 1) f (by omega) (by omega)
  exact lp (bpl B) 0 FU (by omega) (FU_big (by omega))
def shF (B : Bd) : Nat → Nat → Nat × Nat → Nat × Nat
  | _, 0, p => p
  | i, k + 1, p => shF B (i + 1) k (if spT B i (bpl B) < p.2 then (i, spT B i (bpl B)) else p)
def shA (v1 : Int32) (p : Nat × Nat) : Int32 := if v1 = 0 then nI p.2 else nI p.1
theorem p12 {n : Nat} (hn : n ≤ 12) : 2 ^ n ≤ 4096 := Nat.pow_le_pow_right (n := 2) (by decide) hn
theorem shrR {B : Bd} {M : Mem} (hw : wfB B) (hb : brdR B M) (v1 : Int32) : ∀ (k i fuel : Nat) (p : Nat × Nat), i + k = 2 ^ bpl B → k < fuel → p.2 < 10000 → f_X12_shared_b27 fuel v1 (nI p.1) (nI p.2) (nI i) M = some (shA v1 (shF B i k p), M) := by
  have h12 := hw.2.2.2.1
  have h8 := p12 h12
  intro k
  induction k with
  | zero =>
    intro i fuel p hi hf hp
    obtain ⟨f, rfl⟩ : ∃ f, fuel = f + 1 := ⟨fuel - 1, by omega⟩
    unfold f_X12_shared_b27 shA
    rw [hb.2.1, jshl_1 (by omega), if_pos (nI_le (by omega) (by omega))]
    by_cases c : v1 = 0
    · rw [if_pos c, if_pos c]; rfl
    · rw [if_neg c, if_neg c]; rfl
  | succ k ih =>
    intro i fuel p hi hf hp
    obtain ⟨f, rfl⟩ : ∃ f, fuel = f + 1 := ⟨fuel - 1, by omega⟩
    have ht := spT_le hw i (bpl B) h12
    unfold f_X12_shared_b27
    rw [hb.2.1, jshl_1 (by omega), if_neg (nI_ge (by omega) (by omega)), twoR hw hb (by omega), Option.bind_some, nI_1]
    show _ = some (shA v1 (shF B (i + 1) k (if spT B i (bpl B) < p.2 then (i, spT B i (bpl B)) else p)), M)
    by_cases c : spT B i (bpl B) < p.2
    · rw [if_pos ((nI_ltI (by omega) (by omega)).mpr c), if_pos c]
      exact ih (i + 1) f (i, spT B i (bpl B)) (by omega) (by omega) (show spT B i (bpl B) < 10000 by omega)
    · rw [if_neg (fun q => c ((nI_ltI (by omega) (by omega)).mp q)), if_neg c]
      exact ih (i + 1) f p (by omega) (by omega) hp
/-- the second half changes nothing -/
theorem shF_add (B : Bd) : ∀ (a i b : Nat) (p : Nat × Nat), shF B i (a + b) p = shF B (i + a) b (shF B i a p) := by
  intro a
  induction a with
  | zero => intro i b p; rw [Nat.zero_add]; rfl
  | succ a ih =>
    intro i b p
    rw [show a + 1 + b = (a + b) + 1 by omega]
    show shF B (i + 1) (a + b) _ = _
    rw [ih, show i + 1 + a = i + (a + 1) by omega]
    rfl
theorem shF_keep (B : Bd) : ∀ (k i : Nat) (p : Nat × Nat), (∀ s, i ≤ s → s < i + k → p.2 ≤ spT B s (bpl B)) → shF B i k p = p := by
  intro k
  induction k with
  | zero => intro i p _; rfl
  | succ k ih =>
    intro i p h
    show shF B (i + 1) k (if spT B i (bpl B) < p.2 then (i, spT B i (bpl B)) else p) = p
    rw [if_neg (by have := h i (Nat.le_refl i) (by omega); omega)]
    exact ih (i + 1) p (fun s h1 h2 => h s (by omega) (by omega))
theorem shF_min (B : Bd) : ∀ (k i : Nat) (p : Nat × Nat), (∀ s, s < i → p.2 ≤ spT B s (bpl B)) → ∀ s, s < i + k → (shF B i k p).2 ≤ spT B s (bpl B) := by
  intro k
  induction k with
  | zero => intro i p h s hs; exact h s hs
  | succ k ih =>
    intro i p h s hs
    show (shF B (i + 1) k (if spT B i (bpl B) < p.2 then (i, spT B i (bpl B)) else p)).2 ≤ _
    refine ih (i + 1) _ (fun t ht => ?_) s (by omega)
    by_cases c : spT B i (bpl B) < p.2
    · rw [if_pos c]
      by_cases z : t = i
      · rw [z]; exact Nat.le_refl _
      · have := h t (by omega)
        show spT B i (bpl B) ≤ _
        omega
    · rw [if_neg c]
      by_cases z : t = i
      · rw [z]; omega
      · exact h t (by omega)
theorem shF_half (B : Bd) : shF B 1 (2 ^ bpl B - 1) (0, spT B 0 (bpl B)) = shF B 1 (2 ^ (bpl B - 1) - 1) (0, spT B 0 (bpl B)) := by
  by_cases c : bpl B = 0
  · rw [c]
  · have h2 : 2 ^ bpl B = 2 * 2 ^ (bpl B - 1) := by
      obtain ⟨p, hp⟩ : ∃ p, bpl B = p + 1 := ⟨bpl B - 1, by omega⟩
      rw [hp, Nat.add_sub_cancel, Nat.pow_succ, Nat.mul_comm]
    have h1 : 1 ≤ 2 ^ (bpl B - 1) := Nat.one_le_two_pow
    rw [show 2 ^ bpl B - 1 = (2 ^ (bpl B - 1) - 1) + 2 ^ (bpl B - 1) by omega, shF_add]
    refine shF_keep B _ _ _ (fun s hs1 hs2 => ?_)
    have hm := shF_min B (2 ^ (bpl B - 1) - 1) 1 (0, spT B 0 (bpl B)) (fun t ht => by
      obtain rfl : t = 0 := by omega
      exact Nat.le_refl _) (2 ^ bpl B - (s + 1)) (by omega)
    rw [spT_not (s := s) (s' := 2 ^ bpl B - (s + 1)) (p := bpl B) (fun i hi => by
      rw [Nat.testBit_two_pow_sub_succ (by omega), decide_eq_true hi, Bool.true_and])] at hm
    exact hm
def aP (B : Bd) (j : Nat) : Nat := mask (fun i => sm B (lgA B i) (lgA B j)) j
theorem aP_lt {B : Bd} {j : Nat} (hj : j ≤ 12) : aP B j < 4096 := Nat.lt_of_lt_of_le (mask_lt _ _) (p12 hj)
def RD (B : Bd) (n : Nat) (M : Mem) : Prop := ∀ j, j < n → M.1 31 j = nI (aP B j)
theorem raC_in {B : Bd} {j : Nat} (hw : wfB B) (hj : j < bpl B) (kont : Int32 → Mem → Option Mem) (Q : Mem → Prop) : ∀ (k i fuel : Nat) (M : Mem), i + k = j → k < fuel → RK B B.1.1 B.1.2 [] M → RD B j M → M.1 31 j = nI (mask (fun i => sm B (lgA B i) (lgA B j)) i) →
    (∀ M', RK B B.1.1 B.1.2 [] M' → RD B (j + 1) M' → fr [31] M M' → ok (kont (nI (j + 1)) M') Q) → ok (f_X3_readAhead_b29 kont fuel (nI j) (nI i) M) Q := by
  have h12 := hw.2.2.2.1
  intro k
  induction k with
  | zero =>
    intro i fuel M hi hf h hR hv hk
    obtain ⟨f, rfl⟩ : ∃ f, fuel = f + 1 := ⟨fuel - 1, by omega⟩
    obtain rfl : i = j := by omega
    unfold f_X3_readAhead_b29
    rw [nI_1]
    refine ok_pos (nI_le (by omega) (by omega)) (hk M h (fun u hu => ?_) fr.rf)
    by_cases c : u = i
    · rw [c]; exact hv
    · exact hR u (by omega)
  | succ k ih =>
    intro i fuel M hi hf h hR hv hk
    obtain ⟨f, rfl⟩ : ∃ f, fuel = f + 1 := ⟨fuel - 1, by omega⟩
    have st : mask (fun i => sm B (lgA B i) (lgA B j)) (i + 1) = if sm B (lgA B i) (lgA B j) = true then mask (fun i => sm B (lgA B i) (lgA B j)) i ||| 2 ^ i else mask (fun i => sm B (lgA B i) (lgA B j)) i := rfl
    unfold f_X3_readAhead_b29
    refine ok_neg (nI_ge (by omega) (by omega)) ?_
    rw [alikeC hw h.1 h.2.1 (by omega) hj, Option.bind_some, nI_1]
    cases q : sm B (lgA B i) (lgA B j) with
    | false =>
      rw [q, if_neg (show ¬ false = true by decide)] at st
      exact ok_pos (show bI false = 0 from rfl) (ih (i + 1) f M (by omega) (by omega) h hR (by rw [st]; exact hv) hk)
    | true =>
      rw [q, if_pos rfl] at st
      refine ok_neg (show ¬ bI true = 0 from n10) ?_
      refine ok_ld (by omega) (by decide) hv ?_
      rw [jshl_1 (by omega), fa_or]
      refine ok_st (by omega) (by decide) ?_
      have f1 : fr [31] M (wI M 31 j (nI (mask (fun i => sm B (lgA B i) (lgA B j)) i ||| 2 ^ i))) := fr.wI (by simp)
      refine ih (i + 1) f _ (by omega) (by omega) ⟨h.1.fr f1 (by decide), h.2.1.fr (f1 26 (by decide)), fun d hd => by rw [f1 27 (by decide)]; exact h.2.2 d hd⟩ (fun u hu => by rw [wI_at, if_neg (by omega)]; exact hR u hu) (by rw [wI_at, if_pos ⟨rfl, rfl⟩, st]) (fun M' g1 g2 g3 => hk M' g1 g2 (f1.tr g3))
theorem raC {B : Bd} (hw : wfB B) : ∀ (k j fuel : Nat) (M : Mem), j + k = bpl B → k < fuel → RK B B.1.1 B.1.2 [] M → RD B j M → ok (f_X3_readAhead_b9 fuel (nI j) M) (fun M' => RK B B.1.1 B.1.2 [] M' ∧ RD B (bpl B) M' ∧ fr [31] M M') := by
  have h12 := hw.2.2.2.1
  intro k
  induction k with
  | zero =>
    intro j fuel M hi hf h hR
    obtain ⟨f, rfl⟩ : ∃ f, fuel = f + 1 := ⟨fuel - 1, by omega⟩
    obtain rfl : j = bpl B := by omega
    unfold f_X3_readAhead_b9
    rw [h.1.2.1]
    exact ok_pos (nI_le (by omega) (by omega)) (ok_some ⟨h, hR, fr.rf⟩)
  | succ k ih =>
    intro j fuel M hi hf h hR
    obtain ⟨f, rfl⟩ : ∃ f, fuel = f + 1 := ⟨fuel - 1, by omega⟩
    unfold f_X3_readAhead_b9
    rw [h.1.2.1]
    refine ok_neg (nI_ge (by omega) (by omega)) ?_
    refine ok_st (by omega) (by decide) ?_
    have f1 : fr [31] M (wI M 31 j 0) := fr.wI (by simp)
    refine raC_in hw (by omega) _ _ j 0 FU _ (by omega) (FU_big (by omega)) ⟨h.1.fr f1 (by decide), h.2.1.fr (f1 26 (by decide)), fun d hd => by rw [f1 27 (by decide)]; exact h.2.2 d hd⟩ (fun u hu => by rw [wI_at, if_neg (by omega)]; exact hR u hu) (by rw [wI_at, if_pos ⟨rfl, rfl⟩]; rfl) (fun M' g1 g2 g3 => ok_mono (ih (j + 1) f M' (by omega) (by omega) g1 g2) (fun M2 z => ⟨z.1, z.2.1, (f1.tr g3).tr z.2.2⟩))
theorem splC {B : Bd} {M : Mem} {s cur : Nat} (hw : wfB B) (hb : brdC 1 B M) (hR : RD B (bpl B) M) (hs : s < 4096) (hc : cur < 10000) : ∀ (k j fuel : Nat), j + k = bpl B → k < fuel →
    ∃ t, f_X3_sumSplit_b5 M fuel (nI s) (nI cur) (nI (spT B s j)) (nI j) = some (nI t) ∧ t < 10000 ∧ ((t < cur ∧ t = spT B s (bpl B)) ∨ (cur ≤ t ∧ cur ≤ spT B s (bpl B))) := by
  have h12 := hw.2.2.2.1
  have mono : ∀ k j, spT B s j ≤ spT B s (j + k) := by
    intro k j
    induction k with
    | zero => exact Nat.le_refl _
    | succ k ih => exact Nat.le_trans ih (Nat.le_add_right _ _)
  intro k
  induction k with
  | zero =>
    intro j fuel hi hf
    obtain ⟨f, rfl⟩ : ∃ f, fuel = f + 1 := ⟨fuel - 1, by omega⟩
    obtain rfl : j = bpl B := by omega
    have ht := spT_le hw s (bpl B) h12
    refine ⟨spT B s (bpl B), ?_, by omega, ?_⟩
    · unfold f_X3_sumSplit_b5
      rw [hb.2.1, if_pos (nI_le (by omega) (by omega))]
    · rcases Nat.lt_or_ge (spT B s (bpl B)) cur with c | c
      · exact Or.inl ⟨c, rfl⟩
      · exact Or.inr ⟨c, c⟩
  | succ k ih =>
    intro j fuel hi hf
    obtain ⟨f, rfl⟩ : ∃ f, fuel = f + 1 := ⟨fuel - 1, by omega⟩
    have ht := spT_le hw s j (by omega)
    have hl := lgA_in hw (p := j) (by omega)
    have ha := aP_lt (B := B) (j := j) (by omega)
    by_cases c : cur ≤ spT B s j
    · refine ⟨spT B s j, ?_, by omega, Or.inr ⟨c, ?_⟩⟩
      · unfold f_X3_sumSplit_b5
        rw [hb.2.1, if_neg (nI_ge (by omega) (by omega)), if_pos (nI_le c (by omega))]
      · have := mono (k + 1) j
        rw [hi] at this
        omega
    · obtain ⟨t, e, h1, h2⟩ := ih (j + 1) f (by omega) (by omega)
      refine ⟨t, ?_, h1, h2⟩
      unfold f_X3_sumSplit_b5 f_X3_sumSplit_b38
      rw [hb.2.1, if_neg (nI_ge (by omega) (by omega)), if_neg (nI_ge (by omega) (by omega)), ldI_n (by omega) (by decide), show M.1 5 j = nI (lgA B j) from hb.2.2.2.2.2.2.2 j (by omega), Option.bind_some, ldI_n (by omega) (by decide), hR j (by omega), Option.bind_some, nI_1]
      have hc' := spC_le B s j
      have key : f_J6_bitCount_0f7a4 (nI (aP B j) &&& (if jshr (nI s) (nI j) &&& 1 = 0 then nI s ^^^ -1 else nI s)) = nI (spC B s j) := by
        have em : ∀ x, x < 4096 → (∀ i, x.testBit i = (decide (i < j) && (decide (s.testBit i = s.testBit j) && sm B (lgA B i) (lgA B j)))) → f_J6_bitCount_0f7a4 (nI x) = nI (spC B s j) := by
          intro x hx ht
          rw [bitCount_n hx]
          have : x = mask (fun i => decide (s.testBit i = s.testBit j) && sm B (lgA B i) (lgA B j)) j := by
            apply Nat.eq_of_testBit_eq
            intro i
            rw [ht i, mask_tb]
          rw [this, pc_mask (by omega)]
          rfl
        cases q : s.testBit j with
        | false =>
          rw [if_pos ((bit_0 (by omega) (by omega)).mpr q), m1_n, fa_xor, fa_and]
          refine em _ (Nat.lt_of_le_of_lt (anot_le (aP B j) s) ha) (fun i => ?_)
          by_cases hi32 : i < 32
          · have := anot_tb (aP B j) s i hi32
            unfold anot at this
            rw [this]
            unfold aP
            rw [mask_tb, q]
            cases s.testBit i <;> simp
          · have h0 : (aP B j).testBit i = false := Nat.testBit_lt_two_pow (Nat.lt_of_lt_of_le ha (show 4096 ≤ 2 ^ i from Nat.pow_le_pow_right (n := 2) (by decide) (show 12 ≤ i by omega)))
            rw [Nat.testBit_and, h0, Bool.false_and, decide_eq_false (by omega), Bool.false_and]
        | true =>
          rw [if_neg (fun z => by rw [bit_0 (by omega) (by omega), q] at z; cases z), fa_and]
          refine em _ (Nat.lt_of_le_of_lt Nat.and_le_left ha) (fun i => ?_)
          unfold aP
          rw [Nat.testBit_and, mask_tb, q]
          cases s.testBit i <;> simp
      rw [key, dueForC hb hw hl (by omega), Option.bind_some, nI_add]
      exact e
theorem shC' {B : Bd} {M : Mem} (hw : wfB B) (hb : brdC 1 B M) (hR : RD B (bpl B) M) (v1 : Int32) : ∀ (k i fuel : Nat) (p : Nat × Nat), i + k = 2 ^ (bpl B - 1) → k < fuel → p.2 < 10000 → f_X3_splitInTwo_b17 fuel v1 (nI p.1) (nI p.2) (nI i) M = some (shA v1 (shF B i k p), M) := by
  have h12 := hw.2.2.2.1
  have h8 := p12 (n := bpl B - 1) (by omega)
  have eb : mxI 0 (nI (bpl B) - 1) = nI (bpl B - 1) := by
    by_cases c : bpl B = 0
    · rw [c]; decide
    · rw [show nI (bpl B) - 1 = nI (bpl B - 1) from sub_one_nI (k := 1) (by omega)]
      exact (mxI_n (a := 0) (by decide) (by omega)).trans (by rw [Nat.max_eq_right (Nat.zero_le _)])
  intro k
  induction k with
  | zero =>
    intro i fuel p hi hf hp
    obtain ⟨f, rfl⟩ : ∃ f, fuel = f + 1 := ⟨fuel - 1, by omega⟩
    unfold f_X3_splitInTwo_b17 shA
    rw [hb.2.1, eb, jshl_1 (by omega), if_pos (nI_le (by omega) (by omega))]
    by_cases c : v1 = 0
    · rw [if_pos c, if_pos c]; rfl
    · rw [if_neg c, if_neg c]; rfl
  | succ k ih =>
    intro i fuel p hi hf hp
    obtain ⟨f, rfl⟩ : ∃ f, fuel = f + 1 := ⟨fuel - 1, by omega⟩
    have ht := spT_le hw i (bpl B) h12
    obtain ⟨t, e, h1, h2⟩ := splC (s := i) (cur := p.2) hw hb hR (by omega) hp (bpl B) 0 FU (by omega) (FU_big (by omega))
    have e : f_X3_sumSplit (nI i) (nI p.2) M = some (nI t) := e
    unfold f_X3_splitInTwo_b17
    rw [hb.2.1, eb, jshl_1 (by omega), if_neg (nI_ge (by omega) (by omega)), e, Option.bind_some, nI_1]
    show _ = some (shA v1 (shF B (i + 1) k (if spT B i (bpl B) < p.2 then (i, spT B i (bpl B)) else p)), M)
    rcases h2 with ⟨q1, q2⟩ | ⟨q1, q2⟩
    · rw [if_neg (nI_ge q1 (by omega)), if_pos (by omega), q2]
      exact ih (i + 1) f (i, spT B i (bpl B)) (by omega) (by omega) (show spT B i (bpl B) < 10000 by omega)
    · rw [if_pos (nI_le q1 (by omega)), if_neg (by omega)]
      exact ih (i + 1) f p (by omega) (by omega) hp
theorem spT_0 {B : Bd} (hw : wfB B) : ∀ i, i ≤ bpl B → spT B 0 i = tot B (B.2.2.take i) := by
  intro i
  induction i with
  | zero => intro _; rfl
  | succ i ih =>
    intro hi
    rw [take_lg (by omega), tot_snoc, ← ih (by omega)]
    show spT B 0 i + due B (lgA B i) (spC B 0 i) = _
    congr 2
    have : ∀ k, k ≤ i → cntN (fun u => decide ((0 : Nat).testBit u = (0 : Nat).testBit i) && sm B (lgA B u) (lgA B i)) k = cnt B (B.2.2.take k) (lgA B i) := by
      intro k
      induction k with
      | zero => intro _; rfl
      | succ k ihk =>
        intro hk
        rw [take_lg (by omega), cnt_snoc, ← ihk (by omega)]
        show cntN _ k + _ = _
        simp only [Nat.zero_testBit, decide_true, Bool.true_and]
    exact this i (Nat.le_refl i)
theorem sim_shared {MC MR : Mem} (h : Inv MC MR) (a : Int32) : Sim (f_X11_shared a MC) (f_X12_shared a MR) := by
  obtain ⟨B, im, S, lt, rw', hw, hC, hR, hf⟩ := id h
  have h12 := hw.1.2.2.2.1
  have h8 := p12 h12
  have h8' := p12 (n := bpl B - 1) (by omega)
  have h1 : 1 ≤ 2 ^ bpl B := Nat.one_le_two_pow
  have h1' : 1 ≤ 2 ^ (bpl B - 1) := Nat.one_le_two_pow
  have ht := spT_le hw.1 0 (bpl B) h12
  unfold f_X11_shared f_X12_shared
  simp only [bind_bp]
  have go : Sim (f_X3_splitInTwo a MC) ((f_X12_dueOfTwo 0 MR).bind fun t2 => f_X12_shared_b27 FU a 0 t2 1 MR) := by
    rw [show f_X12_dueOfTwo 0 MR = some (nI (spT B 0 (bpl B))) from twoR hw.1 hR.1 (by decide), Option.bind_some]
    have e2 : f_X12_shared_b27 FU a 0 (nI (spT B 0 (bpl B))) 1 MR = some (shA a (shF B 1 (2 ^ bpl B - 1) (0, spT B 0 (bpl B))), MR) := shrR hw.1 hR.1 a (2 ^ bpl B - 1) 1 FU (0, spT B 0 (bpl B)) (by omega) (FU_big (by omega)) (show spT B 0 (bpl B) < 10000 by omega)
    rw [e2, shF_half]
    refine Sim.q h (shA a (shF B 1 (2 ^ (bpl B - 1) - 1) (0, spT B 0 (bpl B)))) (ok2_mk ?_) ⟨_, _, rfl, rfl, agR.rf⟩
    unfold f_X3_splitInTwo f_X3_readAhead
    refine ok_bind (P := fun M' => RK B B.1.1 B.1.2 [] M' ∧ RD B (bpl B) M' ∧ frQ MC M') ?_ (fun M1 ⟨q1, q2, q3⟩ => ?_)
    · refine ok_bind (open_ok hw.1 hC.1) (fun M1 ⟨h1, f1⟩ => ?_)
      exact ok_mono (raC hw.1 (bpl B) 0 FU M1 (by omega) (FU_big (by omega)) h1 (fun j hj => absurd hj (Nat.not_lt_zero j))) (fun M' z => ⟨z.1, z.2.1, (f1.q (by decide)).tr (z.2.2.q (by decide))⟩)
    · refine ok_bp (walk_ok hw.1 q1) (fun v M2 ⟨r1, r2, r3⟩ => ?_)
      have r1 : v = nI (tot B B.2.2) := r1
      have e0 : spT B 0 (bpl B) = tot B B.2.2 := by
        rw [spT_0 hw.1 _ (Nat.le_refl _), show B.2.2.take (bpl B) = B.2.2 from List.take_length]
      rw [r1, ← e0]
      exact ok_eq (shC' hw.1 r2.1 (fun j hj => by rw [r3 31 (by decide)]; exact q2 j hj) a (2 ^ (bpl B - 1) - 1) 1 FU (0, spT B 0 (bpl B)) (by omega) (FU_big (by omega)) (show spT B 0 (bpl B) < 10000 by omega)) ⟨rfl, q3.tr (r3.q (by decide))⟩
  rcases either a with ⟨e1, e2⟩ | ⟨e1, e2, -⟩ | ⟨e1, e2, -⟩
  · rw [e1, e2, if_pos p00, if_pos p00]; exact Sim.no2 h
  · rw [e1, e2, if_neg n10, if_neg n10]; exact go
  · rw [e1, e2, if_neg n10, if_neg n10]; exact go
