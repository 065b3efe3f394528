/-! unlike, people -/
def Ind (B : Bd) (s : Nat) : Prop := ∀ a b, a < b → s.testBit a = true → s.testBit b = true → sm B a b = false
noncomputable def indB (B : Bd) (s : Nat) : Bool := @decide (Ind B s) (Classical.propDecidable _)
theorem indB_t {B : Bd} {s : Nat} (h : Ind B s) : indB B s = true := by unfold indB; exact @decide_eq_true _ (Classical.propDecidable _) h
theorem indB_f {B : Bd} {s : Nat} (h : ¬ Ind B s) : indB B s = false := by unfold indB; exact @decide_eq_false _ (Classical.propDecidable _) h
theorem tb_lt {s n e : Nat} (h : s < 2 ^ n) (ht : s.testBit e = true) : e < n := by
  by_cases c : e < n
  · exact c
  · rw [Nat.testBit_lt_two_pow (Nat.lt_of_lt_of_le h (Nat.pow_le_pow_right (by decide) (by omega)))] at ht
    cases ht
theorem p8 {n : Nat} (hn : n ≤ 8) : 2 ^ n ≤ 256 := Nat.pow_le_pow_right (n := 2) (by decide) hn
theorem has_n {s v : Nat} (hs : s < 2 ^ 31) (hv : v < 31) : f_X12_has (nI s) (nI v) = bI (s.testBit v) := by
  unfold f_X12_has
  cases q : s.testBit v
  · rw [if_neg (fun z => by rw [bit_1 hs hv, q] at z; cases z)]; rfl
  · rw [if_pos ((bit_1 hs hv).mpr q)]; rfl
theorem apart_lp {B : Bd} {M : Mem} {s : Nat} (hw : wfB B) (hb : brdC 1 B M) (h : RA B M) (hs : s < 2 ^ bn B) : ∀ (k i fuel : Nat), i + k = bn B → k < fuel → (∀ v, v < i → s.testBit v = true → ∀ e, e ≠ v → s.testBit e = true → sm B v e = false) →
    f_X2_areApart_b2 M fuel (nI s) (nI i) = some (bI (indB B s)) := by
  have hn := hw.2.2.1
  have h8 := p8 hn
  intro k
  induction k with
  | zero =>
    intro i fuel hi hf hI
    obtain ⟨f, rfl⟩ : ∃ f, fuel = f + 1 := ⟨fuel - 1, by omega⟩
    obtain rfl : i = bn B := by omega
    unfold f_X2_areApart_b2
    rw [hb.1, if_pos (nI_le (by omega) (by omega)), indB_t (fun a b hab ha hb' => hI a (tb_lt hs ha) ha b (by omega) hb')]
    rfl
  | succ k ih =>
    intro i fuel hi hf hI
    obtain ⟨f, rfl⟩ : ∃ f, fuel = f + 1 := ⟨fuel - 1, by omega⟩
    unfold f_X2_areApart_b2
    rw [hb.1, if_neg (nI_ge (by omega) (by omega)), nI_1]
    cases q : s.testBit i with
    | false =>
      rw [if_pos ((bit_0 (by omega) (by omega)).mpr q)]
      refine ih (i + 1) f (by omega) (by omega) (fun v hv hv' => ?_)
      by_cases c : v = i
      · rw [c, q] at hv'; cases hv'
      · exact hI v (by omega) hv'
    | true =>
      rw [if_neg (fun z => by rw [bit_0 (by omega) (by omega), q] at z; cases z), ldA hw h (by omega), Option.bind_some, fa_and, jshl_1 (by omega)]
      have ha := aM_lt hw i
      have h2 : 2 ^ i < 2 ^ bn B := Nat.pow_lt_pow_right (by decide) (by omega)
      have h3 : aM B i &&& s ≤ s := Nat.and_le_right
      by_cases c : aM B i &&& s = 2 ^ i
      · rw [if_pos (by rw [c])]
        refine ih (i + 1) f (by omega) (by omega) (fun v hv hv' => ?_)
        by_cases c2 : v = i
        · intro e he hse
          have := congrArg (fun x => x.testBit e) c
          simp only [Nat.testBit_and, aM_tb, Nat.testBit_two_pow] at this
          rw [hse, Bool.and_true, decide_eq_true (tb_lt hs hse), Bool.true_and, decide_eq_false (by omega)] at this
          rw [c2]; exact this
        · exact hI v (by omega) hv'
      · rw [if_neg (fun z => c (nI_e (by omega) (by omega) z)), indB_f]
        · rfl
        · intro hI'
          apply c
          apply Nat.eq_of_testBit_eq
          intro e
          rw [Nat.testBit_and, aM_tb, Nat.testBit_two_pow]
          by_cases z : i = e
          · subst z
            rw [q, sm_self, decide_eq_true (show i < bn B by omega), decide_eq_true rfl]; rfl
          · rw [decide_eq_false z]
            cases z2 : s.testBit e
            · rw [Bool.and_false]
            · rw [Bool.and_true]
              rcases Nat.lt_or_ge i e with z3 | z3
              · rw [hI' i e z3 q z2, Bool.and_false]
              · rw [sm_symm, hI' e i (by omega) z2 q, Bool.and_false]
theorem apartC {B : Bd} {M : Mem} {s : Nat} (hw : wfB B) (hb : brdC 1 B M) (h : RA B M) (hs : s < 2 ^ bn B) : f_X2_areApart (nI s) M = some (bI (indB B s)) :=
  apart_lp hw hb h hs (bn B) 0 FU (by omega) (FU_big (by have := hw.2.2.1; omega)) (fun v hv => by omega)
theorem unlk_lp {B : Bd} {M : Mem} {s : Nat} (hw : wfB B) (hb : brdR B M) (hs : s < 2 ^ bn B) : ∀ (k i fuel : Nat), i + k = 64 → k < fuel → (∀ x, x < i → x / 8 < x % 8 → s.testBit (x / 8) = true → s.testBit (x % 8) = true → sm B (x / 8) (x % 8) = false) →
    f_X12_areUnlike_b2 M fuel (nI s) (nI i) = some (bI (indB B s)) := by
  have hn := hw.2.2.1
  have h8 := p8 hn
  intro k
  induction k with
  | zero =>
    intro i fuel hi hf hI
    obtain ⟨f, rfl⟩ : ∃ f, fuel = f + 1 := ⟨fuel - 1, by omega⟩
    obtain rfl : i = 64 := by omega
    unfold f_X12_areUnlike_b2
    rw [if_pos (by decide), indB_t (fun a b hab ha hb' => ?_)]
    · rfl
    · have h1 := tb_lt hs hb'
      have e1 : (8 * a + b) / 8 = a := by omega
      have e2 : (8 * a + b) % 8 = b := by omega
      have := hI (8 * a + b) (by omega)
      rw [e1, e2] at this
      exact this hab ha hb'
  | succ k ih =>
    intro i fuel hi hf hI
    obtain ⟨f, rfl⟩ : ∃ f, fuel = f + 1 := ⟨fuel - 1, by omega⟩
    unfold f_X12_areUnlike_b2
    rw [l_64, l_8, if_neg (nI_ge (by omega) (by omega)), nI_1, nI_rm (by omega) (by decide) (by decide), nI_div (by omega) (by decide) (by decide), has_n (by omega) (by omega), has_n (by omega) (by omega)]
    have next : (i / 8 < i % 8 → s.testBit (i / 8) = true → s.testBit (i % 8) = true → sm B (i / 8) (i % 8) = false) → f_X12_areUnlike_b2 M f (nI s) (nI (i + 1)) = some (bI (indB B s)) := fun hh =>
      ih (i + 1) f (by omega) (by omega) (fun x hx => by
        by_cases c : x = i
        · rw [c]; exact hh
        · exact hI x (by omega))
    by_cases c : i % 8 ≤ i / 8
    · rw [if_pos (nI_le c (by omega))]; exact next (fun z => by omega)
    · rw [if_neg (nI_ge (by omega) (by omega))]
      cases q1 : s.testBit (i / 8) with
      | false => rw [if_pos (show bI false = 0 from rfl)]; exact next (fun _ z => by rw [q1] at z; cases z)
      | true =>
        rw [if_neg (show ¬ bI true = 0 from n10)]
        cases q2 : s.testBit (i % 8) with
        | false => rw [if_pos (show bI false = 0 from rfl)]; exact next (fun _ _ z => by rw [q2] at z; cases z)
        | true =>
          rw [if_neg (show ¬ bI true = 0 from n10), areSameR hb hw (tb_lt hs q1) (tb_lt hs q2), Option.bind_some]
          cases q3 : sm B (i / 8) (i % 8) with
          | false => rw [if_pos (show bI false = 0 from rfl)]; exact next (fun _ _ _ => q3)
          | true =>
            rw [if_neg (show ¬ bI true = 0 from n10), indB_f]
            · rfl
            · intro hI'
              rw [hI' _ _ (by omega) q1 q2] at q3
              cases q3
theorem unlkR {B : Bd} {M : Mem} {s : Nat} (hw : wfB B) (hb : brdR B M) (hs : s < 2 ^ bn B) : f_X12_areUnlike (nI s) M = some (bI (indB B s)) :=
  unlk_lp hw hb hs 64 0 FU (by omega) (FU_big (by omega)) (fun v hv => by omega)
noncomputable def unlF (B : Bd) : Nat → Nat → Nat → Nat
  | b, _, 0 => b
  | b, i, k + 1 => unlF B (if pc i ≤ pc b then b else if indB B i = true then i else b) (i + 1) k
theorem unlC {B : Bd} {M : Mem} (hw : wfB B) (hb : brdC 1 B M) (h : RA B M) : ∀ (k i b fuel : Nat), i + k = 2 ^ bn B → k < fuel → b < 2 ^ bn B → f_X2_mostApart_b11 fuel (nI b) (nI i) M = some (nI (unlF B b i k), M) := by
  have hn := hw.2.2.1
  have h8 := p8 hn
  intro k
  induction k with
  | zero =>
    intro i b fuel hi hf hb'
    obtain ⟨f, rfl⟩ : ∃ f, fuel = f + 1 := ⟨fuel - 1, by omega⟩
    unfold f_X2_mostApart_b11 f_X2_sets
    rw [hb.1, jshl_1 (by omega), if_pos (nI_le (by omega) (by omega))]
    rfl
  | succ k ih =>
    intro i b fuel hi hf hb'
    obtain ⟨f, rfl⟩ : ∃ f, fuel = f + 1 := ⟨fuel - 1, by omega⟩
    have p1 := pc_le i
    have p2 := pc_le b
    unfold f_X2_mostApart_b11 f_X2_sets
    rw [hb.1, jshl_1 (by omega), if_neg (nI_ge (by omega) (by omega)), bitCount_n (by omega), bitCount_n (by omega), apartC hw hb h (by omega), Option.bind_some, nI_1]
    show _ = some (nI (unlF B (if pc i ≤ pc b then b else if indB B i = true then i else b) (i + 1) k), M)
    by_cases c : pc i ≤ pc b
    · rw [if_pos (nI_le c (by omega)), if_pos c]
      exact ih (i + 1) b f (by omega) (by omega) hb'
    · rw [if_neg (nI_ge (by omega) (by omega)), if_neg c]
      cases q : indB B i
      · rw [if_pos (show bI false = 0 from rfl), if_neg (by decide)]; exact ih (i + 1) b f (by omega) (by omega) hb'
      · rw [if_neg (show ¬ bI true = 0 from n10), if_pos rfl]; exact ih (i + 1) i f (by omega) (by omega) (by omega)
theorem unlR {B : Bd} {M : Mem} (hw : wfB B) (hb : brdR B M) : ∀ (k i b fuel : Nat), i + k = 2 ^ bn B → k < fuel → b < 2 ^ bn B → f_X12_unlike_b4 M fuel (nI b) (nI i) = some (nI (unlF B b i k)) := by
  have hn := hw.2.2.1
  have h8 := p8 hn
  intro k
  induction k with
  | zero =>
    intro i b fuel hi hf hb'
    obtain ⟨f, rfl⟩ : ∃ f, fuel = f + 1 := ⟨fuel - 1, by omega⟩
    unfold f_X12_unlike_b4
    rw [hb.1, jshl_1 (by omega), if_pos (nI_le (by omega) (by omega))]
    rfl
  | succ k ih =>
    intro i b fuel hi hf hb'
    obtain ⟨f, rfl⟩ : ∃ f, fuel = f + 1 := ⟨fuel - 1, by omega⟩
    have p1 := pc_le i
    have p2 := pc_le b
    unfold f_X12_unlike_b4
    rw [hb.1, jshl_1 (by omega), if_neg (nI_ge (by omega) (by omega)), bitsR (by omega), bitsR (by omega), unlkR hw hb (by omega), Option.bind_some, Option.bind_some, Option.bind_some, nI_1]
    show _ = some (nI (unlF B (if pc i ≤ pc b then b else if indB B i = true then i else b) (i + 1) k))
    by_cases c : pc i ≤ pc b
    · rw [if_pos (nI_le c (by omega)), if_pos c]
      exact ih (i + 1) b f (by omega) (by omega) hb'
    · rw [if_neg (nI_ge (by omega) (by omega)), if_neg c]
      cases q : indB B i
      · rw [if_pos (show bI false = 0 from rfl), if_neg (by decide)]; exact ih (i + 1) b f (by omega) (by omega) hb'
      · rw [if_neg (show ¬ bI true = 0 from n10), if_pos rfl]; exact ih (i + 1) i f (by omega) (by omega) (by omega)
theorem sim_unlike {MC MR : Mem} (h : Inv MC MR) : Sim (f_X11_unlike MC) ((f_X12_unlike MR).map (·, MR)) := by
  obtain ⟨B, im, S, lt, rw', hw, hC, hR, hf⟩ := id h
  have hn := hw.1.2.2.1
  have h8 := p8 hn
  have h1 : 1 ≤ 2 ^ bn B := Nat.one_le_two_pow
  unfold f_X11_unlike f_X12_unlike
  rw [bind_bp, show f_X12_unlike_b4 MR FU 0 1 = some (nI (unlF B 0 1 (2 ^ bn B - 1))) from unlR hw.1 hR.1 (2 ^ bn B - 1) 1 0 FU (by omega) (FU_big (by omega)) (by omega)]
  refine Sim.q h (nI (unlF B 0 1 (2 ^ bn B - 1))) (ok2_mk ?_) ⟨_, _, rfl, rfl, agR.rf⟩
  unfold f_X2_mostApart
  refine ok_bind (open_ok hw.1 hC.1) (fun M1 ⟨h1', f1⟩ => ?_)
  exact ok_eq (unlC hw.1 h1'.1 h1'.2.1 (2 ^ bn B - 1) 1 0 FU (by omega) (FU_big (by omega)) (by omega)) ⟨rfl, f1.q (by decide)⟩
