/-! pure -/
def nP (B : Bd) (a j : Nat) : Bool := anyN (fun i => decide (a ≤ i) && sm B (lgA B i) (lgA B j)) j
theorem nP_iff (B : Bd) (a j : Nat) : nP B a j = true ↔ ∃ i, a ≤ i ∧ i < j ∧ sm B (lgA B i) (lgA B j) = true := by
  unfold nP
  rw [anyN_iff]
  constructor
  · rintro ⟨i, h1, h2⟩
    rw [Bool.and_eq_true, decide_eq_true_iff] at h2
    exact ⟨i, h2.1, h1, h2.2⟩
  · rintro ⟨i, h1, h2, h3⟩
    exact ⟨i, h2, by rw [Bool.and_eq_true, decide_eq_true_iff]; exact ⟨h1, h3⟩⟩
def fP (B : Bd) (a : Nat) : Nat → Nat → Nat
  | j, 0 => j - a
  | j, k + 1 => if nP B a j = true then j - a else fP B a (j + 1) k
def pl (B : Bd) (a : Nat) : Nat := fP B a a (bpl B - a)
theorem fP_le (B : Bd) (a : Nat) : ∀ (k j : Nat), a ≤ j → j + k ≤ bpl B → fP B a j k ≤ bpl B - a := by
  intro k
  induction k with
  | zero => intro j h1 h2; show j - a ≤ _; omega
  | succ k ih =>
    intro j h1 h2
    show (if nP B a j = true then j - a else fP B a (j + 1) k) ≤ _
    by_cases c : nP B a j = true
    · rw [if_pos c]; omega
    · rw [if_neg c]; exact ih (j + 1) (by omega) (by omega)
theorem fP_iff (B : Bd) (a : Nat) : ∀ (k j b : Nat), a ≤ j → j ≤ b → b ≤ j + k → (b - a ≤ fP B a j k ↔ ∀ i, j ≤ i → i < b → ¬ nP B a i = true) := by
  intro k
  induction k with
  | zero =>
    intro j b h1 h2 h3
    obtain rfl : b = j := by omega
    exact ⟨fun _ i z1 z2 => by omega, fun _ => Nat.le_refl _⟩
  | succ k ih =>
    intro j b h1 h2 h3
    show (b - a ≤ if nP B a j = true then j - a else fP B a (j + 1) k) ↔ _
    by_cases c : nP B a j = true
    · rw [if_pos c]
      constructor
      · intro z i z1 z2; omega
      · intro z
        rcases Nat.lt_or_ge j b with y | y
        · exact absurd c (z j (Nat.le_refl j) y)
        · omega
    · rw [if_neg c]
      by_cases e : b = j
      · subst e
        refine ⟨fun _ i z1 z2 => by omega, fun _ => ?_⟩
        have : ∀ (k j : Nat), a ≤ j → j - a ≤ fP B a j k := by
          intro k
          induction k with
          | zero => intro j h; exact Nat.le_refl _
          | succ k ih2 =>
            intro j h
            show _ ≤ if nP B a j = true then j - a else fP B a (j + 1) k
            split
            · exact Nat.le_refl _
            · have := ih2 (j + 1) (by omega); omega
        have := this k (b + 1) (by omega)
        omega
      · rw [ih (j + 1) b (by omega) (by omega) (by omega)]
        constructor
        · intro z i z1 z2
          by_cases y : i = j
          · rw [y]; exact c
          · exact z i (by omega) z2
        · intro z i z1 z2
          exact z i (by omega) z2
theorem pl_le {B : Bd} {a : Nat} (h : a ≤ bpl B) : pl B a ≤ bpl B - a := fP_le B a _ _ (Nat.le_refl a) (by omega)
theorem pl_iff {B : Bd} {a b : Nat} (h1 : a ≤ b) (h2 : b ≤ bpl B) : b - a ≤ pl B a ↔ ∀ i, a ≤ i → i < b → ¬ nP B a i = true := fP_iff B a _ _ _ (Nat.le_refl a) h1 (by omega)
theorem purC_in {B : Bd} {M : Mem} {a j : Nat} (hw : wfB B) (hb : brdC 1 B M) (hA : RA B M) (hj : j < bpl B) (haj : a ≤ j) (kont : Int32 → Int32 → Option Int32) (R : Option Int32) (h1 : nP B a j = true → R = some (nI (j - a))) (h2 : nP B a j = false → R = kont (nI a) (nI (j + 1))) :
    ∀ (k i fuel : Nat), i + k = j → k < fuel → a ≤ i → (∀ u, a ≤ u → u < i → sm B (lgA B u) (lgA B j) = false) → f_X3_pureFrom_b15 M kont fuel (nI a) (nI j) (nI i) = R := by
  have h12 := hw.2.2.2.1
  intro k
  induction k with
  | zero =>
    intro i fuel hi hf hai hI
    obtain ⟨f, rfl⟩ : ∃ f, fuel = f + 1 := ⟨fuel - 1, by omega⟩
    obtain rfl : i = j := by omega
    unfold f_X3_pureFrom_b15
    rw [if_pos (nI_le (by omega) (by omega)), nI_1, h2]
    cases z : nP B a i
    · rfl
    · obtain ⟨u, z1, z2, z3⟩ := (nP_iff B a i).mp z
      rw [hI u z1 z2] at z3; cases z3
  | succ k ih =>
    intro i fuel hi hf hai hI
    obtain ⟨f, rfl⟩ : ∃ f, fuel = f + 1 := ⟨fuel - 1, by omega⟩
    unfold f_X3_pureFrom_b15
    rw [if_neg (nI_ge (by omega) (by omega)), alikeC hw hb hA (by omega) hj, Option.bind_some, nI_1]
    cases q : sm B (lgA B i) (lgA B j) with
    | false =>
      rw [if_pos (show bI false = 0 from rfl)]
      exact ih (i + 1) f (by omega) (by omega) (by omega) (fun u z1 z2 => by
        by_cases c : u = i
        · rw [c]; exact q
        · exact hI u z1 (by omega))
    | true =>
      rw [if_neg (show ¬ bI true = 0 from n10), sub_one_nI haj, h1 ((nP_iff B a j).mpr ⟨i, hai, by omega, q⟩)]
theorem purC {B : Bd} {M : Mem} {a : Nat} (hw : wfB B) (hb : brdC 1 B M) (hA : RA B M) (ha : a < bpl B) : ∀ (k j fuel : Nat), j + k = bpl B → k < fuel → a ≤ j → f_X3_pureFrom_b2 M fuel (nI a) (nI j) = some (nI (fP B a j k)) := by
  have h12 := hw.2.2.2.1
  intro k
  induction k with
  | zero =>
    intro j fuel hi hf haj
    obtain ⟨f, rfl⟩ : ∃ f, fuel = f + 1 := ⟨fuel - 1, by omega⟩
    obtain rfl : j = bpl B := by omega
    unfold f_X3_pureFrom_b2
    rw [hb.2.1, if_pos (nI_le (by omega) (by omega)), sub_one_nI haj]
    rfl
  | succ k ih =>
    intro j fuel hi hf haj
    obtain ⟨f, rfl⟩ : ∃ f, fuel = f + 1 := ⟨fuel - 1, by omega⟩
    unfold f_X3_pureFrom_b2
    rw [hb.2.1, if_neg (nI_ge (by omega) (by omega))]
    refine purC_in hw hb hA (by omega) haj _ _ (fun q => ?_) (fun q => ?_) (j - a) a FU (by omega) (FU_big (by omega)) (Nat.le_refl a) (fun u z1 z2 => by omega)
    · show some (nI (if nP B a j = true then j - a else fP B a (j + 1) k)) = _
      rw [if_pos q]
    · show some (nI (if nP B a j = true then j - a else fP B a (j + 1) k)) = _
      rw [q, if_neg (by decide)]
      exact (ih (j + 1) f (by omega) (by omega) (by omega)).symm
def puF (B : Bd) : Nat → Nat → Nat × Int32 → Nat × Int32
  | _, 0, p => p
  | a, k + 1, p => puF B (a + 1) k (if pl B a ≤ p.1 then p else (pl B a, nI a))
def puA (v1 : Int32) (p : Nat × Int32) : Int32 := if v1 = 0 then nI p.1 else p.2
theorem loP {B : Bd} {M : Mem} (hw : wfB B) (hb : brdC 1 B M) (hA : RA B M) (v1 : Int32) : ∀ (k a fuel : Nat) (p : Nat × Int32), a + k = bpl B → k < fuel → p.1 ≤ bpl B → f_X3_longestPure_b15 fuel v1 (nI p.1) p.2 (nI a) M = some (puA v1 (puF B a k p), M) := by
  have h12 := hw.2.2.2.1
  intro k
  induction k with
  | zero =>
    intro a fuel p hi hf hp
    obtain ⟨f, rfl⟩ : ∃ f, fuel = f + 1 := ⟨fuel - 1, by omega⟩
    obtain rfl : a = bpl B := by omega
    unfold f_X3_longestPure_b15 puA
    rw [hb.2.1, if_pos (nI_le (by omega) (by omega))]
    by_cases c : v1 = 0
    · rw [if_pos c, if_pos c]; rfl
    · rw [if_neg c, if_neg c]; rfl
  | succ k ih =>
    intro a fuel p hi hf hp
    obtain ⟨f, rfl⟩ : ∃ f, fuel = f + 1 := ⟨fuel - 1, by omega⟩
    have hpl := pl_le (B := B) (a := a) (by omega)
    have e : f_X3_pureFrom (nI a) M = some (nI (pl B a)) := purC hw hb hA (by omega) (bpl B - a) a FU (by omega) (FU_big (by omega)) (Nat.le_refl a)
    unfold f_X3_longestPure_b15
    rw [hb.2.1, if_neg (nI_ge (by omega) (by omega)), e, Option.bind_some, nI_1]
    show _ = some (puA v1 (puF B (a + 1) k (if pl B a ≤ p.1 then p else (pl B a, nI a))), M)
    by_cases c : pl B a ≤ p.1
    · rw [if_pos (nI_le c (by omega)), if_pos c]; exact ih (a + 1) f p (by omega) (by omega) hp
    · rw [if_neg (nI_ge (by omega) (by omega)), if_neg c]; exact ih (a + 1) f (pl B a, nI a) (by omega) (by omega) (show pl B a ≤ bpl B by omega)
/-! the model -/
theorem isP_in {B : Bd} {M : Mem} {b i : Nat} (hw : wfB B) (hb : brdR B M) (hbb : b ≤ bpl B) (kont : Int32 → Int32 → Option Int32) (R : Option Int32) (h1 : (∃ j, i < j ∧ j < b ∧ sm B (lgA B i) (lgA B j) = true) → R = some 0) (h2 : (∀ j, i < j → j < b → sm B (lgA B i) (lgA B j) = false) → R = kont (nI b) (nI (i + 1))) :
    ∀ (k j fuel : Nat), j + k = b → k < fuel → i < j → (∀ u, i < u → u < j → sm B (lgA B i) (lgA B u) = false) → f_X12_isPure_b12 M kont fuel (nI b) (nI i) (nI j) = R := by
  have h12 := hw.2.2.2.1
  intro k
  induction k with
  | zero =>
    intro j fuel hi hf hij hI
    obtain ⟨f, rfl⟩ : ∃ f, fuel = f + 1 := ⟨fuel - 1, by omega⟩
    unfold f_X12_isPure_b12
    rw [if_pos (nI_le (by omega) (by omega)), nI_1, h2 (fun u z1 z2 => hI u z1 (by omega))]
  | succ k ih =>
    intro j fuel hi hf hij hI
    obtain ⟨f, rfl⟩ : ∃ f, fuel = f + 1 := ⟨fuel - 1, by omega⟩
    unfold f_X12_isPure_b12
    rw [if_neg (nI_ge (by omega) (by omega)), ldI_n (by omega) (by decide), hb.2.2.2.2.2.2.2 i (by omega), Option.bind_some, ldI_n (by omega) (by decide), hb.2.2.2.2.2.2.2 j (by omega), Option.bind_some, areSameR hb hw (lgA_in hw (by omega)) (lgA_in hw (by omega)), Option.bind_some, nI_1]
    cases q : sm B (lgA B i) (lgA B j) with
    | false =>
      rw [if_pos (show bI false = 0 from rfl)]
      exact ih (j + 1) f (by omega) (by omega) (by omega) (fun u z1 z2 => by
        by_cases c : u = j
        · rw [c]; exact q
        · exact hI u z1 (by omega))
    | true => rw [if_neg (show ¬ bI true = 0 from n10), h1 ⟨j, hij, by omega, q⟩]
theorem isP_lp {B : Bd} {M : Mem} {a b : Nat} (hw : wfB B) (hb : brdR B M) (hab : a ≤ b) (hbb : b ≤ bpl B) : ∀ (k i fuel : Nat), i + k = b → k < fuel → a ≤ i → (∀ u v, a ≤ u → u < i → u < v → v < b → sm B (lgA B u) (lgA B v) = false) →
    f_X12_isPure_b2 M fuel (nI b) (nI i) = some (bI (decide (b - a ≤ pl B a))) := by
  have h12 := hw.2.2.2.1
  have key := pl_iff (B := B) hab hbb
  intro k
  induction k with
  | zero =>
    intro i fuel hi hf hai hI
    obtain ⟨f, rfl⟩ : ∃ f, fuel = f + 1 := ⟨fuel - 1, by omega⟩
    obtain rfl : i = b := by omega
    unfold f_X12_isPure_b2
    rw [if_pos (nI_le (by omega) (by omega)), decide_eq_true (key.mpr (fun j z1 z2 z3 => ?_))]
    · rfl
    · obtain ⟨u, y1, y2, y3⟩ := (nP_iff B a j).mp z3
      rw [hI u j y1 (by omega) y2 z2] at y3; cases y3
  | succ k ih =>
    intro i fuel hi hf hai hI
    obtain ⟨f, rfl⟩ : ∃ f, fuel = f + 1 := ⟨fuel - 1, by omega⟩
    unfold f_X12_isPure_b2
    rw [if_neg (nI_ge (by omega) (by omega)), nI_1]
    refine isP_in hw hb hbb _ _ (fun hx => ?_) (fun hh => ?_) (b - (i + 1)) (i + 1) FU (by omega) (FU_big (by omega)) (by omega) (fun u z1 z2 => by omega)
    · obtain ⟨j, z1, z2, z3⟩ := hx
      rw [decide_eq_false]
      · rfl
      · intro q
        exact key.mp q j (by omega) z2 ((nP_iff B a j).mpr ⟨i, hai, z1, z3⟩)
    · exact (ih (i + 1) f (by omega) (by omega) (by omega) (fun u v z1 z2 z3 z4 => by
        by_cases c : u = i
        · rw [c] at z3 ⊢; exact hh v z3 z4
        · exact hI u v z1 (by omega) z3 z4)).symm
theorem isPR {B : Bd} {M : Mem} {a b : Nat} (hw : wfB B) (hb : brdR B M) (hab : a ≤ b) (hbb : b ≤ bpl B) : f_X12_isPure (nI a) (nI b) M = some (bI (decide (b - a ≤ pl B a))) :=
  isP_lp hw hb hab hbb (b - a) a FU (by omega) (FU_big (by have := hw.2.2.2.1; omega)) (Nat.le_refl a) (fun u v z1 z2 => by omega)
theorem puR_B {B : Bd} {M : Mem} {a : Nat} (hw : wfB B) (hb : brdR B M) (v1 v2 v3 : Int32) (kont : Int32 → Int32 → Int32 → Int32 → Mem → Option (Int32 × Mem)) : ∀ (k b fuel : Nat), b + k = bpl B + 1 → k < fuel → a ≤ b → pl B a < b - a →
    f_X12_pure_b41 kont fuel v1 v2 v3 (nI a) (nI b) M = kont v1 v2 v3 (nI (a + 1)) M := by
  have h12 := hw.2.2.2.1
  intro k
  induction k with
  | zero =>
    intro b fuel hi hf hab hp
    obtain ⟨f, rfl⟩ : ∃ f, fuel = f + 1 := ⟨fuel - 1, by omega⟩
    unfold f_X12_pure_b41
    rw [hb.2.1, if_pos (nI_lt (by omega) (by omega)), nI_1]
  | succ k ih =>
    intro b fuel hi hf hab hp
    obtain ⟨f, rfl⟩ : ∃ f, fuel = f + 1 := ⟨fuel - 1, by omega⟩
    unfold f_X12_pure_b41
    rw [hb.2.1, if_neg (fun q => absurd ((nI_ltI (by omega) (by omega)).mp q) (by omega)), isPR hw hb hab (by omega), Option.bind_some, decide_eq_false (by omega), if_pos (show bI false = 0 from rfl), nI_1]
    exact ih (b + 1) f (by omega) (by omega) (by omega) (by omega)
theorem puR_A {B : Bd} {M : Mem} {a : Nat} (hw : wfB B) (hb : brdR B M) (ha : a < bpl B) (v1 : Int32) (kont : Int32 → Int32 → Int32 → Int32 → Mem → Option (Int32 × Mem)) : ∀ (k cur fuel : Nat) (st : Int32), a + cur + k = bpl B → k < fuel →
    f_X12_pure_b41 kont fuel v1 (nI cur) st (nI a) (nI (a + cur + 1)) M = kont v1 (nI (if pl B a ≤ cur then (cur, st) else (pl B a, nI a)).1) (if pl B a ≤ cur then (cur, st) else (pl B a, nI a)).2 (nI (a + 1)) M := by
  have h12 := hw.2.2.2.1
  have hpl := pl_le (B := B) (a := a) (by omega)
  intro k
  induction k with
  | zero =>
    intro cur fuel st hi hf
    obtain ⟨f, rfl⟩ : ∃ f, fuel = f + 1 := ⟨fuel - 1, by omega⟩
    unfold f_X12_pure_b41
    rw [hb.2.1, if_pos (nI_lt (by omega) (by omega)), nI_1, if_pos (by omega)]
  | succ k ih =>
    intro cur fuel st hi hf
    obtain ⟨f, rfl⟩ : ∃ f, fuel = f + 1 := ⟨fuel - 1, by omega⟩
    unfold f_X12_pure_b41
    rw [hb.2.1, if_neg (fun q => absurd ((nI_ltI (by omega) (by omega)).mp q) (by omega)), isPR hw hb (by omega) (by omega), Option.bind_some, sub_one_nI (by omega), nI_1]
    by_cases c : a + cur + 1 - a ≤ pl B a
    · rw [decide_eq_true c, if_neg (show ¬ bI true = 0 from n10), if_neg (show ¬ pl B a ≤ cur by omega)]
      have := ih (cur + 1) f (nI a) (by omega) (by omega)
      rw [show a + (cur + 1) + 1 = a + cur + 1 + 1 by omega] at this
      rw [show a + cur + 1 - a = cur + 1 by omega, this]
      by_cases c2 : pl B a ≤ cur + 1
      · rw [if_pos c2, show pl B a = cur + 1 by omega]
      · rw [if_neg c2]
    · rw [decide_eq_false c, if_pos (show bI false = 0 from rfl), if_pos (show pl B a ≤ cur by omega)]
      exact puR_B hw hb v1 (nI cur) st kont k (a + cur + 1 + 1) f (by omega) (by omega) (by omega) (by omega)
theorem puR {B : Bd} {M : Mem} (hw : wfB B) (hb : brdR B M) (v1 : Int32) : ∀ (k a fuel : Nat) (p : Nat × Int32), a + k = bpl B → k < fuel → p.1 ≤ bpl B → f_X12_pure_b24 fuel v1 (nI p.1) p.2 (nI a) M = some (puA v1 (puF B a k p), M) := by
  have h12 := hw.2.2.2.1
  intro k
  induction k with
  | zero =>
    intro a fuel p hi hf hp
    obtain ⟨f, rfl⟩ : ∃ f, fuel = f + 1 := ⟨fuel - 1, by omega⟩
    obtain rfl : a = bpl B := by omega
    unfold f_X12_pure_b24 puA
    rw [hb.2.1, if_pos (nI_le (by omega) (by omega))]
    by_cases c : v1 = 0
    · rw [if_pos c, if_pos c]; rfl
    · rw [if_neg c, if_neg c]; rfl
  | succ k ih =>
    intro a fuel p hi hf hp
    obtain ⟨f, rfl⟩ : ∃ f, fuel = f + 1 := ⟨fuel - 1, by omega⟩
    have hpl := pl_le (B := B) (a := a) (by omega)
    unfold f_X12_pure_b24
    rw [hb.2.1, if_neg (nI_ge (by omega) (by omega)), nI_add, nI_1]
    have st : puF B a (k + 1) p = puF B (a + 1) k (if pl B a ≤ p.1 then p else (pl B a, nI a)) := rfl
    rw [st]
    have hp2 : (if pl B a ≤ p.1 then p else (pl B a, nI a)).1 ≤ bpl B := by
      by_cases c : pl B a ≤ p.1
      · rw [if_pos c]; exact hp
      · rw [if_neg c]; show pl B a ≤ bpl B; omega
    by_cases c : a + p.1 ≤ bpl B
    · have := puR_A hw hb (a := a) (by omega) v1 (f_X12_pure_b24 f) (bpl B - (a + p.1)) p.1 FU p.2 (by omega) (FU_big (by omega))
      rw [this]
      exact ih (a + 1) f (if pl B a ≤ p.1 then p else (pl B a, nI a)) (by omega) (by omega) hp2
    · obtain ⟨f', hf'⟩ : ∃ f, FU = f + 1 := ⟨FU - 1, by have := FU_big (k := 0) (by decide); omega⟩
      rw [hf']
      unfold f_X12_pure_b41
      rw [hb.2.1, if_pos (nI_lt (by omega) (by omega)), nI_1, if_pos (by omega)]
      exact ih (a + 1) f p (by omega) (by omega) hp
theorem sim_pure {MC MR : Mem} (h : Inv MC MR) (a : Int32) : Sim (f_X11_pure a MC) (f_X12_pure a MR) := by
  obtain ⟨B, im, S, lt, rw', hw, hC, hR, hf⟩ := id h
  have h12 := hw.1.2.2.2.1
  unfold f_X11_pure f_X12_pure
  simp only [bind_bp]
  have go : Sim (f_X3_longestPure a MC) (f_X12_pure_b24 FU a 0 (-9) 0 MR) := by
    have e2 : f_X12_pure_b24 FU a 0 (-9) 0 MR = some (puA a (puF B 0 (bpl B) (0, -9)), MR) := puR hw.1 hR.1 a (bpl B) 0 FU (0, -9) (by omega) (FU_big (by omega)) (Nat.zero_le _)
    rw [e2]
    refine Sim.q h (puA a (puF B 0 (bpl B) (0, -9))) (ok2_mk ?_) ⟨_, _, rfl, rfl, agR.rf⟩
    unfold f_X3_longestPure
    refine ok_bind (open_ok hw.1 hC.1) (fun M1 ⟨h1, f1⟩ => ?_)
    exact ok_eq (loP hw.1 h1.1 h1.2.1 a (bpl B) 0 FU (0, -9) (by omega) (FU_big (by omega)) (Nat.zero_le _)) ⟨rfl, f1.q (by decide)⟩
  rcases either a with ⟨e1, e2⟩ | ⟨e1, e2, -⟩ | ⟨e1, e2, -⟩
  · rw [e1, e2, if_pos p00, if_pos p00]; exact Sim.no2 h
  · rw [e1, e2, if_neg n10, if_neg n10]; exact go
  · rw [e1, e2, if_neg n10, if_neg n10]; exact go
