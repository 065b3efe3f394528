/-! tellsMost: how many different values -/
def nwG (f : Nat → Nat) (d : Nat) : Nat → Bool
  | 0 => true
  | k + 1 => nwG f d k && !decide (f k = f d)
theorem nwG_iff (f : Nat → Nat) (d k : Nat) : nwG f d k = true ↔ ∀ u, u < k → ¬ f u = f d := by
  induction k with
  | zero => exact ⟨(fun _ u hu => absurd hu (Nat.not_lt_zero u)), (fun _ => rfl)⟩
  | succ k ih =>
    show (nwG f d k && !decide (f k = f d)) = true ↔ _
    rw [Bool.and_eq_true, ih, Bool.not_eq_true', decide_eq_false_iff_not]
    constructor
    · rintro ⟨h1, h2⟩ u hu
      by_cases c : u = k
      · rw [c]; exact h2
      · exact h1 u (by omega)
    · intro h
      exact ⟨fun u hu => h u (by omega), h k (by omega)⟩
def dC (f : Nat → Nat) : Nat → Nat
  | 0 => 0
  | k + 1 => dC f k + (nwG f k k).toNat
def dL (f : Nat → Nat) : Nat → List Nat
  | 0 => []
  | k + 1 => if nwG f k k = true then dL f k ++ [f k] else dL f k
theorem dL_len (f : Nat → Nat) (k : Nat) : (dL f k).length = dC f k := by
  induction k with
  | zero => rfl
  | succ k ih =>
    show (if nwG f k k = true then dL f k ++ [f k] else dL f k).length = dC f k + (nwG f k k).toNat
    cases nwG f k k
    · rw [if_neg (by decide), ih]; rfl
    · rw [if_pos rfl, List.length_append, ih]; rfl
theorem dC_le (f : Nat → Nat) (k : Nat) : dC f k ≤ k := by
  induction k with
  | zero => exact Nat.le_refl _
  | succ k ih =>
    have : (nwG f k k).toNat ≤ 1 := by cases nwG f k k <;> decide
    show dC f k + _ ≤ _
    omega
theorem dL_mem (f : Nat → Nat) (x : Nat) : ∀ k, x ∈ dL f k ↔ ∃ u, u < k ∧ f u = x := by
  intro k
  induction k with
  | zero => exact ⟨(fun h => by cases h), (fun ⟨u, h, _⟩ => absurd h (Nat.not_lt_zero u))⟩
  | succ k ih =>
    show x ∈ (if nwG f k k = true then dL f k ++ [f k] else dL f k) ↔ _
    by_cases c : nwG f k k = true
    · rw [if_pos c, List.mem_append, ih, List.mem_singleton]
      constructor
      · rintro (⟨u, h1, h2⟩ | h)
        · exact ⟨u, by omega, h2⟩
        · exact ⟨k, by omega, h.symm⟩
      · rintro ⟨u, h1, h2⟩
        by_cases z : u = k
        · exact Or.inr (by rw [← h2, z])
        · exact Or.inl ⟨u, by omega, h2⟩
    · rw [if_neg c, ih]
      constructor
      · rintro ⟨u, h1, h2⟩
        exact ⟨u, by omega, h2⟩
      · rintro ⟨u, h1, h2⟩
        by_cases z : u = k
        · have : ¬ ∀ u, u < k → ¬ f u = f k := fun h => c ((nwG_iff f k k).mpr h)
          obtain ⟨t, ht⟩ := Classical.not_forall.mp this
          obtain ⟨t1, t2⟩ := Classical.not_imp.mp ht
          exact ⟨t, t1, by rw [← h2, z]; exact Classical.not_not.mp t2⟩
        · exact ⟨u, by omega, h2⟩
theorem newC {M : Mem} {f : Nat → Nat} {d m : Nat} (hd : d < 8) (hm : m ≤ 36) (h33 : ∀ v, v < m → M.1 33 (v * 8 + d) = nI (f v)) (hf : ∀ v, f v < 2 ^ 31) {v : Nat} (hv : v < m) : ∀ (k i fuel : Nat), i + k = v → k < fuel → nwG f v i = true →
    f_X7_isNewNext_b2 M fuel (nI d) (nI v) (nI i) = some (bI (nwG f v v)) := by
  intro k
  induction k with
  | zero =>
    intro i fuel hi hf' h
    obtain ⟨f_1, rfl⟩ : ∃ g, fuel = g + 1 := ⟨fuel - 1, by omega⟩
    obtain rfl : i = v := by omega
    unfold f_X7_isNewNext_b2
    rw [if_pos (nI_le (by omega) (by omega)), h]
    rfl
  | succ k ih =>
    intro i fuel hi hf' h
    obtain ⟨f_1, rfl⟩ : ∃ g, fuel = g + 1 := ⟨fuel - 1, by omega⟩
    unfold f_X7_isNewNext_b2
    rw [if_neg (nI_ge (by omega) (by omega)), l_8, pk_mul, pk_mul, nI_add, nI_add, ldI_n (by omega) (by decide), h33 i (by omega), Option.bind_some, ldI_n (by omega) (by decide), h33 v hv, Option.bind_some, nI_1]
    by_cases c : f i = f v
    · rw [if_pos (by rw [c])]
      have : nwG f v v = false := by
        cases z : nwG f v v
        · rfl
        · exact absurd c ((nwG_iff f v v).mp z i (by omega))
      rw [this]; rfl
    · rw [if_neg (fun q => c (nI_e (hf _) (hf _) q))]
      exact ih (i + 1) f_1 (by omega) (by omega) (by
        show (nwG f v i && !decide (f i = f v)) = true
        rw [h, decide_eq_false c]; rfl)
theorem cntC {M : Mem} {f : Nat → Nat} {d m : Nat} (hd : d < 8) (hm : m ≤ 36) (h33 : ∀ v, v < m → M.1 33 (v * 8 + d) = nI (f v)) (hf : ∀ v, f v < 2 ^ 31) : ∀ (k i fuel : Nat), i + k = m → k < fuel → f_X7_unlikeNexts_b5 M fuel (nI d) (nI m) (nI (dC f i)) (nI i) = some (nI (dC f m)) := by
  intro k
  induction k with
  | zero =>
    intro i fuel hi hf'
    obtain ⟨f_1, rfl⟩ : ∃ g, fuel = g + 1 := ⟨fuel - 1, by omega⟩
    obtain rfl : i = m := by omega
    unfold f_X7_unlikeNexts_b5
    rw [if_pos (nI_le (by omega) (by omega))]
  | succ k ih =>
    intro i fuel hi hf'
    obtain ⟨f_1, rfl⟩ : ∃ g, fuel = g + 1 := ⟨fuel - 1, by omega⟩
    have e : f_X7_isNewNext (nI d) (nI i) M = some (bI (nwG f i i)) := newC hd hm h33 hf (by omega) i 0 FU (by omega) (FU_big (by omega)) rfl
    have := ih (i + 1) f_1 (by omega) (by omega)
    have st : dC f (i + 1) = dC f i + (nwG f i i).toNat := rfl
    rw [st] at this
    unfold f_X7_unlikeNexts_b5
    rw [if_neg (nI_ge (by omega) (by omega)), e, Option.bind_some, nI_1]
    cases q : nwG f i i with
    | false => rw [q] at this; rw [if_pos (show bI false = 0 from rfl)]; exact this
    | true => rw [q] at this; rw [if_neg (show ¬ bI true = 0 from n10), nI_1]; exact this
