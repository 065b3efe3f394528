/-! longs that are small naturals -/
def nL (n : Nat) : Int64 := Int64.ofNat n
theorem nL_toInt {n : Nat} (h : n < 2 ^ 63) : (nL n).toInt = n := Int64.toInt_ofNat_of_lt h
theorem L_ext {x y : Int64} (h : x.toInt = y.toInt) : x = y := Int64.toInt_inj.mp h
theorem nL_add (a b : Nat) : nL a + nL b = nL (a + b) := (Int64.ofNat_add a b).symm
theorem nL_mul (a b : Nat) : nL a * nL b = nL (a * b) := (Int64.ofNat_mul a b).symm
theorem nL_e {a b : Nat} (ha : a < 2 ^ 63) (hb : b < 2 ^ 63) (h : nL a = nL b) : a = b := by
  have := congrArg Int64.toInt h
  rw [nL_toInt ha, nL_toInt hb] at this
  omega
theorem nI_long {n : Nat} (h : n < 2 ^ 31) : (nI n).toInt64 = nL n := by
  apply L_ext
  rw [nL_toInt (by omega), Int32.toInt_toInt64, nI_toInt h]
theorem nL_div {a b : Nat} (ha : a < 2 ^ 63) (hb : b < 2 ^ 63) : nL a / nL b = nL (a / b) := by
  apply L_ext
  rw [nL_toInt (Nat.lt_of_le_of_lt (Nat.div_le_self a b) ha), Int64.toInt_div, nL_toInt ha, nL_toInt hb, ← Int.ofNat_tdiv]
  have h1 : a / b ≤ a := Nat.div_le_self a b
  generalize a / b = c at *
  rw [Int.bmod_eq_of_le (by omega) (by omega)]
theorem nL_sub {a b : Nat} (h : b ≤ a) : nL a - nL b = nL (a - b) := by
  obtain ⟨c, rfl⟩ : ∃ c, a = b + c := ⟨a - b, by omega⟩
  rw [← nL_add, Nat.add_sub_cancel_left, Int64.add_comm, Int64.add_sub_cancel]
theorem dvL_n {a b : Nat} (ha : a < 2 ^ 63) (h0 : 0 < b) (hb : b < 2 ^ 63) : dvL (nL a) (nL b) = some (nL (a / b)) := by
  unfold dvL
  rw [if_neg (show ¬ nL b = 0 from fun q => absurd (nL_e (b := 0) hb (by decide) q) (by omega)), nL_div ha hb]
theorem rmL_n {a b : Nat} (ha : a < 2 ^ 63) (h0 : 0 < b) (hb : b < 2 ^ 63) : rmL (nL a) (nL b) = some (nL (a % b)) := by
  unfold rmL
  have e : a / b * b ≤ a := Nat.div_mul_le_self a b
  have e2 : a - a / b * b = a % b := by
    have := Nat.div_add_mod a b
    rw [Nat.mul_comm] at this
    omega
  rw [if_neg (show ¬ nL b = 0 from fun q => absurd (nL_e (b := 0) hb (by decide) q) (by omega)), nL_div ha hb, nL_mul, nL_sub e, e2]
theorem cmp_0 {a : Nat} (ha : a < 2 ^ 63) : (lg_cmp (nL a) 0 = 0) = (a = 0) := by
  unfold lg_cmp
  by_cases c : a = 0
  · subst c; simp; rfl
  · have h1 : ¬ nL a = 0 := fun q => c (nL_e (b := 0) ha (by decide) q)
    have h2 : nL a > 0 := by
      show 0 < nL a
      rw [Int64.lt_iff_toInt_lt, nL_toInt ha]
      show (0 : Int) < a
      omega
    rw [if_pos h2]
    simp [c]
/-! the greatest common divisor, as both find it -/
theorem lowC_lp {x y : Nat} {v4 : Int32} (hx : x < 2 ^ 31) (hy : y < 2 ^ 31) : ∀ (k a b fuel i : Nat), b < 2 ^ k → a < 2 ^ 31 → b < 2 ^ 31 → 0 < Nat.gcd a b → i + 2 * k + 1 ≤ 64 → 2 * k + 1 < fuel →
    f_X4_lowest_b25 fuel (nL x) (nL y) v4 (nL a) (nL b) (nI i) = f_X4_lowest_b60 (nL x) (nL y) v4 (nL (Nat.gcd a b)) := by
  intro k
  induction k with
  | zero =>
    intro a b fuel i hb ha hb2 hg hi hf
    obtain ⟨f, rfl⟩ : ∃ f, fuel = f + 1 := ⟨fuel - 1, by omega⟩
    obtain rfl : b = 0 := by simp at hb; exact hb
    unfold f_X4_lowest_b25
    rw [if_neg (show ¬ 64 ≤ nI i from fun q => absurd ((nI_leI (a := 64) (by decide) (by omega)).mp q) (by omega)), if_pos (by rw [cmp_0 (by omega)]), Nat.gcd_zero_right]
  | succ k ih =>
    intro a b fuel i hb ha hb2 hg hi hf
    obtain ⟨f, rfl⟩ : ∃ f, fuel = f + 1 := ⟨fuel - 1, by omega⟩
    unfold f_X4_lowest_b25
    rw [if_neg (show ¬ 64 ≤ nI i from fun q => absurd ((nI_leI (a := 64) (by decide) (by omega)).mp q) (by omega))]
    by_cases c : b = 0
    · subst c
      rw [if_pos (by rw [cmp_0 (by omega)]), Nat.gcd_zero_right]
    · have hr : a % b < b := Nat.mod_lt _ (by omega)
      have eg : Nat.gcd a b = Nat.gcd b (a % b) := by rw [Nat.gcd_comm a b, Nat.gcd_rec b a, Nat.gcd_comm]
      rw [if_neg (by rw [cmp_0 (by omega)]; exact c), rmL_n (by omega) (by omega) (by omega), Option.bind_some, nI_1, eg]
      rw [eg] at hg
      obtain ⟨f', rfl⟩ : ∃ f', f = f' + 1 := ⟨f - 1, by omega⟩
      unfold f_X4_lowest_b25
      rw [if_neg (show ¬ 64 ≤ nI (i + 1) from fun q => absurd ((nI_leI (a := 64) (by decide) (by omega)).mp q) (by omega))]
      by_cases c2 : a % b = 0
      · rw [c2, if_pos (by rw [cmp_0 (by omega)]), Nat.gcd_zero_right]
      · have hr2 : b % (a % b) < a % b := Nat.mod_lt _ (by omega)
        have hlt : b % (a % b) < 2 ^ k := by
          have h3 := Nat.div_add_mod b (a % b)
          have h4 : 1 ≤ b / (a % b) := Nat.div_pos (by omega) (by omega)
          have h5 : a % b ≤ a % b * (b / (a % b)) := Nat.le_mul_of_pos_right _ h4
          have h6 : 2 ^ (k + 1) = 2 * 2 ^ k := by rw [Nat.pow_succ, Nat.mul_comm]
          generalize a % b * (b / (a % b)) = z at *
          omega
        have eg2 : Nat.gcd b (a % b) = Nat.gcd (a % b) (b % (a % b)) := by rw [Nat.gcd_comm b (a % b), Nat.gcd_rec (a % b) b, Nat.gcd_comm]
        rw [if_neg (by rw [cmp_0 (by omega)]; exact c2), rmL_n (by omega) (by omega) (by omega), Option.bind_some, nI_1, eg2]
        rw [eg2] at hg
        exact ih (a % b) (b % (a % b)) f' (i + 1 + 1) hlt (by omega) (by omega) hg (by omega) (by omega)
theorem divR_lp : ∀ (k a b fuel : Nat), b ≤ k → k < fuel → a < 2 ^ 31 → b < 2 ^ 31 → f_X12_divisor_b6 fuel (nL a) (nL b) = some (nL (Nat.gcd a b)) := by
  intro k
  induction k with
  | zero =>
    intro a b fuel hk hf ha hb
    obtain ⟨f, rfl⟩ : ∃ f, fuel = f + 1 := ⟨fuel - 1, by omega⟩
    obtain rfl : b = 0 := by omega
    unfold f_X12_divisor_b6
    rw [if_pos (by rw [cmp_0 (by omega)]), Nat.gcd_zero_right]
  | succ k ih =>
    intro a b fuel hk hf ha hb
    obtain ⟨f, rfl⟩ : ∃ f, fuel = f + 1 := ⟨fuel - 1, by omega⟩
    unfold f_X12_divisor_b6
    by_cases c : b = 0
    · subst c
      rw [if_pos (by rw [cmp_0 (by omega)]), Nat.gcd_zero_right]
    · have hr : a % b < b := Nat.mod_lt _ (by omega)
      have eg : Nat.gcd a b = Nat.gcd b (a % b) := by rw [Nat.gcd_comm a b, Nat.gcd_rec b a, Nat.gcd_comm]
      rw [if_neg (by rw [cmp_0 (by omega)]; exact c), rmL_n (by omega) (by omega) (by omega), Option.bind_some, eg]
      exact ih b (a % b) f (by omega) (by omega) (by omega) (by omega)
