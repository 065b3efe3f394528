/-! twins, radius, majority, unlikeMarks: what is told of the marks alone -/
theorem ldMkC {B : Bd} {M : Mem} (hb : brdC 1 B M) (hw : wfB B) {d : Nat} (hd : d < bn B) : ldI M 4 8 (nI d) = some (nI (mk B d)) := by
  have hn := hw.2.2.1
  rw [ldI_n (by omega) (by decide)]
  exact congrArg some (hb.2.2.2.2.2.2.1 d hd)
theorem ldMkR {B : Bd} {M : Mem} (hb : brdR B M) (hw : wfB B) {d : Nat} (hd : d < bn B) : ldI M 4 8 (nI d) = some (nI (mk B d)) := by
  have hn := hw.2.2.1
  rw [ldI_n (by omega) (by decide)]
  exact congrArg some (hb.2.2.2.2.2.2.1 d hd)
theorem nI_ne_m9 {n : Nat} (h : n < 2 ^ 31) : ¬ nI n = -9 := fun e => by
  have : (nI n).toInt = (-9 : Int32).toInt := by rw [e]
  rw [nI_toInt h] at this
  have e9 : (-9 : Int32).toInt = -9 := rfl
  omega
theorem nI_le_neg {a : Nat} {v : Int32} (h : a < 2 ^ 31) (hv : v < 0) : ¬ nI a ≤ v := by
  rw [Int32.le_iff_toInt_le, nI_toInt h]
  rw [Int32.lt_iff_toInt_lt] at hv
  have e : (0 : Int32).toInt = 0 := rfl
  omega
def oX {α : Type} (v0 : Int32) (g : α → Nat) (o : Option α) : Int32 := match o with
  | none => v0
  | some b => nI (g b)
theorem oX_step {α : Type} {v0 : Int32} {g : α → Nat} {o : Option α} {x : α} (hv : v0 < 0) (hg : ∀ b, g b < 2 ^ 31) : (nI (g x) ≤ oX v0 g o ∧ ¬ oX v0 g o < nI (g x) ∧ axs g o x = o) ∨ (¬ nI (g x) ≤ oX v0 g o ∧ oX v0 g o < nI (g x) ∧ axs g o x = some x) := by
  cases o with
  | none =>
    have h1 : ¬ nI (g x) ≤ v0 := nI_le_neg (hg x) hv
    exact Or.inr ⟨h1, Int32.not_le.mp h1, rfl⟩
  | some b =>
    by_cases c : g b < g x
    · exact Or.inr ⟨fun q => absurd ((nI_leI (hg x) (hg b)).mp q) (by omega), (nI_ltI (hg b) (hg x)).mpr c, if_pos c⟩
    · exact Or.inl ⟨(nI_leI (hg x) (hg b)).mpr (by omega), fun q => c ((nI_ltI (hg b) (hg x)).mp q), if_neg c⟩
def rowX (g : Nat × Nat → Nat) (a : Nat) : Option (Nat × Nat) → Nat → Nat → Option (Nat × Nat)
  | acc, _, 0 => acc
  | acc, b, k + 1 => rowX g a (axs g acc (a, b)) (b + 1) k
def prsX (g : Nat × Nat → Nat) (n : Nat) : Option (Nat × Nat) → Nat → Nat → Option (Nat × Nat)
  | acc, _, 0 => acc
  | acc, a, k + 1 => prsX g n (rowX g a acc (a + 1) (n - (a + 1))) (a + 1) k
theorem axs_in {α : Type} {g : α → Nat} {P : α → Prop} {acc : Option α} {y : α} (ha : ∀ x, acc = some x → P x) (hy : P y) : ∀ x, axs g acc y = some x → P x := by
  intro x hx
  cases acc with
  | none => cases hx; exact hy
  | some b =>
    unfold axs at hx
    by_cases c : g b < g y
    · simp only [if_pos c] at hx; cases hx; exact hy
    · simp only [if_neg c] at hx; cases hx; exact ha _ rfl
theorem rowX_in {g : Nat × Nat → Nat} {a n : Nat} (ha : a < n) : ∀ (k b : Nat) (acc : Option (Nat × Nat)), b + k ≤ n → (∀ x, acc = some x → x.1 < n ∧ x.2 < n) → ∀ x, rowX g a acc b k = some x → x.1 < n ∧ x.2 < n := by
  intro k
  induction k with
  | zero => intro b acc _ h x hx; exact h x hx
  | succ k ih => intro b acc hb h x hx; exact ih (b + 1) _ (by omega) (axs_in h ⟨ha, show b < n by omega⟩) x hx
theorem prsX_in {g : Nat × Nat → Nat} {n : Nat} : ∀ (k a : Nat) (acc : Option (Nat × Nat)), a + k = n → (∀ x, acc = some x → x.1 < n ∧ x.2 < n) → ∀ x, prsX g n acc a k = some x → x.1 < n ∧ x.2 < n := by
  intro k
  induction k with
  | zero => intro a acc _ h x hx; exact h x hx
  | succ k ih => intro a acc hb h x hx; exact ih (a + 1) _ (by omega) (rowX_in (by omega) _ _ _ (by omega) h) x hx
def gTw (B : Bd) (x : Nat × Nat) : Nat := pc (mk B x.1 &&& mk B x.2)
theorem gTw_lt (B : Bd) (x : Nat × Nat) : gTw B x < 2 ^ 31 := by have := pc_le (mk B x.1 &&& mk B x.2); unfold gTw; omega
theorem twC_in {B : Bd} {M : Mem} {a : Nat} (hw : wfB B) (hb : brdC 1 B M) (v1 : Int32) (kont : Int32 → Int32 → Int32 → Int32 → Option Int32) (acc' : Option (Nat × Nat)) :
    ∀ (k b fuel : Nat) (acc : Option (Nat × Nat)), b + k = bn B → k < fuel → a < b → rowX (gTw B) a acc b k = acc' →
    f_X5_closestTwo_b26 M kont fuel v1 (oP 10 acc) (oX (-1) (gTw B) acc) (nI a) (nI b) = kont v1 (oP 10 acc') (oX (-1) (gTw B) acc') (nI (a + 1)) := by
  have hn := hw.2.2.1
  intro k
  induction k with
  | zero =>
    intro b fuel acc hi hf hab he
    obtain ⟨f, rfl⟩ : ∃ f, fuel = f + 1 := ⟨fuel - 1, by omega⟩
    unfold f_X5_closestTwo_b26
    rw [hb.1, if_pos (nI_le (by omega) (by omega)), nI_1]
    cases he
    rfl
  | succ k ih =>
    intro b fuel acc hi hf hab he
    obtain ⟨f, rfl⟩ : ∃ f, fuel = f + 1 := ⟨fuel - 1, by omega⟩
    unfold f_X5_closestTwo_b26
    rw [hb.1, if_neg (nI_ge (by omega) (by omega)), ldMkC hb hw (by omega), ldMkC hb hw (by omega), Option.bind_some, Option.bind_some, fa_and, bitCount_n (and_small (hw.2.2.2.2.1 a).2.2), nI_1, l_10, pk_mul, nI_add]
    have he2 : rowX (gTw B) a (axs (gTw B) acc (a, b)) (b + 1) k = acc' := he
    show (if nI (gTw B (a, b)) ≤ _ then _ else _) = _
    rcases oX_step (v0 := -1) (o := acc) (x := (a, b)) (by decide) (gTw_lt B) with ⟨c, -, e⟩ | ⟨c, -, e⟩
    · rw [if_pos c]
      rw [e] at he2
      exact ih (b + 1) f acc (by omega) (by omega) (by omega) he2
    · rw [if_neg c]
      rw [e] at he2
      exact ih (b + 1) f (some (a, b)) (by omega) (by omega) (by omega) he2
def twA (B : Bd) (v1 : Int32) : Int32 := if v1 = 0 then oP 10 (prsX (gTw B) (bn B) none 0 (bn B)) else oX (-9) (gTw B) (prsX (gTw B) (bn B) none 0 (bn B))
theorem twC {B : Bd} {M : Mem} (hw : wfB B) (hb : brdC 1 B M) (v1 : Int32) : ∀ (k a fuel : Nat) (acc : Option (Nat × Nat)), a + k = bn B → k < fuel → prsX (gTw B) (bn B) acc a k = prsX (gTw B) (bn B) none 0 (bn B) →
    f_X5_closestTwo_b8 M fuel v1 (oP 10 acc) (oX (-1) (gTw B) acc) (nI a) = some (twA B v1) := by
  have hn := hw.2.2.1
  intro k
  induction k with
  | zero =>
    intro a fuel acc hi hf he
    obtain ⟨f, rfl⟩ : ∃ f, fuel = f + 1 := ⟨fuel - 1, by omega⟩
    unfold f_X5_closestTwo_b8 twA
    rw [hb.1, if_pos (nI_le (by omega) (by omega)), ← he]
    show (if v1 = 0 then _ else _) = some (if v1 = 0 then oP 10 acc else oX (-9) (gTw B) acc)
    by_cases c : v1 = 0
    · rw [if_pos c, if_pos c]
    · rw [if_neg c, if_neg c]
      cases acc with
      | none => rw [if_pos (show oP 10 (none : Option (Nat × Nat)) = -9 from rfl)]; rfl
      | some x =>
        have hx := prsX_in (g := gTw B) (n := bn B) (bn B) 0 none (by omega) (fun x q => by cases q) x he.symm
        rw [if_neg (show ¬ oP 10 (some x) = -9 from nI_ne_m9 (n := 10 * x.1 + x.2) (by omega))]
        rfl
  | succ k ih =>
    intro a fuel acc hi hf he
    obtain ⟨f, rfl⟩ : ∃ f, fuel = f + 1 := ⟨fuel - 1, by omega⟩
    unfold f_X5_closestTwo_b8
    rw [hb.1, if_neg (nI_ge (by omega) (by omega)), nI_1]
    rw [twC_in hw hb v1 _ (rowX (gTw B) a acc (a + 1) (bn B - (a + 1))) (bn B - (a + 1)) (a + 1) FU acc (by omega) (FU_big (by omega)) (by omega) rfl]
    exact ih (a + 1) f _ (by omega) (by omega) he
theorem twR_in {B : Bd} {M : Mem} {a : Nat} (hw : wfB B) (hb : brdR B M) (v1 : Int32) (kont : Int32 → Int32 → Int32 → Int32 → Mem → Option (Int32 × Mem)) (acc' : Option (Nat × Nat)) :
    ∀ (k b fuel : Nat) (acc : Option (Nat × Nat)), b + k = bn B → k < fuel → a < b → rowX (gTw B) a acc b k = acc' →
    f_X12_twins_b40 kont fuel v1 (oP 10 acc) (oX (-9) (gTw B) acc) (nI a) (nI b) M = kont v1 (oP 10 acc') (oX (-9) (gTw B) acc') (nI (a + 1)) M := by
  have hn := hw.2.2.1
  intro k
  induction k with
  | zero =>
    intro b fuel acc hi hf hab he
    obtain ⟨f, rfl⟩ : ∃ f, fuel = f + 1 := ⟨fuel - 1, by omega⟩
    unfold f_X12_twins_b40
    rw [hb.1, if_pos (nI_le (by omega) (by omega)), nI_1]
    cases he
    rfl
  | succ k ih =>
    intro b fuel acc hi hf hab he
    obtain ⟨f, rfl⟩ : ∃ f, fuel = f + 1 := ⟨fuel - 1, by omega⟩
    unfold f_X12_twins_b40
    rw [hb.1, if_neg (nI_ge (by omega) (by omega)), ldMkR hb hw (by omega), ldMkR hb hw (by omega), Option.bind_some, Option.bind_some, fa_and, bitsR (and_small (hw.2.2.2.2.1 a).2.2), nI_1, l_10, pk_mul, nI_add]
    simp only [Option.bind_some]
    have he2 : rowX (gTw B) a (axs (gTw B) acc (a, b)) (b + 1) k = acc' := he
    show (if _ < nI (gTw B (a, b)) then _ else _) = _
    rcases oX_step (v0 := -9) (o := acc) (x := (a, b)) (by decide) (gTw_lt B) with ⟨-, c, e⟩ | ⟨-, c, e⟩
    · rw [if_neg c]
      rw [e] at he2
      exact ih (b + 1) f acc (by omega) (by omega) (by omega) he2
    · rw [if_pos c, fa_and, bitsR (and_small (hw.2.2.2.2.1 a).2.2), Option.bind_some]
      rw [e] at he2
      exact ih (b + 1) f (some (a, b)) (by omega) (by omega) (by omega) he2
theorem twR {B : Bd} {M : Mem} (hw : wfB B) (hb : brdR B M) (v1 : Int32) : ∀ (k a fuel : Nat) (acc : Option (Nat × Nat)), a + k = bn B → k < fuel → prsX (gTw B) (bn B) acc a k = prsX (gTw B) (bn B) none 0 (bn B) →
    f_X12_twins_b25 fuel v1 (oP 10 acc) (oX (-9) (gTw B) acc) (nI a) M = some (twA B v1, M) := by
  have hn := hw.2.2.1
  intro k
  induction k with
  | zero =>
    intro a fuel acc hi hf he
    obtain ⟨f, rfl⟩ : ∃ f, fuel = f + 1 := ⟨fuel - 1, by omega⟩
    unfold f_X12_twins_b25 twA
    rw [hb.1, if_pos (nI_le (by omega) (by omega)), ← he]
    show (if v1 = 0 then _ else _) = some (if v1 = 0 then oP 10 acc else oX (-9) (gTw B) acc, M)
    by_cases c : v1 = 0
    · rw [if_pos c, if_pos c]
    · rw [if_neg c, if_neg c]
  | succ k ih =>
    intro a fuel acc hi hf he
    obtain ⟨f, rfl⟩ : ∃ f, fuel = f + 1 := ⟨fuel - 1, by omega⟩
    unfold f_X12_twins_b25
    rw [hb.1, if_neg (nI_ge (by omega) (by omega)), nI_1]
    rw [twR_in hw hb v1 _ (rowX (gTw B) a acc (a + 1) (bn B - (a + 1))) (bn B - (a + 1)) (a + 1) FU acc (by omega) (FU_big (by omega)) (by omega) rfl]
    exact ih (a + 1) f _ (by omega) (by omega) he
theorem sim_twins {MC MR : Mem} (h : Inv MC MR) (a : Int32) : Sim (f_X11_twins a MC) (f_X12_twins a MR) := by
  obtain ⟨B, im, S, lt, rw', hw, hC, hR, hf⟩ := id h
  have hn := hw.1.2.2.1
  unfold f_X11_twins f_X12_twins
  simp only [bind_bp]
  have go : Sim ((f_X5_closestTwo a MC).bind fun t2 => some (t2, MC)) (f_X12_twins_b25 FU a (-9) (-9) 0 MR) := by
    have e1 : f_X5_closestTwo a MC = some (twA B a) := twC hw.1 hC.1 a (bn B) 0 FU none (by omega) (FU_big (by omega)) rfl
    have e2 : f_X12_twins_b25 FU a (-9) (-9) 0 MR = some (twA B a, MR) := twR hw.1 hR.1 a (bn B) 0 FU none (by omega) (FU_big (by omega)) rfl
    rw [e1, e2]
    exact ⟨_, _, _, rfl, rfl, h⟩
  rcases either a with ⟨e1, e2⟩ | ⟨e1, e2, -⟩ | ⟨e1, e2, -⟩
  · rw [e1, e2, if_pos p00, if_pos p00]; exact Sim.no2 h
  · rw [e1, e2, if_neg n10, if_neg n10]; exact go
  · rw [e1, e2, if_neg n10, if_neg n10]; exact go
/-! radius -/
def apd (B : Bd) (a b : Nat) : Nat := pc (mk B a ^^^ mk B b)
theorem apd_symm (B : Bd) (a b : Nat) : apd B a b = apd B b a := by unfold apd; rw [Nat.xor_comm]
theorem apd_le (B : Bd) (a b : Nat) : apd B a b ≤ 12 := pc_le _
def apS (B : Bd) (a : Nat) : Nat → Nat
  | 0 => 0
  | k + 1 => apS B a k + apd B a k
theorem apS_le (B : Bd) (a k : Nat) : apS B a k ≤ 12 * k := by
  induction k with
  | zero => exact Nat.le_refl _
  | succ k ih => have := apd_le B a k; show apS B a k + apd B a k ≤ _; omega
def IsFar (B : Bd) (P : Nat → Nat → Prop) (v : Nat) : Prop := (∀ a b, P a b → apd B a b ≤ v) ∧ (v = 0 ∨ ∃ a b, a < b ∧ b < bn B ∧ apd B a b = v) ∧ v ≤ 12
theorem IsFar.eq {B : Bd} {P Q : Nat → Nat → Prop} {v w : Nat} (h : IsFar B P v) (g : IsFar B Q w) (hP : ∀ a b, a < b → b < bn B → P a b) (hQ : ∀ a b, a < b → b < bn B → Q a b) : v = w := by
  obtain ⟨h1, h2, -⟩ := h
  obtain ⟨g1, g2, -⟩ := g
  have k1 : v ≤ w := by
    rcases h2 with e | ⟨a, b, q1, q2, e⟩
    · omega
    · have := g1 a b (hQ a b q1 q2); omega
  have k2 : w ≤ v := by
    rcases g2 with e | ⟨a, b, q1, q2, e⟩
    · omega
    · have := h1 a b (hP a b q1 q2); omega
  omega
theorem IsFar.add {B : Bd} {P : Nat → Nat → Prop} {v a b : Nat} (h : IsFar B P v) (hab : a < b) (hb : b < bn B) : IsFar B (fun x y => P x y ∨ (x = a ∧ y = b) ∨ (x = b ∧ y = a)) (max v (apd B a b)) := by
  obtain ⟨h1, h2, h3⟩ := h
  have hd := apd_le B a b
  refine ⟨fun x y q => ?_, ?_, by omega⟩
  · rcases q with q | ⟨rfl, rfl⟩ | ⟨rfl, rfl⟩
    · have := h1 x y q; omega
    · omega
    · rw [apd_symm]; omega
  · by_cases c : apd B a b ≤ v
    · rw [Nat.max_eq_left c]; exact h2
    · rw [Nat.max_eq_right (by omega)]; exact Or.inr ⟨a, b, hab, hb, rfl⟩
theorem IsFar.weak {B : Bd} {P Q : Nat → Nat → Prop} {v : Nat} (h : IsFar B P v) (hq : ∀ a b, Q a b → P a b) : IsFar B Q v := ⟨fun a b q => h.1 a b (hq a b q), h.2⟩
theorem mxI_n {a b : Nat} (ha : a < 2 ^ 31) (hb : b < 2 ^ 31) : mxI (nI a) (nI b) = nI (max a b) := by
  unfold mxI
  by_cases c : a < b
  · rw [if_pos ((nI_ltI ha hb).mpr c), Nat.max_eq_right (by omega)]
  · rw [if_neg (fun q => c ((nI_ltI ha hb).mp q)), Nat.max_eq_left (by omega)]
theorem mnI_n {a b : Nat} (ha : a < 2 ^ 31) (hb : b < 2 ^ 31) : mnI (nI a) (nI b) = nI (min a b) := by
  unfold mnI
  by_cases c : b < a
  · rw [if_pos ((nI_ltI hb ha).mpr c), Nat.min_eq_right (by omega)]
  · rw [if_neg (fun q => c ((nI_ltI hb ha).mp q)), Nat.min_eq_left (by omega)]
theorem distC {B : Bd} {M : Mem} (hb : brdC 1 B M) (hw : wfB B) {a b : Nat} (h1 : a < bn B) (h2 : b < bn B) : f_X5_distance (nI a) (nI b) M = some (nI (apd B a b)) := by
  unfold f_X5_distance
  rw [ldMkC hb hw h1, ldMkC hb hw h2, Option.bind_some, Option.bind_some, fa_xor, bitCount_n (xor_small (hw.2.2.2.2.1 a).2.2 (hw.2.2.2.2.1 b).2.2)]
  rfl
theorem farC_in {B : Bd} {M : Mem} {a : Nat} (hw : wfB B) (hb : brdC 1 B M) (kont : Int32 → Int32 → Option Int32) (Q : Int32 → Prop)
    (hk : ∀ v, IsFar B (fun x y => x < a + 1 ∧ x < y ∧ y < bn B) v → ok (kont (nI v) (nI (a + 1))) Q) :
    ∀ (k b fuel v : Nat), b + k = bn B → k < fuel → a < b → IsFar B (fun x y => (x < a ∧ x < y ∧ y < bn B) ∨ (x = a ∧ x < y ∧ y < b)) v → ok (f_X5_farthestTwo_b19 M kont fuel (nI v) (nI a) (nI b)) Q := by
  have hn := hw.2.2.1
  intro k
  induction k with
  | zero =>
    intro b fuel v hi hf hab hF
    obtain ⟨f, rfl⟩ : ∃ f, fuel = f + 1 := ⟨fuel - 1, by omega⟩
    unfold f_X5_farthestTwo_b19
    rw [hb.1, nI_1]
    refine ok_pos (nI_le (by omega) (by omega)) (hk v (hF.weak (fun x y q => ?_)))
    by_cases c : x = a
    · exact Or.inr ⟨c, q.2.1, by omega⟩
    · exact Or.inl ⟨by omega, q.2⟩
  | succ k ih =>
    intro b fuel v hi hf hab hF
    obtain ⟨f, rfl⟩ : ∃ f, fuel = f + 1 := ⟨fuel - 1, by omega⟩
    unfold f_X5_farthestTwo_b19
    rw [hb.1, distC hb hw (by omega) (by omega), Option.bind_some]
    refine ok_neg (nI_ge (by omega) (by omega)) ?_
    have h1 := hF.2.2
    have h2 := apd_le B a b
    rw [mxI_n (by omega) (by omega), nI_1]
    refine ih (b + 1) f _ (by omega) (by omega) (by omega) ((hF.add hab (by omega)).weak (fun x y q => ?_))
    rcases q with q | ⟨rfl, q1, q2⟩
    · exact Or.inl (Or.inl q)
    · by_cases c : y = b
      · exact Or.inr (Or.inl ⟨rfl, c⟩)
      · exact Or.inl (Or.inr ⟨rfl, q1, by omega⟩)
theorem farC_lp {B : Bd} {M : Mem} (hw : wfB B) (hb : brdC 1 B M) : ∀ (k a fuel v : Nat), a + k = bn B → k < fuel → IsFar B (fun x y => x < a ∧ x < y ∧ y < bn B) v →
    ok (f_X5_farthestTwo_b4 M fuel (nI v) (nI a)) (fun t => ∃ w, t = nI w ∧ IsFar B (fun x y => x < bn B ∧ x < y ∧ y < bn B) w) := by
  have hn := hw.2.2.1
  intro k
  induction k with
  | zero =>
    intro a fuel v hi hf hF
    obtain ⟨f, rfl⟩ : ∃ f, fuel = f + 1 := ⟨fuel - 1, by omega⟩
    unfold f_X5_farthestTwo_b4
    rw [hb.1]
    obtain rfl : a = bn B := by omega
    exact ok_pos (nI_le (by omega) (by omega)) (ok_some ⟨v, rfl, hF⟩)
  | succ k ih =>
    intro a fuel v hi hf hF
    obtain ⟨f, rfl⟩ : ∃ f, fuel = f + 1 := ⟨fuel - 1, by omega⟩
    unfold f_X5_farthestTwo_b4
    rw [hb.1, nI_1]
    refine ok_neg (nI_ge (by omega) (by omega)) ?_
    refine farC_in hw hb _ _ (fun w hw' => ih (a + 1) f w (by omega) (by omega) hw') (bn B - (a + 1)) (a + 1) FU v (by omega) (FU_big (by omega)) (by omega) (hF.weak (fun x y q => ?_))
    rcases q with q | q
    · exact q
    · omega
theorem dstC_lp {B : Bd} {M : Mem} {a : Nat} (hw : wfB B) (hb : brdC 1 B M) (ha : a < bn B) : ∀ (k i fuel : Nat), i + k = bn B → k < fuel → f_X5_distancesFrom_b4 M fuel (nI a) (nI (apS B a i)) (nI i) = some (nI (apS B a (bn B))) := by
  have hn := hw.2.2.1
  intro k
  induction k with
  | zero =>
    intro i fuel hi hf
    obtain ⟨f, rfl⟩ : ∃ f, fuel = f + 1 := ⟨fuel - 1, by omega⟩
    unfold f_X5_distancesFrom_b4
    obtain rfl : i = bn B := by omega
    rw [hb.1, if_pos (nI_le (by omega) (by omega))]
  | succ k ih =>
    intro i fuel hi hf
    obtain ⟨f, rfl⟩ : ∃ f, fuel = f + 1 := ⟨fuel - 1, by omega⟩
    unfold f_X5_distancesFrom_b4
    rw [hb.1, if_neg (nI_ge (by omega) (by omega)), distC hb hw ha (by omega), Option.bind_some, nI_add, nI_1]
    exact ih (i + 1) f (by omega) (by omega)
theorem dstC {B : Bd} {M : Mem} {a : Nat} (hw : wfB B) (hb : brdC 1 B M) (ha : a < bn B) : f_X5_distancesFrom (nI a) M = some (nI (apS B a (bn B))) :=
  dstC_lp hw hb ha (bn B) 0 FU (by omega) (FU_big (by have := hw.2.2.1; omega))
def gCe (B : Bd) (a : Nat) : Nat := apS B a (bn B)
theorem gCe_lt {B : Bd} (hw : wfB B) (a : Nat) : gCe B a < 200 := by
  have := apS_le B a (bn B)
  have hn := hw.2.2.1
  unfold gCe
  omega
theorem cenC_lp {B : Bd} {M : Mem} (hw : wfB B) (hb : brdC 1 B M) : ∀ (k i fuel : Nat), i + k = bn B → k < fuel → f_X5_centre_b8 M fuel (oI (amin (gCe B) 2147483647 i)) (nI (oV (gCe B) 2147483647 (amin (gCe B) 2147483647 i))) (nI i) = some (oI (amin (gCe B) 2147483647 (bn B))) := by
  have hn := hw.2.2.1
  intro k
  induction k with
  | zero =>
    intro i fuel hi hf
    obtain ⟨f, rfl⟩ : ∃ f, fuel = f + 1 := ⟨fuel - 1, by omega⟩
    obtain rfl : i = bn B := by omega
    unfold f_X5_centre_b8
    rw [hb.1, if_pos (nI_le (by omega) (by omega))]
  | succ k ih =>
    intro i fuel hi hf
    obtain ⟨f, rfl⟩ : ∃ f, fuel = f + 1 := ⟨fuel - 1, by omega⟩
    have hv : oV (gCe B) 2147483647 (amin (gCe B) 2147483647 i) < 2 ^ 31 := oV_lt (by decide) (fun b e => by have := gCe_lt hw b; omega)
    have hgi := gCe_lt hw i
    have st := amin_step (gCe B) 2147483647 i
    unfold f_X5_centre_b8
    rw [hb.1, if_neg (nI_ge (by omega) (by omega)), dstC hw hb (by omega), Option.bind_some, nI_1]
    show (if _ ≤ nI (gCe B i) then _ else _) = _
    by_cases c : gCe B i < oV (gCe B) 2147483647 (amin (gCe B) 2147483647 i)
    · rw [if_neg (fun q => absurd ((nI_leI hv (by omega)).mp q) (by omega))]
      rw [if_pos c] at st
      have := ih (i + 1) f (by omega) (by omega)
      rw [st] at this
      exact this
    · rw [if_pos ((nI_leI hv (by omega)).mpr (by omega))]
      rw [if_neg c] at st
      have := ih (i + 1) f (by omega) (by omega)
      rw [st] at this
      exact this
theorem apR_lp {B : Bd} {M : Mem} {a : Nat} (hw : wfB B) (hb : brdR B M) (ha : a < bn B) : ∀ (k i fuel : Nat), i + k = bn B → k < fuel → f_X12_apartOf_b4 M fuel (nI a) (nI (apS B a i)) (nI i) = some (nI (gCe B a)) := by
  have hn := hw.2.2.1
  intro k
  induction k with
  | zero =>
    intro i fuel hi hf
    obtain ⟨f, rfl⟩ : ∃ f, fuel = f + 1 := ⟨fuel - 1, by omega⟩
    unfold f_X12_apartOf_b4
    obtain rfl : i = bn B := by omega
    rw [hb.1, if_pos (nI_le (by omega) (by omega))]
    rfl
  | succ k ih =>
    intro i fuel hi hf
    obtain ⟨f, rfl⟩ : ∃ f, fuel = f + 1 := ⟨fuel - 1, by omega⟩
    unfold f_X12_apartOf_b4
    rw [hb.1, if_neg (nI_ge (by omega) (by omega)), ldMkR hb hw (by omega), ldMkR hb hw ha, Option.bind_some, Option.bind_some, fa_xor, bitsR (xor_small (hw.2.2.2.2.1 i).2.2 (hw.2.2.2.2.1 a).2.2), Option.bind_some, nI_add, nI_1, Nat.xor_comm]
    exact ih (i + 1) f (by omega) (by omega)
theorem apR {B : Bd} {M : Mem} {a : Nat} (hw : wfB B) (hb : brdR B M) (ha : a < bn B) : f_X12_apartOf (nI a) M = some (nI (gCe B a)) :=
  apR_lp hw hb ha (bn B) 0 FU (by omega) (FU_big (by have := hw.2.2.1; omega))
theorem farR_in {B : Bd} {M : Mem} {a : Nat} (hw : wfB B) (hb : brdR B M) (ha : a < bn B) (v1 v3 : Int32) (kont : Int32 → Int32 → Int32 → Int32 → Mem → Option (Int32 × Mem)) (Q : Int32 × Mem → Prop)
    (hk : ∀ v, IsFar B (fun x y => x < y ∧ y < a + 1) v → ok (kont v1 (nI v) v3 (nI (a + 1)) M) Q) :
    ∀ (k b fuel v : Nat), b + k = a → k < fuel → IsFar B (fun x y => (x < y ∧ y < a) ∨ (y = a ∧ x < b)) v → ok (f_X12_radius_b57 kont fuel v1 (nI v) v3 (nI a) (nI b) M) Q := by
  have hn := hw.2.2.1
  intro k
  induction k with
  | zero =>
    intro b fuel v hi hf hF
    obtain ⟨f, rfl⟩ : ∃ f, fuel = f + 1 := ⟨fuel - 1, by omega⟩
    unfold f_X12_radius_b57
    rw [nI_1]
    refine ok_pos (nI_le (by omega) (by omega)) (hk v (hF.weak (fun x y q => ?_)))
    omega
  | succ k ih =>
    intro b fuel v hi hf hF
    obtain ⟨f, rfl⟩ : ∃ f, fuel = f + 1 := ⟨fuel - 1, by omega⟩
    unfold f_X12_radius_b57
    rw [ldMkR hb hw ha, ldMkR hb hw (by omega), Option.bind_some, Option.bind_some, fa_xor, bitsR (xor_small (hw.2.2.2.2.1 a).2.2 (hw.2.2.2.2.1 b).2.2), Option.bind_some, nI_1]
    refine ok_neg (nI_ge (by omega) (by omega)) ?_
    have h1 := hF.2.2
    have h2 := apd_le B a b
    have hm := (hF.add (a := b) (b := a) (by omega) ha).weak (Q := fun x y => (x < y ∧ y < a) ∨ (y = a ∧ x < b + 1)) (fun x y q => by
      rcases q with q | ⟨q1, q2⟩
      · exact Or.inl (Or.inl q)
      · by_cases c : x = b
        · exact Or.inr (Or.inl ⟨c, q1⟩)
        · exact Or.inl (Or.inr ⟨q1, by omega⟩))
    rw [apd_symm] at hm
    show ok (if nI (apd B a b) ≤ _ then _ else _) Q
    by_cases c : apd B a b ≤ v
    · rw [Nat.max_eq_left c] at hm
      refine ok_pos ((nI_leI (by omega) (by omega)).mpr c) ?_
      rw [nI_1]
      exact (ih (b + 1) f v (by omega) (by omega) hm)
    · rw [Nat.max_eq_right (by omega)] at hm
      refine ok_neg (fun q => c ((nI_leI (by omega) (by omega)).mp q)) ?_
      rw [Option.bind_some, Option.bind_some, fa_xor, bitsR (xor_small (hw.2.2.2.2.1 a).2.2 (hw.2.2.2.2.1 b).2.2), Option.bind_some, nI_1]
      exact ih (b + 1) f _ (by omega) (by omega) hm
theorem radR {B : Bd} {M : Mem} (hw : wfB B) (hb : brdR B M) (v1 : Int32) (far : Nat) (hF : IsFar B (fun x y => x < bn B ∧ x < y ∧ y < bn B) far) : ∀ (k a fuel v : Nat), a + k = bn B → k < fuel → IsFar B (fun x y => x < y ∧ y < a) v →
    ok (f_X12_radius_b24 fuel v1 (nI v) (oI (amin (gCe B) 2147483647 a)) (nI a) M) (fun t => t = (if v1 = 0 then nI far else oI (amin (gCe B) 2147483647 (bn B)), M)) := by
  have hn := hw.2.2.1
  intro k
  induction k with
  | zero =>
    intro a fuel v hi hf hv
    obtain ⟨f, rfl⟩ : ∃ f, fuel = f + 1 := ⟨fuel - 1, by omega⟩
    unfold f_X12_radius_b24
    rw [hb.1]
    obtain rfl : a = bn B := by omega
    have e : v = far := hv.eq hF (fun x y q1 q2 => ⟨q1, q2⟩) (fun x y q1 q2 => ⟨by omega, q1, q2⟩)
    refine ok_pos (nI_le (by omega) (by omega)) ?_
    rw [e]
    by_cases c : v1 = 0
    · rw [if_pos c, if_pos c]; exact ok_some rfl
    · rw [if_neg c, if_neg c]; exact ok_some rfl
  | succ k ih =>
    intro a fuel v hi hf hv
    obtain ⟨f, rfl⟩ : ∃ f, fuel = f + 1 := ⟨fuel - 1, by omega⟩
    unfold f_X12_radius_b24
    rw [hb.1]
    refine ok_neg (nI_ge (by omega) (by omega)) ?_
    have go : ∀ v3, v3 = oI (amin (gCe B) 2147483647 (a + 1)) → ok (f_X12_radius_b57 (f_X12_radius_b24 f) FU v1 (nI v) v3 (nI a) 0 M) (fun t => t = (if v1 = 0 then nI far else oI (amin (gCe B) 2147483647 (bn B)), M)) := by
      intro v3 e
      refine farR_in hw hb (by omega) v1 v3 _ _ (fun w hw' => ?_) a 0 FU v (by omega) (FU_big (by omega)) (hv.weak (fun x y q => by omega))
      rw [e]
      exact ih (a + 1) f w (by omega) (by omega) hw'
    have st := amin_step (gCe B) 2147483647 a
    have hga := gCe_lt hw a
    cases ha : amin (gCe B) 2147483647 a with
    | none =>
      rw [ha, if_pos (show gCe B a < oV (gCe B) 2147483647 none by show _ < 2147483647; omega)] at st
      refine ok_pos (show oI none < 0 by decide) ?_
      exact go _ (by rw [st]; rfl)
    | some b =>
      have hlt := amin_lt ha
      have hgb := gCe_lt hw b
      rw [ha] at st
      refine ok_neg (show ¬ nI b < 0 from nI_pos (by omega)) ?_
      show ok ((f_X12_apartOf (nI a) M).bind fun t13 => (f_X12_apartOf (nI b) M).bind _) _
      rw [apR hw hb (by omega), apR hw hb (by omega), Option.bind_some, Option.bind_some]
      by_cases c : gCe B a < gCe B b
      · rw [if_pos (show gCe B a < oV (gCe B) 2147483647 (some b) from c)] at st
        refine ok_neg (fun q => absurd ((nI_leI (by omega) (by omega)).mp q) (by omega)) ?_
        exact go _ (by rw [st]; rfl)
      · rw [if_neg (show ¬ gCe B a < oV (gCe B) 2147483647 (some b) from c)] at st
        refine ok_pos ((nI_leI (by omega) (by omega)).mpr (by omega)) ?_
        exact go _ (by rw [st])
theorem far_0 (B : Bd) {P : Nat → Nat → Prop} (h : ∀ a b, ¬ P a b) : IsFar B P 0 := ⟨fun a b q => absurd q (h a b), Or.inl rfl, by omega⟩
theorem sim_radius {MC MR : Mem} (h : Inv MC MR) (a : Int32) : Sim (f_X11_radius a MC) (f_X12_radius a MR) := by
  obtain ⟨B, im, S, lt, rw', hw, hC, hR, hf⟩ := id h
  have hn := hw.1.2.2.1
  unfold f_X11_radius f_X12_radius
  simp only [bind_bp]
  obtain ⟨t, e1, far, rfl, hF⟩ := farC_lp hw.1 hC.1 (bn B) 0 FU 0 (by omega) (FU_big (by omega)) (far_0 B (fun a b => by omega))
  have e2 := cenC_lp hw.1 hC.1 (bn B) 0 FU (by omega) (FU_big (by omega))
  obtain ⟨t, e3, rfl⟩ := radR hw.1 hR.1 a far hF (bn B) 0 FU 0 (by omega) (FU_big (by omega)) (far_0 B (fun a b => by omega))
  have go : Sim (if a = 0 then (f_X5_farthestTwo MC).bind fun t4 => some (t4, MC) else (f_X5_centre MC).bind fun t3 => some (t3, MC)) (f_X12_radius_b24 FU a 0 (-9) 0 MR) := by
    have e1 : f_X5_farthestTwo MC = some (nI far) := e1
    have e2 : f_X5_centre MC = some (oI (amin (gCe B) 2147483647 (bn B))) := e2
    have e3 : f_X12_radius_b24 FU a 0 (-9) 0 MR = some (if a = 0 then nI far else oI (amin (gCe B) 2147483647 (bn B)), MR) := e3
    rw [e1, e2, e3]
    by_cases c : a = 0
    · rw [if_pos c, if_pos c]; exact ⟨_, _, _, rfl, rfl, h⟩
    · rw [if_neg c, if_neg c]; exact ⟨_, _, _, rfl, rfl, h⟩
  rcases either a with ⟨e1, e2⟩ | ⟨e1, e2, -⟩ | ⟨e1, e2, -⟩
  · rw [e1, e2, if_pos p00, if_pos p00]; exact Sim.no2 h
  · rw [e1, e2, if_neg n10, if_neg n10]; exact go
  · rw [e1, e2, if_neg n10, if_neg n10]; exact go
/-! majority, unlikeMarks -/
def hadB (B : Bd) (m : Nat) : Nat → Nat
  | 0 => 0
  | k + 1 => hadB B m k + ((mk B k).testBit m).toNat
theorem hadB_le (B : Bd) (m k : Nat) : hadB B m k ≤ k := by
  induction k with
  | zero => exact Nat.le_refl _
  | succ k ih =>
    have : ((mk B k).testBit m).toNat ≤ 1 := by cases (mk B k).testBit m <;> decide
    show hadB B m k + _ ≤ _
    omega
def majB (B : Bd) : Nat → Nat
  | 0 => 0
  | m + 1 => if 2 * hadB B m (bn B) ≤ bn B then majB B m else majB B m ||| 2 ^ m
theorem majC_in {B : Bd} {M : Mem} {m : Nat} (hw : wfB B) (hb : brdC 1 B M) (hm : m < 8) (kont : Int32 → Int32 → Option Int32) : ∀ (k i fuel : Nat), i + k = bn B → k < fuel →
    f_X5_mostlyHad_b15 M kont fuel (nI (majB B m)) (nI m) (nI (hadB B m i)) (nI i) = kont (nI (majB B (m + 1))) (nI (m + 1)) := by
  have hn := hw.2.2.1
  intro k
  induction k with
  | zero =>
    intro i fuel hi hf
    obtain ⟨f, rfl⟩ : ∃ f, fuel = f + 1 := ⟨fuel - 1, by omega⟩
    obtain rfl : i = bn B := by omega
    have hh := hadB_le B m (bn B)
    unfold f_X5_mostlyHad_b15
    rw [hb.1, if_pos (nI_le (by omega) (by omega)), l_2, pk_mul, nI_1, jshl_1 (by omega), fa_or]
    have e : majB B (m + 1) = if 2 * hadB B m (bn B) ≤ bn B then majB B m else majB B m ||| 2 ^ m := rfl
    by_cases c : 2 * hadB B m (bn B) ≤ bn B
    · rw [if_pos ((nI_leI (by omega) (by omega)).mpr c), e, if_pos c]
    · rw [if_neg (fun q => c ((nI_leI (by omega) (by omega)).mp q)), e, if_neg c]
  | succ k ih =>
    intro i fuel hi hf
    obtain ⟨f, rfl⟩ : ∃ f, fuel = f + 1 := ⟨fuel - 1, by omega⟩
    unfold f_X5_mostlyHad_b15
    rw [hb.1, if_neg (nI_ge (by omega) (by omega)), ldMkC hb hw (by omega), Option.bind_some, bit_n (by have := (hw.2.2.2.2.1 i).2.2; omega) (by omega), nI_add, nI_1]
    exact ih (i + 1) f (by omega) (by omega)
theorem majC {B : Bd} {M : Mem} (hw : wfB B) (hb : brdC 1 B M) : ∀ (k m fuel : Nat), m + k = 8 → k < fuel → f_X5_mostlyHad_b4 M fuel (nI (majB B m)) (nI m) = some (nI (majB B 8)) := by
  have hn := hw.2.2.1
  intro k
  induction k with
  | zero =>
    intro m fuel hi hf
    obtain ⟨f, rfl⟩ : ∃ f, fuel = f + 1 := ⟨fuel - 1, by omega⟩
    obtain rfl : m = 8 := by omega
    unfold f_X5_mostlyHad_b4
    rw [if_pos (by decide)]
  | succ k ih =>
    intro m fuel hi hf
    obtain ⟨f, rfl⟩ : ∃ f, fuel = f + 1 := ⟨fuel - 1, by omega⟩
    unfold f_X5_mostlyHad_b4
    rw [l_8, if_neg (nI_ge (by omega) (by omega))]
    refine (majC_in hw hb (by omega) _ (bn B) 0 FU (by omega) (FU_big (by omega))).trans ?_
    exact ih (m + 1) f (by omega) (by omega)
theorem majR_in {B : Bd} {M : Mem} {m : Nat} (hw : wfB B) (hb : brdR B M) (hm : m < 8) (kont : Int32 → Int32 → Option Int32) : ∀ (k i fuel : Nat), i + k = bn B → k < fuel →
    f_X12_majority_b15 M kont fuel (nI (majB B m)) (nI m) (nI (hadB B m i)) (nI i) = kont (nI (majB B (m + 1))) (nI (m + 1)) := by
  have hn := hw.2.2.1
  intro k
  induction k with
  | zero =>
    intro i fuel hi hf
    obtain ⟨f, rfl⟩ : ∃ f, fuel = f + 1 := ⟨fuel - 1, by omega⟩
    obtain rfl : i = bn B := by omega
    have hh := hadB_le B m (bn B)
    unfold f_X12_majority_b15
    rw [hb.1, if_pos (nI_le (by omega) (by omega)), l_2, pk_mul, nI_1, jshl_1 (by omega)]
    have e : majB B (m + 1) = if 2 * hadB B m (bn B) ≤ bn B then majB B m else majB B m ||| 2 ^ m := rfl
    by_cases c : 2 * hadB B m (bn B) ≤ bn B
    · rw [if_pos ((nI_leI (by omega) (by omega)).mpr c), e, if_pos c, l_0, fa_or, Nat.or_zero]
    · rw [if_neg (fun q => c ((nI_leI (by omega) (by omega)).mp q)), e, if_neg c, fa_or]
  | succ k ih =>
    intro i fuel hi hf
    obtain ⟨f, rfl⟩ : ∃ f, fuel = f + 1 := ⟨fuel - 1, by omega⟩
    unfold f_X12_majority_b15
    rw [hb.1, if_neg (nI_ge (by omega) (by omega)), ldMkR hb hw (by omega), Option.bind_some, bit_n (by have := (hw.2.2.2.2.1 i).2.2; omega) (by omega), nI_add, nI_1]
    exact ih (i + 1) f (by omega) (by omega)
theorem majR {B : Bd} {M : Mem} (hw : wfB B) (hb : brdR B M) : ∀ (k m fuel : Nat), m + k = 8 → k < fuel → f_X12_majority_b4 M fuel (nI (majB B m)) (nI m) = some (nI (majB B 8)) := by
  have hn := hw.2.2.1
  intro k
  induction k with
  | zero =>
    intro m fuel hi hf
    obtain ⟨f, rfl⟩ : ∃ f, fuel = f + 1 := ⟨fuel - 1, by omega⟩
    obtain rfl : m = 8 := by omega
    unfold f_X12_majority_b4
    rw [if_pos (by decide)]
  | succ k ih =>
    intro m fuel hi hf
    obtain ⟨f, rfl⟩ : ∃ f, fuel = f + 1 := ⟨fuel - 1, by omega⟩
    unfold f_X12_majority_b4
    rw [l_8, if_neg (nI_ge (by omega) (by omega))]
    refine (majR_in hw hb (by omega) _ (bn B) 0 FU (by omega) (FU_big (by omega))).trans ?_
    exact ih (m + 1) f (by omega) (by omega)
theorem sim_majority {MC MR : Mem} (h : Inv MC MR) : Sim ((f_X11_majority MC).map (·, MC)) ((f_X12_majority MR).map (·, MR)) := by
  obtain ⟨B, im, S, lt, rw', hw, hC, hR, hf⟩ := id h
  have e1 : f_X5_mostlyHad MC = some (nI (majB B 8)) := majC hw.1 hC.1 8 0 FU (by omega) (FU_big (by omega))
  have e2 : f_X12_majority MR = some (nI (majB B 8)) := majR hw.1 hR.1 8 0 FU (by omega) (FU_big (by omega))
  unfold f_X11_majority
  rw [e1, e2]
  exact ⟨_, _, _, rfl, rfl, h⟩
def nwR (B : Bd) (d : Nat) : Nat → Bool
  | 0 => true
  | k + 1 => nwR B d k && !decide (mk B k = mk B d)
theorem nwR_false {B : Bd} {d i : Nat} (h : nwR B d i = false) : ∀ k, nwR B d (i + k) = false := by
  intro k
  induction k with
  | zero => exact h
  | succ k ih => show (nwR B d (i + k) && _) = false; rw [ih]; rfl
def uqB (B : Bd) : Nat → Nat
  | 0 => 0
  | k + 1 => uqB B k + (nwR B k k).toNat
theorem nwC_lp {B : Bd} {M : Mem} {d : Nat} (hw : wfB B) (hb : brdC 1 B M) (hd : d < bn B) : ∀ (k i fuel : Nat), i + k = d → k < fuel → nwR B d i = true → f_X5_isNewSet_b2 M fuel (nI d) (nI i) = some (bI (nwR B d d)) := by
  have hn := hw.2.2.1
  intro k
  induction k with
  | zero =>
    intro i fuel hi hf h
    obtain ⟨f, rfl⟩ : ∃ f, fuel = f + 1 := ⟨fuel - 1, by omega⟩
    obtain rfl : i = d := by omega
    unfold f_X5_isNewSet_b2
    rw [if_pos (nI_le (by omega) (by omega)), h]
    rfl
  | succ k ih =>
    intro i fuel hi hf h
    obtain ⟨f, rfl⟩ : ∃ f, fuel = f + 1 := ⟨fuel - 1, by omega⟩
    have mi := (hw.2.2.2.2.1 i).2.2
    have md := (hw.2.2.2.2.1 d).2.2
    have st : nwR B d (i + 1) = (nwR B d i && !decide (mk B i = mk B d)) := rfl
    unfold f_X5_isNewSet_b2
    rw [if_neg (nI_ge (by omega) (by omega)), ldMkC hb hw (by omega), ldMkC hb hw hd, Option.bind_some, Option.bind_some, nI_1]
    by_cases c : mk B i = mk B d
    · rw [if_pos (by rw [c])]
      have := nwR_false (B := B) (d := d) (i := i + 1) (by rw [st, decide_eq_true c]; simp) k
      rw [show i + 1 + k = d by omega] at this
      rw [this]
      rfl
    · rw [if_neg (fun q => c (nI_e (by omega) (by omega) q))]
      exact ih (i + 1) f (by omega) (by omega) (by rw [st, h, decide_eq_false c]; rfl)
theorem uqC {B : Bd} {M : Mem} (hw : wfB B) (hb : brdC 1 B M) : ∀ (k i fuel : Nat), i + k = bn B → k < fuel → f_X5_unlikeSets_b4 M fuel (nI (uqB B i)) (nI i) = some (nI (uqB B (bn B))) := by
  have hn := hw.2.2.1
  intro k
  induction k with
  | zero =>
    intro i fuel hi hf
    obtain ⟨f, rfl⟩ : ∃ f, fuel = f + 1 := ⟨fuel - 1, by omega⟩
    obtain rfl : i = bn B := by omega
    unfold f_X5_unlikeSets_b4
    rw [hb.1, if_pos (nI_le (by omega) (by omega))]
  | succ k ih =>
    intro i fuel hi hf
    obtain ⟨f, rfl⟩ : ∃ f, fuel = f + 1 := ⟨fuel - 1, by omega⟩
    have e : f_X5_isNewSet (nI i) M = some (bI (nwR B i i)) := nwC_lp hw hb (by omega) i 0 FU (by omega) (FU_big (by omega)) rfl
    have st : uqB B (i + 1) = uqB B i + (nwR B i i).toNat := rfl
    unfold f_X5_unlikeSets_b4
    rw [hb.1, if_neg (nI_ge (by omega) (by omega)), e, Option.bind_some, nI_1]
    have := ih (i + 1) f (by omega) (by omega)
    rw [st] at this
    cases q : nwR B i i with
    | false => rw [q] at this; rw [if_pos (show bI false = 0 by decide)]; exact this
    | true => rw [q] at this; rw [if_neg (show ¬ bI true = 0 by decide), nI_1]; exact this
theorem nwR_in {B : Bd} {M : Mem} {d : Nat} (hw : wfB B) (hb : brdR B M) (hd : d < bn B) (kont : Int32 → Int32 → Option Int32) (a : Nat) : ∀ (k i fuel : Nat), i + k = d → k < fuel →
    f_X12_unlikeMarks_b17 M kont fuel (nI a) (nI d) (bI (nwR B d i)) (nI i) = kont (nI (a + (nwR B d d).toNat)) (nI (d + 1)) := by
  have hn := hw.2.2.1
  intro k
  induction k with
  | zero =>
    intro i fuel hi hf
    obtain ⟨f, rfl⟩ : ∃ f, fuel = f + 1 := ⟨fuel - 1, by omega⟩
    obtain rfl : i = d := by omega
    unfold f_X12_unlikeMarks_b17
    rw [if_pos (nI_le (by omega) (by omega)), nI_1]
    cases nwR B i i
    · rw [if_pos (show bI false = 0 by decide)]; exact congrArg (fun x => kont x _) (nI_add a 0)
    · rw [if_neg (show ¬ bI true = 0 by decide)]; exact congrArg (fun x => kont x _) (nI_add a 1)
  | succ k ih =>
    intro i fuel hi hf
    obtain ⟨f, rfl⟩ : ∃ f, fuel = f + 1 := ⟨fuel - 1, by omega⟩
    have mi := (hw.2.2.2.2.1 i).2.2
    have md := (hw.2.2.2.2.1 d).2.2
    have st : nwR B d (i + 1) = (nwR B d i && !decide (mk B i = mk B d)) := rfl
    have := ih (i + 1) f (by omega) (by omega)
    rw [st] at this
    unfold f_X12_unlikeMarks_b17
    rw [if_neg (nI_ge (by omega) (by omega)), nI_1]
    cases q : nwR B d i with
    | false => rw [q] at this; rw [if_pos (show bI false = 0 by decide)]; exact this
    | true =>
      rw [q] at this
      rw [if_neg (show ¬ bI true = 0 by decide), ldMkR hb hw hd, ldMkR hb hw (by omega), Option.bind_some, Option.bind_some]
      by_cases c : mk B i = mk B d
      · rw [decide_eq_true c] at this
        rw [if_pos (by rw [c])]; exact this
      · rw [decide_eq_false c] at this
        rw [if_neg (fun q => c (nI_e (by omega) (by omega) q.symm))]; exact this
theorem uqR {B : Bd} {M : Mem} (hw : wfB B) (hb : brdR B M) : ∀ (k i fuel : Nat), i + k = bn B → k < fuel → f_X12_unlikeMarks_b4 M fuel (nI (uqB B i)) (nI i) = some (nI (uqB B (bn B))) := by
  have hn := hw.2.2.1
  intro k
  induction k with
  | zero =>
    intro i fuel hi hf
    obtain ⟨f, rfl⟩ : ∃ f, fuel = f + 1 := ⟨fuel - 1, by omega⟩
    obtain rfl : i = bn B := by omega
    unfold f_X12_unlikeMarks_b4
    rw [hb.1, if_pos (nI_le (by omega) (by omega))]
  | succ k ih =>
    intro i fuel hi hf
    obtain ⟨f, rfl⟩ : ∃ f, fuel = f + 1 := ⟨fuel - 1, by omega⟩
    unfold f_X12_unlikeMarks_b4
    rw [hb.1, if_neg (nI_ge (by omega) (by omega))]
    refine (nwR_in hw hb (by omega) _ (uqB B i) i 0 FU (by omega) (FU_big (by omega))).trans ?_
    exact ih (i + 1) f (by omega) (by omega)
theorem sim_unlikeMarks {MC MR : Mem} (h : Inv MC MR) : Sim ((f_X11_unlikeMarks MC).map (·, MC)) ((f_X12_unlikeMarks MR).map (·, MR)) := by
  obtain ⟨B, im, S, lt, rw', hw, hC, hR, hf⟩ := id h
  have hn := hw.1.2.2.1
  have e1 : f_X5_unlikeSets MC = some (nI (uqB B (bn B))) := uqC hw.1 hC.1 (bn B) 0 FU (by omega) (FU_big (by omega))
  have e2 : f_X12_unlikeMarks MR = some (nI (uqB B (bn B))) := uqR hw.1 hR.1 (bn B) 0 FU (by omega) (FU_big (by omega))
  unfold f_X11_unlikeMarks
  rw [e1, e2]
  exact ⟨_, _, _, rfl, rfl, h⟩
