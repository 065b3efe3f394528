/-! best, charged, firsts, byKind -/
theorem ams_eq {α : Type} (g : α → Nat) (T : Nat) (acc : Option α) (x : α) : ams g T acc x = if g x < (match acc with | none => T | some b => g b) then some x else acc := by
  cases acc <;> rfl
theorem amin_step (g : Nat → Nat) (T n : Nat) : amin g T (n + 1) = if g n < oV g T (amin g T n) then some n else amin g T n := by
  rw [amin_s]
  cases amin g T n <;> rfl
theorem sub_ge {a b : Nat} (ha : a < 2 ^ 30) (hb : b < 2 ^ 30) : 0 ≤ nI a - nI b ↔ b ≤ a := by
  rw [Int32.le_iff_toInt_le, pk_sub_toInt ha hb, show (0 : Int32).toInt = 0 from rfl]
  omega
theorem sub_le {a b : Nat} (ha : a < 2 ^ 30) (hb : b < 2 ^ 30) : nI a - nI b ≤ 0 ↔ a ≤ b := by
  rw [Int32.le_iff_toInt_le, pk_sub_toInt ha hb, show (0 : Int32).toInt = 0 from rfl]
  omega
theorem oV_lt {g : Nat → Nat} {T m : Nat} {o : Option Nat} (hT : T < m) (hg : ∀ b, o = some b → g b < m) : oV g T o < m := by
  cases o with
  | none => exact hT
  | some b => exact hg b rfl
theorem cheap_lp {M : Mem} {n : Nat} {g : Nat → Nat} (h4 : M.1 1 4 = nI n) (hn : n ≤ 8) (hg : ∀ d, d < n → f_X8_dueNow (nI d) M = some (nI (g d))) (hb : ∀ d, d < n → g d < 2 ^ 30) :
    ∀ (k i fuel : Nat), i + k = n → k < fuel → f_X8_cheapestNext_b8 M fuel (oI (amin g 2147483647 i)) (nI (oV g 2147483647 (amin g 2147483647 i))) (nI i) = some (oI (amin g 2147483647 n)) := by
  intro k
  induction k with
  | zero =>
    intro i fuel hi hf
    obtain ⟨f, rfl⟩ : ∃ f, fuel = f + 1 := ⟨fuel - 1, by omega⟩
    obtain rfl : i = n := by omega
    unfold f_X8_cheapestNext_b8
    rw [h4, if_pos (nI_le (by omega) (by omega))]
  | succ k ih =>
    intro i fuel hi hf
    obtain ⟨f, rfl⟩ : ∃ f, fuel = f + 1 := ⟨fuel - 1, by omega⟩
    have hv : oV g 2147483647 (amin g 2147483647 i) < 2 ^ 31 := oV_lt (by decide) (fun b e => by have := hb b (by have := amin_lt e; omega); omega)
    have hgi := hb i (by omega)
    have st := amin_step g 2147483647 i
    unfold f_X8_cheapestNext_b8
    rw [h4, if_neg (nI_ge (by omega) (by omega)), hg i (by omega), Option.bind_some, nI_1]
    by_cases c : g i < oV g 2147483647 (amin g 2147483647 i)
    · rw [if_neg (fun q => absurd ((nI_leI hv (by omega)).mp q) (by omega))]
      rw [if_pos c] at st
      have := ih (i + 1) f (by omega) (by omega)
      rw [st] at this
      exact this
    · rw [if_pos ((nI_leI hv (by omega)).mpr (by omega))]
      rw [if_neg c] at st
      have := ih (i + 1) f (by omega) (by omega)
      rw [st] at this
      exact this
theorem cheap_ok {M : Mem} {n : Nat} {g : Nat → Nat} (h4 : M.1 1 4 = nI n) (hn : n ≤ 8) (hg : ∀ d, d < n → f_X8_dueNow (nI d) M = some (nI (g d))) (hb : ∀ d, d < n → g d < 2 ^ 30) : f_X8_cheapestNext M = some (oI (amin g 2147483647 n)) :=
  cheap_lp h4 hn hg hb n 0 FU (by omega) (FU_big (by omega))
def xV (g : Nat → Nat) (o : Option Nat) : Int32 := match o with
  | none => -1
  | some b => nI (g b)
theorem nI_le_m1 {a : Nat} (h : a < 2 ^ 31) : ¬ nI a ≤ -1 := by
  rw [Int32.le_iff_toInt_le, nI_toInt h, show (-1 : Int32).toInt = -1 from rfl]
  omega
theorem amax_step (g : Nat → Nat) (n : Nat) : amax g (n + 1) = axs g (amax g n) n := amax_s g n
theorem xV_step {g : Nat → Nat} {o : Option Nat} {x : Nat} (hx : g x < 2 ^ 31) (ho : ∀ b, o = some b → g b < 2 ^ 31) : (nI (g x) ≤ xV g o ∧ axs g o x = o) ∨ (¬ nI (g x) ≤ xV g o ∧ axs g o x = some x) := by
  cases o with
  | none => exact Or.inr ⟨nI_le_m1 hx, rfl⟩
  | some b =>
    have hb := ho b rfl
    by_cases c : g b < g x
    · exact Or.inr ⟨fun q => absurd ((nI_leI hx hb).mp q) (by omega), if_pos c⟩
    · exact Or.inl ⟨(nI_leI hx hb).mpr (by omega), if_neg c⟩
theorem dear_lp {M : Mem} {n : Nat} {g : Nat → Nat} (h4 : M.1 1 4 = nI n) (hn : n ≤ 8) (hg : ∀ d, d < n → f_X8_dueNow (nI d) M = some (nI (g d))) (hb : ∀ d, d < n → g d < 2 ^ 30) :
    ∀ (k i fuel : Nat), i + k = n → k < fuel → f_X8_dearestNext_b7 M fuel (oI (amax g i)) (xV g (amax g i)) (nI i) = some (oI (amax g n)) := by
  intro k
  induction k with
  | zero =>
    intro i fuel hi hf
    obtain ⟨f, rfl⟩ : ∃ f, fuel = f + 1 := ⟨fuel - 1, by omega⟩
    obtain rfl : i = n := by omega
    unfold f_X8_dearestNext_b7
    rw [h4, if_pos (nI_le (by omega) (by omega))]
  | succ k ih =>
    intro i fuel hi hf
    obtain ⟨f, rfl⟩ : ∃ f, fuel = f + 1 := ⟨fuel - 1, by omega⟩
    have hgi := hb i (by omega)
    have st := amax_s g i
    have hs := xV_step (g := g) (o := amax g i) (x := i) (by omega) (fun b e => by have := hb b (by have := amax_lt e; omega); omega)
    unfold f_X8_dearestNext_b7
    rw [h4, if_neg (nI_ge (by omega) (by omega)), hg i (by omega), Option.bind_some, nI_1]
    have := ih (i + 1) f (by omega) (by omega)
    rcases hs with ⟨h1, h2⟩ | ⟨h1, h2⟩
    · rw [if_pos h1]
      rw [st, h2] at this
      exact this
    · rw [if_neg h1]
      rw [st, h2] at this
      exact this
theorem dear_ok {M : Mem} {n : Nat} {g : Nat → Nat} (h4 : M.1 1 4 = nI n) (hn : n ≤ 8) (hg : ∀ d, d < n → f_X8_dueNow (nI d) M = some (nI (g d))) (hb : ∀ d, d < n → g d < 2 ^ 30) : f_X8_dearestNext M = some (oI (amax g n)) :=
  dear_lp h4 hn hg hb n 0 FU (by omega) (FU_big (by omega))
/-- NEXT of a doing -/
def nx (B : Bd) (d : Nat) : Nat := due B d (cnt B B.2.2 d)
theorem nx_lt {B : Bd} (hw : wfB B) (d : Nat) : nx B d < 1000 := by
  have := due_le hw d (r := cnt B B.2.2 d)
  have h2 := cnt_le B B.2.2 d
  have h12 := hw.2.2.2.1
  unfold bpl at h12
  unfold nx
  omega
theorem nextN {B : Bd} {M : Mem} {d : Nat} (hb : brdR B M) (hw : wfB B) (hd : d < bn B) : f_X12_nextOf (nI d) M = some (nI (nx B d)) := nextOfR hb hw hd
theorem dueAtD {B : Bd} {M : Mem} {p : Nat} (hb : brdR B M) (hw : wfB B) (hp : p < bpl B) : f_X12_dueAt (nI p) M = some (nI (dpA B p)) := dueAtR hb hw hp
theorem oI_none : oI none = -9 := rfl
theorem m9_lt : (-9 : Int32) < 0 := by decide
theorem m9_nle : ¬ (0 : Int32) ≤ -9 := by decide
theorem bestR0_lp {B : Bd} {M : Mem} (hw : wfB B) (hb : brdR B M) : ∀ (k i fuel : Nat), i + k = bn B → k < fuel → f_X12_best_b21 fuel 0 (oI (amin (nx B) 2147483647 i)) (nI i) M = some (oI (amin (nx B) 2147483647 (bn B)), M) := by
  have hn := hw.2.2.1
  intro k
  induction k with
  | zero =>
    intro i fuel hi hf
    obtain ⟨f, rfl⟩ : ∃ f, fuel = f + 1 := ⟨fuel - 1, by omega⟩
    obtain rfl : i = bn B := by omega
    unfold f_X12_best_b21
    rw [hb.1, if_pos (nI_le (by omega) (by omega))]
  | succ k ih =>
    intro i fuel hi hf
    obtain ⟨f, rfl⟩ : ∃ f, fuel = f + 1 := ⟨fuel - 1, by omega⟩
    have st := amin_step (nx B) 2147483647 i
    have := ih (i + 1) f (by omega) (by omega)
    have hi' := nx_lt hw i
    unfold f_X12_best_b21
    rw [hb.1, if_neg (nI_ge (by omega) (by omega))]
    cases e : amin (nx B) 2147483647 i with
    | none =>
      rw [e] at st
      have c : nx B i < oV (nx B) 2147483647 none := by show _ < 2147483647; omega
      rw [if_pos c] at st
      rw [st] at this
      rw [oI_none, if_neg m9_nle]
      unfold f_X12_best_b48
      rw [if_pos m9_lt, nI_1]
      exact this
    | some b =>
      have hbi := amin_lt e
      have hb' := nx_lt hw b
      rw [e] at st
      show (if 0 ≤ nI b then _ else _) = _
      rw [if_pos (nI_pos' (by omega)), nextN hb hw (by omega), Option.bind_some]
      show ((f_X12_nextOf (nI b) M).bind _) = _
      rw [nextN hb hw (by omega), Option.bind_some]
      unfold f_X12_best_b48
      show (if nI b < 0 then _ else _) = _
      rw [if_neg (nI_pos (by omega)), if_pos p00, nI_1]
      by_cases c : nx B i < nx B b
      · rw [if_neg (fun q => absurd ((sub_ge (a := nx B i) (b := nx B b) (by omega) (by omega)).mp q) (by omega))]
        rw [show (if nx B i < oV (nx B) 2147483647 (some b) then some i else some b) = some i from if_pos c] at st
        rw [st] at this
        exact this
      · rw [if_pos ((sub_ge (a := nx B i) (b := nx B b) (by omega) (by omega)).mpr (by omega))]
        rw [show (if nx B i < oV (nx B) 2147483647 (some b) then some i else some b) = some b from if_neg c] at st
        rw [st] at this
        exact this
theorem bestR1_lp {B : Bd} {M : Mem} (hw : wfB B) (hb : brdR B M) : ∀ (k i fuel : Nat), i + k = bn B → k < fuel → f_X12_best_b21 fuel 1 (oI (amax (nx B) i)) (nI i) M = some (oI (amax (nx B) (bn B)), M) := by
  have hn := hw.2.2.1
  intro k
  induction k with
  | zero =>
    intro i fuel hi hf
    obtain ⟨f, rfl⟩ : ∃ f, fuel = f + 1 := ⟨fuel - 1, by omega⟩
    obtain rfl : i = bn B := by omega
    unfold f_X12_best_b21
    rw [hb.1, if_pos (nI_le (by omega) (by omega))]
  | succ k ih =>
    intro i fuel hi hf
    obtain ⟨f, rfl⟩ : ∃ f, fuel = f + 1 := ⟨fuel - 1, by omega⟩
    have st := amax_s (nx B) i
    have := ih (i + 1) f (by omega) (by omega)
    have hi' := nx_lt hw i
    unfold f_X12_best_b21
    rw [hb.1, if_neg (nI_ge (by omega) (by omega))]
    cases e : amax (nx B) i with
    | none =>
      rw [e] at st
      rw [st] at this
      rw [oI_none, if_neg m9_nle]
      unfold f_X12_best_b48
      rw [if_pos m9_lt, nI_1]
      exact this
    | some b =>
      have hbi := amax_lt e
      have hb' := nx_lt hw b
      rw [e] at st
      show (if 0 ≤ nI b then _ else _) = _
      rw [if_pos (nI_pos' (by omega)), nextN hb hw (by omega), Option.bind_some]
      show ((f_X12_nextOf (nI b) M).bind _) = _
      rw [nextN hb hw (by omega), Option.bind_some]
      unfold f_X12_best_b48
      show (if nI b < 0 then _ else _) = _
      rw [if_neg (nI_pos (by omega)), if_neg n10, nI_1]
      by_cases c : nx B b < nx B i
      · rw [if_neg (fun q => absurd ((sub_le (a := nx B i) (b := nx B b) (by omega) (by omega)).mp q) (by omega))]
        rw [show axs (nx B) (some b) i = some i from if_pos c] at st
        rw [st] at this
        exact this
      · rw [if_pos ((sub_le (a := nx B i) (b := nx B b) (by omega) (by omega)).mpr (by omega))]
        rw [show axs (nx B) (some b) i = some b from if_neg c] at st
        rw [st] at this
        exact this
theorem dueNow_nx {B : Bd} {M : Mem} (hw : wfB B) (h : RK B B.1.1 B.1.2 B.2.2 M) {d : Nat} (hd : d < bn B) : f_X8_dueNow (nI d) M = some (nI (nx B d)) :=
  dueNow_ok hw h hd (by have := hw.2.2.2.1; unfold bpl at this; omega)
theorem sim_best {MC MR : Mem} (h : Inv MC MR) (a : Int32) : Sim (f_X11_best a MC) (f_X12_best a MR) := by
  obtain ⟨B, im, S, lt, rw', hw, hC, hR, hf⟩ := id h
  have hn := hw.1.2.2.1
  unfold f_X11_best f_X12_best
  simp only [bind_bp]
  rcases either a with ⟨e1, e2⟩ | ⟨e1, e2, rfl⟩ | ⟨e1, e2, rfl⟩
  · rw [e1, e2, if_pos p00, if_pos p00]; exact Sim.no2 h
  · rw [e1, e2, if_neg n10, if_neg n10]
    refine Sim.q h (oI (amin (nx B) 2147483647 (bn B))) (ok2_mk ?_) ⟨_, _, bestR0_lp hw.1 hR.1 (bn B) 0 FU (by omega) (FU_big (by omega)), rfl, agR.rf⟩
    refine ok_bind (behind_ok hw.1 hC.1) (fun M1 ⟨h1, f1⟩ => ?_)
    rw [if_pos p00, cheap_ok h1.1.1 hn (fun d hd => dueNow_nx hw.1 h1 hd) (fun d hd => by have := nx_lt hw.1 d; omega)]
    exact ok_some ⟨rfl, f1.q (by decide)⟩
  · rw [e1, e2, if_neg n10, if_neg n10]
    refine Sim.q h (oI (amax (nx B) (bn B))) (ok2_mk ?_) ⟨_, _, bestR1_lp hw.1 hR.1 (bn B) 0 FU (by omega) (FU_big (by omega)), rfl, agR.rf⟩
    refine ok_bind (behind_ok hw.1 hC.1) (fun M1 ⟨h1, f1⟩ => ?_)
    rw [if_neg n10, dear_ok h1.1.1 hn (fun d hd => dueNow_nx hw.1 h1 hd) (fun d hd => by have := nx_lt hw.1 d; omega)]
    exact ok_some ⟨rfl, f1.q (by decide)⟩
/-- the first of k from i on -/
def fstF (P : Nat → Bool) : Nat → Nat → Option Nat
  | _, 0 => none
  | i, k + 1 => if P i then some i else fstF P (i + 1) k
theorem charged_C {B : Bd} {M : Mem} {v : Nat} (hw : wfB B) (hv : v < 2 ^ 31) (hb : brdC 1 B M) (hd : ∀ p, p < bpl B → M.1 30 p = nI (dpA B p)) : ∀ (k i fuel : Nat), i + k = bpl B → k < fuel →
    f_X3_firstAbove_b6 fuel (nI v) (nI i) M = some (oI (fstF (fun p => decide (v < dpA B p)) i k), M) := by
  have h12 := hw.2.2.2.1
  intro k
  induction k with
  | zero =>
    intro i fuel hi hf
    obtain ⟨f, rfl⟩ : ∃ f, fuel = f + 1 := ⟨fuel - 1, by omega⟩
    unfold f_X3_firstAbove_b6
    rw [hb.2.1, if_pos (nI_le (by omega) (by omega))]
    rfl
  | succ k ih =>
    intro i fuel hi hf
    obtain ⟨f, rfl⟩ : ∃ f, fuel = f + 1 := ⟨fuel - 1, by omega⟩
    have hl := dpA_le hw (p := i) (by omega)
    unfold f_X3_firstAbove_b6 fstF
    rw [hb.2.1, if_neg (nI_ge (by omega) (by omega)), ldI_n (by omega) (by decide), hd i (by omega), Option.bind_some, nI_1]
    by_cases c : v < dpA B i
    · rw [if_neg (fun q => absurd ((nI_leI (by omega) hv).mp q) (by omega)), if_pos (by simpa using c)]
      rfl
    · rw [if_pos ((nI_leI (by omega) hv).mpr (by omega)), if_neg (by simpa using c)]
      exact ih (i + 1) f (by omega) (by omega)
theorem charged_R {B : Bd} {M : Mem} {v : Nat} (hw : wfB B) (hv : v < 2 ^ 31) (hb : brdR B M) : ∀ (k i fuel : Nat), i + k = bpl B → k < fuel →
    f_X12_charged_b21 fuel (nI v) (nI i) M = some (oI (fstF (fun p => decide (v < dpA B p)) i k), M) := by
  have h12 := hw.2.2.2.1
  intro k
  induction k with
  | zero =>
    intro i fuel hi hf
    obtain ⟨f, rfl⟩ : ∃ f, fuel = f + 1 := ⟨fuel - 1, by omega⟩
    unfold f_X12_charged_b21
    rw [hb.2.1, if_pos (nI_le (by omega) (by omega))]
    rfl
  | succ k ih =>
    intro i fuel hi hf
    obtain ⟨f, rfl⟩ : ∃ f, fuel = f + 1 := ⟨fuel - 1, by omega⟩
    have hl := dpA_le hw (p := i) (by omega)
    unfold f_X12_charged_b21 fstF
    rw [hb.2.1, if_neg (nI_ge (by omega) (by omega)), dueAtD hb hw (by omega), Option.bind_some, nI_1]
    by_cases c : v < dpA B i
    · rw [if_neg (fun q => absurd ((nI_leI (a := dpA B i) (by omega) hv).mp q) (by omega)), if_pos (by simpa using c)]
      rfl
    · rw [if_pos ((nI_leI (a := dpA B i) (by omega) hv).mpr (by omega)), if_neg (by simpa using c)]
      exact ih (i + 1) f (by omega) (by omega)
theorem sim_charged {MC MR : Mem} (h : Inv MC MR) (a : Int32) : Sim (f_X11_charged a MC) (f_X12_charged a MR) := by
  obtain ⟨B, im, S, lt, rw', hw, hC, hR, hf⟩ := id h
  have h12 := hw.1.2.2.2.1
  unfold f_X11_charged f_X12_charged
  simp only [bind_bp]
  rcases boundR a 999 (by decide) with ⟨hn, e⟩ | ⟨d, hd, h9, rfl, e⟩ | ⟨d, h9, rfl, e⟩
  · rw [show f_X12_bound a 0 999 = -4 from e, if_neg (show ¬ 0 ≤ a from i_neg_nle hn (n := 0) (by decide)), if_neg (show ¬ (-4 : Int32) = 0 by decide)]; exact Sim.no4 h
  · rw [show f_X12_bound (nI d) 0 999 = -6 from e, if_pos (nI_pos' hd), if_neg (show ¬ nI d ≤ 999 from nI_ge (a := 999) h9 hd), if_neg (show ¬ (-6 : Int32) = 0 by decide)]; exact Sim.no6 h
  · rw [show f_X12_bound (nI d) 0 999 = 0 from e, if_pos (nI_pos' (by omega)), if_pos (show nI d ≤ 999 from nI_le (b := 999) h9 (by decide)), if_pos p00]
    refine Sim.q h (oI (fstF (fun p => decide (d < dpA B p)) 0 (bpl B))) (ok2_mk ?_) ⟨_, _, charged_R hw.1 (by omega) hR.1 (bpl B) 0 FU (by omega) (FU_big (by omega)), rfl, agR.rf⟩
    unfold f_X3_firstAbove
    refine ok_bind (reckon_ok hw.1 hC.1) (fun M1 ⟨h1, h2, h3⟩ => ?_)
    exact ok_eq (charged_C hw.1 (by omega) h1 (fun p hp => (h2 p hp).2) (bpl B) 0 FU (by omega) (FU_big (by omega))) ⟨rfl, h3⟩
/-- bits gathered -/
def orF (P : Nat → Bool) : Nat → Nat → Nat → Nat
  | _, acc, 0 => acc
  | i, acc, k + 1 => orF P (i + 1) (if P i then acc ||| 2 ^ i else acc) k
theorem firsts_C {B : Bd} {M : Mem} (hw : wfB B) (hb : brdC 1 B M) (hd : ∀ p, p < bpl B → M.1 29 p = nI (rpA B p)) : ∀ (k i acc fuel : Nat), i + k = bpl B → k < fuel →
    f_X3_withoutRepeats_b8 fuel (nI acc) (nI i) M = some (nI (orF (fun p => decide (rpA B p = 0)) i acc k), M) := by
  have h12 := hw.2.2.2.1
  intro k
  induction k with
  | zero =>
    intro i acc fuel hi hf
    obtain ⟨f, rfl⟩ : ∃ f, fuel = f + 1 := ⟨fuel - 1, by omega⟩
    unfold f_X3_withoutRepeats_b8
    rw [hb.2.1, if_pos (nI_le (by omega) (by omega))]
    rfl
  | succ k ih =>
    intro i acc fuel hi hf
    obtain ⟨f, rfl⟩ : ∃ f, fuel = f + 1 := ⟨fuel - 1, by omega⟩
    have hl := rpA_le B i
    unfold f_X3_withoutRepeats_b8 orF
    rw [hb.2.1, if_neg (nI_ge (by omega) (by omega)), ldI_n (by omega) (by decide), hd i (by omega), Option.bind_some, nI_1, jshl_1 (by omega), fa_or]
    by_cases c : rpA B i = 0
    · rw [if_pos (show nI (rpA B i) = 0 by rw [c]; rfl), if_pos (by simpa using c)]
      exact ih (i + 1) _ f (by omega) (by omega)
    · rw [if_neg (show ¬ nI (rpA B i) = 0 from fun q => c (nI_e (b := 0) (by omega) (by decide) q)), if_neg (by simpa using c)]
      exact ih (i + 1) _ f (by omega) (by omega)
theorem firsts_R {B : Bd} {M : Mem} (hw : wfB B) (hb : brdR B M) : ∀ (k i acc fuel : Nat), i + k = bpl B → k < fuel →
    f_X12_firsts_b4 M fuel (nI acc) (nI i) = some (nI (orF (fun p => decide (rpA B p = 0)) i acc k)) := by
  have h12 := hw.2.2.2.1
  intro k
  induction k with
  | zero =>
    intro i acc fuel hi hf
    obtain ⟨f, rfl⟩ : ∃ f, fuel = f + 1 := ⟨fuel - 1, by omega⟩
    unfold f_X12_firsts_b4
    rw [hb.2.1, if_pos (nI_le (by omega) (by omega))]
    rfl
  | succ k ih =>
    intro i acc fuel hi hf
    obtain ⟨f, rfl⟩ : ∃ f, fuel = f + 1 := ⟨fuel - 1, by omega⟩
    have hl := rpA_le B i
    unfold f_X12_firsts_b4 orF
    rw [hb.2.1, if_neg (nI_ge (by omega) (by omega)), ldI_n (by omega) (by decide), hb.2.2.2.2.2.2.2 i (by omega), Option.bind_some, repeatsR hb hw (lgA_in hw (by omega)) (by omega), Option.bind_some, nI_1, jshl_1 (by omega)]
    by_cases c : rpA B i = 0
    · rw [if_pos (show nI (cnt B (B.2.2.take i) (lgA B i)) = 0 from congrArg nI c), if_pos (by simpa using c), fa_or]
      exact ih (i + 1) _ f (by omega) (by omega)
    · rw [if_neg (show ¬ nI (cnt B (B.2.2.take i) (lgA B i)) = 0 from fun q => c (nI_e (a := rpA B i) (b := 0) (by omega) (by decide) q)), if_neg (by simpa using c), l_0, fa_or, Nat.or_zero]
      exact ih (i + 1) _ f (by omega) (by omega)
theorem sim_firsts {MC MR : Mem} (h : Inv MC MR) : Sim (f_X11_firsts MC) ((f_X12_firsts MR).map (·, MR)) := by
  obtain ⟨B, im, S, lt, rw', hw, hC, hR, hf⟩ := id h
  have h12 := hw.1.2.2.2.1
  unfold f_X11_firsts f_X12_firsts
  rw [bind_bp]
  have e := firsts_R hw.1 hR.1 (bpl B) 0 0 FU (by omega) (FU_big (by omega))
  refine Sim.q h (nI (orF (fun p => decide (rpA B p = 0)) 0 0 (bpl B))) (ok2_mk ?_) ⟨_, _, congrArg (Option.map (·, MR)) e, rfl, agR.rf⟩
  unfold f_X3_withoutRepeats
  refine ok_bind (reckon_ok hw.1 hC.1) (fun M1 ⟨h1, h2, h3⟩ => ?_)
  exact ok_eq (firsts_C hw.1 h1 (fun p hp => (h2 p hp).1) (bpl B) 0 0 FU (by omega) (FU_big (by omega))) ⟨rfl, h3⟩
/-- a sum -/
def sumF (f : Nat → Nat) : Nat → Nat → Nat → Nat
  | _, acc, 0 => acc
  | i, acc, k + 1 => sumF f (i + 1) (acc + f i) k
def kdD (B : Bd) (q p : Nat) : Nat := if kd B (lgA B p) = q then dpA B p else 0
theorem kind_C {B : Bd} {M : Mem} {q : Nat} (hw : wfB B) (hq : q < 6) (hb : brdC 1 B M) (hd : ∀ p, p < bpl B → M.1 30 p = nI (dpA B p)) : ∀ (k i acc fuel : Nat), i + k = bpl B → k < fuel →
    f_X3_sumOfKind_b4 M fuel (nI q) (nI acc) (nI i) = some (nI (sumF (kdD B q) i acc k)) := by
  have h12 := hw.2.2.2.1
  have hn := hw.2.2.1
  intro k
  induction k with
  | zero =>
    intro i acc fuel hi hf
    obtain ⟨f, rfl⟩ : ∃ f, fuel = f + 1 := ⟨fuel - 1, by omega⟩
    unfold f_X3_sumOfKind_b4
    rw [hb.2.1, if_pos (nI_le (by omega) (by omega))]
    rfl
  | succ k ih =>
    intro i acc fuel hi hf
    obtain ⟨f, rfl⟩ : ∃ f, fuel = f + 1 := ⟨fuel - 1, by omega⟩
    have hl := lgA_in hw (p := i) (by omega)
    have hk := (hw.2.2.2.2.1 (lgA B i)).1
    unfold f_X3_sumOfKind_b4 sumF kdD
    rw [hb.2.1, if_neg (nI_ge (by omega) (by omega)), ldI_n (by omega) (by decide), show M.1 5 i = nI (lgA B i) from hb.2.2.2.2.2.2.2 i (by omega), Option.bind_some, ldI_n (by omega) (by decide), show M.1 2 (lgA B i) = nI (kd B (lgA B i)) from hb.2.2.2.2.1 _ hl, Option.bind_some, nI_1]
    by_cases c : kd B (lgA B i) = q
    · rw [if_pos (by rw [c]), if_pos c, ldI_n (by omega) (by decide), hd i (by omega), Option.bind_some, nI_add]
      exact ih (i + 1) _ f (by omega) (by omega)
    · rw [if_neg (fun z => c (nI_e (by omega) (by omega) z)), if_neg c]
      exact ih (i + 1) _ f (by omega) (by omega)
theorem kind_R {B : Bd} {M : Mem} {q : Nat} (hw : wfB B) (hq : q < 6) (hb : brdR B M) : ∀ (k i acc fuel : Nat), i + k = bpl B → k < fuel →
    f_X12_dueOfKind_b4 M fuel (nI q) (nI acc) (nI i) = some (nI (sumF (kdD B q) i acc k)) := by
  have h12 := hw.2.2.2.1
  have hn := hw.2.2.1
  intro k
  induction k with
  | zero =>
    intro i acc fuel hi hf
    obtain ⟨f, rfl⟩ : ∃ f, fuel = f + 1 := ⟨fuel - 1, by omega⟩
    unfold f_X12_dueOfKind_b4
    rw [hb.2.1, if_pos (nI_le (by omega) (by omega))]
    rfl
  | succ k ih =>
    intro i acc fuel hi hf
    obtain ⟨f, rfl⟩ : ∃ f, fuel = f + 1 := ⟨fuel - 1, by omega⟩
    have hl := lgA_in hw (p := i) (by omega)
    have hk := (hw.2.2.2.2.1 (lgA B i)).1
    unfold f_X12_dueOfKind_b4 sumF kdD
    rw [hb.2.1, if_neg (nI_ge (by omega) (by omega)), ldI_n (by omega) (by decide), hb.2.2.2.2.2.2.2 i (by omega), Option.bind_some, ldI_n (by omega) (by decide), hb.2.2.2.2.1 _ hl, Option.bind_some, nI_1]
    by_cases c : kd B (lgA B i) = q
    · rw [if_pos (by rw [c]), if_pos c, dueAtD hb hw (by omega), Option.bind_some, nI_add]
      exact ih (i + 1) _ f (by omega) (by omega)
    · rw [if_neg (fun z => c (nI_e (by omega) (by omega) z)), if_neg c, l_0, nI_add]
      exact ih (i + 1) _ f (by omega) (by omega)
theorem sumF_le {f : Nat → Nat} {m : Nat} : ∀ (k i acc : Nat), (∀ p, i ≤ p → p < i + k → f p ≤ m) → sumF f i acc k ≤ acc + k * m := by
  intro k
  induction k with
  | zero => intro i acc h; exact Nat.le_add_right _ _
  | succ k ih =>
    intro i acc h
    have h1 := ih (i + 1) (acc + f i) (fun p hp hp2 => h p (by omega) (by omega))
    have h2 := h i (Nat.le_refl _) (by omega)
    show sumF f (i + 1) (acc + f i) k ≤ _
    rw [Nat.succ_mul]
    omega
def kdT (B : Bd) (q : Nat) : Nat := sumF (kdD B q) 0 0 (bpl B)
theorem kdT_lt {B : Bd} (hw : wfB B) (q : Nat) : kdT B q < 100000 := by
  have h12 := hw.2.2.2.1
  have := sumF_le (f := kdD B q) (m := 1000) (bpl B) 0 0 (fun p _ hp => by
    unfold kdD
    split
    · have := dpA_le hw (p := p) (by omega); omega
    · omega)
  have h2 : bpl B * 1000 ≤ 12 * 1000 := Nat.mul_le_mul_right _ h12
  unfold kdT
  omega
theorem kindT_R {B : Bd} {M : Mem} {q : Nat} (hw : wfB B) (hq : q < 6) (hb : brdR B M) : f_X12_dueOfKind (nI q) M = some (nI (kdT B q)) :=
  kind_R hw hq hb (bpl B) 0 0 FU (by omega) (FU_big (by have := hw.2.2.2.1; omega))
theorem dearKind_C {B : Bd} {M : Mem} (hw : wfB B) (hg : ∀ q, q < 6 → f_X3_sumOfKind (nI q) M = some (nI (kdT B q))) : ∀ (k i fuel : Nat), i + k = 6 → k < fuel → 0 < i →
    f_X3_dearestKind_b23 fuel (oI (amax (kdT B) i)) (xV (kdT B) (amax (kdT B) i)) (nI i) M = some (oI (amax (kdT B) 6), M) := by
  intro k
  induction k with
  | zero =>
    intro i fuel hi hf _
    obtain ⟨f, rfl⟩ : ∃ f, fuel = f + 1 := ⟨fuel - 1, by omega⟩
    obtain rfl : i = 6 := by omega
    unfold f_X3_dearestKind_b23
    rw [if_pos (by decide)]
  | succ k ih =>
    intro i fuel hi hf h0
    obtain ⟨f, rfl⟩ : ∃ f, fuel = f + 1 := ⟨fuel - 1, by omega⟩
    have hgi := kdT_lt hw i
    have st := amax_s (kdT B) i
    have hs := xV_step (g := kdT B) (o := amax (kdT B) i) (x := i) (by omega) (fun b e => by have := kdT_lt hw b; omega)
    unfold f_X3_dearestKind_b23
    rw [if_neg (show ¬ 6 ≤ nI i from nI_ge (b := 6) (by omega) (by omega)), hg i (by omega), Option.bind_some, nI_1]
    have := ih (i + 1) f (by omega) (by omega) (by omega)
    rcases hs with ⟨h1, h2⟩ | ⟨h1, h2⟩
    · rw [if_pos h1]
      rw [st, h2] at this
      exact this
    · rw [if_neg h1]
      rw [st, h2] at this
      exact this
theorem dearKind_R {B : Bd} {M : Mem} (hw : wfB B) (hb : brdR B M) : ∀ (k i fuel : Nat), i + k = 6 → k < fuel → 0 < i →
    f_X12_byKind_b30 fuel (oI (amax (kdT B) i)) (nI i) M = some (if bpl B = 0 then -9 else oI (amax (kdT B) 6), M) := by
  have h12 := hw.2.2.2.1
  intro k
  induction k with
  | zero =>
    intro i fuel hi hf _
    obtain ⟨f, rfl⟩ : ∃ f, fuel = f + 1 := ⟨fuel - 1, by omega⟩
    obtain rfl : i = 6 := by omega
    unfold f_X12_byKind_b30
    rw [if_pos (by decide), hb.2.1]
    by_cases c : bpl B = 0
    · rw [if_pos (show nI (bpl B) = 0 by rw [c]; rfl), if_pos c]
    · rw [if_neg (show ¬ nI (bpl B) = 0 from fun q => c (nI_e (b := 0) (by omega) (by decide) q)), if_neg c]
  | succ k ih =>
    intro i fuel hi hf h0
    obtain ⟨f, rfl⟩ : ∃ f, fuel = f + 1 := ⟨fuel - 1, by omega⟩
    obtain ⟨j, rfl⟩ : ∃ j, i = j + 1 := ⟨i - 1, by omega⟩
    obtain ⟨b, e⟩ : ∃ b, amax (kdT B) (j + 1) = some b := by
      cases h : amax (kdT B) (j + 1) with
      | none => exact absurd h amax_ne
      | some b => exact ⟨b, rfl⟩
    have hbl := amax_lt e
    have h1 := kdT_lt hw (j + 1)
    have h2 := kdT_lt hw b
    have st := amax_s (kdT B) (j + 1)
    have := ih (j + 1 + 1) f (by omega) (by omega) (by omega)
    unfold f_X12_byKind_b30
    rw [if_neg (show ¬ 6 ≤ nI (j + 1) from nI_ge (b := 6) (by omega) (by omega)), kindT_R hw (by omega) hb, Option.bind_some, e]
    show (f_X12_dueOfKind (nI b) M).bind _ = _
    rw [kindT_R hw (by omega) hb, Option.bind_some, nI_1]
    rw [e] at st
    rw [st] at this
    by_cases c : kdT B b < kdT B (j + 1)
    · rw [show axs (kdT B) (some b) (j + 1) = some (j + 1) from if_pos c] at this
      rw [if_neg (fun q => absurd ((nI_leI (by omega) (by omega)).mp q) (by omega))]
      exact this
    · rw [show axs (kdT B) (some b) (j + 1) = some b from if_neg c] at this
      rw [if_pos ((nI_leI (by omega) (by omega)).mpr (by omega))]
      exact this
theorem neg_cases {v : Int32} (h : v < 0) : v < -1 ∨ v = -1 := by
  rw [Int32.lt_iff_toInt_lt, ← Int32.toInt_inj]
  rw [Int32.lt_iff_toInt_lt] at h
  have h0 : (0 : Int32).toInt = 0 := rfl
  have h1 : (-1 : Int32).toInt = -1 := rfl
  omega
theorem nI_nlt_m1 {a : Nat} (h : a < 2 ^ 31) : ¬ nI a < -1 := by
  rw [Int32.lt_iff_toInt_lt, nI_toInt h, show (-1 : Int32).toInt = -1 from rfl]
  omega
theorem nI_ne_m1 {a : Nat} (h : a < 2 ^ 31) : ¬ nI a = -1 := by
  intro q
  have := congrArg Int32.toInt q
  rw [nI_toInt h, show (-1 : Int32).toInt = -1 from rfl] at this
  omega
theorem sim_byKind {MC MR : Mem} (h : Inv MC MR) (a : Int32) : Sim (f_X11_byKind a MC) (f_X12_byKind a MR) := by
  obtain ⟨B, im, S, lt, rw', hw, hC, hR, hf⟩ := id h
  have h12 := hw.1.2.2.2.1
  unfold f_X11_byKind f_X12_byKind f_X12_isIn
  simp only [bind_bp]
  rcases i_cases a with hn | ⟨d, hd, rfl⟩
  · rcases neg_cases hn with hm | rfl
    · rw [if_pos hm, if_pos hm, if_pos p00]; exact Sim.no2 h
    · rw [if_neg (show ¬ (-1 : Int32) < -1 by decide), if_neg (show ¬ (-1 : Int32) < -1 by decide), if_neg (show ¬ (5 : Int32) < -1 by decide), if_neg n10, if_pos (show (-1 : Int32) < 6 by decide), if_neg (show ¬ (0 : Int32) ≤ -1 by decide), if_pos (show (-1 : Int32) < 0 by decide)]
      have e1 : amax (kdT B) 1 = some 0 := rfl
      have eR := dearKind_R hw.1 hR.1 5 1 FU (by omega) (FU_big (by omega)) (by omega)
      rw [e1] at eR
      refine Sim.q h (if bpl B = 0 then -9 else oI (amax (kdT B) 6)) (ok2_mk ?_) ⟨_, _, eR, rfl, agR.rf⟩
      unfold f_X3_dearestKind
      rw [hC.1.2.1]
      by_cases c : bpl B = 0
      · rw [if_pos (show nI (bpl B) = 0 by rw [c]; rfl), if_pos c]
        exact ok_some ⟨rfl, frQ.rf⟩
      · rw [if_neg (show ¬ nI (bpl B) = 0 from fun q => c (nI_e (b := 0) (by omega) (by decide) q)), if_neg c]
        refine ok_bind (reckon_ok hw.1 hC.1) (fun M1 ⟨h1, h2, h3⟩ => ?_)
        have hg : ∀ q, q < 6 → f_X3_sumOfKind (nI q) M1 = some (nI (kdT B q)) := fun q hq => kind_C hw.1 hq h1 (fun p hp => (h2 p hp).2) (bpl B) 0 0 FU (by omega) (FU_big (by omega))
        refine ok_eq (a := (oI (amax (kdT B) 6), M1)) ?_ ⟨rfl, h3⟩
        obtain ⟨f, hfu⟩ : ∃ f, FU = f + 1 := ⟨FU - 1, by rw [FU_eq]⟩
        rw [hfu]
        unfold f_X3_dearestKind_b23
        have k0 := kdT_lt hw.1 0
        rw [if_neg (show ¬ (6 : Int32) ≤ 0 by decide), show f_X3_sumOfKind 0 M1 = some (nI (kdT B 0)) from hg 0 (by decide), Option.bind_some, if_neg (nI_le_m1 (by omega))]
        have := dearKind_C hw.1 hg 5 1 f (by omega) (by have := FU_eq; omega) (by omega)
        rw [e1] at this
        exact this
  · rw [if_neg (nI_nlt_m1 hd), if_neg (nI_nlt_m1 hd)]
    by_cases c : d < 6
    · rw [if_neg (show ¬ 5 < nI d from nI_nlt (b := d) (a := 5) (by omega) (by decide)), if_neg n10, if_pos (show nI d < 6 from nI_lt (b := 6) c (by decide)), if_pos (nI_pos' hd), if_neg (nI_pos hd), kindT_R hw.1 c hR.1]
      refine Sim.q h (nI (kdT B d)) (ok2_mk ?_) ⟨_, _, rfl, rfl, agR.rf⟩
      unfold f_X3_totalOfKind
      refine ok_bind (reckon_ok hw.1 hC.1) (fun M1 ⟨h1, h2, h3⟩ => ?_)
      rw [show f_X3_sumOfKind (nI d) M1 = some (nI (kdT B d)) from kind_C hw.1 c h1 (fun p hp => (h2 p hp).2) (bpl B) 0 0 FU (by omega) (FU_big (by omega))]
      exact ok_some ⟨rfl, h3⟩
    · rw [if_pos (show 5 < nI d from nI_lt (a := 5) (by omega) hd), if_pos p00, if_neg (show ¬ nI d < 6 from nI_nlt (a := d) (b := 6) (by omega) hd)]
      exact Sim.no2 h
