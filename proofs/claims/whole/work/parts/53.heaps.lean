/-! chain, heaps -/
def anyN (p : Nat → Bool) : Nat → Bool
  | 0 => false
  | k + 1 => anyN p k || p k
theorem anyN_iff (p : Nat → Bool) (n : Nat) : anyN p n = true ↔ ∃ k, k < n ∧ p k = true := by
  induction n with
  | zero => exact ⟨(fun h => by cases h), (fun ⟨k, h, _⟩ => absurd h (Nat.not_lt_zero k))⟩
  | succ n ih =>
    show (anyN p n || p n) = true ↔ _
    rw [Bool.or_eq_true, ih]
    constructor
    · rintro (⟨k, h1, h2⟩ | h)
      · exact ⟨k, by omega, h2⟩
      · exact ⟨n, by omega, h⟩
    · rintro ⟨k, h1, h2⟩
      by_cases c : k = n
      · exact Or.inr (c ▸ h2)
      · exact Or.inl ⟨k, by omega, h2⟩
def sprd (B : Bd) (S : Nat) : Nat := mask (fun e => anyN (fun x => S.testBit x && sm B x e) (bn B)) (bn B)
theorem sprd_tb (B : Bd) (S e : Nat) : (sprd B S).testBit e = true ↔ e < bn B ∧ ∃ x, x < bn B ∧ S.testBit x = true ∧ sm B x e = true := by
  unfold sprd
  rw [mask_tb, Bool.and_eq_true, decide_eq_true_iff, anyN_iff]
  simp only [Bool.and_eq_true]
theorem sprd_lt (B : Bd) (S : Nat) : sprd B S < 2 ^ bn B := mask_lt _ _
theorem tb_ext {a b : Nat} (h : ∀ e, a.testBit e = true ↔ b.testBit e = true) : a = b := by
  apply Nat.eq_of_testBit_eq
  intro e
  rw [Bool.eq_iff_iff]
  exact h e
theorem sprC_lp {B : Bd} {M : Mem} {s : Nat} (hw : wfB B) (hb : brdC 1 B M) (h : RA B M) (hs : s < 2 ^ bn B) : ∀ (k i a fuel : Nat), i + k = bn B → k < fuel → a < 2 ^ bn B → (∀ e, a.testBit e = true ↔ s.testBit e = true ∨ ∃ x, x < i ∧ s.testBit x = true ∧ e < bn B ∧ sm B x e = true) →
    f_X2_spread_b4 M fuel (nI s) (nI a) (nI i) = some (nI (sprd B s)) := by
  have hn := hw.2.2.1
  have h8 := p8 hn
  intro k
  induction k with
  | zero =>
    intro i a fuel hi hf ha hI
    obtain ⟨f, rfl⟩ : ∃ f, fuel = f + 1 := ⟨fuel - 1, by omega⟩
    obtain rfl : i = bn B := by omega
    unfold f_X2_spread_b4
    rw [hb.1, if_pos (nI_le (by omega) (by omega))]
    congr 2
    refine tb_ext (fun e => ?_)
    rw [hI e, sprd_tb]
    constructor
    · rintro (q | ⟨x, q1, q2, q3, q4⟩)
      · exact ⟨tb_lt hs q, e, tb_lt hs q, q, sm_self B e⟩
      · exact ⟨q3, x, q1, q2, q4⟩
    · rintro ⟨q3, x, q1, q2, q4⟩
      exact Or.inr ⟨x, q1, q2, q3, q4⟩
  | succ k ih =>
    intro i a fuel hi hf ha hI
    obtain ⟨f, rfl⟩ : ∃ f, fuel = f + 1 := ⟨fuel - 1, by omega⟩
    unfold f_X2_spread_b4
    rw [hb.1, if_neg (nI_ge (by omega) (by omega)), nI_1]
    cases q : s.testBit i with
    | false =>
      rw [if_pos ((bit_0 (by omega) (by omega)).mpr q)]
      refine ih (i + 1) a f (by omega) (by omega) ha (fun e => (hI e).trans ⟨?_, ?_⟩)
      · rintro (z | ⟨x, q1, q2⟩)
        · exact Or.inl z
        · exact Or.inr ⟨x, by omega, q2⟩
      · rintro (z | ⟨x, q1, q2⟩)
        · exact Or.inl z
        · by_cases c : x = i
          · rw [c, q] at q2; cases q2.1
          · exact Or.inr ⟨x, by omega, q2⟩
    | true =>
      rw [if_neg (fun z => by rw [bit_0 (by omega) (by omega), q] at z; cases z), ldA hw h (by omega), Option.bind_some, fa_or]
      refine ih (i + 1) _ f (by omega) (by omega) (Nat.or_lt_two_pow ha (mask_lt _ _)) (fun e => ?_)
      rw [Nat.testBit_or, Bool.or_eq_true, hI e, aM_tb, Bool.and_eq_true, decide_eq_true_iff]
      constructor
      · rintro ((z | ⟨x, q1, q2⟩) | ⟨z1, z2⟩)
        · exact Or.inl z
        · exact Or.inr ⟨x, by omega, q2⟩
        · exact Or.inr ⟨i, by omega, q, z1, z2⟩
      · rintro (z | ⟨x, q1, q2⟩)
        · exact Or.inl (Or.inl z)
        · by_cases c : x = i
          · rw [c] at q2; exact Or.inr ⟨q2.2.1, q2.2.2⟩
          · exact Or.inl (Or.inr ⟨x, by omega, q2⟩)
theorem sprC {B : Bd} {M : Mem} {s : Nat} (hw : wfB B) (hb : brdC 1 B M) (h : RA B M) (hs : s < 2 ^ bn B) : f_X2_spread (nI s) M = some (nI (sprd B s)) :=
  sprC_lp hw hb h hs (bn B) 0 s FU (by omega) (FU_big (by have := hw.2.2.1; omega)) hs (fun e => ⟨Or.inl, fun z => z.elim id (fun ⟨x, q, _⟩ => absurd q (Nat.not_lt_zero x))⟩)
theorem isD_n {B : Bd} {M : Mem} (hw : wfB B) (hb : brdR B M) {y : Nat} (hy : y < 2 ^ 31) : f_X12_isDoing (nI y) M = bI (decide (y < bn B)) := by
  have hn := hw.2.2.1
  unfold f_X12_isDoing
  rw [if_neg (nI_pos hy), hb.1]
  by_cases c : y < bn B
  · rw [if_neg (nI_ge c (by omega)), decide_eq_true c]; rfl
  · rw [if_pos ((nI_leI (by omega) hy).mpr (by omega)), decide_eq_false c]; rfl
theorem samR_lp {B : Bd} {M : Mem} {s : Nat} (hw : wfB B) (hb : brdR B M) (hs : s < 2 ^ bn B) : ∀ (k i a fuel : Nat), i + k = 64 → k < fuel → a < 2 ^ bn B → (∀ e, a.testBit e = true ↔ s.testBit e = true ∨ ∃ j, j < i ∧ j % 8 = e ∧ s.testBit (j / 8) = true ∧ e < bn B ∧ sm B (j / 8) e = true) →
    f_X12_sameAs_b4 M fuel (nI s) (nI a) (nI i) = some (nI (sprd B s)) := by
  have hn := hw.2.2.1
  have h8 := p8 hn
  intro k
  induction k with
  | zero =>
    intro i a fuel hi hf ha hI
    obtain ⟨f, rfl⟩ : ∃ f, fuel = f + 1 := ⟨fuel - 1, by omega⟩
    obtain rfl : i = 64 := by omega
    unfold f_X12_sameAs_b4
    rw [if_pos (by decide)]
    congr 2
    refine tb_ext (fun e => ?_)
    rw [hI e, sprd_tb]
    constructor
    · rintro (q | ⟨j, q1, q2, q3, q4, q5⟩)
      · exact ⟨tb_lt hs q, e, tb_lt hs q, q, sm_self B e⟩
      · exact ⟨q4, j / 8, tb_lt hs q3, q3, q5⟩
    · rintro ⟨q3, x, q1, q2, q4⟩
      refine Or.inr ⟨8 * x + e, by omega, by omega, ?_, q3, ?_⟩
      · rw [show (8 * x + e) / 8 = x by omega]; exact q2
      · rw [show (8 * x + e) / 8 = x by omega]; exact q4
  | succ k ih =>
    intro i a fuel hi hf ha hI
    obtain ⟨f, rfl⟩ : ∃ f, fuel = f + 1 := ⟨fuel - 1, by omega⟩
    unfold f_X12_sameAs_b4
    rw [l_64, l_8, if_neg (nI_ge (by omega) (by omega)), nI_1, nI_rm (by omega) (by decide) (by decide), nI_div (by omega) (by decide) (by decide), has_n (by omega) (by omega), isD_n hw hb (by omega), l_0, fa_or, Nat.or_zero]
    have skip : ¬ (s.testBit (i / 8) = true ∧ i % 8 < bn B ∧ sm B (i / 8) (i % 8) = true) → f_X12_sameAs_b4 M f (nI s) (nI a) (nI (i + 1)) = some (nI (sprd B s)) := fun hh => by
      refine ih (i + 1) a f (by omega) (by omega) ha (fun e => (hI e).trans ⟨?_, ?_⟩)
      · rintro (z | ⟨x, q1, q2⟩)
        · exact Or.inl z
        · exact Or.inr ⟨x, by omega, q2⟩
      · rintro (z | ⟨x, q1, q2, q3, q4, q5⟩)
        · exact Or.inl z
        · by_cases c : x = i
          · exfalso
            rw [c] at q2 q3 q5
            exact hh ⟨q3, by rw [q2]; exact q4, by rw [q2]; exact q5⟩
          · exact Or.inr ⟨x, by omega, q2, q3, q4, q5⟩
    cases q1 : s.testBit (i / 8) with
    | false => rw [if_pos (show bI false = nI 0 from rfl)]; exact skip (fun z => by rw [q1] at z; cases z.1)
    | true =>
      rw [if_neg (show ¬ bI true = nI 0 from n10)]
      by_cases q2 : i % 8 < bn B
      · rw [decide_eq_true q2, if_neg (show ¬ bI true = nI 0 from n10), areSameR hb hw (tb_lt hs q1) q2, Option.bind_some]
        cases q3 : sm B (i / 8) (i % 8) with
        | false =>
          rw [if_pos (show bI false = nI 0 from rfl), fa_or, Nat.or_zero]
          exact skip (fun z => by rw [q3] at z; cases z.2.2)
        | true =>
          rw [if_neg (show ¬ bI true = nI 0 from n10), jshl_1 (by omega), fa_or]
          refine ih (i + 1) _ f (by omega) (by omega) (Nat.or_lt_two_pow ha (Nat.pow_lt_pow_right (by decide) q2)) (fun e => ?_)
          rw [tb_or, hI e]
          constructor
          · rintro ((z | ⟨x, z1, z2⟩) | z)
            · exact Or.inl z
            · exact Or.inr ⟨x, by omega, z2⟩
            · subst z; exact Or.inr ⟨i, by omega, rfl, q1, q2, q3⟩
          · rintro (z | ⟨x, z1, z2, z3⟩)
            · exact Or.inl (Or.inl z)
            · by_cases c : x = i
              · rw [c] at z2; exact Or.inr z2.symm
              · exact Or.inl (Or.inr ⟨x, by omega, z2, z3⟩)
      · rw [decide_eq_false q2, if_pos (show bI false = nI 0 from rfl)]; exact skip (fun z => q2 z.2.1)
theorem samR {B : Bd} {M : Mem} {s : Nat} (hw : wfB B) (hb : brdR B M) (hs : s < 2 ^ bn B) : f_X12_sameAs (nI s) M = some (nI (sprd B s)) :=
  samR_lp hw hb hs 64 0 s FU (by omega) (FU_big (by omega)) hs (fun e => ⟨Or.inl, fun z => z.elim id (fun ⟨x, q, _⟩ => absurd q (Nat.not_lt_zero x))⟩)
/-! what is reached in k steps -/
def rch (B : Bd) (d : Nat) : Nat → Nat
  | 0 => 2 ^ d
  | k + 1 => sprd B (rch B d k)
theorem rch_lt {B : Bd} {d : Nat} (hd : d < bn B) (k : Nat) : rch B d k < 2 ^ bn B := by
  cases k with
  | zero => exact Nat.pow_lt_pow_right (by decide) hd
  | succ k => exact sprd_lt _ _
theorem rch_0 (B : Bd) (d e : Nat) : (rch B d 0).testBit e = true ↔ e = d := by
  show (2 ^ d).testBit e = true ↔ _
  rw [Nat.testBit_two_pow, decide_eq_true_iff]
  exact eq_comm
theorem rch_s (B : Bd) (d k e : Nat) : (rch B d (k + 1)).testBit e = true ↔ e < bn B ∧ ∃ x, x < bn B ∧ (rch B d k).testBit x = true ∧ sm B x e = true := sprd_tb _ _ _
theorem rch_mono {B : Bd} {d e : Nat} (hd : d < bn B) {k : Nat} (h : (rch B d k).testBit e = true) : (rch B d (k + 1)).testBit e = true :=
  (rch_s B d k e).mpr ⟨tb_lt (rch_lt hd k) h, e, tb_lt (rch_lt hd k) h, h, sm_self B e⟩
theorem rch_mono2 {B : Bd} {d e : Nat} (hd : d < bn B) {k : Nat} (h : (rch B d k).testBit e = true) : ∀ j, (rch B d (k + j)).testBit e = true := by
  intro j
  induction j with
  | zero => exact h
  | succ j ih => exact rch_mono hd ih
theorem rch_stab {B : Bd} {d k : Nat} (h : rch B d (k + 1) = rch B d k) : ∀ j, rch B d (k + j) = rch B d k := by
  intro j
  induction j with
  | zero => rfl
  | succ j ih => show sprd B (rch B d (k + j)) = _; rw [ih]; exact h
theorem cntN_mono {p q : Nat → Bool} : ∀ n, (∀ k, k < n → p k = true → q k = true) → cntN p n ≤ cntN q n := by
  intro n
  induction n with
  | zero => intro _; exact Nat.le_refl _
  | succ n ih =>
    intro h
    show cntN p n + (p n).toNat ≤ cntN q n + (q n).toNat
    have h1 := ih (fun k hk => h k (by omega))
    have h2 : (p n).toNat ≤ (q n).toNat := by
      cases z : p n
      · exact Nat.zero_le _
      · rw [h n (by omega) z]; exact Nat.le_refl _
    omega
theorem cntN_more2 {p q : Nat → Bool} {e : Nat} (he : p e = false) (hq : q e = true) : ∀ n, e < n → (∀ k, k < n → p k = true → q k = true) → cntN p n + 1 ≤ cntN q n := by
  intro n
  induction n with
  | zero => intro h; omega
  | succ n ih =>
    intro hen h
    show cntN p n + (p n).toNat + 1 ≤ cntN q n + (q n).toNat
    by_cases c : e = n
    · subst c
      have := cntN_mono (p := p) (q := q) e (fun k hk => h k (by omega))
      rw [he, hq]
      show cntN p e + 0 + 1 ≤ cntN q e + 1
      omega
    · have h1 := ih (by omega) (fun k hk => h k (by omega))
      have h2 : (p n).toNat ≤ (q n).toNat := by
        cases z : p n
        · exact Nat.zero_le _
        · rw [h n (by omega) z]; exact Nat.le_refl _
      omega
theorem cntN_full {p : Nat → Bool} : ∀ n, n ≤ cntN p n → ∀ k, k < n → p k = true := by
  intro n
  induction n with
  | zero => intro _ k hk; omega
  | succ n ih =>
    intro h k hk
    have h1 := cntN_le p n
    have h0 : cntN p (n + 1) = cntN p n + (p n).toNat := rfl
    have h2 : (p n).toNat ≤ 1 := by cases p n <;> decide
    by_cases c : k = n
    · subst c
      cases z : p k
      · rw [z] at h0; simp at h0; omega
      · rfl
    · exact ih (by omega) k (by omega)
theorem rch_grow {B : Bd} {d : Nat} (hd : d < bn B) : ∀ k, k + 1 ≤ cntN (fun e => (rch B d k).testBit e) (bn B) ∨ ∃ j, j < k ∧ rch B d (j + 1) = rch B d j := by
  intro k
  induction k with
  | zero => exact Or.inl (cntN_pos (p := fun e => (rch B d 0).testBit e) (d := d) ((rch_0 B d d).mpr rfl) _ hd)
  | succ k ih =>
    rcases ih with h | ⟨j, h1, h2⟩
    · by_cases c : rch B d (k + 1) = rch B d k
      · exact Or.inr ⟨k, by omega, c⟩
      · left
        have : ∃ e, (rch B d (k + 1)).testBit e = true ∧ ¬ (rch B d k).testBit e = true := by
          refine Classical.byContradiction (fun hno => c (tb_ext (fun e => ⟨fun q => ?_, fun q => rch_mono hd q⟩)))
          exact Classical.byContradiction (fun hn => hno ⟨e, q, hn⟩)
        obtain ⟨e, q1, q2⟩ := this
        have := cntN_more2 (p := fun e => (rch B d k).testBit e) (q := fun e => (rch B d (k + 1)).testBit e) (e := e) (by simpa using q2) q1 (bn B) (tb_lt (rch_lt hd _) q1) (fun x _ hx => rch_mono hd hx)
        omega
    · exact Or.inr ⟨j, by omega, h2⟩
theorem rch_end {B : Bd} {d : Nat} (hd : d < bn B) {m : Nat} (hm : bn B ≤ m + 1) : rch B d m = rch B d (bn B - 1) := by
  obtain ⟨j, rfl⟩ : ∃ j, m = bn B - 1 + j := ⟨m - (bn B - 1), by omega⟩
  rcases rch_grow hd (bn B - 1) with h | ⟨i, h1, h2⟩
  · have full := cntN_full (p := fun e => (rch B d (bn B - 1)).testBit e) (bn B) (by omega)
    refine tb_ext (fun e => ⟨fun q => full e (tb_lt (rch_lt hd _) q), fun q => rch_mono2 hd q j⟩)
  · have e1 := rch_stab h2 (bn B - 1 - i)
    have e2 := rch_stab h2 (bn B - 1 + j - i)
    rw [show i + (bn B - 1 - i) = bn B - 1 by omega] at e1
    rw [show i + (bn B - 1 + j - i) = bn B - 1 + j by omega] at e2
    rw [e1, e2]
/-! chain -/
def chF (f : Nat → Bool) : Nat → Nat → Int32
  | _, 0 => -9
  | i, k + 1 => if f i = true then nI (i + 1) else chF f (i + 1) k
theorem chF_none {f : Nat → Bool} : ∀ (b i : Nat), (∀ k, i ≤ k → ¬ f k = true) → chF f i b = -9 := by
  intro b
  induction b with
  | zero => intro i _; rfl
  | succ b ih =>
    intro i h
    show (if f i = true then nI (i + 1) else chF f (i + 1) b) = _
    rw [if_neg (h i (Nat.le_refl i))]
    exact ih (i + 1) (fun k hk => h k (by omega))
theorem chF_add {f : Nat → Bool} {b : Nat} : ∀ (a i : Nat), (∀ k, i + a ≤ k → f k = true → ∃ j, i ≤ j ∧ j < i + a ∧ f j = true) → chF f i (a + b) = chF f i a := by
  intro a
  induction a with
  | zero =>
    intro i h
    rw [Nat.zero_add]
    exact chF_none b i (fun k hk q => by obtain ⟨j, h1, h2, -⟩ := h k hk q; omega)
  | succ a ih =>
    intro i h
    rw [show a + 1 + b = (a + b) + 1 by omega]
    show (if f i = true then nI (i + 1) else chF f (i + 1) (a + b)) = if f i = true then nI (i + 1) else chF f (i + 1) a
    by_cases c : f i = true
    · rw [if_pos c, if_pos c]
    · rw [if_neg c, if_neg c]
      refine ih (i + 1) (fun k hk q => ?_)
      obtain ⟨j, h1, h2, h3⟩ := h k (by omega) q
      refine ⟨j, ?_, by omega, h3⟩
      rcases Nat.lt_or_ge i j with z | z
      · omega
      · have : j = i := by omega
        rw [this] at h3; exact absurd h3 c
theorem chC {B : Bd} {M : Mem} {d t : Nat} (hw : wfB B) (hb : brdC 1 B M) (h : RA B M) (hd : d < bn B) (ht : t < bn B) : ∀ (k i fuel : Nat), i + k = bn B → k < fuel →
    f_X2_shortestChain_b14 fuel (nI t) (nI (rch B d i)) (nI (i + 1)) M = some (chF (fun k => (rch B d k).testBit t) i k, M) := by
  have hn := hw.2.2.1
  have h8 := p8 hn
  intro k
  induction k with
  | zero =>
    intro i fuel hi hf
    obtain ⟨f, rfl⟩ : ∃ f, fuel = f + 1 := ⟨fuel - 1, by omega⟩
    unfold f_X2_shortestChain_b14
    rw [hb.1, if_pos (nI_lt (by omega) (by omega))]
    rfl
  | succ k ih =>
    intro i fuel hi hf
    obtain ⟨f, rfl⟩ : ∃ f, fuel = f + 1 := ⟨fuel - 1, by omega⟩
    have hl := rch_lt hd (B := B) i
    unfold f_X2_shortestChain_b14
    rw [hb.1, if_neg (fun q => absurd ((nI_ltI (by omega) (by omega)).mp q) (by omega)), nI_1, sprC hw hb h hl, Option.bind_some]
    show _ = some (if (rch B d i).testBit t = true then nI (i + 1) else chF (fun k => (rch B d k).testBit t) (i + 1) k, M)
    cases q : (rch B d i).testBit t with
    | false => rw [if_pos ((bit_0 (by omega) (by omega)).mpr q), if_neg (by decide)]; exact ih (i + 1) f (by omega) (by omega)
    | true => rw [if_neg (fun z => by rw [bit_0 (by omega) (by omega), q] at z; cases z), if_pos rfl]
theorem chR {B : Bd} {M : Mem} {d t : Nat} (hw : wfB B) (hb : brdR B M) (hd : d < bn B) (ht : t < bn B) : ∀ (k i fuel : Nat), i + k = 8 → k < fuel →
    f_X12_chain_b29 fuel (nI t) (nI (rch B d i)) (nI (i + 1)) M = some (chF (fun k => (rch B d k).testBit t) i k, M) := by
  have hn := hw.2.2.1
  have h8 := p8 hn
  intro k
  induction k with
  | zero =>
    intro i fuel hi hf
    obtain ⟨f, rfl⟩ : ∃ f, fuel = f + 1 := ⟨fuel - 1, by omega⟩
    obtain rfl : i = 8 := by omega
    unfold f_X12_chain_b29
    rw [if_pos (by decide)]
    rfl
  | succ k ih =>
    intro i fuel hi hf
    obtain ⟨f, rfl⟩ : ∃ f, fuel = f + 1 := ⟨fuel - 1, by omega⟩
    have hl := rch_lt hd (B := B) i
    unfold f_X12_chain_b29
    rw [l_8, if_neg (fun q => absurd ((nI_ltI (by omega) (by omega)).mp q) (by omega)), nI_1, samR hw hb hl, Option.bind_some, has_n (by omega) (by omega)]
    show _ = some (if (rch B d i).testBit t = true then nI (i + 1) else chF (fun k => (rch B d k).testBit t) (i + 1) k, M)
    cases q : (rch B d i).testBit t with
    | false => rw [if_pos (show bI false = 0 from rfl), if_neg (by decide)]; exact ih (i + 1) f (by omega) (by omega)
    | true => rw [if_neg (show ¬ bI true = 0 from n10), if_pos rfl]
theorem sim_chain {MC MR : Mem} (h : Inv MC MR) (a b : Int32) : Sim (f_X11_chain a b MC) (f_X12_chain a b MR) := by
  obtain ⟨B, im, S, lt, rw', hw, hC, hR, hf⟩ := id h
  have hn := hw.1.2.2.1
  unfold f_X11_chain f_X12_chain
  simp only [bind_bp]
  rcases knows hC.1 hR.1 hw.1 a with ⟨e1, e2⟩ | ⟨e1, e2, d, hd, rfl⟩
  · rw [e1, e2, if_pos p00, if_pos p00]; exact Sim.no1 h
  rw [e1, e2, if_neg n10, if_neg n10]
  rcases knows hC.1 hR.1 hw.1 b with ⟨e1, e2⟩ | ⟨e1, e2, t, ht, rfl⟩
  · rw [e1, e2, if_pos p00, if_pos p00]; exact Sim.no1 h
  rw [e1, e2, if_neg n10, if_neg n10, jshl_1 (by omega)]
  have e3 : f_X12_chain_b29 FU (nI t) (nI (2 ^ d)) 1 MR = some (chF (fun k => (rch B d k).testBit t) 0 8, MR) := chR hw.1 hR.1 hd ht 8 0 FU (by omega) (FU_big (by omega))
  have e4 : chF (fun k => (rch B d k).testBit t) 0 8 = chF (fun k => (rch B d k).testBit t) 0 (bn B) := by
    have := chF_add (f := fun k => (rch B d k).testBit t) (b := 8 - bn B) (bn B) 0 (fun k hk q => ⟨bn B - 1, by omega, by omega, by
      show (rch B d (bn B - 1)).testBit t = true
      rw [← rch_end hd (m := k) (by omega)]; exact q⟩)
    rw [show bn B + (8 - bn B) = 8 by omega] at this
    exact this
  rw [e3, e4]
  refine Sim.q h (chF (fun k => (rch B d k).testBit t) 0 (bn B)) (ok2_mk ?_) ⟨_, _, rfl, rfl, agR.rf⟩
  unfold f_X2_shortestChain
  refine ok_bind (open_ok hw.1 hC.1) (fun M1 ⟨h1, f1⟩ => ?_)
  rw [jshl_1 (by omega)]
  exact ok_eq (chC hw.1 h1.1 h1.2.1 hd ht (bn B) 0 FU (by omega) (FU_big (by omega))) ⟨rfl, f1.q (by decide)⟩
/-! heaps -/
theorem rch_cat {B : Bd} {d x : Nat} {j : Nat} (hx : (rch B d j).testBit x = true) : ∀ (k e : Nat), (rch B x k).testBit e = true → (rch B d (j + k)).testBit e = true := by
  intro k
  induction k with
  | zero => intro e h; rw [(rch_0 B x e).mp h]; exact hx
  | succ k ih =>
    intro e h
    obtain ⟨h1, y, h2, h3, h4⟩ := (rch_s B x k e).mp h
    exact (rch_s B d (j + k) e).mpr ⟨h1, y, h2, ih y h3, h4⟩
theorem rch_symm {B : Bd} {d : Nat} (hd : d < bn B) : ∀ (k e : Nat), (rch B d k).testBit e = true → (rch B e k).testBit d = true := by
  intro k
  induction k with
  | zero => intro e h; rw [(rch_0 B d e).mp h]; exact (rch_0 B d d).mpr rfl
  | succ k ih =>
    intro e h
    obtain ⟨h1, y, h2, h3, h4⟩ := (rch_s B d k e).mp h
    have h5 : (rch B e 1).testBit y = true := (rch_s B e 0 y).mpr ⟨h2, e, h1, (rch_0 B e e).mpr rfl, by rw [sm_symm]; exact h4⟩
    have := rch_cat h5 k d (ih y h3)
    rw [Nat.add_comm] at this
    exact this
def hp (B : Bd) (d : Nat) : Nat := rch B d (bn B - 1)
theorem hp_eq {B : Bd} {d : Nat} (hd : d < bn B) {m : Nat} (hm : bn B ≤ m + 1) : rch B d m = hp B d := rch_end hd hm
theorem hp_self {B : Bd} {d : Nat} (hd : d < bn B) : (hp B d).testBit d = true := by
  have := rch_mono2 hd (k := 0) ((rch_0 B d d).mpr rfl) (bn B - 1)
  rw [Nat.zero_add] at this
  exact this
theorem hp_lt {B : Bd} {d : Nat} (hd : d < bn B) : hp B d < 2 ^ bn B := rch_lt hd _
theorem hp_symm {B : Bd} {d e : Nat} (hd : d < bn B) (h : (hp B d).testBit e = true) : (hp B e).testBit d = true := rch_symm hd _ _ h
theorem hp_trans {B : Bd} {d x e : Nat} (hd : d < bn B) (h : (hp B d).testBit x = true) (g : (hp B x).testBit e = true) : (hp B d).testBit e = true := by
  have := rch_cat h _ e g
  rw [hp_eq hd (by omega)] at this
  exact this
theorem hp_same {B : Bd} {d x : Nat} (hd : d < bn B) (h : (hp B d).testBit x = true) : hp B x = hp B d := by
  have hx := tb_lt (hp_lt hd) h
  exact tb_ext (fun e => ⟨fun q => hp_trans hd h q, fun q => hp_trans hx (hp_symm hd h) q⟩)
theorem heapC_lp {B : Bd} {M : Mem} {d : Nat} (hw : wfB B) (hb : brdC 1 B M) (h : RA B M) (hd : d < bn B) : ∀ (k i fuel : Nat), i + k = bn B → k < fuel → f_X2_heapOf_b6 M fuel (nI (rch B d i)) (nI i) = some (nI (hp B d)) := by
  have hn := hw.2.2.1
  intro k
  induction k with
  | zero =>
    intro i fuel hi hf
    obtain ⟨f, rfl⟩ : ∃ f, fuel = f + 1 := ⟨fuel - 1, by omega⟩
    unfold f_X2_heapOf_b6
    rw [hb.1, if_pos (nI_le (by omega) (by omega)), hp_eq hd (by omega)]
  | succ k ih =>
    intro i fuel hi hf
    obtain ⟨f, rfl⟩ : ∃ f, fuel = f + 1 := ⟨fuel - 1, by omega⟩
    unfold f_X2_heapOf_b6
    rw [hb.1, if_neg (nI_ge (by omega) (by omega)), sprC hw hb h (rch_lt hd _), Option.bind_some, nI_1]
    exact ih (i + 1) f (by omega) (by omega)
theorem heapC {B : Bd} {M : Mem} {d : Nat} (hw : wfB B) (hb : brdC 1 B M) (h : RA B M) (hd : d < bn B) : f_X2_heapOf (nI d) M = some (nI (hp B d)) := by
  have hn := hw.2.2.1
  unfold f_X2_heapOf
  rw [jshl_1 (by omega)]
  exact heapC_lp hw hb h hd (bn B) 0 FU (by omega) (FU_big (by omega))
theorem heapR_lp {B : Bd} {M : Mem} {d : Nat} (hw : wfB B) (hb : brdR B M) (hd : d < bn B) : ∀ (k i fuel : Nat), i + k = 8 → k < fuel → f_X12_heapOf_b6 M fuel (nI (rch B d i)) (nI i) = some (nI (hp B d)) := by
  have hn := hw.2.2.1
  intro k
  induction k with
  | zero =>
    intro i fuel hi hf
    obtain ⟨f, rfl⟩ : ∃ f, fuel = f + 1 := ⟨fuel - 1, by omega⟩
    obtain rfl : i = 8 := by omega
    unfold f_X12_heapOf_b6
    rw [if_pos (by decide), hp_eq hd (by omega)]
  | succ k ih =>
    intro i fuel hi hf
    obtain ⟨f, rfl⟩ : ∃ f, fuel = f + 1 := ⟨fuel - 1, by omega⟩
    unfold f_X12_heapOf_b6
    rw [l_8, if_neg (nI_ge (by omega) (by omega)), samR hw hb (rch_lt hd _), Option.bind_some, nI_1]
    exact ih (i + 1) f (by omega) (by omega)
theorem heapR {B : Bd} {M : Mem} {d : Nat} (hw : wfB B) (hb : brdR B M) (hd : d < bn B) : f_X12_heapOf (nI d) M = some (nI (hp B d)) := by
  have hn := hw.2.2.1
  unfold f_X12_heapOf
  rw [jshl_1 (by omega)]
  exact heapR_lp hw hb hd 8 0 FU (by omega) (FU_big (by omega))
def ldr (B : Bd) (v : Nat) : Bool := !anyN (fun u => (hp B v).testBit u) v
def mxN (g : Nat → Nat) : Nat → Nat
  | 0 => 0
  | k + 1 => max (mxN g k) (g k)
theorem mxN_ge {g : Nat → Nat} : ∀ {n u : Nat}, u < n → g u ≤ mxN g n := by
  intro n
  induction n with
  | zero => intro u h; omega
  | succ n ih =>
    intro u h
    show g u ≤ max (mxN g n) (g n)
    by_cases c : u = n
    · rw [c]; exact Nat.le_max_right _ _
    · exact Nat.le_trans (ih (by omega)) (Nat.le_max_left _ _)
theorem mxN_le {g : Nat → Nat} {m : Nat} (h : ∀ u, g u ≤ m) : ∀ n, mxN g n ≤ m := by
  intro n
  induction n with
  | zero => exact Nat.zero_le _
  | succ n ih => exact Nat.max_le.mpr ⟨ih, h n⟩
def gHp (B : Bd) (u : Nat) : Nat := pc (hp B u)
def hpA (B : Bd) (v1 : Int32) : Int32 := if v1 = 0 then nI (cntN (ldr B) (bn B)) else nI (mxN (gHp B) (bn B))
theorem hpC {B : Bd} {M : Mem} (hw : wfB B) (hb : brdC 1 B M) (h : RA B M) (v1 : Int32) : ∀ (k i a fuel : Nat), i + k = bn B → k < fuel → a < 2 ^ bn B → (∀ e, a.testBit e = true ↔ ∃ u, u < i ∧ (hp B u).testBit e = true) →
    f_X2_allHeaps_b17 fuel v1 (nI (cntN (ldr B) i)) (nI (mxN (gHp B) i)) (nI a) (nI i) M = some (hpA B v1, M) := by
  have hn := hw.2.2.1
  have h8 := p8 hn
  intro k
  induction k with
  | zero =>
    intro i a fuel hi hf ha hI
    obtain ⟨f, rfl⟩ : ∃ f, fuel = f + 1 := ⟨fuel - 1, by omega⟩
    obtain rfl : i = bn B := by omega
    unfold f_X2_allHeaps_b17 hpA
    rw [hb.1, if_pos (nI_le (by omega) (by omega))]
    by_cases c : v1 = 0
    · rw [if_pos c, if_pos c]
    · rw [if_neg c, if_neg c]
  | succ k ih =>
    intro i a fuel hi hf ha hI
    obtain ⟨f, rfl⟩ : ∃ f, fuel = f + 1 := ⟨fuel - 1, by omega⟩
    have hi' : i < bn B := by omega
    have hl := hp_lt hi'
    have hm := mxN_le (g := gHp B) (m := 12) (fun u => pc_le _) i
    have hg : gHp B i ≤ 12 := pc_le _
    have st1 : cntN (ldr B) (i + 1) = cntN (ldr B) i + (ldr B i).toNat := rfl
    have st2 : mxN (gHp B) (i + 1) = max (mxN (gHp B) i) (gHp B i) := rfl
    unfold f_X2_allHeaps_b17
    rw [hb.1, if_neg (nI_ge (by omega) (by omega)), nI_1, heapC hw hb h hi', Option.bind_some, nI_1, bitCount_n (by omega), show nI (pc (hp B i)) = nI (gHp B i) from rfl, mxI_n (by omega) (by omega), fa_or]
    have hu : ∀ u, u < i → ((hp B u).testBit i = true ↔ (hp B i).testBit u = true) := fun u hu => ⟨fun q => hp_symm (by omega) q, fun q => hp_symm hi' q⟩
    cases q : a.testBit i with
    | false =>
      have e : ldr B i = true := by
        unfold ldr
        have : anyN (fun u => (hp B i).testBit u) i = false := by
          cases z : anyN (fun u => (hp B i).testBit u) i
          · rfl
          · obtain ⟨u, z1, z2⟩ := (anyN_iff _ _).mp z
            have := (hI i).mpr ⟨u, z1, (hu u z1).mpr z2⟩
            rw [q] at this; cases this
        rw [this]; rfl
      rw [if_pos ((bit_0 (by omega) (by omega)).mpr q)]
      have := ih (i + 1) (a ||| hp B i) f (by omega) (by omega) (Nat.or_lt_two_pow ha hl) (fun x => by
        rw [Nat.testBit_or, Bool.or_eq_true, hI x]
        constructor
        · rintro (⟨u, z1, z2⟩ | z)
          · exact ⟨u, by omega, z2⟩
          · exact ⟨i, by omega, z⟩
        · rintro ⟨u, z1, z2⟩
          by_cases c : u = i
          · exact Or.inr (c ▸ z2)
          · exact Or.inl ⟨u, by omega, z2⟩)
      rw [st1, st2, e] at this
      exact this
    | true =>
      obtain ⟨u, z1, z2⟩ := (hI i).mp q
      have e : ldr B i = false := by
        unfold ldr
        rw [(anyN_iff _ _).mpr ⟨u, z1, (hu u z1).mp z2⟩]
        rfl
      have es : hp B i = hp B u := hp_same (by omega) z2
      have e2 : gHp B i = gHp B u := by unfold gHp; rw [es]
      have e3 := mxN_ge (g := gHp B) z1
      rw [if_neg (fun z => by rw [bit_0 (by omega) (by omega), q] at z; cases z)]
      have := ih (i + 1) a f (by omega) (by omega) ha (fun x => by
        rw [hI x]
        constructor
        · rintro ⟨u, z1, z2⟩
          exact ⟨u, by omega, z2⟩
        · rintro ⟨w, y1, y2⟩
          by_cases c : w = i
          · rw [c, es] at y2; exact ⟨u, z1, y2⟩
          · exact ⟨w, by omega, y2⟩)
      rw [st1, st2, e, Nat.max_eq_left (by omega)] at this
      exact this
theorem hpR {B : Bd} {M : Mem} (hw : wfB B) (hb : brdR B M) (v1 : Int32) : ∀ (k i fuel : Nat), i + k = bn B → k < fuel →
    f_X12_heaps_b23 fuel v1 (nI (cntN (ldr B) i)) (nI (mxN (gHp B) i)) (nI i) M = some (hpA B v1, M) := by
  have hn := hw.2.2.1
  have h8 := p8 hn
  intro k
  induction k with
  | zero =>
    intro i fuel hi hf
    obtain ⟨f, rfl⟩ : ∃ f, fuel = f + 1 := ⟨fuel - 1, by omega⟩
    obtain rfl : i = bn B := by omega
    unfold f_X12_heaps_b23 hpA
    rw [hb.1, if_pos (nI_le (by omega) (by omega))]
    by_cases c : v1 = 0
    · rw [if_pos c, if_pos c]
    · rw [if_neg c, if_neg c]
  | succ k ih =>
    intro i fuel hi hf
    obtain ⟨f, rfl⟩ : ∃ f, fuel = f + 1 := ⟨fuel - 1, by omega⟩
    have hi' : i < bn B := by omega
    have hl := hp_lt hi'
    have hm := mxN_le (g := gHp B) (m := 12) (fun u => pc_le _) i
    have hg : gHp B i ≤ 12 := pc_le _
    have h2i : 2 ^ i ≤ 2 ^ bn B := Nat.pow_le_pow_right (by decide) (by omega)
    have h1i : 1 ≤ 2 ^ i := Nat.one_le_two_pow
    have st1 : cntN (ldr B) (i + 1) = cntN (ldr B) i + (ldr B i).toNat := rfl
    have st2 : mxN (gHp B) (i + 1) = max (mxN (gHp B) i) (gHp B i) := rfl
    have eL : (hp B i &&& (2 ^ i - 1) = 0) ↔ ldr B i = true := by
      unfold ldr
      rw [Bool.not_eq_true']
      constructor
      · intro z
        cases y : anyN (fun u => (hp B i).testBit u) i
        · rfl
        · obtain ⟨u, y1, y2⟩ := (anyN_iff _ _).mp y
          have := congrArg (fun x => x.testBit u) z
          simp only [Nat.testBit_and, Nat.testBit_two_pow_sub_one, Nat.zero_testBit] at this
          rw [y2, decide_eq_true y1] at this
          cases this
      · intro z
        apply Nat.eq_of_testBit_eq
        intro u
        rw [Nat.testBit_and, Nat.testBit_two_pow_sub_one, Nat.zero_testBit]
        cases y : (hp B i).testBit u
        · rfl
        · by_cases c : u < i
          · have := (anyN_iff (fun u => (hp B i).testBit u) i).mpr ⟨u, c, y⟩
            rw [z] at this; cases this
          · rw [decide_eq_false c]; rfl
    have hle : hp B i &&& (2 ^ i - 1) ≤ 2 ^ i - 1 := Nat.and_le_right
    unfold f_X12_heaps_b23 f_X12_heaps_b58
    rw [hb.1, if_neg (nI_ge (by omega) (by omega)), heapR hw hb hi', Option.bind_some, bitsR (by omega), Option.bind_some, Option.bind_some, jshl_1 (by omega), show nI (2 ^ i) - 1 = nI (2 ^ i - 1) from sub_one_nI (k := 1) h1i, fa_and, nI_1]
    have e1 : nI (cntN (ldr B) i) + (if nI (hp B i &&& (2 ^ i - 1)) = 0 then (1 : Int32) else 0) = nI (cntN (ldr B) (i + 1)) := by
      rw [st1]
      by_cases c : hp B i &&& (2 ^ i - 1) = 0
      · rw [c, eL.mp c, if_pos (show nI 0 = 0 from rfl)]; exact nI_add _ 1
      · rw [if_neg (show ¬ nI (hp B i &&& (2 ^ i - 1)) = 0 from fun z => c (nI_e (b := 0) (by omega) (by decide) z))]
        have : ldr B i = false := by
          cases z : ldr B i
          · rfl
          · exact absurd (eL.mpr z) c
        rw [this]; exact nI_add _ 0
    rw [e1]
    have := ih (i + 1) f (by omega) (by omega)
    rw [st2] at this
    show (if nI (gHp B i) ≤ _ then _ else f_X12_heaps_b23 f v1 _ (nI (gHp B i)) _ M) = _
    by_cases c : gHp B i ≤ mxN (gHp B) i
    · rw [Nat.max_eq_left c] at this
      rw [if_pos (nI_le c (by omega))]; exact this
    · rw [Nat.max_eq_right (by omega)] at this
      rw [if_neg (nI_ge (by omega) (by omega))]; exact this
theorem sim_heaps {MC MR : Mem} (h : Inv MC MR) (a : Int32) : Sim (f_X11_heaps a MC) (f_X12_heaps a MR) := by
  obtain ⟨B, im, S, lt, rw', hw, hC, hR, hf⟩ := id h
  have hn := hw.1.2.2.1
  unfold f_X11_heaps f_X12_heaps
  simp only [bind_bp]
  have go : Sim (f_X2_allHeaps a MC) (f_X12_heaps_b23 FU a 0 0 0 MR) := by
    have e2 : f_X12_heaps_b23 FU a 0 0 0 MR = some (hpA B a, MR) := hpR hw.1 hR.1 a (bn B) 0 FU (by omega) (FU_big (by omega))
    rw [e2]
    refine Sim.q h (hpA B a) (ok2_mk ?_) ⟨_, _, rfl, rfl, agR.rf⟩
    unfold f_X2_allHeaps
    refine ok_bind (open_ok hw.1 hC.1) (fun M1 ⟨h1, f1⟩ => ?_)
    exact ok_eq (hpC hw.1 h1.1 h1.2.1 a (bn B) 0 0 FU (by omega) (FU_big (by omega)) (Nat.two_pow_pos _) (fun e => ⟨(fun q => by rw [Nat.zero_testBit] at q; cases q), (fun ⟨u, q, _⟩ => absurd q (Nat.not_lt_zero u))⟩)) ⟨rfl, f1.q (by decide)⟩
  rcases either a with ⟨e1, e2⟩ | ⟨e1, e2, -⟩ | ⟨e1, e2, -⟩
  · rw [e1, e2, if_pos p00, if_pos p00]; exact Sim.no2 h
  · rw [e1, e2, if_neg n10, if_neg n10]; exact go
  · rw [e1, e2, if_neg n10, if_neg n10]; exact go
/-! inspectors -/
theorem bound1 (v : Int32) (m : Nat) (hm : m < 2 ^ 31) : (¬ 1 ≤ v ∧ f_X12_bound v 1 (nI m) = -4) ∨ (∃ d, d < 2 ^ 31 ∧ m < d ∧ 1 ≤ d ∧ v = nI d ∧ f_X12_bound v 1 (nI m) = -6) ∨ (∃ d, d ≤ m ∧ 1 ≤ d ∧ v = nI d ∧ f_X12_bound v 1 (nI m) = 0) := by
  unfold f_X12_bound
  rcases i_cases v with h | ⟨d, h, rfl⟩
  · left
    have z : ¬ 1 ≤ v := i_neg_nle h (n := 1) (by decide)
    rw [if_neg z]
    exact ⟨z, rfl⟩
  · by_cases c0 : d = 0
    · subst c0; left; exact ⟨by decide, by rw [if_neg (by decide)]⟩
    · right
      rw [if_pos (show 1 ≤ nI d from nI_le (a := 1) (by omega) h)]
      by_cases c : d ≤ m
      · right; rw [if_pos (nI_le c hm)]; exact ⟨d, c, by omega, rfl, rfl⟩
      · left; rw [if_neg (fun q => c ((nI_leI h hm).mp q))]; exact ⟨d, h, by omega, by omega, rfl, rfl⟩
def xs (n v j : Nat) : Nat := (j * v) % n
def ctF (B : Bd) (v j : Nat) : Bool := anyN (fun i => sm B (xs (bn B) v i) (xs (bn B) v j)) j
theorem rmI_n {a n : Nat} (ha : a < 2 ^ 31) (h0 : 0 < n) (hn : n < 2 ^ 31) : rmI (nI a) (nI n) = some (nI (a % n)) := by
  unfold rmI
  rw [if_neg (show ¬ nI n = 0 from fun q => absurd (nI_e (b := 0) hn (by decide) q) (by omega))]
  exact congrArg some (nI_rm ha h0 hn)
theorem insC {B : Bd} {M : Mem} {v : Nat} (hw : wfB B) (hb : brdC 1 B M) (h : RA B M) (hv : v ≤ 9) (h0 : 0 < bn B) : ∀ (k i a fuel : Nat), i + k = bn B + 1 → k < fuel → a < 2 ^ bn B → (∀ e, a.testBit e = true ↔ ∃ u, u < i ∧ xs (bn B) v u = e) →
    f_X2_firstCaught_b14 fuel (nI v) (nI a) (nI (xs (bn B) v i)) (nI (i + 1)) M = some (chF (ctF B v) i k, M) := by
  have hn := hw.2.2.1
  have h8 := p8 hn
  intro k
  induction k with
  | zero =>
    intro i a fuel hi hf ha hI
    obtain ⟨f, rfl⟩ : ∃ f, fuel = f + 1 := ⟨fuel - 1, by omega⟩
    unfold f_X2_firstCaught_b14
    rw [hb.1, nI_1, if_pos (nI_lt (by omega) (by omega))]
    rfl
  | succ k ih =>
    intro i a fuel hi hf ha hI
    obtain ⟨f, rfl⟩ : ∃ f, fuel = f + 1 := ⟨fuel - 1, by omega⟩
    have hx : xs (bn B) v i < bn B := Nat.mod_lt _ h0
    have hx2 : (xs (bn B) v i + v) % bn B = xs (bn B) v (i + 1) := by
      unfold xs
      rw [Nat.mod_add_mod, Nat.succ_mul]
    have ham := aM_lt hw (xs (bn B) v i)
    have hle : aM B (xs (bn B) v i) &&& a ≤ a := Nat.and_le_right
    unfold f_X2_firstCaught_b14
    rw [hb.1, nI_1, if_neg (fun q => absurd ((nI_ltI (by omega) (by omega)).mp q) (by omega)), if_neg (show ¬ nI (bn B) ≤ 0 from fun q => absurd ((nI_leI (b := 0) (by omega) (by decide)).mp q) (by omega)), ldA hw h hx, Option.bind_some, fa_and, nI_add, rmI_n (by omega) h0 (by omega), Option.bind_some, jshl_1 (by omega), fa_or, hx2]
    show _ = some (if ctF B v i = true then nI (i + 1) else chF (ctF B v) (i + 1) k, M)
    have key : (aM B (xs (bn B) v i) &&& a = 0) ↔ ¬ ctF B v i = true := by
      unfold ctF
      rw [anyN_iff]
      constructor
      · rintro z ⟨u, y1, y2⟩
        have := congrArg (fun x => x.testBit (xs (bn B) v u)) z
        simp only [Nat.testBit_and, Nat.zero_testBit, aM_tb] at this
        rw [(hI _).mpr ⟨u, y1, rfl⟩, decide_eq_true (show xs (bn B) v u < bn B from Nat.mod_lt _ h0), sm_symm, y2] at this
        cases this
      · intro z
        apply Nat.eq_of_testBit_eq
        intro e
        rw [Nat.testBit_and, Nat.zero_testBit, aM_tb]
        cases y : a.testBit e
        · rw [Bool.and_false]
        · obtain ⟨u, y1, y2⟩ := (hI e).mp y
          cases y3 : sm B (xs (bn B) v i) e
          · rw [Bool.and_false]; rfl
          · exact absurd ⟨u, y1, by rw [y2, sm_symm]; exact y3⟩ z
    by_cases c : ctF B v i = true
    · rw [if_pos c, if_neg (show ¬ nI (aM B (xs (bn B) v i) &&& a) = 0 from fun q => absurd c (key.mp (nI_e (b := 0) (by omega) (by decide) q)))]
    · rw [if_neg c, key.mpr c, if_pos (show nI 0 = 0 from rfl), nI_1]
      refine ih (i + 1) _ f (by omega) (by omega) (Nat.or_lt_two_pow ha (Nat.pow_lt_pow_right (by decide) hx)) (fun e => ?_)
      rw [tb_or, hI e]
      constructor
      · rintro (⟨u, z1, z2⟩ | z)
        · exact ⟨u, by omega, z2⟩
        · exact ⟨i, by omega, z.symm⟩
      · rintro ⟨u, z1, z2⟩
        by_cases c2 : u = i
        · rw [c2] at z2; exact Or.inr z2.symm
        · exact Or.inl ⟨u, by omega, z2⟩
theorem insR_in {B : Bd} {M : Mem} {v j : Nat} (hw : wfB B) (hb : brdR B M) (hv : v ≤ 9) (h0 : 0 < bn B) (hj : j < 20) (kont : Int32 → Int32 → Mem → Option (Int32 × Mem)) : ∀ (k i fuel : Nat), i + k = j → k < fuel → (∀ u, u < i → sm B (xs (bn B) v u) (xs (bn B) v j) = false) →
    f_X12_inspectors_b39 kont fuel (nI v) (nI (j + 1)) (nI (i + 1)) M = if ctF B v j = true then some (nI (j + 1), M) else kont (nI v) (nI (j + 2)) M := by
  have hn := hw.2.2.1
  intro k
  induction k with
  | zero =>
    intro i fuel hi hf hI
    obtain ⟨f, rfl⟩ : ∃ f, fuel = f + 1 := ⟨fuel - 1, by omega⟩
    obtain rfl : i = j := by omega
    unfold f_X12_inspectors_b39
    rw [if_pos (nI_le (by omega) (by omega)), nI_1, if_neg]
    intro q
    obtain ⟨u, y1, y2⟩ := (anyN_iff _ _).mp q
    rw [hI u y1] at y2
    cases y2
  | succ k ih =>
    intro i fuel hi hf hI
    obtain ⟨f, rfl⟩ : ∃ f, fuel = f + 1 := ⟨fuel - 1, by omega⟩
    have m1 : i * v ≤ 20 * 9 := Nat.mul_le_mul (by omega) hv
    have m2 : j * v ≤ 20 * 9 := Nat.mul_le_mul (by omega) hv
    have e1 : nI (i + 1) - 1 = nI i := (sub_one_nI (k := 1) (by omega)).trans (by rw [Nat.add_sub_cancel])
    have e2 : nI (j + 1) - 1 = nI j := (sub_one_nI (k := 1) (by omega)).trans (by rw [Nat.add_sub_cancel])
    unfold f_X12_inspectors_b39
    rw [if_neg (nI_ge (by omega) (by omega)), e1, e2, pk_mul, pk_mul, hb.1, rmI_n (by omega) h0 (by omega), Option.bind_some, rmI_n (by omega) h0 (by omega), Option.bind_some, areSameR hb hw (Nat.mod_lt _ h0) (Nat.mod_lt _ h0), Option.bind_some, nI_1]
    show (if bI (sm B (xs (bn B) v i) (xs (bn B) v j)) = 0 then _ else _) = _
    cases q : sm B (xs (bn B) v i) (xs (bn B) v j) with
    | false =>
      rw [if_pos (show bI false = 0 from rfl)]
      refine ih (i + 1) f (by omega) (by omega) (fun u hu => ?_)
      by_cases c : u = i
      · rw [c]; exact q
      · exact hI u (by omega)
    | true =>
      rw [if_neg (show ¬ bI true = 0 from n10), if_pos (show ctF B v j = true from (anyN_iff _ _).mpr ⟨i, by omega, q⟩)]
theorem insR {B : Bd} {M : Mem} {v : Nat} (hw : wfB B) (hb : brdR B M) (hv : v ≤ 9) (h0 : 0 < bn B) : ∀ (k j fuel : Nat), j + k = 19 → k < fuel →
    f_X12_inspectors_b30 fuel (nI v) (nI (j + 1)) M = some (chF (ctF B v) j k, M) := by
  intro k
  induction k with
  | zero =>
    intro j fuel hi hf
    obtain ⟨f, rfl⟩ : ∃ f, fuel = f + 1 := ⟨fuel - 1, by omega⟩
    obtain rfl : j = 19 := by omega
    unfold f_X12_inspectors_b30
    rw [if_pos (by decide)]
    rfl
  | succ k ih =>
    intro j fuel hi hf
    obtain ⟨f, rfl⟩ : ∃ f, fuel = f + 1 := ⟨fuel - 1, by omega⟩
    unfold f_X12_inspectors_b30
    rw [l_20, if_neg (nI_ge (by omega) (by omega))]
    refine (insR_in hw hb hv h0 (by omega) _ j 0 FU (by omega) (FU_big (by omega)) (fun u hu => by omega)).trans ?_
    show _ = some (if ctF B v j = true then nI (j + 1) else chF (ctF B v) (j + 1) k, M)
    by_cases c : ctF B v j = true
    · rw [if_pos c, if_pos c]
    · rw [if_neg c, if_neg c]; exact ih (j + 1) f (by omega) (by omega)
theorem sim_inspectors {MC MR : Mem} (h : Inv MC MR) (a : Int32) : Sim (f_X11_inspectors a MC) (f_X12_inspectors a MR) := by
  obtain ⟨B, im, S, lt, rw', hw, hC, hR, hf⟩ := id h
  have hn := hw.1.2.2.1
  unfold f_X11_inspectors f_X12_inspectors
  simp only [bind_bp]
  rcases bound1 a 9 (by decide) with ⟨h0, e⟩ | ⟨d, hd, hm, h1, rfl, e⟩ | ⟨d, hd, h1, rfl, e⟩
  · rw [show f_X12_bound a 1 9 = -4 from e, if_neg h0, if_neg (show ¬ (-4 : Int32) = 0 by decide)]; exact Sim.no4 h
  · rw [show f_X12_bound (nI d) 1 9 = -6 from e, if_pos (show 1 ≤ nI d from nI_le (a := 1) h1 hd), if_neg (show ¬ nI d ≤ 9 from nI_ge (a := 9) hm hd), if_neg (show ¬ (-6 : Int32) = 0 by decide)]; exact Sim.no6 h
  rw [show f_X12_bound (nI d) 1 9 = 0 from e, if_pos (show 1 ≤ nI d from nI_le (a := 1) h1 (by omega)), if_pos (show nI d ≤ 9 from nI_le (b := 9) hd (by decide)), if_pos p00, hR.1.1]
  unfold f_X2_firstCaught
  by_cases c : bn B = 0
  · rw [c, if_pos (show nI 0 = 0 from rfl)]
    refine Sim.q h (-9) (ok2_mk ?_) ⟨_, _, rfl, rfl, agR.rf⟩
    refine ok_bind (open_ok hw.1 hC.1) (fun M1 ⟨h1', f1⟩ => ?_)
    obtain ⟨f, hf'⟩ : ∃ f, FU = f + 1 := ⟨FU - 1, by have := FU_big (k := 0) (by decide); omega⟩
    rw [hf']
    unfold f_X2_firstCaught_b14
    rw [h1'.1.1, c]
    refine ok_neg (by decide) (ok_pos (by decide) (ok_some ⟨rfl, f1.q (by decide)⟩))
  · rw [if_neg (show ¬ nI (bn B) = 0 from fun q => c (nI_e (b := 0) (by omega) (by decide) q))]
    have h0 : 0 < bn B := by omega
    have e1 : f_X12_inspectors_b30 FU (nI d) 2 MR = some (chF (ctF B d) 1 18, MR) := insR hw.1 hR.1 hd h0 18 1 FU (by omega) (FU_big (by omega))
    have e2 : chF (ctF B d) 1 18 = chF (ctF B d) 0 19 := by
      show _ = if ctF B d 0 = true then nI (0 + 1) else chF (ctF B d) (0 + 1) 18
      rw [if_neg (show ¬ ctF B d 0 = true from fun q => by cases q)]
    have e3 : chF (ctF B d) 0 19 = chF (ctF B d) 0 (bn B + 1) := by
      have := chF_add (f := ctF B d) (b := 18 - bn B) (bn B + 1) 0 (fun k hk q => ⟨bn B, by omega, by omega, by
        refine (anyN_iff _ _).mpr ⟨0, h0, ?_⟩
        unfold xs
        rw [Nat.mul_mod_right, Nat.zero_mul, Nat.zero_mod]
        exact sm_self B 0⟩)
      rw [show bn B + 1 + (18 - bn B) = 19 by omega] at this
      exact this
    rw [e1, e2, e3]
    refine Sim.q h (chF (ctF B d) 0 (bn B + 1)) (ok2_mk ?_) ⟨_, _, rfl, rfl, agR.rf⟩
    refine ok_bind (open_ok hw.1 hC.1) (fun M1 ⟨h1', f1⟩ => ?_)
    have x0 : xs (bn B) d 0 = 0 := by unfold xs; rw [Nat.zero_mul, Nat.zero_mod]
    have := insC hw.1 h1'.1 h1'.2.1 hd h0 (bn B + 1) 0 0 FU (by omega) (FU_big (by omega)) (Nat.two_pow_pos _) (fun e => ⟨(fun q => by rw [Nat.zero_testBit] at q; cases q), (fun ⟨u, q, _⟩ => absurd q (Nat.not_lt_zero u))⟩)
    rw [x0] at this
    exact ok_eq this ⟨rfl, f1.q (by decide)⟩
