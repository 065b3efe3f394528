/-! order: the least due for the rest of a set -/
def mnF (p : Nat → Bool) (g : Nat → Nat) (T : Nat) : Nat → Nat
  | 0 => T
  | k + 1 => if p k = true then min (mnF p g T k) (g k) else mnF p g T k
theorem mnF_cong {p q : Nat → Bool} {g h : Nat → Nat} {T : Nat} : ∀ n, (∀ k, k < n → p k = q k) → (∀ k, k < n → p k = true → g k = h k) → mnF p g T n = mnF q h T n := by
  intro n
  induction n with
  | zero => intro _ _; rfl
  | succ n ih =>
    intro h1 h2
    show (if p n = true then min (mnF p g T n) (g n) else mnF p g T n) = (if q n = true then min (mnF q h T n) (h n) else mnF q h T n)
    rw [ih (fun k hk => h1 k (by omega)) (fun k hk => h2 k (by omega)), ← h1 n (by omega)]
    by_cases c : p n = true
    · rw [if_pos c, if_pos c, h2 n (by omega) c]
    · rw [if_neg c, if_neg c]
theorem mnF_le {p : Nat → Bool} {g : Nat → Nat} {T k : Nat} (hp : p k = true) : ∀ n, k < n → mnF p g T n ≤ g k := by
  intro n
  induction n with
  | zero => intro h; omega
  | succ n ih =>
    intro h
    show (if p n = true then min (mnF p g T n) (g n) else mnF p g T n) ≤ _
    by_cases c : k = n
    · subst c; rw [if_pos hp]; exact Nat.min_le_right _ _
    · have := ih (by omega)
      split
      · exact Nat.le_trans (Nat.min_le_left _ _) this
      · exact this
theorem mnF_leT (p : Nat → Bool) (g : Nat → Nat) (T : Nat) : ∀ n, mnF p g T n ≤ T := by
  intro n
  induction n with
  | zero => exact Nat.le_refl _
  | succ n ih =>
    show (if p n = true then min (mnF p g T n) (g n) else mnF p g T n) ≤ _
    split
    · exact Nat.le_trans (Nat.min_le_left _ _) ih
    · exact ih
theorem mnF_T {p : Nat → Bool} {g : Nat → Nat} {T1 T2 : Nat} (hT : T1 ≤ T2) : ∀ n, mnF p g T1 n = min T1 (mnF p g T2 n) := by
  intro n
  induction n with
  | zero => show T1 = min T1 T2; omega
  | succ n ih =>
    show (if p n = true then min (mnF p g T1 n) (g n) else mnF p g T1 n) = min T1 (if p n = true then min (mnF p g T2 n) (g n) else mnF p g T2 n)
    rw [ih]
    split
    · omega
    · rfl
theorem mnF_TT {p : Nat → Bool} {g : Nat → Nat} {T1 T2 k n : Nat} (hT : T1 ≤ T2) (hk : k < n) (hp : p k = true) (hg : g k ≤ T1) : mnF p g T2 n = mnF p g T1 n := by
  have h1 := mnF_T (p := p) (g := g) hT n
  have h2 := mnF_le (g := g) (T := T2) hp n hk
  omega
theorem mnF_at {p : Nat → Bool} {g : Nat → Nat} {T : Nat} : ∀ n, mnF p g T n < T → ∃ k, k < n ∧ p k = true ∧ g k = mnF p g T n := by
  intro n
  induction n with
  | zero => intro h; exact absurd h (Nat.lt_irrefl _)
  | succ n ih =>
    have st : mnF p g T (n + 1) = (if p n = true then min (mnF p g T n) (g n) else mnF p g T n) := rfl
    intro h
    rw [st] at h ⊢
    by_cases c : p n = true
    · rw [if_pos c] at h ⊢
      by_cases c2 : g n ≤ mnF p g T n
      · exact ⟨n, by omega, c, by omega⟩
      · obtain ⟨k, h1, h2, h3⟩ := ih (by omega)
        exact ⟨k, by omega, h2, by omega⟩
    · rw [if_neg c] at h ⊢
      obtain ⟨k, h1, h2, h3⟩ := ih h
      exact ⟨k, by omega, h2, h3⟩
/-! sets below 256 -/
theorem eq8 {a b : Nat} (ha : a < 256) (hb : b < 256) (h : ∀ i, i < 8 → a.testBit i = b.testBit i) : a = b := by
  apply Nat.eq_of_testBit_eq
  intro i
  by_cases c : i < 8
  · exact h i c
  · rw [Nat.testBit_lt_two_pow (Nat.lt_of_lt_of_le ha (Nat.pow_le_pow_right (n := 2) (i := 8) (by decide) (by omega))), Nat.testBit_lt_two_pow (Nat.lt_of_lt_of_le hb (Nat.pow_le_pow_right (n := 2) (i := 8) (by decide) (by omega)))]
theorem anot_b {a b i : Nat} (hi : i < 8) : (anot a b).testBit i = (a.testBit i && !b.testBit i) := anot_tb a b i (by omega)
theorem anot_256 {a b : Nat} (ha : a < 256) : anot a b < 256 := Nat.lt_of_le_of_lt (anot_le a b) ha
def subS (t s : Nat) : Prop := ∀ i, i < 8 → t.testBit i = true → s.testBit i = true
theorem sub_iff {t s : Nat} (ht : t < 256) : anot t s = 0 ↔ subS t s := by
  constructor
  · intro h i hi h1
    have := congrArg (fun x => x.testBit i) h
    simp only [anot_b hi, Nat.zero_testBit, h1, Bool.true_and] at this
    simpa using this
  · intro h
    refine eq8 (anot_256 ht) (by decide) (fun i hi => ?_)
    rw [anot_b hi, Nat.zero_testBit]
    cases q : t.testBit i
    · rfl
    · rw [h i hi q]; rfl
theorem anot_sub {a b : Nat} : subS (anot a b) a := fun i hi h => by
  rw [anot_b hi, Bool.and_eq_true] at h
  exact h.1
theorem anot_anot {s t : Nat} (hs : s < 256) (ht : t < 256) (h : subS t s) : anot s (anot s t) = t := by
  refine eq8 (anot_256 hs) ht (fun i hi => ?_)
  rw [anot_b hi, anot_b hi]
  cases q : t.testBit i
  · cases s.testBit i <;> rfl
  · rw [h i hi q]; rfl
theorem anot_or {s t d : Nat} (hs : s < 256) (hd : d < 8) : anot (anot s t) (2 ^ d) = anot s (t ||| 2 ^ d) := by
  refine eq8 (anot_256 (anot_256 hs)) (anot_256 hs) (fun i hi => ?_)
  rw [anot_b hi, anot_b hi, anot_b hi, Nat.testBit_or, Nat.testBit_two_pow]
  cases s.testBit i <;> cases t.testBit i <;> cases decide (d = i) <;> rfl
theorem anot_lt1 {v d : Nat} (hv : v < 256) (hd : v.testBit d = true) (h8 : d < 8) : anot v (2 ^ d) < v := by
  refine anot_lt hv (Nat.pow_pos (by decide)) ?_
  have h2 : (2 : Nat) ^ d ≤ 2 ^ 7 := Nat.pow_le_pow_right (by decide) (by omega)
  have h3 : 2 ^ d &&& v ≤ 2 ^ d := Nat.and_le_left
  refine eq8 (by omega) (by omega) (fun i hi => ?_)
  rw [Nat.testBit_and, Nat.testBit_two_pow]
  by_cases c : d = i
  · rw [← c, hd, Bool.and_true]
  · rw [decide_eq_false c]; rfl
theorem or_gt {v d : Nat} (hv : v < 256) (hd : v.testBit d = false) (h8 : d < 8) : v < v ||| 2 ^ d := by
  have h1 : v ≤ v ||| 2 ^ d := Nat.left_le_or
  rcases Nat.lt_or_ge v (v ||| 2 ^ d) with c | c
  · exact c
  · exfalso
    have e : v ||| 2 ^ d = v := Nat.le_antisymm c h1
    have := congrArg (fun x => x.testBit d) e
    simp only [Nat.testBit_or, Nat.testBit_two_pow_self, Bool.or_true, hd] at this
    cases this
theorem has_bit {v : Nat} (hv : v < 256) (h : v ≠ 0) : ∃ d, d < 8 ∧ v.testBit d = true := by
  refine Classical.byContradiction (fun q => h (eq8 hv (by decide) (fun i hi => ?_)))
  rw [Nat.zero_testBit]
  cases z : v.testBit i
  · rfl
  · exact absurd ⟨i, hi, z⟩ q
theorem cntN_one {p q : Nat → Bool} {d : Nat} (h1 : p d = true) (h2 : q d = false) : ∀ n, (∀ k, k < n → k ≠ d → q k = p k) → d < n → cntN q n + 1 = cntN p n := by
  intro n
  induction n with
  | zero => intro _ h; omega
  | succ n ih =>
    intro hne h
    show cntN q n + (q n).toNat + 1 = cntN p n + (p n).toNat
    by_cases c : d = n
    · subst c
      rw [h1, h2, cntN_cong d (fun k hk => hne k (by omega) (by omega))]
      rfl
    · rw [hne n (by omega) (fun z => c z.symm), ← ih (fun k hk => hne k (by omega)) (by omega)]
      omega
theorem pc_one {v d : Nat} (hd : v.testBit d = true) (h8 : d < 8) : pc (anot v (2 ^ d)) + 1 = pc v := by
  unfold pc
  rw [pcn_cnt, pcn_cnt]
  refine cntN_one (d := d) hd ?_ 12 (fun k hk1 hk => ?_) (by omega)
  · rw [anot_b h8, Nat.testBit_two_pow_self, Bool.not_true, Bool.and_false]
  · rw [anot_tb _ _ _ (by omega), Nat.testBit_two_pow, decide_eq_false (fun z => hk z.symm), Bool.not_false, Bool.and_true]
theorem pc_n {v n : Nat} (hv : v < 2 ^ n) (hn : n ≤ 8) : pc v ≤ n := by
  unfold pc
  have : pcn (n + (12 - n)) v = pcn n v := pcn_hi hv
  rw [show n + (12 - n) = 12 by omega] at this
  rw [this]
  exact pcn_le n v
theorem pc_0 : pc 0 = 0 := by decide
theorem pc_ne {v : Nat} (hv : v < 256) (h : v ≠ 0) : 0 < pc v := by
  obtain ⟨d, hd, hb⟩ := has_bit hv h
  have := pc_one hb hd
  omega
/-- what is due for d behind the log and those that are done -/
def dB (B : Bd) (done d : Nat) : Nat := due B d (cnt B B.2.2 d + cntN (fun k => done.testBit k && sm B k d) (bn B))
theorem dB_le {B : Bd} (hw : wfB B) (done d : Nat) : dB B done d ≤ 500 := by
  have h1 := cnt_le B B.2.2 d
  have h2 := cntN_le (fun k => done.testBit k && sm B k d) (bn B)
  have h3 := due_le hw d (r := cnt B B.2.2 d + cntN (fun k => done.testBit k && sm B k d) (bn B))
  have h4 : B.2.2.length ≤ 12 := hw.2.2.2.1
  have h5 := hw.2.2.1
  unfold dB
  omega
def ldT (B : Bd) (s : Nat) : Nat → Nat → Nat
  | 0 => fun _ => 0
  | v + 1 => fun t => if t = v then (if v = 0 then 0 else mnF (fun d => v.testBit d) (fun d => dB B (anot s v) d + ldT B s v (anot v (2 ^ d))) 1000000 (bn B)) else ldT B s v t
def LD (B : Bd) (s t : Nat) : Nat := ldT B s (t + 1) t
theorem ldT_st (B : Bd) (s t : Nat) : ∀ v, t < v → ldT B s v t = LD B s t := by
  intro v
  induction v with
  | zero => intro h; omega
  | succ v ih =>
    intro h
    by_cases c : t = v
    · subst c; rfl
    · show (if t = v then _ else ldT B s v t) = _
      rw [if_neg c]
      exact ih (by omega)
theorem LD_0 (B : Bd) (s : Nat) : LD B s 0 = 0 := rfl
def gLD (B : Bd) (s t d : Nat) : Nat := dB B (anot s t) d + LD B s (anot t (2 ^ d))
theorem LD_eq {B : Bd} {s t : Nat} (hw : wfB B) (ht : t < 256) (h0 : t ≠ 0) : LD B s t = mnF (fun d => t.testBit d) (gLD B s t) 1000000 (bn B) := by
  show (if t = t then (if t = 0 then 0 else mnF (fun d => t.testBit d) (fun d => dB B (anot s t) d + ldT B s t (anot t (2 ^ d))) 1000000 (bn B)) else ldT B s t t) = _
  rw [if_pos rfl, if_neg h0]
  have hn := hw.2.2.1
  refine mnF_cong _ (fun _ _ => rfl) (fun k hk hb => ?_)
  unfold gLD
  rw [ldT_st B s _ t (anot_lt1 ht hb (by omega))]
theorem LD_le {B : Bd} {s : Nat} (hw : wfB B) : ∀ (v t : Nat), t ≤ v → t < 2 ^ bn B → LD B s t ≤ 500 * t := by
  have hn := hw.2.2.1
  have h8 := p8 hn
  intro v
  induction v with
  | zero =>
    intro t h _
    obtain rfl : t = 0 := by omega
    exact Nat.le_refl 0
  | succ v ih =>
    intro t h ht
    by_cases c : t = 0
    · subst c; exact Nat.le_refl 0
    · obtain ⟨d, hd, hb⟩ := has_bit (v := t) (by omega) c
      have hdn := tb_lt ht hb
      have hl := anot_lt1 (v := t) (by omega) hb hd
      have h1 := ih (anot t (2 ^ d)) (by omega) (by omega)
      have h2 := dB_le hw (anot s t) d
      rw [LD_eq hw (by omega) c]
      refine Nat.le_trans (mnF_le (k := d) hb _ hdn) ?_
      unfold gLD
      omega
theorem gLD_le {B : Bd} {s t d : Nat} (hw : wfB B) (ht : t < 2 ^ bn B) (hb : t.testBit d = true) : gLD B s t d ≤ 500 * t := by
  have hn := hw.2.2.1
  have h8 := p8 hn
  have hdn := tb_lt ht hb
  have hl := anot_lt1 (v := t) (by omega) hb (by omega)
  have h1 := LD_le (s := s) hw _ (anot t (2 ^ d)) (Nat.le_refl _) (by omega)
  have h2 := dB_le hw (anot s t) d
  unfold gLD
  omega
theorem LD_at {B : Bd} {s t : Nat} (hw : wfB B) (ht : t < 2 ^ bn B) (h0 : t ≠ 0) : ∃ d, d < bn B ∧ t.testBit d = true ∧ gLD B s t d = LD B s t := by
  have hn := hw.2.2.1
  have h8 := p8 hn
  have h1 := LD_le (s := s) hw _ t (Nat.le_refl _) ht
  rw [LD_eq hw (by omega) h0] at h1 ⊢
  exact mnF_at (p := fun d => t.testBit d) _ (by omega)
/-- the first of the best ways -/
def foP (B : Bd) (s t d : Nat) : Bool := t.testBit d && decide (gLD B s t d = LD B s t)
def foK (P : Nat → Bool) : Nat → Nat → Nat
  | 0, d => d
  | k + 1, d => if P d = true then d else foK P k (d + 1)
def FO (B : Bd) (s t : Nat) : Nat := foK (foP B s t) (bn B) 0
theorem foK_at {P : Nat → Bool} : ∀ (k d : Nat), (∃ x, d ≤ x ∧ x < d + k ∧ P x = true) → foK P k d < d + k ∧ P (foK P k d) = true := by
  intro k
  induction k with
  | zero => intro d h; obtain ⟨x, h1, h2, -⟩ := h; omega
  | succ k ih =>
    intro d h
    obtain ⟨x, h1, h2, h3⟩ := h
    show (if P d = true then d else foK P k (d + 1)) < _ ∧ P (if P d = true then d else foK P k (d + 1)) = true
    by_cases c : P d = true
    · rw [if_pos c]; exact ⟨by omega, c⟩
    · rw [if_neg c]
      have := ih (d + 1) ⟨x, by
        rcases Nat.lt_or_ge d x with z | z
        · exact z
        · obtain rfl : x = d := by omega
          exact absurd h3 c, by omega, h3⟩
      exact ⟨by omega, this.2⟩
theorem FO_ok {B : Bd} {s t : Nat} (hw : wfB B) (ht : t < 2 ^ bn B) (h0 : t ≠ 0) : FO B s t < bn B ∧ t.testBit (FO B s t) = true := by
  obtain ⟨d, h1, h2, h3⟩ := LD_at (s := s) hw ht h0
  have := foK_at (P := foP B s t) (bn B) 0 ⟨d, Nat.zero_le _, by omega, by unfold foP; rw [h2, decide_eq_true h3]; rfl⟩
  have h4 : foP B s t (FO B s t) = true := this.2
  unfold foP at h4
  rw [Bool.and_eq_true] at h4
  exact ⟨by have := this.1; unfold FO; omega, h4.1⟩
def lf (B : Bd) (s : Nat) : Nat → Nat
  | 0 => s
  | k + 1 => anot (lf B s k) (2 ^ FO B s (lf B s k))
theorem lf_ok {B : Bd} {s : Nat} (hw : wfB B) (hs : s < 2 ^ bn B) : ∀ k, k ≤ pc s → lf B s k < 2 ^ bn B ∧ pc (lf B s k) + k = pc s ∧ subS (lf B s k) s := by
  have hn := hw.2.2.1
  have h8 := p8 hn
  intro k
  induction k with
  | zero => intro _; exact ⟨hs, rfl, fun _ _ h => h⟩
  | succ k ih =>
    intro hk
    obtain ⟨h1, h2, h3⟩ := ih (by omega)
    have hne : lf B s k ≠ 0 := fun z => by rw [z, pc_0] at h2; omega
    obtain ⟨g1, g2⟩ := FO_ok (s := s) hw h1 hne
    have hl := anot_lt1 (v := lf B s k) (by omega) g2 (by omega)
    have hp := pc_one g2 (by omega)
    exact ⟨by show anot _ _ < _; omega, by show pc (anot _ _) + _ = _; omega, fun i hi hb => h3 i hi (anot_sub i hi hb)⟩
/-! the model -/
theorem dBR_lp {B : Bd} {M : Mem} {done d : Nat} (hw : wfB B) (hb : brdR B M) (hs : done < 256) (hd : d < bn B) : ∀ (k i fuel : Nat), i + k = bn B → k < fuel →
    f_X12_dueBehind_b13 M fuel (nI done) (nI d) (nI (cnt B B.2.2 d + cntN (fun k => done.testBit k && sm B k d) i)) (nI i) = some (nI (dB B done d)) := by
  have hn := hw.2.2.1
  have h12 : B.2.2.length ≤ 12 := hw.2.2.2.1
  have h1 := cnt_le B B.2.2 d
  intro k
  induction k with
  | zero =>
    intro i fuel hi hf
    obtain ⟨f, rfl⟩ : ∃ f, fuel = f + 1 := ⟨fuel - 1, by omega⟩
    obtain rfl : i = bn B := by omega
    have h2 := cntN_le (fun k => done.testBit k && sm B k d) (bn B)
    unfold f_X12_dueBehind_b13
    rw [hb.1, if_pos (nI_le (by omega) (by omega)), dueOfR hb hw hd (by omega)]
    rfl
  | succ k ih =>
    intro i fuel hi hf
    obtain ⟨f, rfl⟩ : ∃ f, fuel = f + 1 := ⟨fuel - 1, by omega⟩
    have st : cntN (fun k => done.testBit k && sm B k d) (i + 1) = cntN (fun k => done.testBit k && sm B k d) i + (done.testBit i && sm B i d).toNat := rfl
    have := ih (i + 1) f (by omega) (by omega)
    rw [st] at this
    unfold f_X12_dueBehind_b13
    rw [hb.1, if_neg (nI_ge (by omega) (by omega)), has_n (by omega) (by omega), nI_1]
    cases q : done.testBit i with
    | false =>
      rw [if_pos (show bI false = 0 from rfl)]
      rw [q] at this
      exact (congrArg (fun x => f_X12_dueBehind_b13 M f (nI done) (nI d) x (nI (i + 1))) (nI_add _ 0)).trans this
    | true =>
      rw [if_neg (show ¬ bI true = 0 from n10), areSameR hb hw (by omega) hd, Option.bind_some]
      rw [q] at this
      cases q2 : sm B i d with
      | false =>
        rw [q2] at this
        rw [if_pos (show bI false = 0 from rfl)]
        exact (congrArg (fun x => f_X12_dueBehind_b13 M f (nI done) (nI d) x (nI (i + 1))) (nI_add _ 0)).trans this
      | true =>
        rw [q2] at this
        rw [if_neg (show ¬ bI true = 0 from n10)]
        exact (congrArg (fun x => f_X12_dueBehind_b13 M f (nI done) (nI d) x (nI (i + 1))) (nI_add _ 1)).trans this
theorem dBR {B : Bd} {M : Mem} {done d : Nat} (hw : wfB B) (hb : brdR B M) (hs : done < 256) (hd : d < bn B) : f_X12_dueBehind (nI done) (nI d) M = some (nI (dB B done d)) := by
  unfold f_X12_dueBehind
  rw [hb.2.1, repeatsR hb hw hd (Nat.le_refl _), Option.bind_some, show B.2.2.take (bpl B) = B.2.2 from List.take_length]
  exact dBR_lp hw hb hs hd (bn B) 0 FU (by omega) (FU_big (by have := hw.2.2.1; omega))
theorem brdR.w11 {B : Bd} {M : Mem} {i : Nat} {v : Int32} (h : brdR B M) : brdR B (wI M 11 i v) := by
  unfold brdR at *
  rw [wI_other (by decide), wI_other (by decide), wI_other (by decide), wI_other (by decide), wI_other (by decide)]
  exact h
theorem agR.w11 {M : Mem} {i : Nat} {v : Int32} : agR M (wI M 11 i v) := by
  refine ⟨fun j hj => ?_, fun k hk => ?_, fun r hr => ?_, fun j hj => ?_⟩
  · unfold bv
    rw [wI_other (by decide), wI_other (by decide), wI_other (by decide), wI_other (by decide), wI_other (by decide)]
  · rw [wI_other (by decide)]
  · exact wI_other (by omega)
  · rw [wI_other (by decide)]
def LT (B : Bd) (s v : Nat) (M : Mem) : Prop := ∀ t, t < v → subS t s → M.1 11 t = nI (LD B s t)
theorem flR_in {B : Bd} {s t : Nat} {M0 : Mem} (hw : wfB B) (hs : s < 2 ^ bn B) (ht : t < 256) (hsub : subS t s) (kont : Int32 → Int32 → Mem → Option Mem) (Q : Mem → Prop) :
    ∀ (k i fuel : Nat) (M : Mem), i + k = bn B → k < fuel → brdR B M → agR M0 M → LT B s t M → M.1 11 t = nI (mnF (fun d => t.testBit d) (gLD B s t) (if t = 0 then 0 else 1000000) i) →
    (∀ M', brdR B M' → agR M0 M' → LT B s t M' → M'.1 11 t = nI (mnF (fun d => t.testBit d) (gLD B s t) (if t = 0 then 0 else 1000000) (bn B)) → ok (kont (nI s) (nI (t + 1)) M') Q) →
    ok (f_X12_findLeast_b38 kont fuel (nI s) (nI t) (nI i) M) Q := by
  have hn := hw.2.2.1
  have h8 := p8 hn
  intro k
  induction k with
  | zero =>
    intro i fuel M hi hf hb ha hL h11 hk
    obtain ⟨f, rfl⟩ : ∃ f, fuel = f + 1 := ⟨fuel - 1, by omega⟩
    obtain rfl : i = bn B := by omega
    unfold f_X12_findLeast_b38
    rw [hb.1, nI_1]
    exact ok_pos (nI_le (by omega) (by omega)) (hk M hb ha hL h11)
  | succ k ih =>
    intro i fuel M hi hf hb ha hL h11 hk
    obtain ⟨f, rfl⟩ : ∃ f, fuel = f + 1 := ⟨fuel - 1, by omega⟩
    have hts : t ≤ s := by
      have : t &&& s = t := by
        refine eq8 (Nat.lt_of_le_of_lt Nat.and_le_left ht) ht (fun j hj => ?_)
        rw [Nat.testBit_and]
        cases q : t.testBit j
        · rfl
        · rw [hsub j hj q]; rfl
      rw [← this]
      exact Nat.and_le_right
    unfold f_X12_findLeast_b38
    rw [hb.1]
    refine ok_neg (nI_ge (by omega) (by omega)) ?_
    rw [has_n (by omega) (by omega), nI_1]
    have st : mnF (fun d => t.testBit d) (gLD B s t) (if t = 0 then 0 else 1000000) (i + 1) = if t.testBit i = true then min (mnF (fun d => t.testBit d) (gLD B s t) (if t = 0 then 0 else 1000000) i) (gLD B s t i) else mnF (fun d => t.testBit d) (gLD B s t) (if t = 0 then 0 else 1000000) i := rfl
    cases q : t.testBit i with
    | false =>
      refine ok_pos rfl ?_
      rw [if_neg (show ¬ t.testBit i = true by rw [q]; decide)] at st
      exact ih (i + 1) f M (by omega) (by omega) hb ha hL (by rw [st]; exact h11) hk
    | true =>
      refine ok_neg n10 ?_
      rw [if_pos q] at st
      have hT := mnF_leT (fun d => t.testBit d) (gLD B s t) (if t = 0 then 0 else 1000000) i
      have hT2 : (if t = 0 then 0 else 1000000) ≤ 1000000 := by split <;> omega
      have hal := anot_lt1 ht q (by omega)
      have hg := gLD_le (s := s) hw (by omega : t < 2 ^ bn B) q
      have ean : subS (anot t (2 ^ i)) s := fun j hj hb' => hsub j hj (anot_sub j hj hb')
      have e1 : nI s &&& (nI t ^^^ -1) = nI (anot s t) := by rw [m1_n, fa_xor, fa_and]; rfl
      have e2 : nI t &&& (jshl 1 (nI i) ^^^ -1) = nI (anot t (2 ^ i)) := by rw [jshl_1 (by omega), m1_n, fa_xor, fa_and]; rfl
      rw [e1, e2, dBR hw hb (anot_256 (by omega)) (by omega), Option.bind_some]
      refine ok_ld (by omega) (by decide) (hL _ hal ean) ?_
      refine ok_ld (by omega) (by decide) h11 ?_
      rw [nI_add]
      have eg : dB B (anot s t) i + LD B s (anot t (2 ^ i)) = gLD B s t i := rfl
      rw [eg]
      have wL : ∀ v, LT B s t (wI M 11 t v) := fun v x hx hx2 => by
        rw [wI_at, if_neg (by omega)]; exact hL x hx hx2
      by_cases c : mnF (fun d => t.testBit d) (gLD B s t) (if t = 0 then 0 else 1000000) i ≤ gLD B s t i
      · refine ok_pos (nI_le c (by omega)) ?_
        refine ok_ld (by omega) (by decide) h11 (ok_st (by omega) (by decide) ?_)
        refine ih (i + 1) f _ (by omega) (by omega) hb.w11 (ha.tr agR.w11) (wL _) ?_ hk
        rw [wI_at, if_pos ⟨rfl, rfl⟩, st, Nat.min_eq_left c]
      · refine ok_neg (nI_ge (by omega) (by omega)) (ok_st (by omega) (by decide) ?_)
        refine ih (i + 1) f _ (by omega) (by omega) hb.w11 (ha.tr agR.w11) (wL _) ?_ hk
        rw [wI_at, if_pos ⟨rfl, rfl⟩, st, Nat.min_eq_right (by omega)]
theorem mnF_none {p : Nat → Bool} {g : Nat → Nat} {T : Nat} : ∀ n, (∀ k, k < n → p k = false) → mnF p g T n = T := by
  intro n
  induction n with
  | zero => intro _; rfl
  | succ n ih =>
    intro h
    show (if p n = true then min (mnF p g T n) (g n) else mnF p g T n) = T
    rw [h n (by omega), if_neg (by decide)]
    exact ih (fun k hk => h k (by omega))
theorem flR {B : Bd} {s : Nat} {M0 : Mem} (hw : wfB B) (hs : s < 2 ^ bn B) : ∀ (k t fuel : Nat) (M : Mem), t + k = 256 → k < fuel → brdR B M → agR M0 M → LT B s t M →
    ok (f_X12_findLeast_b2 fuel (nI s) (nI t) M) (fun M' => brdR B M' ∧ agR M0 M' ∧ LT B s 256 M') := by
  have hn := hw.2.2.1
  have h8 := p8 hn
  intro k
  induction k with
  | zero =>
    intro t fuel M hi hf hb ha hL
    obtain ⟨f, rfl⟩ : ∃ f, fuel = f + 1 := ⟨fuel - 1, by omega⟩
    obtain rfl : t = 256 := by omega
    unfold f_X12_findLeast_b2
    exact ok_pos (by decide) (ok_some ⟨hb, ha, hL⟩)
  | succ k ih =>
    intro t fuel M hi hf hb ha hL
    obtain ⟨f, rfl⟩ : ∃ f, fuel = f + 1 := ⟨fuel - 1, by omega⟩
    unfold f_X12_findLeast_b2
    refine ok_neg (show ¬ 256 ≤ nI t from fun q => absurd ((nI_leI (a := 256) (by decide) (by omega)).mp q) (by omega)) ?_
    have e1 : nI t &&& (nI s ^^^ -1) = nI (anot t s) := by rw [m1_n, fa_xor, fa_and]; rfl
    have hl := anot_256 (b := s) (show t < 256 by omega)
    rw [e1, nI_1]
    by_cases c : anot t s = 0
    · refine ok_pos (by rw [c]; rfl) ?_
      have hsub := (sub_iff (by omega)).mp c
      refine ok_st (by omega) (by decide) ?_
      have ev : (if nI t = 0 then (0 : Int32) else (1000000 : Int32)) = nI (if t = 0 then 0 else 1000000) := by
        by_cases z : t = 0
        · rw [if_pos z, if_pos (by rw [z]; rfl)]; rfl
        · rw [if_neg z, if_neg (show ¬ nI t = 0 from fun q => z (nI_e (b := 0) (by omega) (by decide) q))]; rfl
      refine flR_in (M0 := M0) hw hs (by omega) hsub (f_X12_findLeast_b2 f) _ (bn B) 0 FU _ (by omega) (FU_big (by omega)) hb.w11 (ha.tr agR.w11) (fun x hx hx2 => ?_) ?_ (fun M' g1 g2 g3 g4 => ?_)
      · rw [wI_at, if_neg (by omega)]; exact hL x hx hx2
      · rw [wI_at, if_pos ⟨rfl, rfl⟩]; exact ev
      · refine ih (t + 1) f M' (by omega) (by omega) g1 g2 (fun x hx hx2 => ?_)
        by_cases z : x = t
        · subst z
          rw [g4]
          congr 1
          by_cases z2 : x = 0
          · subst z2
            rw [if_pos rfl, LD_0, mnF_none _ (fun k _ => Nat.zero_testBit k)]
          · rw [if_neg z2, LD_eq hw (by omega) z2]
        · exact g3 x (by omega) hx2
    · refine ok_neg (show ¬ nI (anot t s) = 0 from fun q => c (nI_e (b := 0) (by omega) (by decide) q)) ?_
      refine ih (t + 1) f M (by omega) (by omega) hb ha (fun x hx hx2 => ?_)
      by_cases z : x = t
      · subst z; exact absurd ((sub_iff (by omega)).mpr hx2) c
      · exact hL x (by omega) hx2
theorem foR {B : Bd} {s t : Nat} {M : Mem} (hw : wfB B) (hb : brdR B M) (hL : LT B s 256 M) (hs : s < 2 ^ bn B) (ht : t < 2 ^ bn B) (hsub : subS t s) :
    ∀ (k i fuel : Nat), i + k = bn B → k < fuel → (∃ x, i ≤ x ∧ x < i + k ∧ foP B s t x = true) → f_X12_firstOf_b2 M fuel (nI s) (nI t) (nI i) = some (nI (foK (foP B s t) k i)) := by
  have hn := hw.2.2.1
  have h8 := p8 hn
  intro k
  induction k with
  | zero => intro i fuel hi hf h; obtain ⟨x, h1, h2, -⟩ := h; omega
  | succ k ih =>
    intro i fuel hi hf h
    obtain ⟨f, rfl⟩ : ∃ f, fuel = f + 1 := ⟨fuel - 1, by omega⟩
    have nxt : ¬ foP B s t i = true → f_X12_firstOf_b2 M f (nI s) (nI t) (nI (i + 1)) = some (nI (foK (foP B s t) (k + 1) i)) := fun c => by
      have e : foK (foP B s t) (k + 1) i = foK (foP B s t) k (i + 1) := by
        show (if foP B s t i = true then i else foK (foP B s t) k (i + 1)) = _
        rw [if_neg c]
      rw [e]
      obtain ⟨x, h1, h2, h3⟩ := h
      refine ih (i + 1) f (by omega) (by omega) ⟨x, ?_, by omega, h3⟩
      rcases Nat.lt_or_ge i x with z | z
      · exact z
      · obtain rfl : x = i := by omega
        exact absurd h3 c
    unfold f_X12_firstOf_b2
    rw [has_n (by omega) (by omega), nI_1]
    cases q : t.testBit i with
    | false =>
      rw [if_pos (show bI false = 0 from rfl)]
      exact nxt (by unfold foP; rw [q, Bool.false_and]; decide)
    | true =>
      have hal := anot_lt1 (show t < 256 by omega) q (by omega)
      have ean : subS (anot t (2 ^ i)) s := fun j hj hb' => hsub j hj (anot_sub j hj hb')
      have e1 : nI s &&& (nI t ^^^ -1) = nI (anot s t) := by rw [m1_n, fa_xor, fa_and]; rfl
      have e2 : nI t &&& (jshl 1 (nI i) ^^^ -1) = nI (anot t (2 ^ i)) := by rw [jshl_1 (by omega), m1_n, fa_xor, fa_and]; rfl
      have hg := gLD_le (s := s) hw ht q
      have hl := LD_le (s := s) hw _ t (Nat.le_refl _) ht
      rw [if_neg (show ¬ bI true = 0 from n10), e1, e2, dBR hw hb (anot_256 (by omega)) (by omega), Option.bind_some, ldI_n (by omega) (by decide), hL _ (by omega) ean, Option.bind_some, ldI_n (by omega) (by decide), hL t (by omega) hsub, Option.bind_some, nI_add, show dB B (anot s t) i + LD B s (anot t (2 ^ i)) = gLD B s t i from rfl]
      by_cases c : gLD B s t i = LD B s t
      · rw [if_pos (by rw [c])]
        show _ = some (nI (if foP B s t i = true then i else foK (foP B s t) k (i + 1)))
        rw [if_pos (by unfold foP; rw [q, decide_eq_true c]; rfl)]
      · rw [if_neg (fun z => c (nI_e (by omega) (by omega) z))]
        exact nxt (by unfold foP; rw [q, decide_eq_false c]; decide)
theorem FOx {B : Bd} {s t : Nat} (hw : wfB B) (ht : t < 2 ^ bn B) (h0 : t ≠ 0) : ∃ x, 0 ≤ x ∧ x < 0 + bn B ∧ foP B s t x = true := by
  obtain ⟨d, h1, h2, h3⟩ := LD_at (s := s) hw ht h0
  exact ⟨d, Nat.zero_le _, by omega, by unfold foP; rw [h2, decide_eq_true h3]; rfl⟩
theorem firstR {B : Bd} {s t : Nat} {M : Mem} (hw : wfB B) (hb : brdR B M) (hL : LT B s 256 M) (hs : s < 2 ^ bn B) (ht : t < 2 ^ bn B) (hsub : subS t s) (h0 : t ≠ 0) : f_X12_firstOf (nI s) (nI t) M = some (nI (FO B s t)) :=
  foR hw hb hL hs ht hsub (bn B) 0 FU (by omega) (FU_big (by have := hw.2.2.1; omega)) (FOx hw ht h0)
theorem ordR {B : Bd} {s j : Nat} {M : Mem} (hw : wfB B) (hb : brdR B M) (hL : LT B s 256 M) (hs : s < 2 ^ bn B) (hj : j < pc s) : ∀ (k i fuel : Nat), i + k = j → k < fuel →
    f_X12_order_b88 fuel (nI s) (nI j) (nI (lf B s i)) (nI i) M = some (nI (FO B s (lf B s j)), M) := by
  have hn := hw.2.2.1
  have h8 := p8 hn
  have hp := pc_le s
  intro k
  induction k with
  | zero =>
    intro i fuel hi hf
    obtain ⟨f, rfl⟩ : ∃ f, fuel = f + 1 := ⟨fuel - 1, by omega⟩
    obtain rfl : i = j := by omega
    obtain ⟨h1, h2, h3⟩ := lf_ok hw hs i (by omega)
    have hne : lf B s i ≠ 0 := fun z => by rw [z, pc_0] at h2; omega
    unfold f_X12_order_b88
    rw [if_pos (nI_le (by omega) (by omega)), firstR hw hb hL hs h1 h3 hne]
    rfl
  | succ k ih =>
    intro i fuel hi hf
    obtain ⟨f, rfl⟩ : ∃ f, fuel = f + 1 := ⟨fuel - 1, by omega⟩
    obtain ⟨h1, h2, h3⟩ := lf_ok hw hs i (by omega)
    have hne : lf B s i ≠ 0 := fun z => by rw [z, pc_0] at h2; omega
    obtain ⟨g1, g2⟩ := FO_ok (s := s) hw h1 hne
    unfold f_X12_order_b88
    rw [if_neg (nI_ge (by omega) (by omega)), firstR hw hb hL hs h1 h3 hne, Option.bind_some, nI_1]
    have e2 : nI (lf B s i) &&& (jshl 1 (nI (FO B s (lf B s i))) ^^^ -1) = nI (lf B s (i + 1)) := by rw [jshl_1 (by omega), m1_n, fa_xor, fa_and]; rfl
    rw [e2]
    exact ih (i + 1) f (by omega) (by omega)
/-! the class -/
theorem dBC {B : Bd} {M : Mem} {done d : Nat} (hw : wfB B) (h : RK B B.1.1 B.1.2 B.2.2 M) (hs : done < 256) (hd : d < bn B) : f_X6_dueBehind (nI d) (nI done) M = some (nI (dB B done d)) := by
  have hn := hw.2.2.1
  have h12 : B.2.2.length ≤ 12 := hw.2.2.2.1
  have h1 := cnt_le B B.2.2 d
  have h2 := cntN_le (fun k => done.testBit k && sm B k d) (bn B)
  have e : pc (aM B d &&& done) = cntN (fun k => done.testBit k && sm B k d) (bn B) := by
    unfold pc
    rw [pcn_cnt]
    have e2 := cntN_more (p := fun i => (aM B d &&& done).testBit i) (n := bn B) (fun e he => by rw [Nat.testBit_and, aM_tb, decide_eq_false (by omega), Bool.false_and, Bool.false_and]) (12 - bn B)
    rw [show bn B + (12 - bn B) = 12 by omega] at e2
    rw [e2]
    refine cntN_cong _ (fun k hk => ?_)
    rw [Nat.testBit_and, aM_tb, decide_eq_true hk, Bool.true_and, Bool.and_comm, sm_symm]
  unfold f_X6_dueBehind
  rw [ldA hw h.2.1 hd, Option.bind_some, ldI_n (by omega) (by decide), h.2.2 d hd, Option.bind_some, fa_and, bitCount_n (and_small (aM_lt hw d)), e, nI_add, dueForC h.1 hw hd (by
    have : cnt (lw B B.1.1 B.1.2) B.2.2 d = cnt B B.2.2 d := rfl
    omega), Option.bind_some]
  rfl
def LC (B : Bd) (s v : Nat) (M : Mem) : Prop := ∀ t, v ≤ t → t < 256 → subS t s → M.1 35 t = nI (LD B s (anot s t))
theorem sub_or {s t d : Nat} (h : subS t s) (hd : s.testBit d = true) : subS (t ||| 2 ^ d) s := fun i hi hb => by
  rw [Nat.testBit_or, Nat.testBit_two_pow, Bool.or_eq_true, decide_eq_true_iff] at hb
  rcases hb with z | z
  · exact h i hi z
  · rw [← z]; exact hd
theorem or_8 {t d : Nat} (ht : t < 256) (hd : d < 8) : t ||| 2 ^ d < 256 := or_256 ht hd
theorem bitLeft {s t d : Nat} (hd : d < 8) (hs : s < 256) : (jshr (nI s &&& (nI t ^^^ -1)) (nI d) &&& 1 = 0) ↔ (anot s t).testBit d = false := by
  have e1 : nI s &&& (nI t ^^^ -1) = nI (anot s t) := by rw [m1_n, fa_xor, fa_and]; rfl
  have := anot_256 (b := t) hs
  rw [e1]
  exact bit_0 (by omega) (by omega)
theorem lrC {B : Bd} {s t : Nat} {M : Mem} (hw : wfB B) (h : RK B B.1.1 B.1.2 B.2.2 M) (hs : s < 2 ^ bn B) (ht : t < 256) (hsub : subS t s) (hL : LC B s (t + 1) M) :
    ∀ (k i fuel : Nat), i + k = bn B → k < fuel → f_X6_leastRest_b6 M fuel (nI s) (nI t) (nI (mnF (fun d => (anot s t).testBit d) (gLD B s (anot s t)) 2147483647 i)) (nI i) = some (nI (mnF (fun d => (anot s t).testBit d) (gLD B s (anot s t)) 2147483647 (bn B))) := by
  have hn := hw.2.2.1
  have h8 := p8 hn
  intro k
  induction k with
  | zero =>
    intro i fuel hi hf
    obtain ⟨f, rfl⟩ : ∃ f, fuel = f + 1 := ⟨fuel - 1, by omega⟩
    obtain rfl : i = bn B := by omega
    unfold f_X6_leastRest_b6
    rw [h.1.1, if_pos (nI_le (by omega) (by omega))]
  | succ k ih =>
    intro i fuel hi hf
    obtain ⟨f, rfl⟩ : ∃ f, fuel = f + 1 := ⟨fuel - 1, by omega⟩
    have st : mnF (fun d => (anot s t).testBit d) (gLD B s (anot s t)) 2147483647 (i + 1) = if (anot s t).testBit i = true then min (mnF (fun d => (anot s t).testBit d) (gLD B s (anot s t)) 2147483647 i) (gLD B s (anot s t) i) else mnF (fun d => (anot s t).testBit d) (gLD B s (anot s t)) 2147483647 i := rfl
    unfold f_X6_leastRest_b6
    rw [h.1.1, if_neg (nI_ge (by omega) (by omega)), nI_1]
    cases q : (anot s t).testBit i with
    | false =>
      rw [if_pos ((bitLeft (by omega) (by omega)).mpr q)]
      rw [if_neg (show ¬ (anot s t).testBit i = true by rw [q]; decide)] at st
      rw [← st]
      exact ih (i + 1) f (by omega) (by omega)
    | true =>
      rw [if_pos q] at st
      have q2 := q
      rw [anot_b (by omega), Bool.and_eq_true] at q2
      have q3 : t.testBit i = false := by simpa using q2.2
      have hT := mnF_leT (fun d => (anot s t).testBit d) (gLD B s (anot s t)) 2147483647 i
      have hal := anot_le s t
      have hg := gLD_le (s := s) hw (by omega : anot s t < 2 ^ bn B) q
      have hor := or_8 ht (show i < 8 by omega)
      have hgt := or_gt ht q3 (by omega)
      rw [if_neg (fun z => by rw [bitLeft (by omega) (by omega), q] at z; cases z), dBC hw h ht (by omega), Option.bind_some, jshl_1 (by omega), fa_or, ldI_n (by omega) (by decide), hL _ (by omega) hor (sub_or hsub q2.1), Option.bind_some, nI_add]
      have eg : dB B t i + LD B s (anot s (t ||| 2 ^ i)) = gLD B s (anot s t) i := by
        unfold gLD
        rw [anot_anot (by omega) ht hsub, anot_or (by omega) (by omega)]
      rw [eg, mnI_n (by omega) (by omega), ← st]
      exact ih (i + 1) f (by omega) (by omega)
theorem rrC {B : Bd} {s : Nat} (hw : wfB B) (hs : s < 2 ^ bn B) : ∀ (v fuel : Nat) (M : Mem), v ≤ s → v < fuel → RK B B.1.1 B.1.2 B.2.2 M → LC B s v M →
    ok (f_X6_reckonRests_b11 fuel (nI s) (nI v - 1) M) (fun M' => RK B B.1.1 B.1.2 B.2.2 M' ∧ LC B s 0 M' ∧ fr [35] M M') := by
  have hn := hw.2.2.1
  have h8 := p8 hn
  intro v
  induction v with
  | zero =>
    intro fuel M hv hf h hL
    obtain ⟨f, rfl⟩ : ∃ f, fuel = f + 1 := ⟨fuel - 1, by omega⟩
    unfold f_X6_reckonRests_b11
    exact ok_pos (by decide) (ok_some ⟨h, hL, fr.rf⟩)
  | succ v ih =>
    intro fuel M hv hf h hL
    obtain ⟨f, rfl⟩ : ∃ f, fuel = f + 1 := ⟨fuel - 1, by omega⟩
    have e1 : nI v &&& (nI s ^^^ -1) = nI (anot v s) := by rw [m1_n, fa_xor, fa_and]; rfl
    have hl := anot_256 (b := s) (show v < 256 by omega)
    unfold f_X6_reckonRests_b11
    rw [show nI (v + 1) - 1 = nI v from sub_one_nI (k := 1) (by omega), e1]
    refine ok_neg (nI_pos (by omega)) ?_
    have em : nI v + -1 = nI v - 1 := by rw [Int32.sub_eq_add_neg]
    rw [em]
    by_cases c : anot v s = 0
    · have hsub := (sub_iff (by omega)).mp c
      refine ok_pos (by rw [c]; rfl) ?_
      have hne : anot s v ≠ 0 := by
        intro z
        have hsub2 := (sub_iff (by omega)).mp z
        have : s = v := eq8 (by omega) (by omega) (fun i hi => by
          rw [Bool.eq_iff_iff]
          exact ⟨hsub2 i hi, hsub i hi⟩)
        omega
      have hal := anot_le s v
      have e : f_X6_leastRest (nI s) (nI v) M = some (nI (LD B s (anot s v))) := by
        have := lrC hw h hs (by omega : v < 256) hsub hL (bn B) 0 FU (by omega) (FU_big (by omega))
        obtain ⟨d, hd, hb⟩ := has_bit (v := anot s v) (by omega) hne
        have hg := gLD_le (s := s) hw (by omega : anot s v < 2 ^ bn B) hb
        have eT : mnF (fun d => (anot s v).testBit d) (gLD B s (anot s v)) 2147483647 (bn B) = LD B s (anot s v) := by
          rw [LD_eq hw (by omega) hne]
          exact mnF_TT (k := d) (by decide) (tb_lt (by omega) hb) hb (by omega)
        rw [eT] at this
        exact this
      rw [e, Option.bind_some]
      refine ok_st (by omega) (by decide) ?_
      have hfr : fr [35] M (wI M 35 v (nI (LD B s (anot s v)))) := fr.wI (by simp)
      refine ok_mono (ih f _ (by omega) (by omega) ⟨h.1.fr hfr (by decide), h.2.1.fr (hfr 26 (by decide)), fun x hx => by rw [hfr 27 (by decide)]; exact h.2.2 x hx⟩ (fun t h1 h2 h3 => ?_)) (fun M' g => ⟨g.1, g.2.1, hfr.tr g.2.2⟩)
      rw [wI_at]
      by_cases z : t = v
      · rw [if_pos ⟨rfl, z⟩, z]
      · rw [if_neg (by omega)]; exact hL t (by omega) h2 h3
    · refine ok_neg (show ¬ nI (anot v s) = 0 from fun q => c (nI_e (b := 0) (by omega) (by decide) q)) ?_
      refine ih f M (by omega) (by omega) h (fun t h1 h2 h3 => ?_)
      by_cases z : t = v
      · subst z; exact absurd ((sub_iff (by omega)).mpr h3) c
      · exact hL t (by omega) h2 h3
theorem rests {B : Bd} {s : Nat} {M : Mem} (hw : wfB B) (hs : s < 2 ^ bn B) (h : RK B B.1.1 B.1.2 B.2.2 M) : ok (f_X6_reckonRests (nI s) M) (fun M' => RK B B.1.1 B.1.2 B.2.2 M' ∧ LC B s 0 M' ∧ fr [35] M M') := by
  have hn := hw.2.2.1
  have h8 := p8 hn
  unfold f_X6_reckonRests
  refine ok_st (by omega) (by decide) ?_
  have hfr : fr [35] M (wI M 35 s 0) := fr.wI (by simp)
  refine ok_mono (rrC hw hs s FU _ (Nat.le_refl s) (FU_big (by omega)) ⟨h.1.fr hfr (by decide), h.2.1.fr (hfr 26 (by decide)), fun x hx => by rw [hfr 27 (by decide)]; exact h.2.2 x hx⟩ (fun t h1 h2 h3 => ?_)) (fun M' g => ⟨g.1, g.2.1, hfr.tr g.2.2⟩)
  have : t = s := by
    have e : t &&& s = t := by
      refine eq8 (Nat.lt_of_le_of_lt Nat.and_le_left h2) h2 (fun j hj => ?_)
      rw [Nat.testBit_and]
      cases q : t.testBit j
      · rfl
      · rw [h3 j hj q]; rfl
    have : t ≤ s := by rw [← e]; exact Nat.and_le_right
    omega
  rw [wI_at, if_pos ⟨rfl, this⟩, this]
  have : anot s s = 0 := (sub_iff (by omega)).mpr (fun _ _ h => h)
  rw [this]
  rfl
theorem fbC {B : Bd} {s t : Nat} {M : Mem} (hw : wfB B) (h : RK B B.1.1 B.1.2 B.2.2 M) (hs : s < 2 ^ bn B) (ht : t < 256) (hsub : subS t s) (hL : LC B s 0 M) :
    ∀ (k i fuel : Nat), i + k = bn B → k < fuel → (∃ x, i ≤ x ∧ x < i + k ∧ foP B s (anot s t) x = true) → f_X6_firstOnBestWay_b2 M fuel (nI s) (nI t) (nI i) = some (nI (foK (foP B s (anot s t)) k i)) := by
  have hn := hw.2.2.1
  have h8 := p8 hn
  intro k
  induction k with
  | zero => intro i fuel hi hf hx; obtain ⟨x, h1, h2, -⟩ := hx; omega
  | succ k ih =>
    intro i fuel hi hf hx
    obtain ⟨f, rfl⟩ : ∃ f, fuel = f + 1 := ⟨fuel - 1, by omega⟩
    have nxt : ¬ foP B s (anot s t) i = true → f_X6_firstOnBestWay_b2 M f (nI s) (nI t) (nI (i + 1)) = some (nI (foK (foP B s (anot s t)) (k + 1) i)) := fun c => by
      have e : foK (foP B s (anot s t)) (k + 1) i = foK (foP B s (anot s t)) k (i + 1) := by
        show (if foP B s (anot s t) i = true then i else foK (foP B s (anot s t)) k (i + 1)) = _
        rw [if_neg c]
      rw [e]
      obtain ⟨x, h1, h2, h3⟩ := hx
      refine ih (i + 1) f (by omega) (by omega) ⟨x, ?_, by omega, h3⟩
      rcases Nat.lt_or_ge i x with z | z
      · exact z
      · obtain rfl : x = i := by omega
        exact absurd h3 c
    unfold f_X6_firstOnBestWay_b2
    rw [h.1.1, if_neg (nI_ge (by omega) (by omega)), nI_1]
    cases q : (anot s t).testBit i with
    | false =>
      rw [if_pos ((bitLeft (by omega) (by omega)).mpr q)]
      exact nxt (by unfold foP; rw [q, Bool.false_and]; decide)
    | true =>
      have q2 := q
      rw [anot_b (by omega), Bool.and_eq_true] at q2
      have hal := anot_le s t
      have hg := gLD_le (s := s) hw (by omega : anot s t < 2 ^ bn B) q
      have hl := LD_le (s := s) hw _ (anot s t) (Nat.le_refl _) (by omega)
      have hor := or_8 ht (show i < 8 by omega)
      rw [if_neg (fun z => by rw [bitLeft (by omega) (by omega), q] at z; cases z), dBC hw h ht (by omega), Option.bind_some, jshl_1 (by omega), fa_or, ldI_n (by omega) (by decide), hL _ (by omega) hor (sub_or hsub q2.1), Option.bind_some, ldI_n (by omega) (by decide), hL t (by omega) ht hsub, Option.bind_some, nI_add]
      have eg : dB B t i + LD B s (anot s (t ||| 2 ^ i)) = gLD B s (anot s t) i := by
        unfold gLD
        rw [anot_anot (by omega) ht hsub, anot_or (by omega) (by omega)]
      rw [eg]
      by_cases c : gLD B s (anot s t) i = LD B s (anot s t)
      · rw [if_pos (by rw [c])]
        show _ = some (nI (if foP B s (anot s t) i = true then i else foK (foP B s (anot s t)) k (i + 1)))
        rw [if_pos (by unfold foP; rw [q, decide_eq_true c]; rfl)]
      · rw [if_neg (fun z => c (nI_e (by omega) (by omega) z))]
        exact nxt (by unfold foP; rw [q, decide_eq_false c]; decide)
theorem fb0 {B : Bd} {s : Nat} {M : Mem} (hw : wfB B) (h : RK B B.1.1 B.1.2 B.2.2 M) (hs : s < 2 ^ bn B) : ∀ (k i fuel : Nat), i + k = bn B → k < fuel → f_X6_firstOnBestWay_b2 M fuel (nI s) (nI s) (nI i) = some (-9) := by
  have hn := hw.2.2.1
  have h8 := p8 hn
  have hz : anot s s = 0 := (sub_iff (by omega)).mpr (fun _ _ h => h)
  intro k
  induction k with
  | zero =>
    intro i fuel hi hf
    obtain ⟨f, rfl⟩ : ∃ f, fuel = f + 1 := ⟨fuel - 1, by omega⟩
    unfold f_X6_firstOnBestWay_b2
    rw [h.1.1, if_pos (nI_le (by omega) (by omega))]
  | succ k ih =>
    intro i fuel hi hf
    obtain ⟨f, rfl⟩ : ∃ f, fuel = f + 1 := ⟨fuel - 1, by omega⟩
    unfold f_X6_firstOnBestWay_b2
    rw [h.1.1, if_neg (nI_ge (by omega) (by omega)), nI_1, if_pos ((bitLeft (by omega) (by omega)).mpr (by rw [hz]; exact Nat.zero_testBit _))]
    exact ih (i + 1) f (by omega) (by omega)
theorem anot_z {s : Nat} (hs : s < 256) : anot s 0 = s := eq8 (anot_256 hs) hs (fun i hi => by rw [anot_b hi, Nat.zero_testBit, Bool.not_false, Bool.and_true])
theorem ithC {B : Bd} {s j : Nat} {M : Mem} (hw : wfB B) (h : RK B B.1.1 B.1.2 B.2.2 M) (hs : s < 2 ^ bn B) (hj : j < 2 ^ 31) (hL : LC B s 0 M) :
    ∀ (k i fuel : Nat), i + k = pc s → k < fuel → i ≤ j → f_X6_ithDone_b5 M fuel (nI s) (nI j) (nI (anot s (lf B s i))) (nI i) = some (if pc s ≤ j then -9 else nI (FO B s (lf B s j))) := by
  have hn := hw.2.2.1
  have h8 := p8 hn
  have hp := pc_n hs hn
  intro k
  induction k with
  | zero =>
    intro i fuel hi hf hij
    obtain ⟨f, rfl⟩ : ∃ f, fuel = f + 1 := ⟨fuel - 1, by omega⟩
    obtain rfl : i = pc s := by omega
    obtain ⟨h1, h2, h3⟩ := lf_ok hw hs (pc s) (Nat.le_refl _)
    have hz : lf B s (pc s) = 0 := by
      refine Classical.byContradiction (fun q => ?_)
      have := pc_ne (by omega) q
      omega
    rw [hz, anot_z (by omega), if_pos hij]
    unfold f_X6_ithDone_b5
    rw [h.1.1]
    by_cases c : bn B ≤ pc s
    · rw [if_pos (nI_le (by omega) (by omega))]
    · rw [if_neg (nI_ge (by omega) (by omega)), show f_X6_firstOnBestWay (nI s) (nI s) M = some (-9) from fb0 hw h hs (bn B) 0 FU (by omega) (FU_big (by omega)), Option.bind_some, if_pos (by decide)]
  | succ k ih =>
    intro i fuel hi hf hij
    obtain ⟨f, rfl⟩ : ∃ f, fuel = f + 1 := ⟨fuel - 1, by omega⟩
    obtain ⟨h1, h2, h3⟩ := lf_ok hw hs i (by omega)
    have hne : lf B s i ≠ 0 := fun z => by rw [z, pc_0] at h2; omega
    obtain ⟨g1, g2⟩ := FO_ok (s := s) hw h1 hne
    have hal := anot_le s (lf B s i)
    have haa : anot s (anot s (lf B s i)) = lf B s i := anot_anot (by omega) (by omega) h3
    have e : f_X6_firstOnBestWay (nI s) (nI (anot s (lf B s i))) M = some (nI (FO B s (lf B s i))) := by
      have := fbC (t := anot s (lf B s i)) hw h hs (by omega) anot_sub hL (bn B) 0 FU (by omega) (FU_big (by omega)) (by rw [haa]; exact FOx hw h1 hne)
      rw [haa] at this
      exact this
    unfold f_X6_ithDone_b5
    rw [h.1.1, if_neg (nI_ge (by omega) (by omega)), e, Option.bind_some, if_neg (nI_pos (by omega))]
    by_cases c : i = j
    · subst c
      rw [if_pos rfl, if_neg (by omega)]
    · rw [if_neg (fun q => c (nI_e (by omega) (by omega) q)), jshl_1 (by omega), fa_or, nI_1]
      have e2 : anot s (lf B s i) ||| 2 ^ FO B s (lf B s i) = anot s (lf B s (i + 1)) := by
        have hor := or_8 (t := anot s (lf B s i)) (by omega) (show FO B s (lf B s i) < 8 by omega)
        refine eq8 hor (anot_256 (by omega)) (fun x hx => ?_)
        show _ = (anot s (anot (lf B s i) (2 ^ FO B s (lf B s i)))).testBit x
        rw [Nat.testBit_or, anot_b hx, anot_b hx, anot_b hx, Nat.testBit_two_pow]
        by_cases z : FO B s (lf B s i) = x
        · rw [decide_eq_true z, ← z, h3 _ (by omega) g2]
          simp
        · rw [decide_eq_false z]
          simp
      rw [e2]
      exact ih (i + 1) f (by omega) (by omega) (by omega)
theorem sim_order {MC MR : Mem} (h : Inv MC MR) (a b : Int32) : Sim (f_X11_order a b MC) (f_X12_order a b MR) := by
  obtain ⟨B, im, S, lt, rw', hw, hC, hR, hf⟩ := id h
  have hn := hw.1.2.2.1
  have h8 := p8 hn
  unfold f_X11_order f_X12_order f_X12_order_b9
  simp only [bind_bp]
  have n46 : ¬ (-4 : Int32) = 0 := by decide
  have n66 : ¬ (-6 : Int32) = 0 := by decide
  have n36 : ¬ (-3 : Int32) = 0 := by decide
  have r4 : Sim (f_X11_refuse (-4) MC) (f_X12_order_b44 a b (-4) MR) := by
    unfold f_X12_order_b44
    simp only [bind_bp]
    rw [if_neg n46]
    exact Sim.no4 h
  rcases i_cases a with ha | ⟨s, hs, rfl⟩
  · rw [if_pos ha, if_pos ha]; exact r4
  rw [if_neg (nI_pos hs), if_neg (nI_pos hs)]
  by_cases hb1 : (-1 : Int32) ≤ b
  · rw [if_pos hb1, if_pos hb1, show MC.1 1 4 = nI (bn B) from hC.1.1, hR.1.1, jshl_1 (by omega), jshr_n hs (by omega)]
    have hdl := Nat.div_le_self s (2 ^ bn B)
    by_cases c : s < 2 ^ bn B
    · rw [if_pos (show nI (s / 2 ^ bn B) = 0 by rw [Nat.div_eq_of_lt c]; rfl), if_pos (nI_lt c (by omega)), bitCount_n (by omega), bitsR (by omega), Option.bind_some]
      have hpl := pc_le s
      by_cases c6 : pc s ≤ 6
      · rw [if_pos (show nI (pc s) ≤ 6 from nI_le (b := 6) c6 (by decide)), if_pos (show nI (pc s) ≤ 6 from nI_le (b := 6) c6 (by decide))]
        unfold f_X12_order_b44
        simp only [bind_bp]
        rw [if_pos trivial]
        have hfl : ok (f_X12_findLeast (nI s) MR) (fun M' => brdR B M' ∧ agR MR M' ∧ LT B s 256 M') := flR hw.1 c 256 0 FU MR (by omega) (FU_big (by omega)) hR.1 agR.rf (fun t ht => by omega)
        rcases i_cases b with hb | ⟨j, hj, rfl⟩
        · refine Sim.q h (nI (LD B s s)) (ok2_mk ?_) (ok2_mk ?_)
          · unfold f_X6_inOrder
            refine ok_bind (behind_ok hw.1 hC.1) (fun M1 ⟨h1, f1⟩ => ?_)
            refine ok_bind (rests hw.1 c h1) (fun M2 ⟨h2, hL, f2⟩ => ?_)
            refine ok_neg (i_neg_nle hb (n := 0) (by decide)) ?_
            refine ok_ld (i := 0) (by decide) (by decide) (hL 0 (Nat.le_refl 0) (by decide) (fun i _ hi => by rw [Nat.zero_testBit] at hi; cases hi)) ?_
            rw [anot_z (by omega)]
            exact ok_some ⟨rfl, (f1.q (by decide)).tr (f2.q (by decide))⟩
          · refine ok_bind hfl (fun M' ⟨g1, g2, g3⟩ => ?_)
            refine ok_neg (i_neg_nle hb (n := 0) (by decide)) ?_
            refine ok_ld (by omega) (by decide) (g3 s (by omega) (fun _ _ z => z)) ?_
            exact ok_some ⟨rfl, g2⟩
        · refine Sim.q h (if pc s ≤ j then -9 else nI (FO B s (lf B s j))) (ok2_mk ?_) (ok2_mk ?_)
          · unfold f_X6_inOrder
            refine ok_bind (behind_ok hw.1 hC.1) (fun M1 ⟨h1, f1⟩ => ?_)
            refine ok_bind (rests hw.1 c h1) (fun M2 ⟨h2, hL, f2⟩ => ?_)
            refine ok_pos (nI_pos' hj) ?_
            have e := ithC hw.1 h2 c hj hL (pc s) 0 FU (by omega) (FU_big (by omega)) (Nat.zero_le j)
            have ez : anot s (lf B s 0) = 0 := (sub_iff (by omega)).mpr (fun _ _ z => z)
            rw [ez] at e
            rw [show f_X6_ithDone (nI s) (nI j) M2 = _ from e, Option.bind_some]
            exact ok_some ⟨rfl, (f1.q (by decide)).tr (f2.q (by decide))⟩
          · refine ok_bind hfl (fun M' ⟨g1, g2, g3⟩ => ?_)
            refine ok_pos (nI_pos' hj) ?_
            rw [bitsR (by omega), Option.bind_some]
            by_cases cj : j < pc s
            · refine ok_pos (nI_lt cj (by omega)) ?_
              rw [show f_X12_order_b88 FU (nI s) (nI j) (nI s) 0 M' = _ from ordR hw.1 g1 g3 c cj j 0 FU (by omega) (FU_big (by omega)), if_neg (by omega)]
              exact ok_some ⟨rfl, g2⟩
            · refine ok_neg (fun q => cj ((nI_ltI hj (by omega)).mp q)) ?_
              rw [if_pos (by omega)]
              exact ok_some ⟨rfl, g2⟩
      · rw [if_neg (show ¬ nI (pc s) ≤ 6 from nI_ge (a := 6) (by omega) (by omega)), if_neg (show ¬ nI (pc s) ≤ 6 from nI_ge (a := 6) (by omega) (by omega))]
        unfold f_X12_order_b44
        simp only [bind_bp]
        rw [if_neg n36]
        exact Sim.no3 h
    · have hq : 0 < s / 2 ^ bn B := Nat.div_pos (by omega) (Nat.pow_pos (by decide))
      rw [if_neg (show ¬ nI (s / 2 ^ bn B) = 0 from fun q => absurd (nI_e (b := 0) (by omega) (by decide) q) (by omega)), if_neg (fun q => c ((nI_ltI hs (by omega)).mp q))]
      unfold f_X12_order_b44
      simp only [bind_bp]
      rw [if_neg n66]
      exact Sim.no6 h
  · rw [if_neg hb1, if_neg hb1]; exact r4
