/-- only these rows are written -/
def fr (rs : List Nat) (M M' : Mem) : Prop := ∀ r, r ∉ rs → M'.1 r = M.1 r
theorem fr.rf {rs : List Nat} {M : Mem} : fr rs M M := fun _ _ => rfl
theorem fr.tr {rs : List Nat} {M M' M'' : Mem} (h : fr rs M M') (h' : fr rs M' M'') : fr rs M M'' := fun r hr => (h' r hr).trans (h r hr)
theorem fr.mono {rs rs' : List Nat} {M M' : Mem} (h : fr rs M M') (hs : ∀ r ∈ rs, r ∈ rs') : fr rs' M M' := fun r hr => h r (fun q => hr (hs r q))
theorem fr.wI {rs : List Nat} {M : Mem} {r i : Nat} {v : Int32} (h : r ∈ rs) : fr rs M (wI M r i v) := fun r' hr => wI_other (fun q => hr (q ▸ h))
theorem brdC.fr {B : Bd} {M M' : Mem} {rs : List Nat} (h : brdC 1 B M) (hf : fr rs M M') (hrs : ∀ r ∈ rs, 5 < r) : brdC 1 B M' :=
  h.cong fun r h1 h2 => hf r (fun q => absurd (hrs r q) (by omega))
theorem fill_lp (q n : Nat) (v : Int32) (hn : n ≤ 1000) : ∀ (k i fuel : Nat) (M : Mem), i + k = n → k < fuel → ok (f_J7_fill_53178_b5 q n fuel v (nI i) (nI n) M) (fun M' => (∀ j, i ≤ j → j < n → M'.1 q j = v) ∧ (∀ j, j < i → M'.1 q j = M.1 q j) ∧ fr [q] M M') := by
  intro k
  induction k with
  | zero =>
    intro i fuel M hi hf
    obtain ⟨f, rfl⟩ : ∃ f, fuel = f + 1 := ⟨fuel - 1, by omega⟩
    unfold f_J7_fill_53178_b5
    exact ok_pos (nI_le (by omega) (by omega)) (ok_some ⟨fun j h1 h2 => by omega, fun _ _ => rfl, fr.rf⟩)
  | succ k ih =>
    intro i fuel M hi hf
    obtain ⟨f, rfl⟩ : ∃ f, fuel = f + 1 := ⟨fuel - 1, by omega⟩
    unfold f_J7_fill_53178_b5
    refine ok_neg (nI_ge (by omega) (by omega)) (ok_st (by omega) (by omega) ?_)
    rw [nI_1]
    refine ok_mono (ih (i + 1) f _ (by omega) (by omega)) (fun M' h => ⟨fun j h1 h2 => ?_, fun j h1 => ?_, (fr.wI (by simp)).tr h.2.2⟩)
    · by_cases c : j = i
      · subst c
        rw [h.2.1 j (by omega), wI_at, if_pos ⟨rfl, rfl⟩]
      · exact h.1 j (by omega) h2
    · rw [h.2.1 j (by omega), wI_at, if_neg (by omega)]
theorem FU_big {k : Nat} (h : k < 100000) : k < FU := by rw [FU_eq]; exact h
theorem fill_ok {q n : Nat} {v : Int32} {M : Mem} (hn : n ≤ 1000) : ok (f_J7_fill_53178 q n v M) (fun M' => (∀ j, j < n → M'.1 q j = v) ∧ fr [q] M M') :=
  ok_mono (fill_lp q n v hn n 0 FU M (by omega) (FU_big (by omega))) (fun M' h => ⟨fun j hj => h.1 j (Nat.zero_le _) hj, h.2.2⟩)
def RA (L : Bd) (M : Mem) : Prop := ∀ d, d < bn L → ∃ a, a < 256 ∧ M.1 26 d = nI a ∧ ∀ e, (a.testBit e = true ↔ e < bn L ∧ sm L d e = true)
def RP (n : Nat) (f : Nat → Nat) (M : Mem) : Prop := ∀ d, d < n → M.1 27 d = nI (f d)
def RK (B : Bd) (ty te : Nat) (pre : List Nat) (M : Mem) : Prop := brdC 1 B M ∧ RA (lw B ty te) M ∧ RP (bn B) (cnt (lw B ty te) pre) M
theorem RA.fr {L : Bd} {M M' : Mem} (h : RA L M) (e : M'.1 26 = M.1 26) : RA L M' := by
  unfold RA at *
  rw [e]
  exact h
theorem forget_ok {M : Mem} : ok (f_X8_forgetSteps M) (fun M' => (∀ j, j < 8 → M'.1 27 j = 0) ∧ fr [27] M M') := by
  unfold f_X8_forgetSteps
  exact ok_bind (fill_ok (by decide)) (fun M' h => ok_some h)
theorem forget_RK {B : Bd} {ty te : Nat} {M : Mem} (hw : wfB B) (hb : brdC 1 B M) (hA : RA (lw B ty te) M) : ok (f_X8_forgetSteps M) (fun M' => RK B ty te [] M' ∧ fr [27] M M') :=
  ok_mono forget_ok fun M' h => ⟨⟨hb.fr h.2 (by decide), hA.fr (h.2 26 (by decide)), fun d hd => h.1 d (by have := hw.2.2.1; omega)⟩, h.2⟩
/-- while the rows of bits are made -/
def set2 (L : Bd) (d o x e : Nat) : Prop := sm L x e = true ∧ ((x < d ∧ e < d) ∨ (x = d ∧ e = d) ∨ (x = d ∧ e < o) ∨ (e = d ∧ x < o))
def RI (L : Bd) (d o : Nat) (M : Mem) : Prop := ∀ x, x ≤ d → ∃ a, a < 256 ∧ M.1 26 x = nI a ∧ ∀ e, (a.testBit e = true ↔ set2 L d o x e)
def RO (L : Bd) (d : Nat) (M : Mem) : Prop := ∀ x, x < d → ∃ a, a < 256 ∧ M.1 26 x = nI a ∧ ∀ e, (a.testBit e = true ↔ (e < d ∧ sm L x e = true))
theorem tb_or {a k e : Nat} : ((a ||| 2 ^ k).testBit e = true) ↔ (a.testBit e = true ∨ e = k) := by
  rw [Nat.testBit_or, Nat.testBit_two_pow, Bool.or_eq_true, decide_eq_true_iff]
  exact ⟨fun h => h.imp id Eq.symm, fun h => h.imp id Eq.symm⟩
theorem or_256 {a k : Nat} (ha : a < 256) (hk : k < 8) : a ||| 2 ^ k < 256 := Nat.or_lt_two_pow (n := 8) ha (Nat.pow_lt_pow_right (by decide) hk)
theorem openBy_in {B : Bd} {ty te d : Nat} (hw : wfB B) (hty : ty < 4) (hte : te ≤ 8) (hd : d < bn B) (kont : Int32 → Int32 → Int32 → Mem → Option Mem) (Q : Mem → Prop) :
    ∀ (k o fuel : Nat) (M : Mem), o + k = d → k < fuel → brdC 1 B M → RI (lw B ty te) d o M → (∀ M', brdC 1 B M' → RI (lw B ty te) d d M' → fr [26] M M' → ok (kont (nI ty) (nI te) (nI (d + 1)) M') Q) →
    ok (f_X8_openBy_b25 kont fuel (nI ty) (nI te) (nI d) (nI o) M) Q := by
  have hn := hw.2.2.1
  intro k
  induction k with
  | zero =>
    intro o fuel M ho hf hb hI hk
    obtain ⟨f, rfl⟩ : ∃ f, fuel = f + 1 := ⟨fuel - 1, by omega⟩
    unfold f_X8_openBy_b25
    refine ok_pos (nI_le (by omega) (by omega)) ?_
    rw [nI_1]
    obtain rfl : o = d := by omega
    exact hk M hb hI fr.rf
  | succ k ih =>
    intro o fuel M ho hf hb hI hk
    obtain ⟨f, rfl⟩ : ∃ f, fuel = f + 1 := ⟨fuel - 1, by omega⟩
    unfold f_X8_openBy_b25
    refine ok_neg (nI_ge (by omega) (by omega)) ?_
    rw [areAlikeC hb hw hty hte hd (by omega), Option.bind_some, nI_1]
    simp only [l_0, l_1, l_2, l_3, l_4, l_5, l_6, l_7, l_8, l_9, l_10, l_11, l_12, l_16, l_20, l_31, l_35, l_36, l_40, l_48, l_57, l_59, l_60, l_63, l_64, l_80, l_81, l_96, l_99, l_100, l_108, l_109, l_111, l_120, l_255, l_256, l_400, l_999, l_12345, l_65536, l_1000000, l_252645135, l_858993459, l_1103515245, l_1431655765, l_2147483647]
    by_cases c : sm (lw B ty te) d o = true
    · rw [c]
      refine ok_neg (by decide) ?_
      obtain ⟨a, a8, ea, ha⟩ := hI d (Nat.le_refl d)
      obtain ⟨b, b8, eb, hbt⟩ := hI o (by omega)
      refine ok_ld (by omega) (by decide) ea ?_
      have j1 := jshl_1 (k := o) (by omega)
      have j2 := jshl_1 (k := d) (by omega)
      simp only [l_0, l_1, l_2, l_3, l_4, l_5, l_6, l_7, l_8, l_9, l_10, l_11, l_12, l_16, l_20, l_31, l_35, l_36, l_40, l_48, l_57, l_59, l_60, l_63, l_64, l_80, l_81, l_96, l_99, l_100, l_108, l_109, l_111, l_120, l_255, l_256, l_400, l_999, l_12345, l_65536, l_1000000, l_252645135, l_858993459, l_1103515245, l_1431655765, l_2147483647] at j1 j2
      rw [j1, j2, fa_or]
      refine ok_st (by omega) (by decide) ?_
      refine ok_ld (v := nI b) (by omega) (by decide) (by rw [wI_at, if_neg (by omega)]; exact eb) ?_
      rw [fa_or]
      refine ok_st (by omega) (by decide) ?_
      have hfr : fr [26] M (wI (wI M 26 d (nI (a ||| 2 ^ o))) 26 o (nI (b ||| 2 ^ d))) := (fr.wI (by simp)).tr (fr.wI (by simp))
      refine ih (o + 1) f _ (by omega) (by omega) (hb.fr hfr (by decide)) ?_ (fun M' h1 h2 h3 => hk M' h1 h2 (hfr.tr h3))
      intro x hx
      by_cases x1 : x = o
      · subst x1
        refine ⟨b ||| 2 ^ d, or_256 b8 (by omega), by rw [wI_at, if_pos ⟨rfl, rfl⟩], fun e => ?_⟩
        rw [tb_or, hbt e]
        have c' := c
        rw [sm_symm] at c'
        unfold set2
        constructor
        · rintro (⟨q1, q2⟩ | rfl)
          · exact ⟨q1, by omega⟩
          · exact ⟨c', by omega⟩
        · rintro ⟨q1, q2⟩
          by_cases z : e = d
          · exact Or.inr z
          · exact Or.inl ⟨q1, by omega⟩
      · by_cases x2 : x = d
        · subst x2
          refine ⟨a ||| 2 ^ o, or_256 a8 (by omega), by rw [wI_at, if_neg (by omega), wI_at, if_pos ⟨rfl, rfl⟩], fun e => ?_⟩
          rw [tb_or, ha e]
          unfold set2
          constructor
          · rintro (⟨q1, q2⟩ | rfl)
            · exact ⟨q1, by omega⟩
            · exact ⟨c, by omega⟩
          · rintro ⟨q1, q2⟩
            by_cases z : e = o
            · exact Or.inr z
            · exact Or.inl ⟨q1, by omega⟩
        · obtain ⟨g, g8, eg, hg⟩ := hI x hx
          refine ⟨g, g8, by rw [wI_at, if_neg (by omega), wI_at, if_neg (by omega)]; exact eg, fun e => ?_⟩
          rw [hg e]
          unfold set2
          constructor
          · rintro ⟨q1, q2⟩; exact ⟨q1, by omega⟩
          · rintro ⟨q1, q2⟩; exact ⟨q1, by omega⟩
    · have c0 : sm (lw B ty te) d o = false := by simpa using c
      rw [c0]
      refine ok_pos (by decide) ?_
      refine ih (o + 1) f M (by omega) (by omega) hb ?_ hk
      intro x hx
      obtain ⟨g, g8, eg, hg⟩ := hI x hx
      refine ⟨g, g8, eg, fun e => ?_⟩
      rw [hg e]
      unfold set2
      constructor
      · rintro ⟨q1, q2⟩; exact ⟨q1, by omega⟩
      · rintro ⟨q1, q2⟩
        refine ⟨q1, ?_⟩
        by_cases z : x = d ∧ e = o
        · rw [z.1, z.2] at q1; exact absurd q1 c
        · by_cases z2 : e = d ∧ x = o
          · rw [z2.1, z2.2, sm_symm] at q1; exact absurd q1 c
          · omega
theorem openBy_out {B : Bd} {ty te : Nat} (hw : wfB B) (hty : ty < 4) (hte : te ≤ 8) :
    ∀ (k d fuel : Nat) (M : Mem), d + k = bn B → k < fuel → brdC 1 B M → RO (lw B ty te) d M → ok (f_X8_openBy_b2 fuel (nI ty) (nI te) (nI d) M) (fun M' => RK B ty te [] M' ∧ fr [26, 27] M M') := by
  have hn := hw.2.2.1
  intro k
  induction k with
  | zero =>
    intro d fuel M hd hf hb hO
    obtain ⟨f, rfl⟩ : ∃ f, fuel = f + 1 := ⟨fuel - 1, by omega⟩
    unfold f_X8_openBy_b2
    rw [hb.1]
    obtain rfl : d = bn B := by omega
    refine ok_pos (nI_le (by omega) (by omega)) (ok_bind (forget_RK hw hb (show RA (lw B ty te) M from hO)) (fun M' h => ok_some ⟨h.1, h.2.mono (by decide)⟩))
  | succ k ih =>
    intro d fuel M hd hf hb hO
    obtain ⟨f, rfl⟩ : ∃ f, fuel = f + 1 := ⟨fuel - 1, by omega⟩
    unfold f_X8_openBy_b2
    rw [hb.1]
    refine ok_neg (nI_ge (by omega) (by omega)) ?_
    rw [jshl_1 (by omega)]
    refine ok_st (by omega) (by decide) ?_
    have hfr : fr [26] M (wI M 26 d (nI (2 ^ d))) := fr.wI (by simp)
    refine openBy_in hw hty hte (by omega) _ _ d 0 FU _ (by omega) (FU_big (by omega)) (hb.fr hfr (by decide)) ?_ (fun M' h1 h2 h3 => ?_)
    · intro x hx
      by_cases x2 : x = d
      · subst x2
        refine ⟨2 ^ x, Nat.lt_of_lt_of_le (Nat.pow_lt_pow_right (by decide) (show x < 8 by omega)) (by decide), by rw [wI_at, if_pos ⟨rfl, rfl⟩], fun e => ?_⟩
        rw [Nat.testBit_two_pow, decide_eq_true_iff]
        unfold set2
        constructor
        · rintro rfl; exact ⟨sm_self _ _, by omega⟩
        · rintro ⟨q1, q2⟩; omega
      · obtain ⟨g, g8, eg, hg⟩ := hO x (by omega)
        refine ⟨g, g8, by rw [wI_at, if_neg (by omega)]; exact eg, fun e => ?_⟩
        rw [hg e]
        unfold set2
        constructor
        · rintro ⟨q1, q2⟩; exact ⟨q2, by omega⟩
        · rintro ⟨q1, q2⟩; exact ⟨by omega, q1⟩
    · refine ok_mono (ih (d + 1) f M' (by omega) (by omega) h1 ?_) (fun M2 q => ⟨q.1, ((hfr.tr h3).mono (by decide)).tr q.2⟩)
      intro x hx
      obtain ⟨g, g8, eg, hg⟩ := h2 x (by omega)
      refine ⟨g, g8, eg, fun e => ?_⟩
      rw [hg e]
      unfold set2
      constructor
      · rintro ⟨q1, q2⟩; exact ⟨by omega, q1⟩
      · rintro ⟨q1, q2⟩; exact ⟨q2, by omega⟩
theorem openBy_ok {B : Bd} {ty te : Nat} {M : Mem} (hw : wfB B) (hty : ty < 4) (hte : te ≤ 8) (hb : brdC 1 B M) : ok (f_X8_openBy (nI ty) (nI te) M) (fun M' => RK B ty te [] M' ∧ fr [26, 27] M M') := by
  unfold f_X8_openBy
  exact openBy_out hw hty hte (bn B) 0 FU M (by omega) (FU_big (by have := hw.2.2.1; omega)) hb (fun x hx => absurd hx (by omega))
theorem open_ok {B : Bd} {M : Mem} (hw : wfB B) (hb : brdC 1 B M) : ok (f_X8_open M) (fun M' => RK B B.1.1 B.1.2 [] M' ∧ fr [26, 27] M M') := by
  unfold f_X8_open
  rw [hb.2.2.1, hb.2.2.2.1]
  exact ok_bind (openBy_ok hw hw.1 hw.2.1 hb) (fun M' h => ok_some h)
theorem shift_lp {B L : Bd} {d : Nat} {x : Int32} {a : Nat} (hn : bn B ≤ 8) (hL : bn L = bn B) (ha : a < 256) (ht : ∀ e, (a.testBit e = true ↔ e < bn L ∧ sm L d e = true)) :
    ∀ (k i fuel : Nat) (M : Mem), i + k = bn B → k < fuel → M.1 1 4 = nI (bn B) → ok (f_X8_shift_b10 fuel x (nI a) (nI i) M) (fun M' => (∀ e, i ≤ e → e < bn B → M'.1 27 e = if sm L d e = true then M.1 27 e + x else M.1 27 e) ∧ (∀ e, e < i → M'.1 27 e = M.1 27 e) ∧ fr [27] M M') := by
  intro k
  induction k with
  | zero =>
    intro i fuel M hi hf h4
    obtain ⟨f, rfl⟩ : ∃ f, fuel = f + 1 := ⟨fuel - 1, by omega⟩
    unfold f_X8_shift_b10
    rw [h4]
    exact ok_pos (nI_le (by omega) (by omega)) (ok_some ⟨fun j h1 h2 => by omega, fun _ _ => rfl, fr.rf⟩)
  | succ k ih =>
    intro i fuel M hi hf h4
    obtain ⟨f, rfl⟩ : ∃ f, fuel = f + 1 := ⟨fuel - 1, by omega⟩
    unfold f_X8_shift_b10
    rw [h4]
    refine ok_neg (nI_ge (by omega) (by omega)) ?_
    rw [nI_1]
    refine ok_ite (fun c => ?_) (fun c => ?_)
    · rw [bit_0 (by omega) (by omega)] at c
      refine ok_mono (ih (i + 1) f M (by omega) (by omega) h4) (fun M' h => ⟨fun e h1 h2 => ?_, fun e h1 => h.2.1 e (by omega), h.2.2⟩)
      by_cases z : e = i
      · subst z
        have : ¬ sm L d e = true := fun q => by
          have := (ht e).mpr ⟨by omega, q⟩
          rw [c] at this; cases this
        rw [h.2.1 e (by omega), if_neg this]
      · exact h.1 e (by omega) h2
    · rw [bit_0 (by omega) (by omega)] at c
      refine ok_ld (by omega) (by decide) rfl (ok_st (by omega) (by decide) ?_)
      have hs : sm L d i = true := ((ht i).mp (by simpa using c)).2
      have hfr : fr [27] M (wI M 27 i (M.1 27 i + x)) := fr.wI (by simp)
      refine ok_mono (ih (i + 1) f _ (by omega) (by omega) (by rw [hfr 1 (by decide)]; exact h4)) (fun M' h => ⟨fun e h1 h2 => ?_, fun e h1 => ?_, hfr.tr h.2.2⟩)
      · by_cases z : e = i
        · subst z
          rw [h.2.1 e (by omega), if_pos hs, wI_at, if_pos ⟨rfl, rfl⟩]
        · have : (wI M 27 i (M.1 27 i + x)).1 27 e = M.1 27 e := by rw [wI_at, if_neg (by omega)]
          rw [h.1 e (by omega) h2, this]
      · rw [h.2.1 e (by omega), wI_at, if_neg (by omega)]
theorem shift_ok {B : Bd} {ty te d : Nat} {x : Int32} {M : Mem} (hw : wfB B) (hb : brdC 1 B M) (hA : RA (lw B ty te) M) (hd : d < bn B) :
    ok (f_X8_shift (nI d) x M) (fun M' => (∀ e, e < bn B → M'.1 27 e = if sm (lw B ty te) d e = true then M.1 27 e + x else M.1 27 e) ∧ fr [27] M M') := by
  have hn := hw.2.2.1
  obtain ⟨a, a8, ea, ha⟩ := hA d hd
  unfold f_X8_shift
  refine ok_ld (by omega) (by decide) ea ?_
  exact ok_mono (shift_lp (L := lw B ty te) (d := d) hn rfl a8 ha (bn B) 0 FU M (by omega) (FU_big (by omega)) hb.1) (fun M' h => ⟨fun e he => h.1 e (Nat.zero_le _) he, h.2.2⟩)
theorem step_ok {B : Bd} {ty te d : Nat} {pre : List Nat} {M : Mem} (hw : wfB B) (h : RK B ty te pre M) (hd : d < bn B) (hp : pre.length ≤ 900) :
    ok2 (f_X8_step (nI d) M) (fun v M' => v = nI (due B d (cnt (lw B ty te) pre d)) ∧ RK B ty te (pre ++ [d]) M' ∧ fr [27] M M') := by
  refine ok2_mk ?_
  have hn := hw.2.2.1
  obtain ⟨hb, hA, hP⟩ := h
  unfold f_X8_step
  refine ok_ld (by omega) (by decide) (hP d hd) ?_
  rw [dueForC hb hw hd (Nat.le_trans (cnt_le _ _ _) (by omega)), Option.bind_some]
  refine ok_bind (shift_ok hw hb hA hd) (fun M' q => ok_some ⟨rfl, ⟨hb.fr q.2 (by decide), hA.fr (q.2 26 (by decide)), fun e he => ?_⟩, q.2⟩)
  show M'.1 27 e = _
  rw [q.1 e he, hP e he, cnt_snoc]
  by_cases c : sm (lw B ty te) d e = true
  · rw [if_pos c, c]; exact nI_1 _
  · rw [if_neg c]
    have c0 : sm (lw B ty te) d e = false := by simpa using c
    rw [c0]; rfl
theorem dueNow_ok {B : Bd} {ty te d : Nat} {pre : List Nat} {M : Mem} (hw : wfB B) (h : RK B ty te pre M) (hd : d < bn B) (hp : pre.length ≤ 900) :
    f_X8_dueNow (nI d) M = some (nI (due B d (cnt (lw B ty te) pre d))) := by
  have hn := hw.2.2.1
  obtain ⟨hb, hA, hP⟩ := h
  unfold f_X8_dueNow
  rw [ldI_n (by omega) (by decide), hP d hd, Option.bind_some, dueForC hb hw hd (Nat.le_trans (cnt_le _ _ _) (by omega))]
  rfl
theorem tot_lw (B : Bd) : lw B B.1.1 B.1.2 = B := rfl
theorem walk_lp {B : Bd} {ty te : Nat} (hw : wfB B) :
    ∀ (k i fuel : Nat) (M : Mem), i + k = bpl B → k < fuel → RK B ty te (B.2.2.take i) M → ok2 (f_X8_walkLog_b4 fuel (nI (tot (lw B ty te) (B.2.2.take i))) (nI i) M) (fun v M' => v = nI (tot (lw B ty te) B.2.2) ∧ RK B ty te B.2.2 M' ∧ fr [27] M M') := by
  have hn := hw.2.2.1
  have h12 := hw.2.2.2.1
  intro k
  induction k with
  | zero =>
    intro i fuel M hi hf h
    obtain ⟨f, rfl⟩ : ∃ f, fuel = f + 1 := ⟨fuel - 1, by omega⟩
    refine ok2_mk ?_
    unfold f_X8_walkLog_b4
    rw [h.1.2.1]
    have e : B.2.2.take i = B.2.2 := List.take_of_length_le (by unfold bpl at hi; omega)
    rw [e] at h ⊢
    exact ok_pos (nI_le (by omega) (by omega)) (ok_some ⟨rfl, h, fr.rf⟩)
  | succ k ih =>
    intro i fuel M hi hf h
    obtain ⟨f, rfl⟩ : ∃ f, fuel = f + 1 := ⟨fuel - 1, by omega⟩
    refine ok2_mk ?_
    unfold f_X8_walkLog_b4
    rw [h.1.2.1]
    refine ok_neg (nI_ge (by omega) (by omega)) ?_
    refine ok_ld (by omega) (by decide) (h.1.2.2.2.2.2.2.2 i (by omega)) ?_
    refine ok_bp (step_ok hw h (lgA_in hw (p := i) (by omega)) (by rw [List.length_take]; omega)) (fun v M' q => ?_)
    rw [q.1, nI_add, nI_1]
    have e := take_lg (B := B) (p := i) (by omega)
    have e2 : tot (lw B ty te) (B.2.2.take (i + 1)) = tot (lw B ty te) (B.2.2.take i) + due B (lgA B i) (cnt (lw B ty te) (B.2.2.take i) (lgA B i)) := by
      rw [e, tot_snoc]; rfl
    rw [← e2]
    exact (ih (i + 1) f M' (by omega) (by omega) (by rw [e]; exact q.2.1)).mono (fun p M2 z => ⟨z.1, z.2.1, q.2.2.tr z.2.2⟩)
theorem walk_ok {B : Bd} {ty te : Nat} {M : Mem} (hw : wfB B) (h : RK B ty te [] M) : ok2 (f_X8_walkLog M) (fun v M' => v = nI (tot (lw B ty te) B.2.2) ∧ RK B ty te B.2.2 M' ∧ fr [27] M M') := by
  unfold f_X8_walkLog
  exact walk_lp hw (bpl B) 0 FU M (by omega) (FU_big (by have := hw.2.2.2.1; omega)) h
theorem totalBy_ok {B : Bd} {ty te : Nat} {M : Mem} (hw : wfB B) (hty : ty < 4) (hte : te ≤ 8) (hb : brdC 1 B M) : ok2 (f_X8_totalBy (nI ty) (nI te) M) (fun v M' => v = nI (tot (lw B ty te) B.2.2) ∧ RK B ty te B.2.2 M' ∧ fr [26, 27] M M') := by
  refine ok2_mk ?_
  unfold f_X8_totalBy
  refine ok_bind (openBy_ok hw hty hte hb) (fun M1 h1 => ?_)
  refine ok_bp (walk_ok hw h1.1) (fun v M2 h2 => ?_)
  exact ok_some ⟨h2.1, h2.2.1, h1.2.tr (h2.2.2.mono (by decide))⟩
theorem total_ok {B : Bd} {M : Mem} (hw : wfB B) (hb : brdC 1 B M) : ok2 (f_X8_total M) (fun v M' => v = nI (tot B B.2.2) ∧ RK B B.1.1 B.1.2 B.2.2 M' ∧ fr [26, 27] M M') := by
  refine ok2_mk ?_
  unfold f_X8_total
  rw [hb.2.2.1, hb.2.2.2.1]
  refine ok_bind (openBy_ok hw hw.1 hw.2.1 hb) (fun M1 h1 => ?_)
  refine ok_bp (walk_ok hw h1.1) (fun v M2 h2 => ?_)
  exact ok_some ⟨h2.1, h2.2.1, h1.2.tr (h2.2.2.mono (by decide))⟩
theorem behind_ok {B : Bd} {M : Mem} (hw : wfB B) (hb : brdC 1 B M) : ok (f_X8_openBehindLog M) (fun M' => RK B B.1.1 B.1.2 B.2.2 M' ∧ fr [26, 27] M M') := by
  unfold f_X8_openBehindLog
  refine ok_bind (open_ok hw hb) (fun M1 h1 => ?_)
  refine ok_bp (walk_ok hw h1.1) (fun v M2 h2 => ?_)
  exact ok_some ⟨h2.2.1, h1.2.tr (h2.2.2.mono (by decide))⟩
