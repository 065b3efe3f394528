/-! sets of doings as numbers: like, unlike -/
def mask (p : Nat → Bool) : Nat → Nat
  | 0 => 0
  | k + 1 => if p k then mask p k ||| 2 ^ k else mask p k
theorem mask_lt (p : Nat → Bool) : ∀ n, mask p n < 2 ^ n := by
  intro n
  induction n with
  | zero => exact Nat.one_pos
  | succ n ih =>
    have h : (2 : Nat) ^ n < 2 ^ (n + 1) := Nat.pow_lt_pow_right (by decide) (Nat.lt_succ_self n)
    show (if p n then mask p n ||| 2 ^ n else mask p n) < _
    split
    · exact Nat.or_lt_two_pow (Nat.lt_trans ih h) h
    · exact Nat.lt_trans ih h
theorem mask_tb (p : Nat → Bool) (e : Nat) : ∀ n, (mask p n).testBit e = (decide (e < n) && p e) := by
  intro n
  induction n with
  | zero => simp [mask]
  | succ n ih =>
    show (if p n then mask p n ||| 2 ^ n else mask p n).testBit e = _
    by_cases c : e = n
    · subst c
      rw [decide_eq_true (Nat.lt_succ_self e), Bool.true_and]
      cases q : p e
      · rw [if_neg (by simp), ih, decide_eq_false (Nat.lt_irrefl e)]; rfl
      · rw [if_pos rfl, Nat.testBit_or, Nat.testBit_two_pow_self, Bool.or_true]
    · have e1 : decide (e < n + 1) = decide (e < n) := by rw [decide_eq_decide]; omega
      rw [e1, ← ih]
      split
      · rw [Nat.testBit_or, Nat.testBit_two_pow, decide_eq_false (fun q => c q.symm), Bool.or_false]
      · rfl
def cntN (p : Nat → Bool) : Nat → Nat
  | 0 => 0
  | k + 1 => cntN p k + (p k).toNat
theorem cntN_le (p : Nat → Bool) (n : Nat) : cntN p n ≤ n := by
  induction n with
  | zero => exact Nat.le_refl _
  | succ n ih =>
    have : (p n).toNat ≤ 1 := by cases p n <;> decide
    show cntN p n + _ ≤ _
    omega
theorem cntN_cong {p q : Nat → Bool} : ∀ n, (∀ k, k < n → p k = q k) → cntN p n = cntN q n := by
  intro n
  induction n with
  | zero => intro _; rfl
  | succ n ih => intro h; show cntN p n + _ = cntN q n + _; rw [ih (fun k hk => h k (by omega)), h n (by omega)]
theorem cntN_pos {p : Nat → Bool} {d : Nat} (h : p d = true) : ∀ n, d < n → 0 < cntN p n := by
  intro n
  induction n with
  | zero => intro h; omega
  | succ n ih =>
    intro hd
    show 0 < cntN p n + (p n).toNat
    by_cases c : d = n
    · subst c; rw [h]; exact Nat.succ_pos _
    · have := ih (by omega); omega
theorem pcn_cnt (a : Nat) : ∀ m, pcn m a = cntN (fun i => a.testBit i) m := by
  intro m
  induction m with
  | zero => rfl
  | succ m ih => show pcn m a + _ = cntN _ m + _; rw [ih]
theorem cntN_more {p : Nat → Bool} {n : Nat} (h : ∀ k, n ≤ k → p k = false) : ∀ k, cntN p (n + k) = cntN p n := by
  intro k
  induction k with
  | zero => rfl
  | succ k ih => show cntN p (n + k) + (p (n + k)).toNat = _; rw [ih, h _ (by omega)]; rfl
theorem pc_mask {p : Nat → Bool} {n : Nat} (hn : n ≤ 12) : pc (mask p n) = cntN p n := by
  have e1 : cntN (fun i => (mask p n).testBit i) n = cntN p n := cntN_cong n (fun k hk => by rw [mask_tb, decide_eq_true hk, Bool.true_and])
  have e2 := cntN_more (p := fun i => (mask p n).testBit i) (n := n) (fun e he => by rw [mask_tb, decide_eq_false (by omega), Bool.false_and]) (12 - n)
  rw [show n + (12 - n) = 12 by omega] at e2
  unfold pc
  rw [pcn_cnt, e2, e1]
/-- the doings that are the same as d -/
def aM (B : Bd) (d : Nat) : Nat := mask (fun e => sm B d e) (bn B)
theorem aM_tb (B : Bd) (d e : Nat) : (aM B d).testBit e = (decide (e < bn B) && sm B d e) := mask_tb _ _ _
theorem aM_lt {B : Bd} (hw : wfB B) (d : Nat) : aM B d < 256 := Nat.lt_of_lt_of_le (mask_lt _ _) (Nat.pow_le_pow_right (by decide) hw.2.2.1)
theorem RA_at {B : Bd} {M : Mem} (h : RA B M) {d : Nat} (hd : d < bn B) : M.1 26 d = nI (aM B d) := by
  obtain ⟨a, -, e, ha⟩ := h d hd
  rw [e]
  congr 1
  apply Nat.eq_of_testBit_eq
  intro i
  rw [aM_tb, Bool.eq_iff_iff, ha i, Bool.and_eq_true, decide_eq_true_iff]
def lk (B : Bd) (d : Nat) : Nat := cntN (fun e => sm B d e) (bn B)
theorem lk_le {B : Bd} (hw : wfB B) (d : Nat) : lk B d ≤ 8 := Nat.le_trans (cntN_le _ _) hw.2.2.1
theorem lk_pos {B : Bd} {d : Nat} (hd : d < bn B) : 0 < lk B d := cntN_pos (sm_self B d) _ hd
theorem pc_aM {B : Bd} (hw : wfB B) (d : Nat) : pc (aM B d) = lk B d := pc_mask (by have := hw.2.2.1; omega)
theorem ldA {B : Bd} {M : Mem} (hw : wfB B) (h : RA B M) {d : Nat} (hd : d < bn B) : ldI M 26 8 (nI d) = some (nI (aM B d)) := by
  rw [ldI_n (by have := hw.2.2.1; omega) (by decide), RA_at h hd]
theorem tiesC {B : Bd} {M : Mem} (hw : wfB B) (h : RA B M) {d : Nat} (hd : d < bn B) : f_X2_tiesOf (nI d) M = some (nI (lk B d - 1)) := by
  have hp := lk_pos hd
  unfold f_X2_tiesOf
  rw [ldA hw h hd, Option.bind_some, bitCount_n (by have := aM_lt hw d; omega), pc_aM hw, show nI (lk B d) - 1 = nI (lk B d - 1) from sub_one_nI (k := 1) hp]
theorem m1_add (a b : Nat) : nI a - 1 + nI b = nI (a + b) - 1 := by
  rw [← nI_add, Int32.sub_eq_add_neg, Int32.sub_eq_add_neg, Int32.add_assoc, Int32.add_comm (-1), ← Int32.add_assoc]
theorem likesR_lp {B : Bd} {M : Mem} {d : Nat} (hw : wfB B) (hb : brdR B M) (hd : d < bn B) : ∀ (k i fuel : Nat), i + k = bn B → k < fuel → f_X12_likesOf_b4 M fuel (nI d) (nI (cntN (fun e => sm B d e) i) - 1) (nI i) = some (nI (lk B d - 1)) := by
  have hn := hw.2.2.1
  intro k
  induction k with
  | zero =>
    intro i fuel hi hf
    obtain ⟨f, rfl⟩ : ∃ f, fuel = f + 1 := ⟨fuel - 1, by omega⟩
    obtain rfl : i = bn B := by omega
    unfold f_X12_likesOf_b4
    rw [hb.1, if_pos (nI_le (by omega) (by omega)), show nI (cntN (fun e => sm B d e) (bn B)) - 1 = nI (lk B d - 1) from sub_one_nI (k := 1) (lk_pos hd)]
  | succ k ih =>
    intro i fuel hi hf
    obtain ⟨f, rfl⟩ : ∃ f, fuel = f + 1 := ⟨fuel - 1, by omega⟩
    unfold f_X12_likesOf_b4
    rw [hb.1, if_neg (nI_ge (by omega) (by omega)), areSameR hb hw (by omega) hd, Option.bind_some, nI_1, sm_symm]
    have := ih (i + 1) f (by omega) (by omega)
    have e : cntN (fun e => sm B d e) (i + 1) = cntN (fun e => sm B d e) i + (sm B d i).toNat := rfl
    rw [e] at this
    cases q : sm B d i with
    | false => rw [q] at this; rw [if_pos (show bI false = 0 from rfl)]; exact (congrArg (fun x => f_X12_likesOf_b4 M f (nI d) x (nI (i + 1))) (m1_add _ 0)).trans this
    | true => rw [q] at this; rw [if_neg (show ¬ bI true = 0 from n10)]; exact (congrArg (fun x => f_X12_likesOf_b4 M f (nI d) x (nI (i + 1))) (m1_add _ 1)).trans this
theorem likesR {B : Bd} {M : Mem} {d : Nat} (hw : wfB B) (hb : brdR B M) (hd : d < bn B) : f_X12_likesOf (nI d) M = some (nI (lk B d - 1)) :=
  likesR_lp hw hb hd (bn B) 0 FU (by omega) (FU_big (by have := hw.2.2.1; omega))
def gLk (B : Bd) (d : Nat) : Nat := lk B d - 1
theorem gLk_lt {B : Bd} (hw : wfB B) (d : Nat) : gLk B d < 2 ^ 31 := by have := lk_le hw d; unfold gLk; omega
theorem mostC_lp {B : Bd} {M : Mem} (hw : wfB B) (hb : brdC 1 B M) (h : RA B M) : ∀ (k i fuel : Nat), i + k = bn B → k < fuel → f_X2_withMostLikes_b14 fuel (oI (amax (gLk B) i)) (xV (gLk B) (amax (gLk B) i)) (nI i) M = some (oI (amax (gLk B) (bn B)), M) := by
  have hn := hw.2.2.1
  intro k
  induction k with
  | zero =>
    intro i fuel hi hf
    obtain ⟨f, rfl⟩ : ∃ f, fuel = f + 1 := ⟨fuel - 1, by omega⟩
    obtain rfl : i = bn B := by omega
    unfold f_X2_withMostLikes_b14
    rw [hb.1, if_pos (nI_le (by omega) (by omega))]
  | succ k ih =>
    intro i fuel hi hf
    obtain ⟨f, rfl⟩ : ∃ f, fuel = f + 1 := ⟨fuel - 1, by omega⟩
    unfold f_X2_withMostLikes_b14
    rw [hb.1, if_neg (nI_ge (by omega) (by omega)), tiesC hw h (by omega), Option.bind_some, nI_1]
    have st := amax_step (gLk B) i
    have := ih (i + 1) f (by omega) (by omega)
    rw [st] at this
    show (if nI (gLk B i) ≤ _ then _ else _) = _
    rcases xV_step (g := gLk B) (o := amax (gLk B) i) (x := i) (gLk_lt hw i) (fun b _ => gLk_lt hw b) with ⟨c, e⟩ | ⟨c, e⟩
    · rw [if_pos c]; rw [e] at this; exact this
    · rw [if_neg c]; rw [e] at this; exact this
theorem mostR_lp {B : Bd} {M : Mem} (hw : wfB B) (hb : brdR B M) : ∀ (k i fuel : Nat), i + k = bn B → k < fuel → 1 ≤ i → f_X12_like_b45 fuel (oI (amax (gLk B) i)) (nI i) M = some (oI (amax (gLk B) (bn B)), M) := by
  have hn := hw.2.2.1
  intro k
  induction k with
  | zero =>
    intro i fuel hi hf h1
    obtain ⟨f, rfl⟩ : ∃ f, fuel = f + 1 := ⟨fuel - 1, by omega⟩
    obtain rfl : i = bn B := by omega
    unfold f_X12_like_b45
    rw [hb.1, if_pos (nI_le (by omega) (by omega))]
  | succ k ih =>
    intro i fuel hi hf h1
    obtain ⟨f, rfl⟩ : ∃ f, fuel = f + 1 := ⟨fuel - 1, by omega⟩
    have st := amax_step (gLk B) i
    have := ih (i + 1) f (by omega) (by omega) (by omega)
    rw [st] at this
    obtain ⟨i', rfl⟩ : ∃ i', i = i' + 1 := ⟨i - 1, by omega⟩
    cases hb' : amax (gLk B) (i' + 1) with
    | none => exact absurd hb' amax_ne
    | some b =>
      have hlt := amax_lt hb'
      rw [hb'] at this
      unfold f_X12_like_b45
      rw [hb.1, if_neg (nI_ge (by omega) (by omega)), likesR hw hb (by omega), Option.bind_some, show oI (some b) = nI b from rfl, likesR hw hb (by omega), Option.bind_some, nI_1]
      have g1 := gLk_lt hw b
      have g2 := gLk_lt hw (i' + 1)
      show f_X12_like_b45 f (if nI (gLk B (i' + 1)) ≤ nI (gLk B b) then _ else _) _ _ = _
      by_cases c : gLk B b < gLk B (i' + 1)
      · rw [if_neg (fun q => absurd ((nI_leI g2 g1).mp q) (by omega))]
        rw [show axs (gLk B) (some b) (i' + 1) = some (i' + 1) from if_pos c] at this
        exact this
      · rw [if_pos ((nI_leI g2 g1).mpr (by omega))]
        rw [show axs (gLk B) (some b) (i' + 1) = some b from if_neg c] at this
        exact this
theorem sim_like {MC MR : Mem} (h : Inv MC MR) (a : Int32) : Sim (f_X11_like a MC) (f_X12_like a MR) := by
  obtain ⟨B, im, S, lt, rw', hw, hC, hR, hf⟩ := id h
  have hn := hw.1.2.2.1
  unfold f_X11_like f_X12_like
  simp only [bind_bp]
  rw [hC.1.1]
  rcases i_cases a with hng | ⟨d, hd, rfl⟩
  · rcases neg_cases hng with hm | rfl
    · have e2 : f_X12_isDoing a MR = 0 := by unfold f_X12_isDoing; rw [if_pos hng]
      rw [if_pos hm, if_neg (fun z => by rw [z] at hm; exact absurd hm (by decide)), e2, if_pos p00]
      exact Sim.no1 h
    · rw [if_neg (show ¬ (-1 : Int32) < -1 by decide), if_pos (i_neg_lt hng (by omega)), if_neg (show ¬ (0 : Int32) ≤ -1 by decide), if_pos rfl]
      unfold f_X12_like_b19
      rw [if_pos hng, hR.1.1]
      refine Sim.q h (oI (amax (gLk B) (bn B))) (ok2_mk ?_) ?_
      · unfold f_X2_withMostLikes
        refine ok_bind (open_ok hw.1 hC.1) (fun M1 ⟨h1, f1⟩ => ?_)
        exact ok_eq (mostC_lp hw.1 h1.1 h1.2.1 (bn B) 0 FU (by omega) (FU_big (by omega))) ⟨rfl, f1.q (by decide)⟩
      · by_cases c : bn B = 0
        · refine ⟨_, _, ?_, rfl, agR.rf⟩
          obtain ⟨f, hf'⟩ : ∃ f, FU = f + 1 := ⟨FU - 1, by have := FU_big (k := 0) (by decide); omega⟩
          rw [hf']
          unfold f_X12_like_b45
          rw [hR.1.1, c, if_pos (show nI 0 = 0 from rfl), if_pos (show nI 0 ≤ 1 by decide)]
          rfl
        · rw [if_neg (show ¬ nI (bn B) = 0 from fun q => c (nI_e (b := 0) (by omega) (by decide) q))]
          exact ⟨_, _, mostR_lp hw.1 hR.1 (bn B - 1) 1 FU (by omega) (FU_big (by omega)) (by decide), rfl, agR.rf⟩
  · rw [if_neg (nI_nlt_m1 hd), if_neg (nI_ne_m1 hd)]
    rcases knows hC.1 hR.1 hw.1 (nI d) with ⟨e1, e2⟩ | ⟨e1, e2, p, hp, e3⟩
    · have : ¬ nI d < nI (bn B) := by
        intro q
        have hlt := (nI_ltI hd (by omega)).mp q
        rcases hasDoingC hC.1 hw.1 (nI d) with ⟨-, z | ⟨d', z1, z2, z3⟩⟩ | ⟨z, -⟩
        · exact nI_pos hd z
        · have := nI_e hd z1 z3; omega
        · rw [z] at e1; exact absurd e1 n10
      rw [if_neg this, e2, if_pos p00]
      exact Sim.no1 h
    · obtain rfl : d = p := nI_e hd (by omega) e3
      rw [if_pos (nI_lt hp (by omega)), if_pos (nI_pos' hd), e2, if_neg n10]
      unfold f_X12_like_b19 f_X2_likesOf
      rw [if_neg (nI_pos hd), likesR hw.1 hR.1 hp]
      refine Sim.q h (nI (lk B d - 1)) (ok2_mk ?_) ⟨_, _, rfl, rfl, agR.rf⟩
      refine ok_bind (open_ok hw.1 hC.1) (fun M1 ⟨h1, f1⟩ => ?_)
      rw [tiesC hw.1 h1.2.1 hp, Option.bind_some]
      exact ok_some ⟨rfl, f1.q (by decide)⟩
