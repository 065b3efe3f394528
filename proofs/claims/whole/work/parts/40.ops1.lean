theorem n10 : ¬ (1 : Int32) = 0 := by decide
theorem p00 : (0 : Int32) = 0 := rfl
/-! the first, the least: what loops look for -/
def ams {α : Type} (g : α → Nat) (T : Nat) (acc : Option α) (x : α) : Option α := match acc with
  | none => if g x < T then some x else none
  | some b => if g x < g b then some x else some b
def axs {α : Type} (g : α → Nat) (acc : Option α) (x : α) : Option α := match acc with
  | none => some x
  | some b => if g b < g x then some x else some b
def amin (g : Nat → Nat) (T n : Nat) : Option Nat := (List.range n).foldl (ams g T) none
def amax (g : Nat → Nat) (n : Nat) : Option Nat := (List.range n).foldl (axs g) none
theorem amin_s (g : Nat → Nat) (T n : Nat) : amin g T (n + 1) = ams g T (amin g T n) n := by
  unfold amin
  rw [List.range_succ, List.foldl_append]
  rfl
theorem amax_s (g : Nat → Nat) (n : Nat) : amax g (n + 1) = axs g (amax g n) n := by
  unfold amax
  rw [List.range_succ, List.foldl_append]
  rfl
theorem amin_lt {g : Nat → Nat} {T : Nat} : ∀ {n b : Nat}, amin g T n = some b → b < n := by
  intro n
  induction n with
  | zero => intro b h; cases h
  | succ n ih =>
    intro b h
    rw [amin_s] at h
    unfold ams at h
    split at h
    · split at h
      · cases h; omega
      · cases h
    · next b' e =>
      split at h
      · cases h; omega
      · cases h; have := ih e; omega
theorem amax_lt {g : Nat → Nat} : ∀ {n b : Nat}, amax g n = some b → b < n := by
  intro n
  induction n with
  | zero => intro b h; cases h
  | succ n ih =>
    intro b h
    rw [amax_s] at h
    unfold axs at h
    split at h
    · cases h; omega
    · next b' e =>
      split at h
      · cases h; omega
      · cases h; have := ih e; omega
theorem amax_ne {g : Nat → Nat} {n : Nat} : amax g (n + 1) ≠ none := by
  rw [amax_s]
  unfold axs
  split
  · simp
  · split <;> simp
theorem amin_ne {g : Nat → Nat} {T n : Nat} (h : ∀ x, x < n + 1 → g x < T) : amin g T (n + 1) ≠ none := by
  rw [amin_s]
  unfold ams
  split
  · rw [if_pos (h n (by omega))]; simp
  · split <;> simp
def oI (o : Option Nat) : Int32 := match o with
  | none => -9
  | some b => nI b
/-- what is least so far -/
def oV (g : Nat → Nat) (T : Nat) (o : Option Nat) : Nat := match o with
  | none => T
  | some b => g b
/-! repeats and dues of all places -/
def rpA (B : Bd) (p : Nat) : Nat := cnt B (B.2.2.take p) (lgA B p)
def dpA (B : Bd) (p : Nat) : Nat := due B (lgA B p) (rpA B p)
theorem rpA_le (B : Bd) (p : Nat) : rpA B p ≤ p := cnt_take_le _ _ _ _
theorem dpA_le {B : Bd} (hw : wfB B) {p : Nat} (hp : p < bpl B) : dpA B p < 1000 := by
  have := due_le hw (lgA B p) (r := rpA B p)
  have h2 := rpA_le B p
  have h12 := hw.2.2.2.1
  unfold dpA
  omega
theorem reckon_lp {B : Bd} (hw : wfB B) : ∀ (k i fuel : Nat) (M : Mem), i + k = bpl B → k < fuel → RK B B.1.1 B.1.2 (B.2.2.take i) M → (∀ p, p < i → M.1 29 p = nI (rpA B p) ∧ M.1 30 p = nI (dpA B p)) →
    ok (f_X3_reckonPlaces_b9 fuel (nI i) M) (fun M' => (∀ p, p < bpl B → M'.1 29 p = nI (rpA B p) ∧ M'.1 30 p = nI (dpA B p)) ∧ fr [26, 27, 29, 30] M M') := by
  have hn := hw.2.2.1
  have h12 := hw.2.2.2.1
  intro k
  induction k with
  | zero =>
    intro i fuel M hi hf h hp
    obtain ⟨f, rfl⟩ : ∃ f, fuel = f + 1 := ⟨fuel - 1, by omega⟩
    unfold f_X3_reckonPlaces_b9
    rw [h.1.2.1]
    obtain rfl : i = bpl B := by omega
    exact ok_pos (nI_le (by omega) (by omega)) (ok_some ⟨hp, fr.rf⟩)
  | succ k ih =>
    intro i fuel M hi hf h hp
    obtain ⟨f, rfl⟩ : ∃ f, fuel = f + 1 := ⟨fuel - 1, by omega⟩
    have hd := lgA_in hw (p := i) (by omega)
    unfold f_X3_reckonPlaces_b9
    rw [h.1.2.1]
    refine ok_neg (nI_ge (by omega) (by omega)) ?_
    refine ok_ld (by omega) (by decide) (h.1.2.2.2.2.2.2.2 i (by omega)) ?_
    refine ok_ld (by omega) (by decide) (h.2.2 _ hd) ?_
    refine ok_st (by omega) (by decide) ?_
    have f1 : fr [26, 27, 29, 30] M (wI M 29 i (nI (cnt (lw B B.1.1 B.1.2) (B.2.2.take i) (lgA B i)))) := fr.wI (by decide)
    have h1 : RK B B.1.1 B.1.2 (B.2.2.take i) (wI M 29 i (nI (cnt (lw B B.1.1 B.1.2) (B.2.2.take i) (lgA B i)))) :=
      ⟨h.1.fr f1 (by decide), h.2.1.fr (wI_other (by decide)), fun d hd => by rw [wI_other (by decide)]; exact h.2.2 d hd⟩
    refine ok_bp (step_ok hw h1 hd (by rw [List.length_take]; omega)) (fun v M2 ⟨hv, h2, f2⟩ => ?_)
    rw [hv]
    refine ok_st (by omega) (by decide) ?_
    rw [nI_1]
    have f3 : fr [26, 27, 29, 30] M2 (wI M2 30 i (nI (due B (lgA B i) (cnt (lw B B.1.1 B.1.2) (B.2.2.take i) (lgA B i))))) := fr.wI (by decide)
    have h3 : RK B B.1.1 B.1.2 (B.2.2.take (i + 1)) (wI M2 30 i (nI (due B (lgA B i) (cnt (lw B B.1.1 B.1.2) (B.2.2.take i) (lgA B i))))) := by
      rw [take_lg (by omega)]
      exact ⟨h2.1.fr f3 (by decide), h2.2.1.fr (wI_other (by decide)), fun d hd => by rw [wI_other (by decide)]; exact h2.2.2 d hd⟩
    refine ok_mono (ih (i + 1) f _ (by omega) (by omega) h3 (fun p hp' => ?_)) (fun M' q => ⟨q.1, ((f1.tr (f2.mono (by decide))).tr f3).tr q.2⟩)
    have e29 : M2.1 29 = (wI M 29 i (nI (cnt (lw B B.1.1 B.1.2) (B.2.2.take i) (lgA B i)))).1 29 := f2 29 (by decide)
    have e30 : M2.1 30 = (wI M 29 i (nI (cnt (lw B B.1.1 B.1.2) (B.2.2.take i) (lgA B i)))).1 30 := f2 30 (by decide)
    by_cases z : p = i
    · subst z
      rw [wI_other (by decide), e29, wI_same, upd_at, if_pos rfl, wI_same, upd_at, if_pos rfl]
      exact ⟨rfl, rfl⟩
    · have := hp p (by omega)
      rw [wI_other (by decide), e29, wI_same, upd_at, if_neg z, wI_same, upd_at, if_neg z, e30, wI_other (by decide)]
      exact this
theorem reckon_ok {B : Bd} {M : Mem} (hw : wfB B) (hb : brdC 1 B M) : ok (f_X3_reckonPlaces M) (fun M' => brdC 1 B M' ∧ (∀ p, p < bpl B → M'.1 29 p = nI (rpA B p) ∧ M'.1 30 p = nI (dpA B p)) ∧ frQ M M') := by
  unfold f_X3_reckonPlaces
  refine ok_bind (open_ok hw hb) (fun M1 ⟨h1, f1⟩ => ?_)
  refine ok_mono (reckon_lp hw (bpl B) 0 FU M1 (by omega) (FU_big (by have := hw.2.2.2.1; omega)) h1 (fun p hp => absurd hp (by omega))) (fun M' ⟨q, f2⟩ => ⟨h1.1.fr f2 (by decide), q, (f1.q (by decide)).tr (f2.q (by decide))⟩)
/-! the calls, one by one -/
theorem sim_same {MC MR : Mem} (h : Inv MC MR) (a b : Int32) : Sim (f_X11_same a b MC) (f_X12_same a b MR) := by
  obtain ⟨B, im, S, lt, rw', hw, hC, hR, hf⟩ := id h
  have hn := hw.1.2.2.1
  unfold f_X11_same f_X12_same
  simp only [bind_bp]
  rcases knows hC.1 hR.1 hw.1 a with ⟨e1, e2⟩ | ⟨e1, e2, d, hd, rfl⟩
  · rw [e1, e2, if_pos p00, if_pos p00]; exact Sim.no1 h
  · rw [e1, e2, if_neg n10, if_neg n10]
    rcases knows hC.1 hR.1 hw.1 b with ⟨e1, e2⟩ | ⟨e1, e2, o, ho, rfl⟩
    · rw [e1, e2, if_pos p00, if_pos p00]; exact Sim.no1 h
    · rw [e1, e2, if_neg n10, if_neg n10, hC.1.2.2.1, hC.1.2.2.2.1, areAlikeC hC.1 hw.1 hw.1.1 hw.1.2.1 hd ho, areSameR hR.1 hw.1 hd ho]
      show Sim ((some (bI (sm B d o))).bind _) ((some (bI (sm B d o))).bind _)
      rw [Option.bind_some, Option.bind_some]
      refine ⟨bI (sm B d o), MC, MR, ?_, ?_, h⟩ <;> (cases sm B d o <;> rfl)
theorem place_C {B : Bd} {M : Mem} (hw : wfB B) (hb : brdC 1 B M) {p : Nat} (hp : p < bpl B) (v : Int32) : ok2 (f_X3_ofPlace (nI p) v M) (fun x M' => x = (if v = 1 then nI (rpA B p) else nI (dpA B p)) ∧ frQ M M') := by
  have h12 := hw.2.2.2.1
  refine ok2_mk ?_
  unfold f_X3_ofPlace
  refine ok_bind (reckon_ok hw hb) (fun M1 ⟨h1, h2, h3⟩ => ?_)
  refine ok_ite (fun c => ?_) (fun c => ?_)
  · refine ok_ld (by omega) (by decide) (h2 p hp).1 (ok_some ⟨?_, h3⟩)
    rw [if_pos c]
  · refine ok_ld (by omega) (by decide) (h2 p hp).2 (ok_some ⟨?_, h3⟩)
    rw [if_neg c]
theorem sim_place {MC MR : Mem} (h : Inv MC MR) (a b : Int32) : Sim (f_X11_place a b MC) (f_X12_place a b MR) := by
  obtain ⟨B, im, S, lt, rw', hw, hC, hR, hf⟩ := id h
  have h12 := hw.1.2.2.2.1
  unfold f_X11_place f_X12_place
  simp only [bind_bp]
  rcases knowsP hC.1 hR.1 hw.1 a with ⟨e1, e2⟩ | ⟨e1, e2, p, hp, rfl⟩
  · rw [e1, e2, if_pos p00, if_pos p00]; exact Sim.no1 h
  · rw [e1, e2, if_neg n10, if_neg n10]
    have hl := lgA_in hw.1 hp
    have el : ldI MR 5 12 (nI p) = some (nI (lgA B p)) := by rw [ldI_n (by omega) (by decide), hR.1.2.2.2.2.2.2.2 p hp]
    have eC : ldI MC 5 12 (nI p) = some (nI (lgA B p)) := by rw [ldI_n (by omega) (by decide)]; exact congrArg some (hC.1.2.2.2.2.2.2.2 p hp)
    rcases i_cases b with hb | ⟨j, hj, rfl⟩
    · rw [if_pos hb, if_neg (show ¬ b = 0 from i_neg_ne hb (n := 0) (by decide)), if_neg (show ¬ b = 1 from i_neg_ne hb (n := 1) (by decide)), if_neg (show ¬ b = 2 from i_neg_ne hb (n := 2) (by decide))]
      exact Sim.no2 h
    · rw [if_neg (nI_pos hj)]
      by_cases c0 : j = 0
      · subst c0
        rw [if_pos (show nI 0 ≤ 2 by decide), if_pos (show nI 0 = 0 from rfl), if_pos (show nI 0 = 0 from rfl), eC, el]
        exact ⟨_, _, _, rfl, rfl, h⟩
      by_cases c1 : j = 1
      · subst c1
        rw [if_pos (show nI 1 ≤ 2 by decide), if_neg (show ¬ nI 1 = 0 by decide), if_neg (show ¬ nI 1 = 0 by decide), if_pos (show nI 1 = 1 from rfl), el, Option.bind_some, repeatsR hR.1 hw.1 hl (by omega)]
        exact Sim.q h (nI (rpA B p)) (ok2.mono2 (place_C hw.1 hC.1 hp 1) (fun x M' q => ⟨q.1.trans (if_pos rfl), q.2⟩)) ⟨_, _, rfl, rfl, agR.rf⟩
      by_cases c2 : j = 2
      · subst c2
        rw [if_pos (show nI 2 ≤ 2 by decide), if_neg (show ¬ nI 2 = 0 by decide), if_neg (show ¬ nI 2 = 0 by decide), if_neg (show ¬ nI 2 = 1 by decide), if_pos (show nI 2 = 2 from rfl), dueAtR hR.1 hw.1 hp]
        exact Sim.q h (nI (dpA B p)) (ok2.mono2 (place_C hw.1 hC.1 hp 2) (fun x M' q => ⟨q.1.trans (if_neg (by decide)), q.2⟩)) ⟨_, _, rfl, rfl, agR.rf⟩
      · rw [if_neg (show ¬ nI j ≤ 2 from fun q => absurd ((nI_leI (b := 2) hj (by decide)).mp q) (by omega)), if_neg (show ¬ nI j = 0 from fun q => c0 (nI_e (b := 0) hj (by decide) q)), if_neg (show ¬ nI j = 1 from fun q => c1 (nI_e (b := 1) hj (by decide) q)), if_neg (show ¬ nI j = 2 from fun q => c2 (nI_e (b := 2) hj (by decide) q))]
        exact Sim.no2 h
theorem total_q {B : Bd} {M : Mem} (hw : wfB B) (hb : brdC 1 B M) : ok2 (f_X3_total M) (fun x M' => x = nI (tot B B.2.2) ∧ frQ M M') := by
  unfold f_X3_total
  rw [bind_bp]
  exact (total_ok hw hb).mono2 (fun v M' q => ⟨q.1, q.2.2.q (by decide)⟩)
theorem sim_allDue {MC MR : Mem} (h : Inv MC MR) : Sim (f_X11_allDue MC) ((f_X12_allDue MR).map (·, MR)) := by
  obtain ⟨B, im, S, lt, rw', hw, hC, hR, hf⟩ := id h
  unfold f_X11_allDue f_X12_allDue
  rw [bind_bp, allR hR.1 hw.1]
  exact Sim.q h _ (total_q hw.1 hC.1) ⟨_, _, rfl, rfl, agR.rf⟩
theorem next_C {B : Bd} {M : Mem} (hw : wfB B) (hb : brdC 1 B M) {d : Nat} (hd : d < bn B) : ok2 (f_X8_nextDue (nI d) M) (fun x M' => x = nI (due B d (cnt B B.2.2 d)) ∧ brdC 1 B M' ∧ fr [26, 27] M M') := by
  refine ok2_mk ?_
  unfold f_X8_nextDue
  refine ok_bind (behind_ok hw hb) (fun M1 ⟨h1, f1⟩ => ?_)
  rw [dueNow_ok hw h1 hd (by have := hw.2.2.2.1; unfold bpl at this; omega)]
  exact ok_some ⟨rfl, h1.1, f1⟩
theorem sim_next {MC MR : Mem} (h : Inv MC MR) (a : Int32) : Sim (f_X11_next a MC) (f_X12_next a MR) := by
  obtain ⟨B, im, S, lt, rw', hw, hC, hR, hf⟩ := id h
  unfold f_X11_next f_X12_next
  simp only [bind_bp]
  rcases knows hC.1 hR.1 hw.1 a with ⟨e1, e2⟩ | ⟨e1, e2, d, hd, rfl⟩
  · rw [e1, e2, if_pos p00, if_pos p00]; exact Sim.no1 h
  · rw [e1, e2, if_neg n10, if_neg n10, nextOfR hR.1 hw.1 hd]
    exact Sim.q h _ (ok2.mono2 (next_C hw.1 hC.1 hd) (fun x M' q => ⟨q.1, q.2.2.q (by decide)⟩)) ⟨_, _, rfl, rfl, agR.rf⟩
