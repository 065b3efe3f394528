/-! moved, changed, banned -/
def mvd (B : Bd) (q p : Nat) : Nat := if p + 1 = bpl B then q else skp q p
def gM (B : Bd) (q : Nat) : Nat := tot B (lgF B (mvd B q) (bpl B))
theorem gM_lt {B : Bd} (hw : wfB B) (q : Nat) : gM B q < 1000000 := totF_lt hw (by have := hw.2.2.2.1; omega)
theorem moved_C {B : Bd} {M : Mem} {q : Nat} (hw : wfB B) (hq : q < bpl B) (hb : brdC 1 B M) (hA : RA B M) : ok2 (f_X3_sumMoved (nI q) M) (fun v M' => v = nI (gM B q) ∧ brdC 1 B M' ∧ RA B M' ∧ fr [27] M M') := by
  have h12 := hw.2.2.2.1
  refine ok2_mk ?_
  unfold f_X3_sumMoved
  refine ok_bp (without_C hw hq hb hA) (fun v M1 ⟨q1, q2, q3⟩ => ?_)
  rw [ldLog hw q2.1 hq, Option.bind_some]
  have el : lgF B (skp q) (bpl B - 1) = lgF B (mvd B q) (bpl B - 1) := lgF_congr (fun p hp => by unfold mvd; rw [if_neg (by omega)])
  have e : mvd B q (bpl B - 1) = q := by unfold mvd; rw [if_pos (by omega)]
  rw [el] at q2
  have hs := stepF (f := mvd B q) hw q2 (by omega) (by rw [e]; exact hq)
  rw [e] at hs
  refine ok_bp hs (fun v2 M2 ⟨r1, r2, r3⟩ => ?_)
  have ev : v = nI (tot B (lgF B (mvd B q) (bpl B - 1))) := by rw [q1, ← el]; rfl
  rw [ev, r1, show bpl B - 1 + 1 = bpl B by omega]
  exact ok_some ⟨rfl, r2.1, r2.2.1, q3.tr r3⟩
theorem movedR_lp {B : Bd} {M M1 : Mem} {q : Nat} (hw : wfB B) (hq : q < bpl B) (ht : TH M M1) (hb1 : brdR B M1) : ∀ (k i fuel : Nat) (M2 : Mem), i + k = bpl B - 1 → k < fuel → q ≤ i → mR M1 M2 → (∀ r, r ≠ 5 → M2.1 r = M1.1 r) →
    (∀ p, p < bpl B → M2.1 5 p = nI (lgA B (if p < i then skp q p else p))) →
    ok2 (f_X12_dueMoved_b13 fuel (nI (lgA B q)) (nI i) M2) (fun v M' => v = nI (gM B q) ∧ agR M M') := by
  have h12 := hw.2.2.2.1
  intro k
  induction k with
  | zero =>
    intro i fuel M2 hi hf hqi hm h0 hl
    obtain ⟨f, rfl⟩ : ∃ f, fuel = f + 1 := ⟨fuel - 1, by omega⟩
    refine ok2_mk ?_
    unfold f_X12_dueMoved_b13
    have e6 : M2.1 0 6 = nI (bpl B) := by rw [h0 0 (by decide)]; exact hb1.2.1
    rw [e6, l_1, pk_sub (by omega)]
    refine ok_pos (nI_le (by omega) (by omega)) (ok_st (by omega) (by decide) ?_)
    have hwf : wfB (wl B (lgF B (mvd B q) (bpl B))) := wf_lgF hw h12 (fun p hp => by unfold mvd skp; split; exact hq; split <;> omega)
    have hbr : brdR (wl B (lgF B (mvd B q) (bpl B))) (wI M2 5 (bpl B - 1) (nI (lgA B q))) := by
      refine brdR_wl hb1 (by rw [wI_other (by decide), h0 0 (by decide)]) (by rw [wI_other (by decide), h0 0 (by decide)]) (by rw [wI_other (by decide), h0 0 (by decide)]) (by rw [wI_other (by decide)]; exact h0 2 (by decide)) (by rw [wI_other (by decide)]; exact h0 3 (by decide)) (by rw [wI_other (by decide)]; exact h0 4 (by decide)) (by rw [lgF_len, wI_other (by decide)]; exact e6) (fun j hj => ?_)
      rw [lgF_len] at hj
      rw [lgF_at _ _ hj, wI_at]
      unfold mvd
      by_cases c : j = bpl B - 1
      · rw [if_pos ⟨rfl, c⟩, if_pos (by omega)]
      · rw [if_neg (by omega), hl j hj, if_pos (by omega), if_neg (by omega)]
    exact (finR ht (hm.tr (mR.wI (by omega))) hbr hwf).mono (fun v M3 z => z)
  | succ k ih =>
    intro i fuel M2 hi hf hqi hm h0 hl
    obtain ⟨f, rfl⟩ : ∃ f, fuel = f + 1 := ⟨fuel - 1, by omega⟩
    refine ok2_mk ?_
    unfold f_X12_dueMoved_b13
    have e6 : M2.1 0 6 = nI (bpl B) := by rw [h0 0 (by decide)]; exact hb1.2.1
    rw [e6, l_1, pk_sub (by omega), nI_add]
    refine ok_neg (nI_ge (by omega) (by omega)) ?_
    refine ok_ld (by omega) (by decide) (hl (i + 1) (by omega)) ?_
    refine ok_st (by omega) (by decide) ?_
    refine (ih (i + 1) f _ (by omega) (by omega) (by omega) (hm.tr (mR.wI (by omega))) (fun r hr => by rw [wI_other hr]; exact h0 r hr) (fun p hp => ?_)).mono (fun v M3 z => z)
    rw [wI_at]
    by_cases c : p = i
    · subst c
      rw [if_pos ⟨rfl, rfl⟩, if_neg (by omega), if_pos (by omega)]
      unfold skp
      rw [if_neg (by omega)]
    · rw [if_neg (by omega), hl p hp]
      congr 2
      by_cases c2 : p < i
      · rw [if_pos c2, if_pos (by omega)]
      · rw [if_neg c2, if_neg (by omega)]
theorem moved_R {B : Bd} {M : Mem} {q : Nat} (hw : wfB B) (hb : brdR B M) (hq : q < bpl B) : ok2 (f_X12_dueMoved (nI q) M) (fun v M' => v = nI (gM B q) ∧ agR M M') := by
  have h12 := hw.2.2.2.1
  refine ok2_mk ?_
  unfold f_X12_dueMoved
  refine ok_bind thinks_ok (fun M1 ht => ?_)
  have hb1 := TH.brd hw hb ht
  rw [ldLogR hw hb1 hq, Option.bind_some]
  exact (movedR_lp hw hq ht hb1 (bpl B - 1 - q) q FU M1 (by omega) (FU_big (by omega)) (by omega) mR.rf (fun _ _ => rfl) (fun p hp => by
    rw [hb1.2.2.2.2.2.2.2 p hp]
    congr 2
    split
    · unfold skp; rw [if_pos (by omega)]
    · rfl)).mono (fun v M3 z => z)
theorem bestMove_C {B : Bd} {T : Nat} (hw : wfB B) (hT : T < 2 ^ 31) : ∀ (k i fuel : Nat) (M : Mem), i + k = bpl B → k < fuel → brdC 1 B M → RA B M →
    ok2 (f_X3_bestMove_b13 fuel (oI (amin (gM B) T i)) (nI (oV (gM B) T (amin (gM B) T i))) (nI i) M) (fun v M' => v = oI (amin (gM B) T (bpl B)) ∧ fr [27] M M') := by
  have h12 := hw.2.2.2.1
  intro k
  induction k with
  | zero =>
    intro i fuel M hi hf hb hA
    obtain ⟨f, rfl⟩ : ∃ f, fuel = f + 1 := ⟨fuel - 1, by omega⟩
    obtain rfl : i = bpl B := by omega
    refine ok2_mk ?_
    unfold f_X3_bestMove_b13
    rw [hb.2.1]
    exact ok_pos (nI_le (by omega) (by omega)) (ok_some ⟨rfl, fr.rf⟩)
  | succ k ih =>
    intro i fuel M hi hf hb hA
    obtain ⟨f, rfl⟩ : ∃ f, fuel = f + 1 := ⟨fuel - 1, by omega⟩
    refine ok2_mk ?_
    have st := amin_step (gM B) T i
    have hv : oV (gM B) T (amin (gM B) T i) < 2 ^ 31 := oV_lt hT (fun b e => by have := gM_lt hw b; omega)
    have hg := gM_lt hw i
    unfold f_X3_bestMove_b13
    rw [hb.2.1]
    refine ok_neg (nI_ge (by omega) (by omega)) ?_
    refine ok_bp (moved_C hw (by omega) hb hA) (fun v M' ⟨q1, q2, q3, q4⟩ => ?_)
    rw [q1, nI_1]
    have t := ih (i + 1) f M' (by omega) (by omega) q2 q3
    rw [st] at t
    by_cases c : gM B i < oV (gM B) T (amin (gM B) T i)
    · rw [if_pos c] at t
      refine ok_neg (fun z => absurd ((nI_leI hv (by omega)).mp z) (by omega)) ?_
      exact t.mono (fun v M2 z => ⟨z.1, q4.tr z.2⟩)
    · rw [if_neg c] at t
      refine ok_pos ((nI_leI hv (by omega)).mpr (by omega)) ?_
      exact t.mono (fun v M2 z => ⟨z.1, q4.tr z.2⟩)
theorem bestMove_R {B : Bd} {M : Mem} {T : Nat} (hw : wfB B) (hT : T < 2 ^ 31) : ∀ (k i fuel : Nat) (M2 : Mem), i + k = bpl B → k < fuel → brdR B M2 → agR M M2 →
    ok2 (f_X12_moved_b40 fuel (oI (amin (gM B) T i)) (nI (oV (gM B) T (amin (gM B) T i))) (nI i) M2) (fun v M' => v = oI (amin (gM B) T (bpl B)) ∧ agR M M') := by
  have h12 := hw.2.2.2.1
  intro k
  induction k with
  | zero =>
    intro i fuel M2 hi hf hb ha
    obtain ⟨f, rfl⟩ : ∃ f, fuel = f + 1 := ⟨fuel - 1, by omega⟩
    obtain rfl : i = bpl B := by omega
    refine ok2_mk ?_
    unfold f_X12_moved_b40
    rw [hb.2.1]
    exact ok_pos (nI_le (by omega) (by omega)) (ok_some ⟨rfl, ha⟩)
  | succ k ih =>
    intro i fuel M2 hi hf hb ha
    obtain ⟨f, rfl⟩ : ∃ f, fuel = f + 1 := ⟨fuel - 1, by omega⟩
    refine ok2_mk ?_
    have st := amin_step (gM B) T i
    have hv : oV (gM B) T (amin (gM B) T i) < 2 ^ 31 := oV_lt hT (fun b e => by have := gM_lt hw b; omega)
    have hg := gM_lt hw i
    unfold f_X12_moved_b40
    rw [hb.2.1]
    refine ok_neg (nI_ge (by omega) (by omega)) ?_
    refine ok_bp (moved_R hw hb (by omega)) (fun v M' ⟨q1, q2⟩ => ?_)
    rw [q1, nI_1]
    have t := ih (i + 1) f M' (by omega) (by omega) (brdR_bv hw hb q2.1) (ha.tr q2)
    rw [st] at t
    by_cases c : gM B i < oV (gM B) T (amin (gM B) T i)
    · rw [if_pos c] at t
      refine ok_pos ((nI_ltI (by omega) hv).mpr c) ?_
      exact t.mono (fun v M2 z => z)
    · rw [if_neg c] at t
      refine ok_neg (fun z => c ((nI_ltI (by omega) hv).mp z)) ?_
      exact t.mono (fun v M2 z => z)
theorem notP {B : Bd} {MC MR : Mem} {d : Nat} (hC : brdC 1 B MC) (hw : wfB B) (hd : d < 2 ^ 31) (e1 : f_X0_hasPlace 1 (nI d) MC = 0) : ¬ nI d < nI (bpl B) := by
  have h12 := hw.2.2.2.1
  unfold f_X0_hasPlace at e1
  rw [if_neg (nI_pos hd), hC.2.1] at e1
  intro q
  rw [if_neg (fun z => absurd ((nI_leI (by omega) hd).mp z) (by have := (nI_ltI hd (by omega)).mp q; omega))] at e1
  exact absurd e1 (by decide)
theorem tot_lt {B : Bd} (hw : wfB B) : tot B B.2.2 < 1000000 := tot_small hw (by have := hw.2.2.2.1; unfold bpl at this; omega)
theorem sim_moved {MC MR : Mem} (h : Inv MC MR) (a : Int32) : Sim (f_X11_moved a MC) (f_X12_moved a MR) := by
  obtain ⟨B, im, S, lt, rw', hw, hC, hR, hf⟩ := id h
  have h12 := hw.1.2.2.2.1
  have hT := tot_lt hw.1
  unfold f_X11_moved f_X12_moved
  simp only [bind_bp]
  rw [hC.1.2.1]
  rcases i_cases a with hn | ⟨d, hd, rfl⟩
  · rcases neg_cases hn with hm | rfl
    · have e2 : f_X12_isPlace a MR = 0 := by unfold f_X12_isPlace; rw [if_pos hn]
      rw [if_pos hm, if_neg (fun z => by rw [z] at hm; exact absurd hm (by decide)), e2, if_pos p00]
      exact Sim.no1 h
    · rw [if_neg (show ¬ (-1 : Int32) < -1 by decide), if_pos (i_neg_lt hn (by omega)), if_neg (show ¬ (0 : Int32) ≤ -1 by decide), if_pos rfl]
      unfold f_X12_moved_b19
      rw [if_pos (show (-1 : Int32) < 0 by decide), allR hR.1 hw.1, Option.bind_some]
      refine Sim.q h (oI (amin (gM B) (tot B B.2.2) (bpl B))) (ok2_mk ?_) (bestMove_R hw.1 (T := tot B B.2.2) (by omega) (bpl B) 0 FU MR (by omega) (FU_big (by omega)) hR.1 agR.rf)
      unfold f_X3_bestMove
      refine ok_bp (total_ok hw.1 hC.1) (fun v M1 ⟨q1, q2, q3⟩ => ?_)
      rw [q1]
      exact (bestMove_C hw.1 (T := tot B B.2.2) (by omega) (bpl B) 0 FU M1 (by omega) (FU_big (by omega)) q2.1 q2.2.1).mono (fun v M2 z => ⟨z.1, (q3.q (by decide)).tr (z.2.q (by decide))⟩)
  · rw [if_neg (nI_nlt_m1 hd), if_neg (nI_ne_m1 hd)]
    rcases knowsP hC.1 hR.1 hw.1 (nI d) with ⟨e1, e2⟩ | ⟨e1, e2, p, hp, e3⟩
    · rw [if_neg (notP (MR := MR) hC.1 hw.1 hd e1), e2, if_pos p00]
      exact Sim.no1 h
    · obtain rfl : d = p := nI_e hd (by omega) e3
      rw [if_pos (nI_lt hp (by omega)), if_pos (nI_pos' hd), e2, if_neg n10]
      unfold f_X12_moved_b19 f_X3_totalMoved
      rw [if_neg (nI_pos hd), bind_bp]
      simp only [bind_bp]
      refine Sim.q h (nI (gM B d)) (ok2_mk ?_) (moved_R hw.1 hR.1 hp)
      refine ok_bind (open_ok hw.1 hC.1) (fun M1 ⟨h1, f1⟩ => ?_)
      exact (moved_C hw.1 hp h1.1 h1.2.1).mono (fun v M2 z => ⟨z.1, (f1.q (by decide)).tr (z.2.2.2.q (by decide))⟩)
/-! changed -/
def xch (a b p : Nat) : Nat := if p = a then b else if p = b then a else p
def gX (B : Bd) (x : Nat × Nat) : Nat := tot B (lgF B (xch x.1 x.2) (bpl B))
theorem gX_lt {B : Bd} (hw : wfB B) (x : Nat × Nat) : gX B x < 1000000 := totF_lt hw (by have := hw.2.2.2.1; omega)
def rowF (g : Nat × Nat → Nat) (T a : Nat) : Option (Nat × Nat) → Nat → Nat → Option (Nat × Nat)
  | acc, _, 0 => acc
  | acc, b, k + 1 => rowF g T a (ams g T acc (a, b)) (b + 1) k
def prsF (g : Nat × Nat → Nat) (T n : Nat) : Option (Nat × Nat) → Nat → Nat → Option (Nat × Nat)
  | acc, _, 0 => acc
  | acc, a, k + 1 => prsF g T n (rowF g T a acc (a + 1) (n - (a + 1))) (a + 1) k
def oP (m : Nat) (o : Option (Nat × Nat)) : Int32 := match o with
  | none => -9
  | some x => nI (m * x.1 + x.2)
def oVp (g : Nat × Nat → Nat) (T : Nat) (o : Option (Nat × Nat)) : Nat := match o with
  | none => T
  | some b => g b
theorem amsP (g : Nat × Nat → Nat) (T : Nat) (acc : Option (Nat × Nat)) (x : Nat × Nat) : ams g T acc x = if g x < oVp g T acc then some x else acc := by
  cases acc <;> rfl
theorem oVp_lt {g : Nat × Nat → Nat} {T m : Nat} (hT : T < m) (hg : ∀ b, g b < m) (o : Option (Nat × Nat)) : oVp g T o < m := by
  cases o with
  | none => exact hT
  | some b => exact hg b
theorem exch_lp {B : Bd} {a b : Nat} (hw : wfB B) (ha : a < bpl B) (hb' : b < bpl B) : ∀ (k i fuel : Nat) (M : Mem), i + k = bpl B → k < fuel → RK B B.1.1 B.1.2 (lgF B (xch a b) i) M →
    ok2 (f_X3_sumExchanged_b12 fuel (nI a) (nI b) (nI (tot B (lgF B (xch a b) i))) (nI i) M) (fun v M' => v = nI (gX B (a, b)) ∧ RK B B.1.1 B.1.2 (lgF B (xch a b) (bpl B)) M' ∧ fr [27] M M') := by
  have h12 := hw.2.2.2.1
  intro k
  induction k with
  | zero =>
    intro i fuel M hi hf h
    obtain ⟨f, rfl⟩ : ∃ f, fuel = f + 1 := ⟨fuel - 1, by omega⟩
    obtain rfl : i = bpl B := by omega
    refine ok2_mk ?_
    unfold f_X3_sumExchanged_b12
    rw [h.1.2.1]
    exact ok_pos (nI_le (by omega) (by omega)) (ok_some ⟨rfl, h, fr.rf⟩)
  | succ k ih =>
    intro i fuel M hi hf h
    obtain ⟨f, rfl⟩ : ∃ f, fuel = f + 1 := ⟨fuel - 1, by omega⟩
    refine ok2_mk ?_
    unfold f_X3_sumExchanged_b12 f_X3_sumExchanged_b46
    rw [h.1.2.1]
    refine ok_neg (nI_ge (by omega) (by omega)) ?_
    have ex : (if nI i = nI a then nI b else if nI i = nI b then nI a else nI i) = nI (xch a b i) := by
      unfold xch
      by_cases c : i = a
      · rw [if_pos (by rw [c]), if_pos c]
      · rw [if_neg (fun z => c (nI_e (by omega) (by omega) z)), if_neg c]
        by_cases c2 : i = b
        · rw [if_pos (by rw [c2]), if_pos c2]
        · rw [if_neg (fun z => c2 (nI_e (by omega) (by omega) z)), if_neg c2]
    have hx : xch a b i < bpl B := by unfold xch; split; omega; split <;> omega
    rw [ex, ldLog hw h.1 hx, Option.bind_some]
    refine ok_bp (stepF (f := xch a b) hw h (by omega) hx) (fun v M' ⟨q1, q2, q3⟩ => ?_)
    rw [q1, nI_1]
    exact (ih (i + 1) f M' (by omega) (by omega) q2).mono (fun v M2 z => ⟨z.1, z.2.1, q3.tr z.2.2⟩)
theorem exch_C {B : Bd} {M : Mem} {a b : Nat} (hw : wfB B) (ha : a < bpl B) (hb' : b < bpl B) (hb : brdC 1 B M) (hA : RA B M) : ok2 (f_X3_sumExchanged (nI a) (nI b) M) (fun v M' => v = nI (gX B (a, b)) ∧ brdC 1 B M' ∧ RA B M' ∧ fr [27] M M') := by
  refine ok2_mk ?_
  unfold f_X3_sumExchanged
  refine ok_bind (forget_RK (ty := B.1.1) (te := B.1.2) hw hb hA) (fun M1 ⟨h1, f1⟩ => ?_)
  exact (exch_lp hw ha hb' (bpl B) 0 FU M1 (by omega) (FU_big (by have := hw.2.2.2.1; omega)) h1).mono (fun v M2 z => ⟨z.1, z.2.1.1, z.2.1.2.1, f1.tr z.2.2⟩)
theorem chg_in {B : Bd} {T a : Nat} (hw : wfB B) (hT : T < 2 ^ 31) (ha : a < bpl B) (kont : Int32 → Int32 → Int32 → Mem → Option (Int32 × Mem)) (Q : Int32 × Mem → Prop) (acc' : Option (Nat × Nat)) :
    ∀ (k b fuel : Nat) (acc : Option (Nat × Nat)) (M : Mem), b + k = bpl B → k < fuel → brdC 1 B M → RA B M → rowF (gX B) T a acc b k = acc' →
    (∀ M', brdC 1 B M' → RA B M' → fr [27] M M' → ok (kont (oP 100 acc') (nI (oVp (gX B) T acc')) (nI (a + 1)) M') Q) →
    ok (f_X3_bestExchange_b29 kont fuel (oP 100 acc) (nI (oVp (gX B) T acc)) (nI a) (nI b) M) Q := by
  have h12 := hw.2.2.2.1
  intro k
  induction k with
  | zero =>
    intro b fuel acc M hi hf hb hA he hk
    obtain ⟨f, rfl⟩ : ∃ f, fuel = f + 1 := ⟨fuel - 1, by omega⟩
    unfold f_X3_bestExchange_b29
    rw [hb.2.1, nI_1]
    refine ok_pos (nI_le (by omega) (by omega)) ?_
    cases he
    exact hk M hb hA fr.rf
  | succ k ih =>
    intro b fuel acc M hi hf hb hA he hk
    obtain ⟨f, rfl⟩ : ∃ f, fuel = f + 1 := ⟨fuel - 1, by omega⟩
    have hv : oVp (gX B) T acc < 2 ^ 31 := oVp_lt hT (fun x => by have := gX_lt hw x; omega) acc
    have hg := gX_lt hw (a, b)
    unfold f_X3_bestExchange_b29
    rw [hb.2.1]
    refine ok_neg (nI_ge (by omega) (by omega)) ?_
    refine ok_bp (exch_C hw ha (by omega) hb hA) (fun v M' ⟨q1, q2, q3, q4⟩ => ?_)
    rw [q1, nI_1, l_100, pk_mul, nI_add]
    have he2 : rowF (gX B) T a (ams (gX B) T acc (a, b)) (b + 1) k = acc' := he
    rw [amsP] at he2
    by_cases c : gX B (a, b) < oVp (gX B) T acc
    · rw [if_pos c] at he2
      refine ok_neg (fun z => absurd ((nI_leI hv (by omega)).mp z) (by omega)) ?_
      exact ih (b + 1) f (some (a, b)) M' (by omega) (by omega) q2 q3 he2 (fun M2 g1 g2 g3 => hk M2 g1 g2 (q4.tr g3))
    · rw [if_neg c] at he2
      refine ok_pos ((nI_leI hv (by omega)).mpr (by omega)) ?_
      exact ih (b + 1) f acc M' (by omega) (by omega) q2 q3 he2 (fun M2 g1 g2 g3 => hk M2 g1 g2 (q4.tr g3))
theorem chg_C {B : Bd} {T : Nat} (hw : wfB B) (hT : T < 2 ^ 31) : ∀ (k a fuel : Nat) (acc : Option (Nat × Nat)) (M : Mem), a + k = bpl B → k < fuel → brdC 1 B M → RA B M →
    ok2 (f_X3_bestExchange_b13 fuel (oP 100 acc) (nI (oVp (gX B) T acc)) (nI a) M) (fun v M' => v = oP 100 (prsF (gX B) T (bpl B) acc a k) ∧ fr [27] M M') := by
  have h12 := hw.2.2.2.1
  intro k
  induction k with
  | zero =>
    intro a fuel acc M hi hf hb hA
    obtain ⟨f, rfl⟩ : ∃ f, fuel = f + 1 := ⟨fuel - 1, by omega⟩
    refine ok2_mk ?_
    unfold f_X3_bestExchange_b13
    rw [hb.2.1]
    exact ok_pos (nI_le (by omega) (by omega)) (ok_some ⟨rfl, fr.rf⟩)
  | succ k ih =>
    intro a fuel acc M hi hf hb hA
    obtain ⟨f, rfl⟩ : ∃ f, fuel = f + 1 := ⟨fuel - 1, by omega⟩
    refine ok2_mk ?_
    unfold f_X3_bestExchange_b13
    rw [hb.2.1, nI_1]
    refine ok_neg (nI_ge (by omega) (by omega)) ?_
    refine chg_in hw hT (by omega) _ _ (rowF (gX B) T a acc (a + 1) (bpl B - (a + 1))) (bpl B - (a + 1)) (a + 1) FU acc M (by omega) (FU_big (by omega)) hb hA rfl (fun M' g1 g2 g3 => ?_)
    exact (ih (a + 1) f _ M' (by omega) (by omega) g1 g2).mono (fun v M2 z => ⟨z.1, g3.tr z.2⟩)
theorem chgR_in {B : Bd} {M0 : Mem} {T a : Nat} (hw : wfB B) (hT : T < 2 ^ 31) (kont : Int32 → Int32 → Int32 → Mem → Option (Int32 × Mem)) (Q : Int32 × Mem → Prop) (acc' : Option (Nat × Nat)) :
    ∀ (k b fuel : Nat) (acc : Option (Nat × Nat)) (M : Mem), b + k = bpl B → k < fuel → a < b → brdR B M → agR M0 M → rowF (gX B) T a acc b k = acc' →
    (∀ M', brdR B M' → agR M0 M' → ok (kont (oP 100 acc') (nI (oVp (gX B) T acc')) (nI (a + 1)) M') Q) →
    ok (f_X12_changed_b23 kont fuel (oP 100 acc) (nI (oVp (gX B) T acc)) (nI a) (nI b) M) Q := by
  have h12 := hw.2.2.2.1
  intro k
  induction k with
  | zero =>
    intro b fuel acc M hi hf hab hb hA he hk
    obtain ⟨f, rfl⟩ : ∃ f, fuel = f + 1 := ⟨fuel - 1, by omega⟩
    unfold f_X12_changed_b23
    rw [hb.2.1, nI_1]
    refine ok_pos (nI_le (by omega) (by omega)) ?_
    cases he
    exact hk M hb hA
  | succ k ih =>
    intro b fuel acc M hi hf hab hb hA he hk
    obtain ⟨f, rfl⟩ : ∃ f, fuel = f + 1 := ⟨fuel - 1, by omega⟩
    have hv : oVp (gX B) T acc < 2 ^ 31 := oVp_lt hT (fun x => by have := gX_lt hw x; omega) acc
    have hg := gX_lt hw (a, b)
    unfold f_X12_changed_b23
    rw [hb.2.1]
    refine ok_neg (nI_ge (by omega) (by omega)) ?_
    have la := hb.2.2.2.2.2.2.2 a (by omega)
    have lb := hb.2.2.2.2.2.2.2 b (by omega)
    rw [exR (by omega) (by omega) la lb, Option.bind_some]
    have hl : ∀ j, j < bpl B → (wI (wI M 5 a (nI (lgA B b))) 5 b (nI (lgA B a))).1 5 j = nI (lgA B (xch a b j)) := by
      intro j hj
      rw [wI_at, wI_at]
      unfold xch
      by_cases c1 : j = b
      · rw [if_pos ⟨rfl, c1⟩, if_neg (by omega), if_pos c1]
      · rw [if_neg (by omega)]
        by_cases c2 : j = a
        · rw [if_pos ⟨rfl, c2⟩, if_pos c2]
        · rw [if_neg (by omega), if_neg c2, if_neg c1]; exact hb.2.2.2.2.2.2.2 j hj
    have hwf : wfB (wl B (lgF B (xch a b) (bpl B))) := wf_lgF hw h12 (fun p hp => by unfold xch; split; omega; split <;> omega)
    have hbr : brdR (wl B (lgF B (xch a b) (bpl B))) (wI (wI M 5 a (nI (lgA B b))) 5 b (nI (lgA B a))) := by
      refine brdR_wl hb (by rw [wI_other (by decide), wI_other (by decide)]) (by rw [wI_other (by decide), wI_other (by decide)]) (by rw [wI_other (by decide), wI_other (by decide)]) (by rw [wI_other (by decide), wI_other (by decide)]) (by rw [wI_other (by decide), wI_other (by decide)]) (by rw [wI_other (by decide), wI_other (by decide)]) (by rw [lgF_len, wI_other (by decide), wI_other (by decide)]; exact hb.2.1) (fun j hj => ?_)
      rw [lgF_len] at hj
      rw [lgF_at _ _ hj]
      exact hl j hj
    rw [allR hbr hwf, Option.bind_some]
    have ea := hl a (by omega)
    have eb := hl b (by omega)
    rw [exR (by omega) (by omega) ea eb, Option.bind_some]
    have xa : xch a b a = b := by unfold xch; rw [if_pos rfl]
    have xb : xch a b b = a := by unfold xch; rw [if_neg (by omega), if_pos rfl]
    rw [xa, xb]
    have hM : ∀ r j, (wI (wI (wI (wI M 5 a (nI (lgA B b))) 5 b (nI (lgA B a))) 5 a (nI (lgA B a))) 5 b (nI (lgA B b))).1 r j = M.1 r j := by
      intro r j
      rw [wI_at, wI_at, wI_at, wI_at]
      by_cases c1 : r = 5 ∧ j = b
      · rw [if_pos c1, c1.1, c1.2]; exact lb.symm
      · rw [if_neg c1]
        by_cases c2 : r = 5 ∧ j = a
        · rw [if_pos c2, c2.1, c2.2]; exact la.symm
        · rw [if_neg c2, if_neg c1, if_neg c2]
    have hM2 : (wI (wI (wI (wI M 5 a (nI (lgA B b))) 5 b (nI (lgA B a))) 5 a (nI (lgA B a))) 5 b (nI (lgA B b))).1 = M.1 := by
      funext r j
      exact hM r j
    revert hM2
    generalize wI (wI (wI (wI M 5 a (nI (lgA B b))) 5 b (nI (lgA B a))) 5 a (nI (lgA B a))) 5 b (nI (lgA B b)) = M4
    intro hM2
    have hb4 : brdR B M4 := by unfold brdR; rw [hM2]; exact hb
    have hA4 : agR M0 M4 := by
      refine hA.tr ⟨fun i hi => ?_, fun k hk => by rw [hM2], fun r hr => by rw [hM2], fun j hj => by rw [hM2]⟩
      unfold bv
      rw [hM2]
    rw [nI_1, l_100, pk_mul, nI_add]
    have he2 : rowF (gX B) T a (ams (gX B) T acc (a, b)) (b + 1) k = acc' := he
    rw [amsP] at he2
    show ok (if nI (gX B (a, b)) < _ then _ else _) Q
    by_cases c : gX B (a, b) < oVp (gX B) T acc
    · rw [if_pos c] at he2
      refine ok_pos ((nI_ltI (by omega) hv).mpr c) ?_
      exact ih (b + 1) f (some (a, b)) M4 (by omega) (by omega) (by omega) hb4 hA4 he2 hk
    · rw [if_neg c] at he2
      refine ok_neg (fun z => c ((nI_ltI (by omega) hv).mp z)) ?_
      exact ih (b + 1) f acc M4 (by omega) (by omega) (by omega) hb4 hA4 he2 hk
theorem chg_R {B : Bd} {M0 : Mem} {T : Nat} (hw : wfB B) (hT : T < 2 ^ 31) : ∀ (k a fuel : Nat) (acc : Option (Nat × Nat)) (M : Mem), a + k = bpl B → k < fuel → brdR B M → agR M0 M →
    ok2 (f_X12_changed_b10 fuel (oP 100 acc) (nI (oVp (gX B) T acc)) (nI a) M) (fun v M' => v = oP 100 (prsF (gX B) T (bpl B) acc a k) ∧ agR M0 M') := by
  have h12 := hw.2.2.2.1
  intro k
  induction k with
  | zero =>
    intro a fuel acc M hi hf hb hA
    obtain ⟨f, rfl⟩ : ∃ f, fuel = f + 1 := ⟨fuel - 1, by omega⟩
    refine ok2_mk ?_
    unfold f_X12_changed_b10
    rw [hb.2.1]
    exact ok_pos (nI_le (by omega) (by omega)) (ok_some ⟨rfl, hA⟩)
  | succ k ih =>
    intro a fuel acc M hi hf hb hA
    obtain ⟨f, rfl⟩ : ∃ f, fuel = f + 1 := ⟨fuel - 1, by omega⟩
    refine ok2_mk ?_
    unfold f_X12_changed_b10
    rw [hb.2.1, nI_1]
    refine ok_neg (nI_ge (by omega) (by omega)) ?_
    refine chgR_in hw hT _ _ (rowF (gX B) T a acc (a + 1) (bpl B - (a + 1))) (bpl B - (a + 1)) (a + 1) FU acc M (by omega) (FU_big (by omega)) (by omega) hb hA rfl (fun M' g1 g2 => ?_)
    exact (ih (a + 1) f _ M' (by omega) (by omega) g1 g2).mono (fun v M2 z => z)
theorem sim_changed {MC MR : Mem} (h : Inv MC MR) : Sim (f_X11_changed MC) (f_X12_changed MR) := by
  obtain ⟨B, im, S, lt, rw', hw, hC, hR, hf⟩ := id h
  have h12 := hw.1.2.2.2.1
  have hT := tot_lt hw.1
  unfold f_X11_changed f_X12_changed
  rw [bind_bp, allR hR.1 hw.1, Option.bind_some]
  refine Sim.q h (oP 100 (prsF (gX B) (tot B B.2.2) (bpl B) none 0 (bpl B))) (ok2_mk ?_) (chg_R hw.1 (T := tot B B.2.2) (by omega) (bpl B) 0 FU none MR (by omega) (FU_big (by omega)) hR.1 agR.rf)
  unfold f_X3_bestExchange
  refine ok_bp (total_ok hw.1 hC.1) (fun v M1 ⟨q1, q2, q3⟩ => ?_)
  rw [q1]
  exact (chg_C hw.1 (T := tot B B.2.2) (by omega) (bpl B) 0 FU none M1 (by omega) (FU_big (by omega)) q2.1 q2.2.1).mono (fun v M2 z => ⟨z.1, (q3.q (by decide)).tr (z.2.q (by decide))⟩)
