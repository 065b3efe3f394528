/-! the model reads statements -/
theorem gZ_b (b : Bool) : gZ (bI b) = some (bI b) := by cases b <;> rfl
theorem LA_kl {lt : List Nat} {p : Nat} (h : kl lt p ≠ 0) : LA lt p = nI (kl lt p) := by
  rcases LA_k lt p with ⟨e, -⟩ | ⟨e, h⟩ | ⟨e, h⟩ | ⟨e, h⟩ | ⟨e, h⟩ | ⟨e, h⟩
  · exact absurd e h
  all_goals rw [e, h]; rfl
def TD9 (lt : List Nat) (p k : Nat) (M : Mem) : Prop := (1 ≤ nd (kl lt p) → M.1 9 (3 * k) = nI (dv lt (p + 1))) ∧ (2 ≤ nd (kl lt p) → M.1 9 (3 * k + 1) = nI (dv lt (p + 2))) ∧ (kl lt p = 100 → M.1 9 (3 * k + 2) = nI (100 * dv lt (p + 3) + 10 * dv lt (p + 4) + dv lt (p + 5)))
def TD (lt : List Nat) (p k : Nat) (M : Mem) : Prop := M.1 7 k = nI (kl lt p) ∧ M.1 8 k = nI p ∧ TD9 lt p k M
theorem vl1 (lt : List Nat) (q : Nat) : vl lt q 1 0 = dv lt q := by show 10 * 0 + dv lt q = _; omega
theorem vl3 (lt : List Nat) (q : Nat) : vl lt q 3 0 = 100 * dv lt q + 10 * dv lt (q + 1) + dv lt (q + 2) := by
  show 10 * (10 * (10 * 0 + dv lt q) + dv lt (q + 1)) + dv lt (q + 1 + 1) = _
  rw [show q + 1 + 1 = q + 2 from rfl]
  omega
def raP (lt : List Nat) (p k : Nat) (M : Mem) (t : Int32) (M' : Mem) : Prop := t = bI (decide (rn lt (p + 1) (nd (kl lt p)) = nd (kl lt p))) ∧ M'.1 0 14 = nI (p + 1 + rn lt (p + 1) (nd (kl lt p))) ∧ (rn lt (p + 1) (nd (kl lt p)) = nd (kl lt p) → TD9 lt p k M') ∧ (∀ j, j < 3 * k → M'.1 9 j = M.1 9 j) ∧ M'.1 7 = M.1 7 ∧ M'.1 8 = M.1 8 ∧ frL M M'
theorem dec_b {c : Prop} [Decidable c] : bI (decide c) = 0 ↔ ¬ c := by
  by_cases h : c
  · rw [decide_eq_true h]; exact ⟨fun q => absurd q (by decide), fun q => absurd h q⟩
  · rw [decide_eq_false h]; exact ⟨fun _ => h, fun _ => rfl⟩
theorem raR_two {lt : List Nat} {p k : Nat} {M : Mem} (hl : lt.length ≤ 96) (hx : ∀ x ∈ lt, x < 256) (hk : k < 48) (hp : p < 200) (h : ltR lt M) (h14 : M.1 0 14 = nI (p + 1)) (hnd : nd (kl lt p) = 2) (h100 : kl lt p ≠ 100) :
    ok2 ((f_X12_readsDigits (nI (3 * k)) 1 M).bind fun pt12 => bp pt12 fun t12 M12 => (if t12 = 0 then some ((0 : Int32), M12) else (f_X12_readsDigits (nI (3 * k) + 1) 1 M12).bind fun pt14 => bp pt14 fun t14 M14 => (if t14 = 0 then some ((0 : Int32), M14) else some ((1 : Int32), M14)))) (raP lt p k M) := by
  refine ok2_mk ?_
  have ra := rn_add lt 1 1 (p + 1)
  refine ok_bp (rdsR (n := 1) (q := p + 1) hl hx (show 3 * k < 144 by omega) (by omega) (by omega) h h14) (fun t1 M1 ⟨a1, a2, a3, a4, a5, a6, a7⟩ => ?_)
  rw [a1]
  refine ok_ite (fun c => ?_) (fun c => ?_)
  · have c' := dec_b.mp c
    have e := ra.2 c'
    refine ok_some ⟨?_, ?_, fun q => ?_, fun j hj => a4 j (by omega), a5, a6, a7⟩
    · have := rn_le lt 1 (p + 1)
      rw [hnd, show (2 : Nat) = 1 + 1 from rfl, e, decide_eq_false (by omega)]; rfl
    · rw [hnd, show (2 : Nat) = 1 + 1 from rfl, e]; exact a2
    · have := rn_le lt 1 (p + 1)
      rw [hnd, show (2 : Nat) = 1 + 1 from rfl, e] at q
      omega
  · have c' : rn lt (p + 1) 1 = 1 := by
      refine Classical.byContradiction (fun z => c (dec_b.mpr z))
    have e := ra.1 c'
    rw [c'] at a2
    rw [nI_1]
    refine ok_bp (rdsR (n := 1) (q := p + 1 + 1) hl hx (show 3 * k + 1 < 144 by omega) (by omega) (by omega) (h.fr a7) a2) (fun t2 M2 ⟨b1, b2, b3, b4, b5, b6, b7⟩ => ?_)
    rw [b1]
    refine ok_ite (fun c2 => ?_) (fun c2 => ?_)
    · have c2' := dec_b.mp c2
      refine ok_some ⟨?_, ?_, fun q => ?_, fun j hj => (b4 j (by omega)).trans (a4 j (by omega)), b5.trans a5, b6.trans a6, a7.tr b7⟩
      · rw [hnd, show (2 : Nat) = 1 + 1 from rfl, e, decide_eq_false (by omega)]; rfl
      · rw [hnd, show (2 : Nat) = 1 + 1 from rfl, e, b2]; congr 1; omega
      · rw [hnd, show (2 : Nat) = 1 + 1 from rfl, e] at q
        omega
    · have c2' : rn lt (p + 1 + 1) 1 = 1 := by
        refine Classical.byContradiction (fun z => c2 (dec_b.mpr z))
      refine ok_some ⟨?_, ?_, fun q => ⟨fun _ => ?_, fun _ => ?_, fun z => absurd z h100⟩, fun j hj => (b4 j (by omega)).trans (a4 j (by omega)), b5.trans a5, b6.trans a6, a7.tr b7⟩
      · rw [hnd, show (2 : Nat) = 1 + 1 from rfl, e, decide_eq_true (by omega)]; rfl
      · rw [hnd, show (2 : Nat) = 1 + 1 from rfl, e, b2]; congr 1; omega
      · rw [b4 _ (by omega), a3 c', vl1]
      · rw [b3 c2', vl1]
theorem raR {lt : List Nat} {p k : Nat} {M : Mem} (hl : lt.length ≤ 96) (hx : ∀ x ∈ lt, x < 256) (hk : k < 48) (hp : p < 200) (h : ltR lt M) (h14 : M.1 0 14 = nI (p + 1)) (hne : kl lt p ≠ 0) :
    ok2 (f_X12_readsAll (LA lt p) (nI (3 * k)) M) (raP lt p k M) := by
  rcases LA_k lt p with ⟨e, -⟩ | ⟨e, hA⟩ | ⟨e, hA⟩ | ⟨e, hA⟩ | ⟨e, hA⟩ | ⟨e, hA⟩
  · exact absurd e hne
  · have hnd : nd (kl lt p) = 1 + (1 + 3) := by rw [e]; rfl
    have ra := rn_add lt (1 + 3) 1 (p + 1)
    have rb := rn_add lt 3 1 (p + 1 + 1)
    refine ok2_mk ?_
    unfold f_X12_readsAll
    rw [hA]
    refine ok_pos rfl ?_
    refine ok_bp (rdsR (n := 1) (q := p + 1) hl hx (show 3 * k < 144 by omega) (by omega) (by omega) h h14) (fun t1 M1 ⟨a1, a2, a3, a4, a5, a6, a7⟩ => ?_)
    rw [a1]
    refine ok_ite (fun c => ?_) (fun c => ?_)
    · have c' := dec_b.mp c
      have e' := ra.2 c'
      have := rn_le lt 1 (p + 1)
      refine ok_some ⟨?_, ?_, fun q => ?_, fun j hj => a4 j (by omega), a5, a6, a7⟩
      · rw [hnd, e', decide_eq_false (by omega)]; rfl
      · rw [hnd, e']; exact a2
      · rw [hnd, e'] at q; omega
    · have c' : rn lt (p + 1) 1 = 1 := by
        refine Classical.byContradiction (fun z => c (dec_b.mpr z))
      have e' := ra.1 c'
      rw [c'] at a2
      rw [nI_1]
      refine ok_bp (rdsR (n := 1) (q := p + 1 + 1) hl hx (show 3 * k + 1 < 144 by omega) (by omega) (by omega) (h.fr a7) a2) (fun t2 M2 ⟨b1, b2, b3, b4, b5, b6, b7⟩ => ?_)
      rw [b1]
      refine ok_ite (fun c2 => ?_) (fun c2 => ?_)
      · have c2' := dec_b.mp c2
        have e2 := rb.2 c2'
        have := rn_le lt 1 (p + 1 + 1)
        refine ok_some ⟨?_, ?_, fun q => ?_, fun j hj => (b4 j (by omega)).trans (a4 j (by omega)), b5.trans a5, b6.trans a6, a7.tr b7⟩
        · rw [hnd, e', e2, decide_eq_false (by omega)]; rfl
        · rw [hnd, e', e2, b2]; congr 1; omega
        · rw [hnd, e', e2] at q; omega
      · have c2' : rn lt (p + 1 + 1) 1 = 1 := by
          refine Classical.byContradiction (fun z => c2 (dec_b.mpr z))
        have e2 := rb.1 c2'
        rw [c2'] at b2
        rw [show nI (3 * k) + 2 = nI (3 * k + 2) from nI_add _ 2]
        refine ok_bp (rdsR (n := 3) (q := p + 1 + 1 + 1) hl hx (show 3 * k + 2 < 144 by omega) (by omega) (by omega) ((h.fr a7).fr b7) b2) (fun t3 M3 ⟨d1, d2, d3, d4, d5, d6, d7⟩ => ?_)
        rw [d1]
        refine ok_ite (fun c3 => ?_) (fun c3 => ?_)
        · have c3' := dec_b.mp c3
          refine ok_some ⟨?_, ?_, fun q => ?_, fun j hj => (d4 j (by omega)).trans ((b4 j (by omega)).trans (a4 j (by omega))), d5.trans (b5.trans a5), d6.trans (b6.trans a6), (a7.tr b7).tr d7⟩
          · rw [hnd, e', e2, decide_eq_false (by omega)]; rfl
          · rw [hnd, e', e2, d2]; congr 1; omega
          · rw [hnd, e', e2] at q; omega
        · have c3' : rn lt (p + 1 + 1 + 1) 3 = 3 := by
            refine Classical.byContradiction (fun z => c3 (dec_b.mpr z))
          refine ok_some ⟨?_, ?_, fun q => ⟨fun _ => ?_, fun _ => ?_, fun _ => ?_⟩, fun j hj => (d4 j (by omega)).trans ((b4 j (by omega)).trans (a4 j (by omega))), d5.trans (b5.trans a5), d6.trans (b6.trans a6), (a7.tr b7).tr d7⟩
          · rw [hnd, e', e2, decide_eq_true (by omega)]; rfl
          · rw [hnd, e', e2, d2]; congr 1; omega
          · rw [d4 _ (by omega), b4 _ (by omega), a3 c', vl1]
          · rw [d4 _ (by omega), b3 c2', vl1]
          · rw [d3 c3', vl3]
  · have := raR_two hl hx hk hp h h14 (by rw [e]; rfl) (by rw [e]; decide)
    unfold f_X12_readsAll
    rw [hA, if_neg (by decide), if_neg (by decide), if_neg (by decide)]
    exact this
  · have := raR_two hl hx hk hp h h14 (by rw [e]; rfl) (by rw [e]; decide)
    unfold f_X12_readsAll
    rw [hA, if_neg (by decide), if_neg (by decide), if_neg (by decide)]
    exact this
  · have hnd : nd (kl lt p) = 1 := by rw [e]; rfl
    refine ok2_mk ?_
    unfold f_X12_readsAll
    rw [hA]
    refine ok_neg (by decide) (ok_pos rfl ?_)
    refine ok_bp (rdsR (n := 1) (q := p + 1) hl hx (show 3 * k < 144 by omega) (by omega) (by omega) h h14) (fun t1 M1 ⟨a1, a2, a3, a4, a5, a6, a7⟩ => ?_)
    rw [a1, gZ_b, Option.bind_some]
    refine ok_some ⟨?_, ?_, fun q => ⟨fun _ => ?_, fun z => ?_, fun z => ?_⟩, fun j hj => a4 j (by omega), a5, a6, a7⟩
    · rw [hnd]
    · rw [hnd]; exact a2
    · rw [hnd] at q; rw [a3 q, vl1]
    · omega
    · rw [e] at z; exact absurd z (by decide)
  · have hnd : nd (kl lt p) = 0 := by rw [e]; rfl
    refine ok2_mk ?_
    unfold f_X12_readsAll
    rw [hA]
    refine ok_neg (by decide) (ok_neg (by decide) (ok_pos rfl ?_))
    refine ok_some ⟨?_, ?_, fun q => ⟨fun z => ?_, fun z => ?_, fun z => ?_⟩, fun j hj => rfl, rfl, rfl, frL.rf⟩
    · rw [hnd]; rfl
    · rw [hnd]; exact h14
    · omega
    · omega
    · rw [e] at z; exact absurd z (by decide)
def stP (lt : List Nat) (p k : Nat) (M : Mem) (t : Int32) (M' : Mem) : Prop := (sok lt p → t = 1 ∧ M'.1 0 14 = nI (sat lt p + 1) ∧ TD lt p k M') ∧ (¬ sok lt p → t = 0 ∧ M'.1 0 14 = nI (sat lt p)) ∧ (∀ i, i < k → M'.1 7 i = M.1 7 i ∧ M'.1 8 i = M.1 8 i) ∧ (∀ j, j < 3 * k → M'.1 9 j = M.1 9 j) ∧ frL M M'
theorem stmR_37 {lt : List Nat} {p k : Nat} {M : Mem} (hl : lt.length ≤ 96) (hx : ∀ x ∈ lt, x < 256) (hk : k < 48) (hp : p < 200) (h : ltR lt M) (h14 : M.1 0 14 = nI p) (h15 : M.1 0 15 = nI k) (hne : kl lt p ≠ 0) :
    ok (f_X12_statement_b37 (LA lt p) M) (fun q => stP lt p k M q.1 q.2) := by
  unfold f_X12_statement_b37
  rw [h15]
  refine ok_st (by omega) (by decide) ?_
  rw [show (wI M 7 k (LA lt p)).1 0 15 = nI k by rw [wI_other (by decide)]; exact h15, show (wI M 7 k (LA lt p)).1 0 14 = nI p by rw [wI_other (by decide)]; exact h14]
  refine ok_st (by omega) (by decide) ?_
  have e14 : (wI (wI M 7 k (LA lt p)) 8 k (nI p)).1 0 14 = nI p := by rw [wI_other (by decide), wI_other (by decide)]; exact h14
  rw [e14, nI_1]
  have e15 : (wI (wI (wI M 7 k (LA lt p)) 8 k (nI p)) 0 14 (nI (p + 1))).1 0 15 = nI k := by rw [wI_at, if_neg (by omega), wI_other (by decide), wI_other (by decide)]; exact h15
  rw [e15, l_3, pk_mul]
  have f3 : frL M (wI (wI (wI M 7 k (LA lt p)) 8 k (nI p)) 0 14 (nI (p + 1))) := ((frL.w (by omega)).tr (frL.w (by omega))).tr frL.w14
  have g7 : (wI (wI (wI M 7 k (LA lt p)) 8 k (nI p)) 0 14 (nI (p + 1))).1 7 k = LA lt p := by rw [wI_other (by decide), wI_other (by decide), wI_at, if_pos ⟨rfl, rfl⟩]
  have g8 : (wI (wI (wI M 7 k (LA lt p)) 8 k (nI p)) 0 14 (nI (p + 1))).1 8 k = nI p := by rw [wI_other (by decide), wI_at, if_pos ⟨rfl, rfl⟩]
  have o7 : ∀ i, i < k → (wI (wI (wI M 7 k (LA lt p)) 8 k (nI p)) 0 14 (nI (p + 1))).1 7 i = M.1 7 i := fun i hi => by rw [wI_other (by decide), wI_other (by decide), wI_at, if_neg (by omega)]
  have o8 : ∀ i, i < k → (wI (wI (wI M 7 k (LA lt p)) 8 k (nI p)) 0 14 (nI (p + 1))).1 8 i = M.1 8 i := fun i hi => by rw [wI_other (by decide), wI_at, if_neg (by omega), wI_other (by decide)]
  have o9 : (wI (wI (wI M 7 k (LA lt p)) 8 k (nI p)) 0 14 (nI (p + 1))).1 9 = M.1 9 := by rw [wI_other (by decide), wI_other (by decide), wI_other (by decide)]
  have n14 : (wI (wI (wI M 7 k (LA lt p)) 8 k (nI p)) 0 14 (nI (p + 1))).1 0 14 = nI (p + 1) := by rw [wI_at, if_pos ⟨rfl, rfl⟩]
  revert f3 g7 g8 o7 o8 o9 n14
  generalize wI (wI (wI M 7 k (LA lt p)) 8 k (nI p)) 0 14 (nI (p + 1)) = N
  intro f3 g7 g8 o7 o8 o9 n14
  have hr := rn_le lt (nd (kl lt p)) (p + 1)
  have hn5 := nd_le (kl lt p)
  have hs : sat lt p = p + 1 + rn lt (p + 1) (nd (kl lt p)) := by unfold sat; rw [if_neg hne]
  refine ok_bp (raR hl hx hk hp (h.fr f3) n14 hne) (fun t M5 ⟨a1, a2, a3, a4, a5, a6, a7⟩ => ?_)
  have fr5 := f3.tr a7
  have p7 : ∀ i, i < k → M5.1 7 i = M.1 7 i ∧ M5.1 8 i = M.1 8 i := fun i hi => ⟨by rw [a5, o7 i hi], by rw [a6, o8 i hi]⟩
  have p9 : ∀ j, j < 3 * k → M5.1 9 j = M.1 9 j := fun j hj => by rw [a4 j hj, o9]
  rw [a1]
  refine ok_ite (fun c => ?_) (fun c => ?_)
  · have c' := dec_b.mp c
    exact ok_some ⟨fun q => absurd q.2.1 c', fun _ => ⟨rfl, by rw [hs]; exact a2⟩, p7, p9, fr5⟩
  · have c' : rn lt (p + 1) (nd (kl lt p)) = nd (kl lt p) := by
      refine Classical.byContradiction (fun z => c (dec_b.mpr z))
    rw [c'] at a2 hs
    rw [peekR hl (h.fr fr5) a2 (by omega), Option.bind_some]
    refine ok_ite (fun c2 => ?_) (fun c2 => ?_)
    · rw [a2, nI_1]
      refine ok_some ⟨fun _ => ⟨rfl, ?_, ?_, ?_, ?_⟩, fun q => absurd ⟨hne, c', c2⟩ q, fun i hi => ?_, fun j hj => ?_, fr5.tr frL.w14⟩
      · rw [wI_at, if_pos ⟨rfl, rfl⟩, hs]
      · rw [wI_other (by decide), a5, g7]; exact LA_kl hne
      · rw [wI_other (by decide), a6, g8]
      · have := a3 c'
        unfold TD9 at this ⊢
        rw [wI_other (by decide)]
        exact this
      · rw [wI_other (by decide), wI_other (by decide)]; exact p7 i hi
      · rw [wI_other (by decide)]; exact p9 j hj
    · exact ok_some ⟨fun q => absurd q.2.2 c2, fun _ => ⟨rfl, by rw [hs]; exact a2⟩, p7, p9, fr5⟩
theorem stmR {lt : List Nat} {p k : Nat} {M : Mem} (hl : lt.length ≤ 96) (hx : ∀ x ∈ lt, x < 256) (hk : k < 48) (hp : p < 200) (h : ltR lt M) (h14 : M.1 0 14 = nI p) (h15 : M.1 0 15 = nI k) :
    ok2 (f_X12_statement M) (stP lt p k M) := by
  have go := fun hne => stmR_37 (p := p) (k := k) hl hx hk hp h h14 h15 hne
  refine ok2_mk ?_
  unfold f_X12_statement
  rw [peekR hl h h14 (by omega), Option.bind_some]
  rcases LA_k lt p with ⟨e, h1, h2, h3, h4, h5⟩ | ⟨e, hA⟩ | ⟨e, hA⟩ | ⟨e, hA⟩ | ⟨e, hA⟩ | ⟨e, hA⟩
  · rw [if_neg h1, if_neg h4, if_neg h2, if_neg h3, if_neg h5]
    refine ok_some ⟨fun q => absurd e q.1, fun _ => ⟨rfl, ?_⟩, fun _ _ => ⟨rfl, rfl⟩, fun _ _ => rfl, frL.rf⟩
    have : sat lt p = p := by unfold sat; rw [if_pos e]
    rw [this]; exact h14
  · rw [if_pos hA]; exact go (by rw [e]; decide)
  · rw [if_neg (by rw [hA]; decide), if_neg (by rw [hA]; decide), if_pos hA]; exact go (by rw [e]; decide)
  · rw [if_neg (by rw [hA]; decide), if_neg (by rw [hA]; decide), if_neg (by rw [hA]; decide), if_pos hA]; exact go (by rw [e]; decide)
  · rw [if_neg (by rw [hA]; decide), if_pos hA]; exact go (by rw [e]; decide)
  · rw [if_neg (by rw [hA]; decide), if_neg (by rw [hA]; decide), if_neg (by rw [hA]; decide), if_neg (by rw [hA]; decide), if_pos hA]; exact go (by rw [e]; decide)
def frS (M M' : Mem) : Prop := (∀ k, k ≠ 14 → k ≠ 15 → M'.1 0 k = M.1 0 k) ∧ ∀ r, r ≠ 0 → r ≠ 7 → r ≠ 8 → r ≠ 9 → M'.1 r = M.1 r
theorem frS.tr {M M' M'' : Mem} (h : frS M M') (g : frS M' M'') : frS M M'' := ⟨fun k hk h5 => (g.1 k hk h5).trans (h.1 k hk h5), fun r h0 h7 h8 h9 => (g.2 r h0 h7 h8 h9).trans (h.2 r h0 h7 h8 h9)⟩
theorem frL.s {M M' : Mem} (h : frL M M') : frS M M' := ⟨fun k hk _ => h.1 k hk, h.2⟩
theorem frS.w15 {M : Mem} {v : Int32} : frS M (wI M 0 15 v) := ⟨fun k _ hk => by rw [wI_at, if_neg (by omega)], fun r h0 _ _ _ => wI_other h0⟩
theorem ltR.frs {lt : List Nat} {M M' : Mem} (h : ltR lt M) (e : frS M M') : ltR lt M' := ⟨(e.1 13 (by decide) (by decide)).trans h.1, fun j hj => by rw [e.2 6 (by decide) (by decide) (by decide) (by decide)]; exact h.2 j hj⟩
theorem TD.cong {lt : List Nat} {p k : Nat} {M M' : Mem} (h : TD lt p k M) (h7 : M'.1 7 k = M.1 7 k) (h8 : M'.1 8 k = M.1 8 k) (h9 : ∀ j, j ≤ 3 * k + 2 → M'.1 9 j = M.1 9 j) : TD lt p k M' := by
  unfold TD TD9 at *
  rw [h7, h8, h9 _ (by omega), h9 _ (by omega), h9 _ (by omega)]
  exact h
theorem stR {lt : List Nat} (hl : lt.length ≤ 96) (hx : ∀ x ∈ lt, x < 256) : ∀ (f p k fuel : Nat) (M : Mem) (P : List Nat), lt.length < p + f → f < fuel → (p < lt.length ∨ (p = 0 ∧ k = 0)) → 2 * k ≤ p → P.length = k → ltR lt M → M.1 0 14 = nI p → M.1 0 15 = nI k → (∀ i, i < k → TD lt (P.getD i 0) i M) →
    ∃ g M', f_X12_state_b12 fuel 1 M = f_X12_state_b60 g M' ∧ frS M M' ∧ (∀ q, (stt lt f p).2 = some q → g = 0 ∧ M'.1 0 14 = nI q) ∧ ((stt lt f p).2 = none → g = 1 ∧ k + (stt lt f p).1.length ≤ 48 ∧ M'.1 0 15 = nI (k + (stt lt f p).1.length) ∧ ∀ i, i < k + (stt lt f p).1.length → TD lt ((P ++ (stt lt f p).1).getD i 0) i M') := by
  intro f
  induction f with
  | zero => intro p k fuel M P h1 h2 h3; omega
  | succ f ih =>
    intro p k fuel M P h1 h2 h3 h4 hP h h14 h15 hT
    obtain ⟨g, rfl⟩ : ∃ g, fuel = g + 1 := ⟨fuel - 1, by omega⟩
    obtain ⟨g', rfl⟩ : ∃ g', g = g' + 1 := ⟨g - 1, by omega⟩
    have hsl := sat_le lt p
    have hk48 : k < 48 := by omega
    obtain ⟨t, M1, e1, s1, s2, s3, s4, s5⟩ := stmR (p := p) (k := k) hl hx hk48 (by omega) h h14 h15
    have e15 : M1.1 0 15 = nI k := (s5.1 15 (by decide)).trans h15
    have b34 : f_X12_state_b34 (f_X12_state_b12 (g' + 1)) M = f_X12_state_b12 (g' + 1) t (wI M1 0 15 (nI k + if t = 0 then 0 else 1)) := by
      unfold f_X12_state_b34
      rw [e1, Option.bind_some, ← e15]
      rfl
    have start : f_X12_state_b12 (g' + 1 + 1) 1 M = f_X12_state_b12 (g' + 1) t (wI M1 0 15 (nI k + if t = 0 then 0 else 1)) := by
      rw [← b34]
      show (if (1 : Int32) = 0 then _ else _) = _
      rw [if_neg n10, h14, h.1, h15]
      rcases h3 with c | ⟨rfl, rfl⟩
      · rw [if_pos (nI_lt c (by omega))]
      · by_cases c : 0 < lt.length
        · rw [if_pos (nI_lt c (by omega))]
        · rw [if_neg (fun q => c ((nI_ltI (by omega) (by omega)).mp q)), if_pos (show nI 0 = 0 from rfl)]
    rw [start]
    by_cases c : sok lt p
    · obtain ⟨rfl, t14, tT⟩ := s1 c
      rw [if_neg n10, nI_1]
      have frS2 : frS M (wI M1 0 15 (nI (k + 1))) := s5.s.tr frS.w15
      have h14' : (wI M1 0 15 (nI (k + 1))).1 0 14 = nI (sat lt p + 1) := by rw [wI_at, if_neg (by omega)]; exact t14
      have h15' : (wI M1 0 15 (nI (k + 1))).1 0 15 = nI (k + 1) := by rw [wI_at, if_pos ⟨rfl, rfl⟩]
      have hT' : ∀ i, i < k + 1 → TD lt ((P ++ [p]).getD i 0) i (wI M1 0 15 (nI (k + 1))) := fun i hi => by
        rw [getD_snoc, hP]
        by_cases z : i = k
        · subst z
          rw [if_neg (by omega), if_pos rfl]
          exact tT.cong (by rw [wI_other (by decide)]) (by rw [wI_other (by decide)]) (fun j _ => by rw [wI_other (by decide)])
        · rw [if_pos (by omega)]
          exact (hT i (by omega)).cong (by rw [wI_other (by decide)]; exact (s3 i (by omega)).1) (by rw [wI_other (by decide)]; exact (s3 i (by omega)).2) (fun j hj => by rw [wI_other (by decide)]; exact s4 j (by omega))
      have hsat := sat_ok c
      by_cases c2 : sat lt p + 1 < lt.length
      · obtain ⟨g2, M', r1, r2, r3, r4⟩ := ih (sat lt p + 1) (k + 1) (g' + 1) (wI M1 0 15 (nI (k + 1))) (P ++ [p]) (by omega) (by omega) (Or.inl c2) (by omega) (by simp; omega) (h.frs frS2) h14' h15' hT'
        rw [stt_s1 c c2]
        refine ⟨g2, M', r1, frS2.tr r2, r3, fun q => ?_⟩
        obtain ⟨q1, q2, q3, q4⟩ := r4 q
        have hlen : (p :: (stt lt f (sat lt p + 1)).1).length = (stt lt f (sat lt p + 1)).1.length + 1 := rfl
        refine ⟨q1, ?_, ?_, fun i hi => ?_⟩
        · rw [hlen]; omega
        · rw [hlen, q3]; congr 1; omega
        · rw [hlen] at hi
          have := q4 i (by omega)
          rw [List.append_assoc] at this
          exact this
      · rw [stt_s2 c c2]
        refine ⟨1, wI M1 0 15 (nI (k + 1)), ?_, frS2, (fun q z => by cases z), fun _ => ⟨rfl, ?_, h15', hT'⟩⟩
        · show (if (1 : Int32) = 0 then _ else _) = _
          rw [if_neg n10, h14', (h.frs frS2).1, h15', if_neg (fun q => c2 ((nI_ltI (by omega) (by omega)).mp q)), if_neg (show ¬ nI (k + 1) = 0 from fun q => absurd (nI_e (b := 0) (by omega) (by decide) q) (by omega))]
        · show k + 1 ≤ 48; omega
    · obtain ⟨rfl, t14⟩ := s2 c
      rw [if_pos p00, stt_s3 c]
      refine ⟨0, wI M1 0 15 (nI k + 0), rfl, s5.s.tr frS.w15, fun q z => ⟨rfl, ?_⟩, fun z => by cases z⟩
      cases z
      rw [wI_at, if_neg (by omega)]; exact t14
