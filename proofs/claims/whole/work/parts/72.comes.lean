/-! statements come -/
def apS3 (lt : List Nat) (p : Nat) : Nat := 100 * dv lt (p + 3) + 10 * dv lt (p + 4) + dv lt (p + 5)
def ap (lt : List Nat) (p : Nat) (B : Bd) : Option Bd :=
  if kl lt p = 100 then (if dv lt (p + 1) < 6 ∧ apS3 lt p < 256 ∧ bn B < 8 then some (adB B (dv lt (p + 1), dv lt (p + 2), apS3 lt p)) else none)
  else if kl lt p = 108 then (if dv lt (p + 1) < 4 ∧ dv lt (p + 2) ≤ 8 then some (lw B (dv lt (p + 1)) (dv lt (p + 2))) else none)
  else if kl lt p = 109 then (if dv lt (p + 1) < bn B ∧ dv lt (p + 2) < 8 then some (flB B (dv lt (p + 1)) (dv lt (p + 2))) else none)
  else if kl lt p = 111 then (if dv lt (p + 1) < bn B ∧ bpl B < 12 then some (B.1, B.2.1, B.2.2 ++ [dv lt (p + 1)]) else none)
  else some (wl B [])
theorem ap_wf {lt : List Nat} {p : Nat} {B B' : Bd} (hw : wfB B) (h : ap lt p B = some B') : wfB B' := by
  have d2 := dv_le lt (p + 2)
  unfold ap at h
  split at h
  · split at h
    · next c => cases h; exact adB_wf hw c.2.2 c.1 d2 c.2.1
    · cases h
  · split at h
    · split at h
      · next c => cases h; exact ⟨c.1, c.2, hw.2.2⟩
      · cases h
    · split at h
      · split at h
        · next c =>
          cases h
          obtain ⟨kw, fw, mw⟩ := hw.2.2.2.2.1 (dv lt (p + 1))
          exact stB_wf hw c.1 kw fw (xor_8 mw c.2)
        · cases h
      · split at h
        · split at h
          · next c => cases h; exact wfB_lg hw c.1 c.2
          · cases h
        · cases h
          exact ⟨hw.1, hw.2.1, hw.2.2.1, Nat.zero_le _, hw.2.2.2.2.1, fun d hd => by cases hd⟩
theorem lowN {d m : Nat} (hd : d < 2 ^ 31) (hm : m < 2 ^ 31) : (if nI d < 0 then (0 : Int32) else (if nI m ≤ nI d then (0 : Int32) else (1 : Int32))) = bI (decide (d < m)) := by
  rw [if_neg (nI_pos hd)]
  by_cases c : d < m
  · rw [if_neg (nI_ge c hm), decide_eq_true c]; rfl
  · rw [if_pos (nI_le (by omega) hd), decide_eq_false c]; rfl
theorem kindN {d : Nat} (hd : d < 2 ^ 31) : f_X11_isKind (nI d) = bI (decide (d < 6)) := lowN (m := 6) hd (by decide)
theorem typeN {d : Nat} (hd : d < 2 ^ 31) : f_X11_isType (nI d) = bI (decide (d < 4)) := lowN (m := 4) hd (by decide)
theorem markN {d : Nat} (hd : d < 2 ^ 31) : f_X11_isMark (nI d) = bI (decide (d < 8)) := lowN (m := 8) hd (by decide)
theorem markNR {d : Nat} (hd : d < 2 ^ 31) : f_X12_isMark (nI d) = bI (decide (d < 8)) := lowN (m := 8) hd (by decide)
theorem hasN {b : Nat} {B : Bd} {M : Mem} {d : Nat} (h : brdC b B M) (hw : wfB B) (hd : d < 2 ^ 31) : f_X0_hasDoing b (nI d) M = bI (decide (d < bn B)) := by
  unfold f_X0_hasDoing
  rw [h.1]
  exact lowN hd (by have := hw.2.2.1; omega)
theorem hasNR {B : Bd} {M : Mem} {d : Nat} (h : brdR B M) (hw : wfB B) (hd : d < 2 ^ 31) : f_X12_isDoing (nI d) M = bI (decide (d < bn B)) := by
  unfold f_X12_isDoing
  rw [h.1]
  exact lowN hd (by have := hw.2.2.1; omega)
theorem adB_kd (B : Bd) {k f m d : Nat} (hd : d < bn B + 1) : (kd (adB B (k, f, m)) d = if d = bn B then k else kd B d) ∧ (fg (adB B (k, f, m)) d = if d = bn B then f else fg B d) ∧ (mk (adB B (k, f, m)) d = if d = bn B then m else mk B d) := by
  unfold kd fg mk
  rw [adB_at]
  by_cases c : d < bn B
  · rw [if_pos c, if_neg (by omega), if_neg (by omega), if_neg (by omega)]; exact ⟨rfl, rfl, rfl⟩
  · obtain rfl : d = bn B := by omega
    rw [if_neg c, if_pos rfl, if_pos rfl, if_pos rfl, if_pos rfl]; exact ⟨rfl, rfl, rfl⟩
theorem lg_n (B : Bd) (d : Nat) : bpl (B.1, B.2.1, B.2.2 ++ [d]) = bpl B + 1 := by unfold bpl; simp
theorem lg_at (B : Bd) (d : Nat) {j : Nat} (hj : j < bpl B + 1) : lgA (B.1, B.2.1, B.2.2 ++ [d]) j = if j = bpl B then d else lgA B j := by
  show (B.2.2 ++ [d]).getD j 0 = _
  rw [getD_snoc]
  by_cases c : j < B.2.2.length
  · have : j < bpl B := c
    rw [if_pos c, if_neg (by omega)]; rfl
  · have : ¬ j < bpl B := c
    have c2 : j = B.2.2.length := by unfold bpl at hj; omega
    rw [if_neg c, if_pos c2, if_pos (by omega)]
def cmC (lt : List Nat) (p : Nat) (B : Bd) (M : Mem) (x : Int32) (M' : Mem) : Prop := ((ap lt p B = none ∧ x = 0) ∨ ∃ B', ap lt p B = some B' ∧ x = 1 ∧ brdC 18 B' M') ∧ ∀ r, r < 18 ∨ 22 < r → M'.1 r = M.1 r
theorem cmC_d {lt : List Nat} {p : Nat} {B : Bd} {M : Mem} (hw : wfB B) (h : brdC 18 B M) (hk : kl lt p = 100) : ok2 (f_X1_comesDoing (nI (dv lt (p + 1))) (nI (dv lt (p + 2))) (nI (apS3 lt p)) M) (cmC lt p B M) := by
  have hn := hw.2.2.1
  have d1 := dv_le lt (p + 1)
  have d2 := dv_le lt (p + 2)
  have d3 := dv_le lt (p + 3)
  have d4 := dv_le lt (p + 4)
  have d5 := dv_le lt (p + 5)
  have hs : apS3 lt p ≤ 999 := by unfold apS3; omega
  have ap0 : ap lt p B = if dv lt (p + 1) < 6 ∧ apS3 lt p < 256 ∧ bn B < 8 then some (adB B (dv lt (p + 1), dv lt (p + 2), apS3 lt p)) else none := by unfold ap; rw [if_pos hk]
  refine ok2_mk ?_
  unfold f_X1_comesDoing
  rw [kindN (by omega)]
  refine ok_ite (fun c => ?_) (fun c => ?_)
  · have c' := dec_b.mp c
    exact ok_some ⟨Or.inl ⟨by rw [ap0, if_neg (fun q => c' q.1)], rfl⟩, fun _ _ => rfl⟩
  have c1 : dv lt (p + 1) < 6 := Classical.byContradiction (fun z => c (dec_b.mpr z))
  by_cases c2 : apS3 lt p < 256
  · refine ok_neg (show ¬ 255 < nI (apS3 lt p) from fun q => absurd ((nI_ltI (a := 255) (by decide) (by omega)).mp q) (by omega)) ?_
    unfold f_X0_hasRoomForDoing
    rw [h.1]
    by_cases c3 : bn B < 8
    · rw [if_neg (show ¬ 8 ≤ nI (bn B) from nI_ge (b := 8) c3 (by decide))]
      refine ok_neg n10 ?_
      unfold f_X0_addDoing f_X0_hasRoomForDoing f_X0_setKind
      rw [h.1, if_neg (show ¬ 8 ≤ nI (bn B) from nI_ge (b := 8) c3 (by decide)), if_neg n10, nI_1, stI_n (by omega) (by decide), Option.bind_some, stI_n (by omega) (by decide), Option.bind_some, Option.bind_some, stI_n (by omega) (by decide), Option.bind_some, Option.bind_some]
      obtain ⟨h1, h2, h3, h4, h5, h6, h7, h8⟩ := h
      refine ok_some ⟨Or.inr ⟨_, by rw [ap0, if_pos ⟨c1, c2, c3⟩], rfl, ⟨?_, ?_, ?_, ?_, fun j hj => ?_, fun j hj => ?_, fun j hj => ?_, fun j hj => ?_⟩⟩, fun r hr => ?_⟩
      · rw [adB_n]; simp only [wI_at]; simp
      · simp only [wI_at]; simp; exact h2
      · simp only [wI_at]; simp; exact h3
      · simp only [wI_at]; simp; exact h4
      · rw [adB_n] at hj; rw [(adB_kd B hj).1]; simp only [wI_at]; simp
        by_cases c : j = bn B
        · rw [if_pos c, if_pos c]
        · rw [if_neg c, if_neg c]; exact h5 j (by omega)
      · rw [adB_n] at hj; rw [(adB_kd B hj).2.1]; simp only [wI_at]; simp
        by_cases c : j = bn B
        · rw [if_pos c, if_pos c]
        · rw [if_neg c, if_neg c]; exact h6 j (by omega)
      · rw [adB_n] at hj; rw [(adB_kd B hj).2.2]; simp only [wI_at]; simp
        by_cases c : j = bn B
        · rw [if_pos c, if_pos c]
        · rw [if_neg c, if_neg c]; exact h7 j (by omega)
      · simp only [wI_at]; simp; exact h8 j hj
      · rw [wI_other (by omega), wI_other (by omega), wI_other (by omega), wI_other (by omega)]
    · rw [if_pos (show 8 ≤ nI (bn B) from nI_le (a := 8) (by omega) (by omega))]
      exact ok_pos rfl (ok_some ⟨Or.inl ⟨by rw [ap0, if_neg (fun q => c3 q.2.2)], rfl⟩, fun _ _ => rfl⟩)
  · refine ok_pos (show 255 < nI (apS3 lt p) from nI_lt (a := 255) (by omega) (by omega)) ?_
    exact ok_some ⟨Or.inl ⟨by rw [ap0, if_neg (fun q => c2 q.2.1)], rfl⟩, fun _ _ => rfl⟩
theorem cmC_l {lt : List Nat} {p : Nat} {B : Bd} {M : Mem} (h : brdC 18 B M) (hk : kl lt p = 108) : ok2 (f_X1_comesLaw (nI (dv lt (p + 1))) (nI (dv lt (p + 2))) M) (cmC lt p B M) := by
  have d1 := dv_le lt (p + 1)
  have d2 := dv_le lt (p + 2)
  have ap0 : ap lt p B = if dv lt (p + 1) < 4 ∧ dv lt (p + 2) ≤ 8 then some (lw B (dv lt (p + 1)) (dv lt (p + 2))) else none := by unfold ap; rw [if_neg (by rw [hk]; decide), if_pos hk]
  refine ok2_mk ?_
  unfold f_X1_comesLaw f_X0_setLaw
  rw [typeN (by omega)]
  refine ok_ite (fun c => ?_) (fun c => ?_)
  · have c' := dec_b.mp c
    exact ok_some ⟨Or.inl ⟨by rw [ap0, if_neg (fun q => c' q.1)], rfl⟩, fun _ _ => rfl⟩
  have c1 : dv lt (p + 1) < 4 := Classical.byContradiction (fun z => c (dec_b.mpr z))
  by_cases c2 : dv lt (p + 2) ≤ 8
  · refine ok_pos (show nI (dv lt (p + 2)) ≤ 8 from nI_le (b := 8) c2 (by decide)) ?_
    rw [Option.bind_some]
    obtain ⟨h1, h2, h3, h4, h5, h6, h7, h8⟩ := h
    refine ok_some ⟨Or.inr ⟨_, by rw [ap0, if_pos ⟨c1, c2⟩], rfl, ⟨?_, ?_, ?_, ?_, fun j hj => ?_, fun j hj => ?_, fun j hj => ?_, fun j hj => ?_⟩⟩, fun r hr => ?_⟩
    · simp only [wI_at]; simp; exact h1
    · simp only [wI_at]; simp; exact h2
    · simp only [wI_at]; simp; rfl
    · simp only [wI_at]; simp; rfl
    · simp only [wI_at]; simp; exact h5 j hj
    · simp only [wI_at]; simp; exact h6 j hj
    · simp only [wI_at]; simp; exact h7 j hj
    · simp only [wI_at]; simp; exact h8 j hj
    · rw [wI_other (by omega), wI_other (by omega)]
  · refine ok_neg (show ¬ nI (dv lt (p + 2)) ≤ 8 from nI_ge (a := 8) (by omega) (by omega)) ?_
    exact ok_some ⟨Or.inl ⟨by rw [ap0, if_neg (fun q => c2 q.2)], rfl⟩, fun _ _ => rfl⟩
theorem cmC_m {lt : List Nat} {p : Nat} {B : Bd} {M : Mem} (hw : wfB B) (h : brdC 18 B M) (hk : kl lt p = 109) : ok2 (f_X1_comesMark (nI (dv lt (p + 1))) (nI (dv lt (p + 2))) M) (cmC lt p B M) := by
  have hn := hw.2.2.1
  have d1 := dv_le lt (p + 1)
  have d2 := dv_le lt (p + 2)
  have ap0 : ap lt p B = if dv lt (p + 1) < bn B ∧ dv lt (p + 2) < 8 then some (flB B (dv lt (p + 1)) (dv lt (p + 2))) else none := by unfold ap; rw [if_neg (by rw [hk]; decide), if_neg (by rw [hk]; decide), if_pos hk]
  refine ok2_mk ?_
  unfold f_X1_comesMark f_X0_flipMark
  rw [hasN h hw (by omega), markN (by omega)]
  refine ok_ite (fun c => ?_) (fun c => ?_)
  · have c' := dec_b.mp c
    exact ok_some ⟨Or.inl ⟨by rw [ap0, if_neg (fun q => c' q.1)], rfl⟩, fun _ _ => rfl⟩
  have c1 : dv lt (p + 1) < bn B := Classical.byContradiction (fun z => c (dec_b.mpr z))
  refine ok_ite (fun c => ?_) (fun c => ?_)
  · have c' := dec_b.mp c
    exact ok_some ⟨Or.inl ⟨by rw [ap0, if_neg (fun q => c' q.2)], rfl⟩, fun _ _ => rfl⟩
  have c2 : dv lt (p + 2) < 8 := Classical.byContradiction (fun z => c (dec_b.mpr z))
  obtain ⟨h1, h2, h3, h4, h5, h6, h7, h8⟩ := h
  have e7 : M.1 (18 + 3) (dv lt (p + 1)) = nI (mk B (dv lt (p + 1))) := h7 _ c1
  rw [ldI_n (by omega) (by decide), e7, Option.bind_some, jshl_1 (by omega), fa_xor, stI_n (by omega) (by decide), Option.bind_some, Option.bind_some]
  refine ok_some ⟨Or.inr ⟨_, by rw [ap0, if_pos ⟨c1, c2⟩], rfl, ⟨?_, ?_, ?_, ?_, fun j hj => ?_, fun j hj => ?_, fun j hj => ?_, fun j hj => ?_⟩⟩, fun r hr => ?_⟩
  · unfold flB; rw [stB_n]; simp only [wI_at]; simp; exact h1
  · simp only [wI_at]; simp; exact h2
  · simp only [wI_at]; simp; exact h3
  · simp only [wI_at]; simp; exact h4
  · unfold flB at hj ⊢; rw [stB_n] at hj; rw [(stB_kd c1 j).1]; simp only [wI_at]; simp
    by_cases c : j = dv lt (p + 1)
    · rw [if_pos c, c]; exact h5 _ c1
    · rw [if_neg c]; exact h5 j hj
  · unfold flB at hj ⊢; rw [stB_n] at hj; rw [(stB_kd c1 j).2.1]; simp only [wI_at]; simp
    by_cases c : j = dv lt (p + 1)
    · rw [if_pos c, c]; exact h6 _ c1
    · rw [if_neg c]; exact h6 j hj
  · unfold flB at hj ⊢; rw [stB_n] at hj; rw [(stB_kd c1 j).2.2]; simp only [wI_at]; simp
    by_cases c : j = dv lt (p + 1)
    · rw [if_pos c, if_pos c]
    · rw [if_neg c, if_neg c]; exact h7 j hj
  · simp only [wI_at]; simp; exact h8 j hj
  · rw [wI_other (by omega)]
theorem cmC_o {lt : List Nat} {p : Nat} {B : Bd} {M : Mem} (hw : wfB B) (h : brdC 18 B M) (hk : kl lt p = 111) : ok2 (f_X1_comesDone (nI (dv lt (p + 1))) M) (cmC lt p B M) := by
  have hn := hw.2.2.1
  have h12 := hw.2.2.2.1
  have d1 := dv_le lt (p + 1)
  have ap0 : ap lt p B = if dv lt (p + 1) < bn B ∧ bpl B < 12 then some (B.1, B.2.1, B.2.2 ++ [dv lt (p + 1)]) else none := by unfold ap; rw [if_neg (by rw [hk]; decide), if_neg (by rw [hk]; decide), if_neg (by rw [hk]; decide), if_pos hk]
  refine ok2_mk ?_
  unfold f_X1_comesDone f_X0_addPlace f_X0_hasRoomForPlace
  rw [hasN h hw (by omega), h.2.1]
  refine ok_ite (fun c => ?_) (fun c => ?_)
  · have c' := dec_b.mp c
    exact ok_some ⟨Or.inl ⟨by rw [ap0, if_neg (fun q => c' q.1)], rfl⟩, fun _ _ => rfl⟩
  have c1 : dv lt (p + 1) < bn B := Classical.byContradiction (fun z => c (dec_b.mpr z))
  by_cases c2 : bpl B < 12
  · rw [if_neg (show ¬ 12 ≤ nI (bpl B) from nI_ge (b := 12) c2 (by decide))]
    refine ok_neg n10 ?_
    rw [if_neg n10, nI_1, stI_n (by omega) (by decide), Option.bind_some, Option.bind_some]
    obtain ⟨h1, h2, h3, h4, h5, h6, h7, h8⟩ := h
    refine ok_some ⟨Or.inr ⟨_, by rw [ap0, if_pos ⟨c1, c2⟩], rfl, ⟨?_, ?_, ?_, ?_, fun j hj => ?_, fun j hj => ?_, fun j hj => ?_, fun j hj => ?_⟩⟩, fun r hr => ?_⟩
    · simp only [wI_at]; simp; exact h1
    · rw [lg_n]; simp only [wI_at]; simp
    · simp only [wI_at]; simp; exact h3
    · simp only [wI_at]; simp; exact h4
    · simp only [wI_at]; simp; exact h5 j hj
    · simp only [wI_at]; simp; exact h6 j hj
    · simp only [wI_at]; simp; exact h7 j hj
    · rw [lg_n] at hj; rw [lg_at B _ hj]; simp only [wI_at]; simp
      by_cases c : j = bpl B
      · rw [if_pos c, if_pos c]
      · rw [if_neg c, if_neg c]; exact h8 j (by omega)
    · rw [wI_other (by omega), wI_other (by omega)]
  · rw [if_pos (show 12 ≤ nI (bpl B) from nI_le (a := 12) (by omega) (by omega))]
    exact ok_pos rfl (ok_some ⟨Or.inl ⟨by rw [ap0, if_neg (fun q => c2 q.2)], rfl⟩, fun _ _ => rfl⟩)
theorem comesC {lt : List Nat} {p : Nat} {B : Bd} {M : Mem} (hl : lt.length ≤ 96) (hx : ∀ x ∈ lt, x < 256) (hw : wfB B) (h : brdC 18 B M) (hL : ltC lt M) (hp : p < 200) (hne : kl lt p ≠ 0) : ok2 (f_X1_comes (nI p) M) (cmC lt p B M) := by
  have g1 : ∀ {o : Option (Int32 × Mem)}, ok2 o (cmC lt p B M) → ok (o.bind fun pt8 => bp pt8 fun t8 M8 => (gZ t8).bind fun t9 => some (t9, M8)) (fun q => cmC lt p B M q.1 q.2) := fun ho => ok_bp ho (fun t M' q => by
    obtain ⟨q1, q2⟩ := q
    rcases q1 with ⟨e1, rfl⟩ | ⟨B', e1, rfl, e3⟩
    · exact ok_some ⟨Or.inl ⟨e1, rfl⟩, q2⟩
    · exact ok_some ⟨Or.inr ⟨B', e1, rfl, e3⟩, q2⟩)
  have n2 : ∀ k, nI p + nI k = nI (p + k) := fun k => nI_add p k
  refine ok2_mk ?_
  unfold f_X1_comes
  simp only [l_1, l_2, l_3, l_4, l_5]
  rw [n2, digAtC hl hx hL (by omega), Option.bind_some, n2, digAtC hl hx hL (by omega), Option.bind_some, letC hl hL (by omega), Option.bind_some]
  rcases LA_k lt p with ⟨e, -⟩ | ⟨e, hA⟩ | ⟨e, hA⟩ | ⟨e, hA⟩ | ⟨e, hA⟩ | ⟨e, hA⟩
  · exact absurd e hne
  · refine ok_pos hA ?_
    rw [n2, digAtC hl hx hL (by omega), Option.bind_some, n2, digAtC hl hx hL (by omega), Option.bind_some, n2, digAtC hl hx hL (by omega), Option.bind_some, l_100, l_10, pk_mul, pk_mul, nI_add, nI_add]
    exact g1 (cmC_d hw h e)
  · refine ok_neg (by rw [hA]; decide) (ok_pos hA ?_)
    exact g1 (cmC_l h e)
  · refine ok_neg (by rw [hA]; decide) (ok_neg (by rw [hA]; decide) (ok_pos hA ?_))
    exact g1 (cmC_m hw h e)
  · refine ok_neg (by rw [hA]; decide) (ok_neg (by rw [hA]; decide) (ok_neg (by rw [hA]; decide) (ok_pos hA ?_)))
    exact g1 (cmC_o hw h e)
  · refine ok_neg (by rw [hA]; decide) (ok_neg (by rw [hA]; decide) (ok_neg (by rw [hA]; decide) (ok_neg (by rw [hA]; decide) ?_)))
    have ap0 : ap lt p B = some (wl B []) := by unfold ap; rw [if_neg (by rw [e]; decide), if_neg (by rw [e]; decide), if_neg (by rw [e]; decide), if_neg (by rw [e]; decide)]
    obtain ⟨h1, h2, h3, h4, h5, h6, h7, h8⟩ := h
    refine ok_some ⟨Or.inr ⟨_, ap0, rfl, ⟨?_, ?_, ?_, ?_, fun j hj => ?_, fun j hj => ?_, fun j hj => ?_, fun j hj => ?_⟩⟩, fun r hr => ?_⟩
    · rw [wI_at, if_neg (by omega)]; exact h1
    · rw [wI_at, if_pos ⟨rfl, rfl⟩]; rfl
    · rw [wI_at, if_neg (by omega)]; exact h3
    · rw [wI_at, if_neg (by omega)]; exact h4
    · rw [wI_other (by omega)]; exact h5 j hj
    · rw [wI_other (by omega)]; exact h6 j hj
    · rw [wI_other (by omega)]; exact h7 j hj
    · exact absurd hj (Nat.not_lt_zero j)
    · rw [wI_other (by omega)]
/-! the model -/
def frB (M M' : Mem) : Prop := (∀ k, k < 5 ∨ 8 < k → M'.1 0 k = M.1 0 k) ∧ ∀ r, r ≠ 0 → (r < 2 ∨ 5 < r) → M'.1 r = M.1 r
theorem frB.rf {M : Mem} : frB M M := ⟨fun _ _ => rfl, fun _ _ _ => rfl⟩
theorem frB.tr {M M' M'' : Mem} (h : frB M M') (g : frB M' M'') : frB M M'' := ⟨fun k hk => (g.1 k hk).trans (h.1 k hk), fun r h0 hr => (g.2 r h0 hr).trans (h.2 r h0 hr)⟩
def cmR (lt : List Nat) (p : Nat) (B : Bd) (M : Mem) (x : Int32) (M' : Mem) : Prop := ((ap lt p B = none ∧ x = 0) ∨ ∃ B', ap lt p B = some B' ∧ x = 1 ∧ brdR B' M') ∧ frB M M'
theorem comesR {lt : List Nat} {p k : Nat} {B : Bd} {M : Mem} (hw : wfB B) (h : brdR B M) (hk : k < 48) (hT : TD lt p k M) (hne : kl lt p ≠ 0) : ok2 (f_X12_comes (nI k) M) (cmR lt p B M) := by
  have hn := hw.2.2.1
  have h12 := hw.2.2.2.1
  have d1 := dv_le lt (p + 1)
  have d2 := dv_le lt (p + 2)
  have d3 := dv_le lt (p + 3)
  have d4 := dv_le lt (p + 4)
  have d5 := dv_le lt (p + 5)
  have hs : apS3 lt p ≤ 999 := by unfold apS3; omega
  obtain ⟨t7, t8, t9⟩ := hT
  obtain ⟨a1, a2, a3⟩ := t9
  obtain ⟨h1, h2, h3, h4, h5, h6, h7, h8⟩ := id h
  refine ok2_mk ?_
  unfold f_X12_comes
  rw [l_3, pk_mul, nI_1, ldI_n (by omega) (by decide), Option.bind_some, ldI_n (by omega) (by decide), Option.bind_some, ldI_n (by omega) (by decide), t7, Option.bind_some]
  rcases LA_k lt p with ⟨e, -⟩ | ⟨e, hA⟩ | ⟨e, hA⟩ | ⟨e, hA⟩ | ⟨e, hA⟩ | ⟨e, hA⟩
  · exact absurd e hne
  · have hnd : nd (kl lt p) = 5 := by rw [e]; rfl
    have ap0 : ap lt p B = if dv lt (p + 1) < 6 ∧ apS3 lt p < 256 ∧ bn B < 8 then some (adB B (dv lt (p + 1), dv lt (p + 2), apS3 lt p)) else none := by unfold ap; rw [if_pos e]
    rw [a1 (by omega), a2 (by omega)]
    have a3' : M.1 9 (3 * k + 2) = nI (apS3 lt p) := a3 e
    refine ok_pos (by rw [e]; rfl) ?_
    by_cases c1 : dv lt (p + 1) < 6
    · refine ok_neg (show ¬ 5 < nI (dv lt (p + 1)) from fun q => absurd ((nI_ltI (a := 5) (by decide) (by omega)).mp q) (by omega)) ?_
      rw [show nI (3 * k) + 2 = nI (3 * k + 2) from nI_add _ 2]
      refine ok_ld (by omega) (by decide) a3' ?_
      by_cases c2 : apS3 lt p < 256
      · refine ok_neg (show ¬ 255 < nI (apS3 lt p) from fun q => absurd ((nI_ltI (a := 255) (by decide) (by omega)).mp q) (by omega)) ?_
        rw [h1]
        by_cases c3 : bn B < 8
        · refine ok_neg (show ¬ nI (bn B) = 8 from fun q => absurd (nI_e (b := 8) (by omega) (by decide) q) (by omega)) ?_
          refine ok_ld (by omega) (by decide) a3' ?_
          unfold f_X12_adds
          have u5' : (wI M 2 (bn B) (nI (dv lt (p + 1)))).1 0 5 = nI (bn B) := by rw [wI_other (by decide)]; exact h1
          rw [h1, stI_n (by omega) (by decide), Option.bind_some, u5', stI_n (by omega) (by decide), Option.bind_some]
          have u5'' : (wI (wI M 2 (bn B) (nI (dv lt (p + 1)))) 3 (bn B) (nI (dv lt (p + 2)))).1 0 5 = nI (bn B) := by rw [wI_other (by decide)]; exact u5'
          rw [u5'', stI_n (by omega) (by decide), Option.bind_some]
          have u5''' : (wI (wI (wI M 2 (bn B) (nI (dv lt (p + 1)))) 3 (bn B) (nI (dv lt (p + 2)))) 4 (bn B) (nI (apS3 lt p))).1 0 5 = nI (bn B) := by rw [wI_other (by decide)]; exact u5''
          rw [u5''', nI_1, Option.bind_some]
          refine ok_some ⟨Or.inr ⟨_, by rw [ap0, if_pos ⟨c1, c2, c3⟩], rfl, ⟨?_, ?_, ?_, ?_, fun j hj => ?_, fun j hj => ?_, fun j hj => ?_, fun j hj => ?_⟩⟩, fun k hk => ?_, fun r h0 hr => ?_⟩
          · rw [adB_n]; simp only [wI_at]; simp
          · simp only [wI_at]; simp; exact h2
          · simp only [wI_at]; simp; exact h3
          · simp only [wI_at]; simp; exact h4
          · rw [adB_n] at hj; rw [(adB_kd B hj).1]; simp only [wI_at]; simp
            by_cases c : j = bn B
            · rw [if_pos c, if_pos c]
            · rw [if_neg c, if_neg c]; exact h5 j (by omega)
          · rw [adB_n] at hj; rw [(adB_kd B hj).2.1]; simp only [wI_at]; simp
            by_cases c : j = bn B
            · rw [if_pos c, if_pos c]
            · rw [if_neg c, if_neg c]; exact h6 j (by omega)
          · rw [adB_n] at hj; rw [(adB_kd B hj).2.2]; simp only [wI_at]; simp
            by_cases c : j = bn B
            · rw [if_pos c, if_pos c]
            · rw [if_neg c, if_neg c]; exact h7 j (by omega)
          · simp only [wI_at]; simp; exact h8 j hj
          · rw [wI_at, if_neg (by omega), wI_other (by omega), wI_other (by omega), wI_other (by omega)]
          · rw [wI_other (by omega), wI_other (by omega), wI_other (by omega), wI_other (by omega)]
        · have c8 : bn B = 8 := by omega
          exact ok_pos (by rw [c8]; rfl) (ok_some ⟨Or.inl ⟨by rw [ap0, if_neg (fun q => c3 q.2.2)], rfl⟩, frB.rf⟩)
      · refine ok_pos (show 255 < nI (apS3 lt p) from nI_lt (a := 255) (by omega) (by omega)) ?_
        exact ok_some ⟨Or.inl ⟨by rw [ap0, if_neg (fun q => c2 q.2.1)], rfl⟩, frB.rf⟩
    · refine ok_pos (show 5 < nI (dv lt (p + 1)) from nI_lt (a := 5) (by omega) (by omega)) ?_
      exact ok_some ⟨Or.inl ⟨by rw [ap0, if_neg (fun q => c1 q.1)], rfl⟩, frB.rf⟩
  · have hnd : nd (kl lt p) = 2 := by rw [e]; rfl
    have ap0 : ap lt p B = if dv lt (p + 1) < 4 ∧ dv lt (p + 2) ≤ 8 then some (lw B (dv lt (p + 1)) (dv lt (p + 2))) else none := by unfold ap; rw [if_neg (by rw [e]; decide), if_pos e]
    rw [a1 (by omega), a2 (by omega), e]
    refine ok_neg (by decide) (ok_pos rfl ?_)
    have hfr : frB M (wI (wI M 0 7 (nI (dv lt (p + 1)))) 0 8 (nI (dv lt (p + 2)))) := ⟨fun k hk => by rw [wI_at, if_neg (by omega), wI_at, if_neg (by omega)], fun r h0 _ => by rw [wI_other h0, wI_other h0]⟩
    by_cases c1 : dv lt (p + 1) < 4
    · refine ok_neg (show ¬ 4 ≤ nI (dv lt (p + 1)) from nI_ge (b := 4) c1 (by decide)) ?_
      by_cases c2 : dv lt (p + 2) ≤ 8
      · refine ok_neg (show ¬ 8 < nI (dv lt (p + 2)) from fun q => absurd ((nI_ltI (a := 8) (by decide) (by omega)).mp q) (by omega)) ?_
        refine ok_some ⟨Or.inr ⟨_, by rw [ap0, if_pos ⟨c1, c2⟩], rfl, ⟨?_, ?_, ?_, ?_, fun j hj => ?_, fun j hj => ?_, fun j hj => ?_, fun j hj => ?_⟩⟩, hfr⟩
        · simp only [wI_at]; simp; exact h1
        · simp only [wI_at]; simp; exact h2
        · simp only [wI_at]; simp; rfl
        · simp only [wI_at]; simp; rfl
        · simp only [wI_at]; simp; exact h5 j hj
        · simp only [wI_at]; simp; exact h6 j hj
        · simp only [wI_at]; simp; exact h7 j hj
        · simp only [wI_at]; simp; exact h8 j hj
      · refine ok_pos (show 8 < nI (dv lt (p + 2)) from nI_lt (a := 8) (by omega) (by omega)) ?_
        exact ok_some ⟨Or.inl ⟨by rw [ap0, if_neg (fun q => c2 q.2)], rfl⟩, hfr⟩
    · refine ok_pos (show 4 ≤ nI (dv lt (p + 1)) from nI_le (a := 4) (by omega) (by omega)) ?_
      exact ok_some ⟨Or.inl ⟨by rw [ap0, if_neg (fun q => c1 q.1)], rfl⟩, hfr⟩
  · have hnd : nd (kl lt p) = 2 := by rw [e]; rfl
    have ap0 : ap lt p B = if dv lt (p + 1) < bn B ∧ dv lt (p + 2) < 8 then some (flB B (dv lt (p + 1)) (dv lt (p + 2))) else none := by unfold ap; rw [if_neg (by rw [e]; decide), if_neg (by rw [e]; decide), if_pos e]
    rw [a1 (by omega), a2 (by omega), e, hasNR h hw (by omega), markNR (by omega)]
    refine ok_neg (by decide) (ok_neg (by decide) (ok_pos rfl ?_))
    refine ok_ite (fun c => ?_) (fun c => ?_)
    · have c' := dec_b.mp c
      exact ok_some ⟨Or.inl ⟨by rw [ap0, if_neg (fun q => c' q.1)], rfl⟩, frB.rf⟩
    have c1 : dv lt (p + 1) < bn B := Classical.byContradiction (fun z => c (dec_b.mpr z))
    refine ok_ite (fun c => ?_) (fun c => ?_)
    · have c' := dec_b.mp c
      exact ok_some ⟨Or.inl ⟨by rw [ap0, if_neg (fun q => c' q.2)], rfl⟩, frB.rf⟩
    have c2 : dv lt (p + 2) < 8 := Classical.byContradiction (fun z => c (dec_b.mpr z))
    rw [ldI_n (by omega) (by decide), h7 _ c1, Option.bind_some, jshl_1 (by omega), fa_xor, stI_n (by omega) (by decide), Option.bind_some]
    refine ok_some ⟨Or.inr ⟨_, by rw [ap0, if_pos ⟨c1, c2⟩], rfl, ⟨?_, ?_, ?_, ?_, fun j hj => ?_, fun j hj => ?_, fun j hj => ?_, fun j hj => ?_⟩⟩, fun k hk => ?_, fun r h0 hr => ?_⟩
    · unfold flB; rw [stB_n]; simp only [wI_at]; simp; exact h1
    · simp only [wI_at]; simp; exact h2
    · simp only [wI_at]; simp; exact h3
    · simp only [wI_at]; simp; exact h4
    · unfold flB at hj ⊢; rw [stB_n] at hj; rw [(stB_kd c1 j).1]; simp only [wI_at]; simp
      by_cases c : j = dv lt (p + 1)
      · rw [if_pos c, c]; exact h5 _ c1
      · rw [if_neg c]; exact h5 j hj
    · unfold flB at hj ⊢; rw [stB_n] at hj; rw [(stB_kd c1 j).2.1]; simp only [wI_at]; simp
      by_cases c : j = dv lt (p + 1)
      · rw [if_pos c, c]; exact h6 _ c1
      · rw [if_neg c]; exact h6 j hj
    · unfold flB at hj ⊢; rw [stB_n] at hj; rw [(stB_kd c1 j).2.2]; simp only [wI_at]; simp
      by_cases c : j = dv lt (p + 1)
      · rw [if_pos c, if_pos c]
      · rw [if_neg c, if_neg c]; exact h7 j hj
    · simp only [wI_at]; simp; exact h8 j hj
    · rw [wI_other (by omega)]
    · rw [wI_other (by omega)]
  · have hnd : nd (kl lt p) = 1 := by rw [e]; rfl
    have ap0 : ap lt p B = if dv lt (p + 1) < bn B ∧ bpl B < 12 then some (B.1, B.2.1, B.2.2 ++ [dv lt (p + 1)]) else none := by unfold ap; rw [if_neg (by rw [e]; decide), if_neg (by rw [e]; decide), if_neg (by rw [e]; decide), if_pos e]
    rw [a1 (by omega), e, hasNR h hw (by omega), h2]
    refine ok_neg (by decide) (ok_neg (by decide) (ok_neg (by decide) (ok_pos rfl ?_)))
    refine ok_ite (fun c => ?_) (fun c => ?_)
    · have c' := dec_b.mp c
      exact ok_some ⟨Or.inl ⟨by rw [ap0, if_neg (fun q => c' q.1)], rfl⟩, frB.rf⟩
    have c1 : dv lt (p + 1) < bn B := Classical.byContradiction (fun z => c (dec_b.mpr z))
    by_cases c2 : bpl B < 12
    · refine ok_neg (show ¬ nI (bpl B) = 12 from fun q => absurd (nI_e (b := 12) (by omega) (by decide) q) (by omega)) ?_
      rw [stI_n (by omega) (by decide), Option.bind_some, wI_other (by decide), h2, nI_1]
      refine ok_some ⟨Or.inr ⟨_, by rw [ap0, if_pos ⟨c1, c2⟩], rfl, ⟨?_, ?_, ?_, ?_, fun j hj => ?_, fun j hj => ?_, fun j hj => ?_, fun j hj => ?_⟩⟩, fun k hk => ?_, fun r h0 hr => ?_⟩
      · simp only [wI_at]; simp; exact h1
      · rw [lg_n]; simp only [wI_at]; simp
      · simp only [wI_at]; simp; exact h3
      · simp only [wI_at]; simp; exact h4
      · simp only [wI_at]; simp; exact h5 j hj
      · simp only [wI_at]; simp; exact h6 j hj
      · simp only [wI_at]; simp; exact h7 j hj
      · rw [lg_n] at hj; rw [lg_at B _ hj]; simp only [wI_at]; simp
        by_cases c : j = bpl B
        · rw [if_pos c, if_pos c]
        · rw [if_neg c, if_neg c]; exact h8 j (by omega)
      · rw [wI_at, if_neg (by omega), wI_other (by omega)]
      · rw [wI_other (by omega), wI_other (by omega)]
    · have c8 : bpl B = 12 := by omega
      exact ok_pos (by rw [c8]; rfl) (ok_some ⟨Or.inl ⟨by rw [ap0, if_neg (fun q => c2 q.2)], rfl⟩, frB.rf⟩)
  · have ap0 : ap lt p B = some (wl B []) := by unfold ap; rw [if_neg (by rw [e]; decide), if_neg (by rw [e]; decide), if_neg (by rw [e]; decide), if_neg (by rw [e]; decide)]
    rw [e]
    refine ok_neg (by decide) (ok_neg (by decide) (ok_neg (by decide) (ok_neg (by decide) ?_)))
    refine ok_some ⟨Or.inr ⟨_, ap0, rfl, ⟨?_, ?_, ?_, ?_, fun j hj => ?_, fun j hj => ?_, fun j hj => ?_, fun j hj => ?_⟩⟩, fun k hk => ?_, fun r h0 hr => ?_⟩
    · rw [wI_at, if_neg (by omega)]; exact h1
    · rw [wI_at, if_pos ⟨rfl, rfl⟩]; rfl
    · rw [wI_at, if_neg (by omega)]; exact h3
    · rw [wI_at, if_neg (by omega)]; exact h4
    · rw [wI_other (by omega)]; exact h5 j hj
    · rw [wI_other (by omega)]; exact h6 j hj
    · rw [wI_other (by omega)]; exact h7 j hj
    · exact absurd hj (Nat.not_lt_zero j)
    · rw [wI_at, if_neg (by omega)]
    · rw [wI_other (by omega)]
