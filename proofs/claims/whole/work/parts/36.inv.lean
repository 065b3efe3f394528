/-! what ties the two stores, and what keeps it -/
/-- a board in a row of 40 -/
def brdV (f : Nat → Int32) (B : Bd) : Prop := f 36 = nI (bn B) ∧ f 37 = nI (bpl B) ∧ f 38 = nI B.1.1 ∧ f 39 = nI B.1.2 ∧ (∀ j, j < bn B → f j = nI (kd B j)) ∧ (∀ j, j < bn B → f (8 + j) = nI (fg B j)) ∧ (∀ j, j < bn B → f (16 + j) = nI (mk B j)) ∧ (∀ j, j < bpl B → f (24 + j) = nI (lgA B j))
theorem brdV_R {B : Bd} {M : Mem} (hw : wfB B) : brdV (bv M) B ↔ brdR B M := by
  have hn := hw.2.2.1
  have h12 := hw.2.2.2.1
  have e0 : ∀ k, k < 4 → bv M (36 + k) = M.1 0 (5 + k) := fun k hk => by
    unfold bv
    rw [if_neg (by omega), if_neg (by omega), if_neg (by omega), if_neg (by omega), show 36 + k - 31 = 5 + k by omega]
  have e2 : ∀ j, j < 8 → bv M j = M.1 2 j := fun j hj => by unfold bv; rw [if_pos hj]
  have e3 : ∀ j, j < 8 → bv M (8 + j) = M.1 3 j := fun j hj => by
    unfold bv
    rw [if_neg (by omega), if_pos (by omega), show 8 + j - 8 = j by omega]
  have e4 : ∀ j, j < 8 → bv M (16 + j) = M.1 4 j := fun j hj => by
    unfold bv
    rw [if_neg (by omega), if_neg (by omega), if_pos (by omega), show 16 + j - 16 = j by omega]
  have e5 : ∀ j, j < 12 → bv M (24 + j) = M.1 5 j := fun j hj => by
    unfold bv
    rw [if_neg (by omega), if_neg (by omega), if_neg (by omega), if_pos (by omega), show 24 + j - 24 = j by omega]
  unfold brdV brdR
  constructor
  · rintro ⟨h0, h1, h2, h3, h4, h5, h6, h7⟩
    exact ⟨(e0 0 (by omega)).symm.trans h0, (e0 1 (by omega)).symm.trans h1, (e0 2 (by omega)).symm.trans h2, (e0 3 (by omega)).symm.trans h3, fun j hj => (e2 j (by omega)).symm.trans (h4 j hj), fun j hj => (e3 j (by omega)).symm.trans (h5 j hj), fun j hj => (e4 j (by omega)).symm.trans (h6 j hj), fun j hj => (e5 j (by omega)).symm.trans (h7 j hj)⟩
  · rintro ⟨h0, h1, h2, h3, h4, h5, h6, h7⟩
    exact ⟨(e0 0 (by omega)).trans h0, (e0 1 (by omega)).trans h1, (e0 2 (by omega)).trans h2, (e0 3 (by omega)).trans h3, fun j hj => (e2 j (by omega)).trans (h4 j hj), fun j hj => (e3 j (by omega)).trans (h5 j hj), fun j hj => (e4 j (by omega)).trans (h6 j hj), fun j hj => (e5 j (by omega)).trans (h7 j hj)⟩
theorem brdV_cong {f g : Nat → Int32} {B : Bd} (hw : wfB B) (h : brdV f B) (e : ∀ i, i < 40 → g i = f i) : brdV g B := by
  have hn := hw.2.2.1
  have h12 := hw.2.2.2.1
  obtain ⟨h0, h1, h2, h3, h4, h5, h6, h7⟩ := h
  exact ⟨(e _ (by omega)).trans h0, (e _ (by omega)).trans h1, (e _ (by omega)).trans h2, (e _ (by omega)).trans h3, fun j hj => (e _ (by omega)).trans (h4 j hj), fun j hj => (e _ (by omega)).trans (h5 j hj), fun j hj => (e _ (by omega)).trans (h6 j hj), fun j hj => (e _ (by omega)).trans (h7 j hj)⟩
/-- a deed taken back -/
def uB (e d f s : Nat) (B : Bd) : Bd := if e = 0 then (B.1, B.2.1, B.2.2.dropLast) else if e = 1 then (B.1, B.2.1.set d (f, s, mk B d), B.2.2) else if e = 2 then (B.1, B.2.1.set d (kd B d, fg B d, mk B d ^^^ 2 ^ f), B.2.2) else ((f, s), B.2)
/-- the board behind the k-th deed -/
def nxB (S : List Bd) (B : Bd) (k : Nat) : Bd := (S ++ [B]).getD (k + 1) B
def TBk (M : Mem) (S : List Bd) (B : Bd) (k : Nat) : Prop := ∃ e d f s : Nat, M.1 12 k = nI e ∧ M.1 13 k = nI d ∧ M.1 14 k = nI f ∧ M.1 15 k = nI s ∧ e < 4 ∧ ((e = 1 ∨ e = 2) → d < bn (nxB S B k)) ∧ (e = 2 → f < 8) ∧ uB e d f s (nxB S B k) = S.getD k B
/-- the rest of the class's store: image, what can be taken back, letters, row -/
def RC (B : Bd) (im : Option Bd) (S : List Bd) (lt rw : List Nat) (M : Mem) : Prop :=
  brdC 1 B M ∧ M.1 0 2 = bI im.isSome ∧ (∀ I, im = some I → brdC 6 I M) ∧ M.1 11 4 = nI S.length ∧ (∀ k, k < S.length → TBk M S B k) ∧ M.1 16 2 = nI lt.length ∧ (∀ j, j < lt.length → M.1 17 j = nI (lt.getD j 0)) ∧ M.1 23 1 = nI rw.length ∧ (∀ j, j < rw.length → M.1 24 j = nI (rw.getD j 0))
def RR (B : Bd) (im : Option Bd) (S : List Bd) (lt rw : List Nat) (M : Mem) : Prop :=
  brdR B M ∧ M.1 0 17 = bI im.isSome ∧ (∀ I, im = some I → brdV (fun i => M.1 10 i) I) ∧ M.1 0 20 = nI S.length ∧ (∀ k, k < S.length → brdV (fun i => M.1 10 (120 + 40 * k + i)) (S.getD k B)) ∧ M.1 0 13 = nI lt.length ∧ (∀ j, j < lt.length → M.1 6 j = nI (lt.getD j 0)) ∧ M.1 0 24 = nI rw.length ∧ (∀ j, j < rw.length → M.1 13 j = nI (rw.getD j 0))
def wfS (B : Bd) (im : Option Bd) (S : List Bd) (lt rw : List Nat) : Prop :=
  wfB B ∧ (∀ I, im = some I → wfB I) ∧ S.length ≤ 8 ∧ (∀ I ∈ S, wfB I) ∧ lt.length ≤ 96 ∧ (∀ x ∈ lt, x < 256) ∧ rw.length ≤ 12 ∧ (∀ x ∈ rw, x < 100)
def Inv (MC MR : Mem) : Prop := ∃ (B : Bd) (im : Option Bd) (S : List Bd) (lt rw : List Nat), wfS B im S lt rw ∧ RC B im S lt rw MC ∧ RR B im S lt rw MR ∧ ∀ k, k < 7 → MC.1 43 k = MR.1 1 k
/-- calls that only look -/
def frQ (M M' : Mem) : Prop := ∀ r, (r < 18 ∨ (22 < r ∧ r < 25) ∨ 42 < r) → M'.1 r = M.1 r
theorem frQ.rf {M : Mem} : frQ M M := fun _ _ => rfl
theorem frQ.tr {M M' M'' : Mem} (h : frQ M M') (g : frQ M' M'') : frQ M M'' := fun r hr => (g r hr).trans (h r hr)
theorem fr.q {rs : List Nat} {M M' : Mem} (h : fr rs M M') (hs : ∀ r ∈ rs, 25 ≤ r ∧ r ≤ 42) : frQ M M' := fun r hr => h r (fun q => by have := hs r q; omega)
theorem RC.keep {B : Bd} {im : Option Bd} {S : List Bd} {lt rw : List Nat} {M M' : Mem} (h : RC B im S lt rw M) (e : frQ M M') : RC B im S lt rw M' := by
  obtain ⟨h1, h2, h3, h4, h5, h6, h7, h8, h9⟩ := h
  refine ⟨h1.cong fun r a b => e r (by omega), ?_, fun I hI => (h3 I hI).cong fun r a b => e r (by omega), ?_, fun k hk => ?_, ?_, fun j hj => ?_, ?_, fun j hj => ?_⟩
  · rw [e 0 (by omega)]; exact h2
  · rw [e 11 (by omega)]; exact h4
  · unfold TBk
    rw [e 12 (by omega), e 13 (by omega), e 14 (by omega), e 15 (by omega)]
    exact h5 k hk
  · rw [e 16 (by omega)]; exact h6
  · rw [e 17 (by omega)]; exact h7 j hj
  · rw [e 23 (by omega)]; exact h8
  · rw [e 24 (by omega)]; exact h9 j hj
theorem RR.keep {B : Bd} {im : Option Bd} {S : List Bd} {lt rw : List Nat} {M M' : Mem} (hw : wfS B im S lt rw) (h : RR B im S lt rw M) (e : agR M M') : RR B im S lt rw M' := by
  obtain ⟨e1, e2, e3, e4⟩ := e
  obtain ⟨h1, h2, h3, h4, h5, h6, h7, h8, h9⟩ := h
  refine ⟨brdR_bv hw.1 h1 e1, ?_, fun I hI => ?_, ?_, fun k hk => ?_, ?_, fun j hj => ?_, ?_, fun j hj => ?_⟩
  · rw [e2 17 (by omega)]; exact h2
  · exact brdV_cong (hw.2.1 I hI) (h3 I hI) (fun i hi => e4 i (by omega))
  · rw [e2 20 (by omega)]; exact h4
  · refine brdV_cong (hw.2.2.2.1 _ ?_) (h5 k hk) (fun i hi => e4 _ (by omega))
    rw [List.getD_eq_getElem?_getD, List.getElem?_eq_getElem hk]
    exact List.getElem_mem hk
  · rw [e2 13 (by omega)]; exact h6
  · rw [e3 6 (by omega)]; exact h7 j hj
  · rw [e2 24 (by omega)]; exact h8
  · rw [e3 13 (by omega)]; exact h9 j hj
theorem Inv.keep {MC MR MC' MR' : Mem} (h : Inv MC MR) (ec : frQ MC MC') (er : agR MR MR') : Inv MC' MR' := by
  obtain ⟨B, im, S, lt, rw, hw, hC, hR, hf⟩ := h
  refine ⟨B, im, S, lt, rw, hw, hC.keep ec, RR.keep hw hR er, fun k hk => ?_⟩
  rw [ec 43 (by omega), er.2.2.1 1 (by omega)]
  exact hf k hk
/-- a call on both: the same answer, and what ties them stays -/
def Sim {α : Type} (oc or : Option (α × Mem)) : Prop := ∃ (v : α) (MC' MR' : Mem), oc = some (v, MC') ∧ or = some (v, MR') ∧ Inv MC' MR'
theorem bind_bp {α : Type} (o : Option (α × Mem)) : (o.bind fun p => bp p fun t M => some (t, M)) = o := by cases o <;> rfl
theorem bind_id {α : Type} (o : Option α) : (o.bind fun t => some t) = o := by cases o <;> rfl
/-- a refused call -/
theorem RC.no {B : Bd} {im : Option Bd} {S : List Bd} {lt rw : List Nat} {M : Mem} {k : Nat} {v : Int32} (h : RC B im S lt rw M) : RC B im S lt rw (wI M 43 k v) := by
  have e : ∀ r, r ≠ 43 → (wI M 43 k v).1 r = M.1 r := fun r hr => wI_other hr
  obtain ⟨h1, h2, h3, h4, h5, h6, h7, h8, h9⟩ := h
  refine ⟨h1.cong fun r a b => e r (by omega), ?_, fun I hI => (h3 I hI).cong fun r a b => e r (by omega), ?_, fun k hk => ?_, ?_, fun j hj => ?_, ?_, fun j hj => ?_⟩
  · rw [e 0 (by omega)]; exact h2
  · rw [e 11 (by omega)]; exact h4
  · unfold TBk
    rw [e 12 (by omega), e 13 (by omega), e 14 (by omega), e 15 (by omega)]
    exact h5 k hk
  · rw [e 16 (by omega)]; exact h6
  · rw [e 17 (by omega)]; exact h7 j hj
  · rw [e 23 (by omega)]; exact h8
  · rw [e 24 (by omega)]; exact h9 j hj
theorem RR.no {B : Bd} {im : Option Bd} {S : List Bd} {lt rw : List Nat} {M : Mem} {k : Nat} {v : Int32} (h : RR B im S lt rw M) : RR B im S lt rw (wI M 1 k v) := by
  have e : ∀ r, r ≠ 1 → (wI M 1 k v).1 r = M.1 r := fun r hr => wI_other hr
  unfold RR brdR at *
  rw [e 0 (by decide), e 2 (by decide), e 3 (by decide), e 4 (by decide), e 5 (by decide), e 6 (by decide), e 10 (by decide), e 13 (by decide)]
  exact h
theorem refuseC {M : Mem} {k : Nat} (hk : k < 7) (v : Int32) (hv : -v = nI k) : f_X11_refuse v M = some (v, wI M 43 k (M.1 43 k + 1)) := by
  unfold f_X11_refuse
  rw [hv, if_neg (nI_pos (by omega)), if_neg (nI_ge (by omega) (by decide)), ldI_n hk (by decide), Option.bind_some, stI_n hk (by decide), Option.bind_some]
theorem noR {M : Mem} {k : Nat} (hk : k < 7) (v : Int32) (hv : -v = nI k) : f_X12_no v M = some (v, wI M 1 k (M.1 1 k + 1)) := by
  unfold f_X12_no
  rw [hv, ldI_n hk (by decide), Option.bind_some, stI_n hk (by decide), Option.bind_some]
theorem Inv.no {MC MR : Mem} {k : Nat} (h : Inv MC MR) (hk : k < 7) : Inv (wI MC 43 k (MC.1 43 k + 1)) (wI MR 1 k (MR.1 1 k + 1)) := by
  obtain ⟨B, im, S, lt, rw, hw, hC, hR, hf⟩ := h
  refine ⟨B, im, S, lt, rw, hw, hC.no, hR.no, fun j hj => ?_⟩
  rw [wI_at, wI_at, hf j hj, hf k hk]
  simp
theorem Sim.no {MC MR : Mem} (h : Inv MC MR) (k : Nat) (hk : k < 7) (v : Int32) (hv : -v = nI k) : Sim (f_X11_refuse v MC) (f_X12_no v MR) :=
  ⟨v, _, _, refuseC hk v hv, noR hk v hv, h.no hk⟩
theorem Sim.no1 {MC MR : Mem} (h : Inv MC MR) : Sim (f_X11_refuse (-1) MC) (f_X12_no (-1) MR) := Sim.no h 1 (by decide) _ (by decide)
theorem Sim.no2 {MC MR : Mem} (h : Inv MC MR) : Sim (f_X11_refuse (-2) MC) (f_X12_no (-2) MR) := Sim.no h 2 (by decide) _ (by decide)
theorem Sim.no3 {MC MR : Mem} (h : Inv MC MR) : Sim (f_X11_refuse (-3) MC) (f_X12_no (-3) MR) := Sim.no h 3 (by decide) _ (by decide)
theorem Sim.no4 {MC MR : Mem} (h : Inv MC MR) : Sim (f_X11_refuse (-4) MC) (f_X12_no (-4) MR) := Sim.no h 4 (by decide) _ (by decide)
theorem Sim.no6 {MC MR : Mem} (h : Inv MC MR) : Sim (f_X11_refuse (-6) MC) (f_X12_no (-6) MR) := Sim.no h 6 (by decide) _ (by decide)
theorem Sim.noL {MC MR : Mem} (h : Inv MC MR) (k : Nat) (hk : k < 7) (v : Int32) (hv : -v = nI k) : Sim (f_X11_refuseLong v MC) (f_X12_lowest v MR) := by
  refine ⟨(4000000000000000000 : Int64) - v.toInt64, _, _, ?_, ?_, h.no hk⟩
  · unfold f_X11_refuseLong
    rw [refuseC hk v hv]
    rfl
  · unfold f_X12_lowest
    rw [hv, ldI_n hk (by decide), Option.bind_some, stI_n hk (by decide), Option.bind_some]
/-- a call that only looks: both answer v -/
theorem Sim.q {α : Type} {MC MR : Mem} {oc or : Option (α × Mem)} (h : Inv MC MR) (v : α) (hc : ok2 oc (fun x M' => x = v ∧ frQ MC M')) (hr : ok2 or (fun x M' => x = v ∧ agR MR M')) : Sim oc or := by
  obtain ⟨a, M1, e1, rfl, f1⟩ := hc
  obtain ⟨b, M2, e2, rfl, f2⟩ := hr
  exact ⟨b, M1, M2, e1, e2, h.keep f1 f2⟩
theorem hasDoingC {B : Bd} {M : Mem} (hb : brdC 1 B M) (hw : wfB B) (v : Int32) : (f_X0_hasDoing 1 v M = 0 ∧ (v < 0 ∨ ∃ d, d < 2 ^ 31 ∧ bn B ≤ d ∧ v = nI d)) ∨ (f_X0_hasDoing 1 v M = 1 ∧ ∃ d, d < bn B ∧ v = nI d) := by
  have hn := hw.2.2.1
  unfold f_X0_hasDoing
  rw [hb.1]
  rcases i_cases v with h | ⟨d, h, rfl⟩
  · rw [if_pos h]; exact Or.inl ⟨rfl, Or.inl h⟩
  · rw [if_neg (nI_pos h)]
    by_cases c : bn B ≤ d
    · rw [if_pos ((nI_leI (by omega) h).mpr c)]; exact Or.inl ⟨rfl, Or.inr ⟨d, h, c, rfl⟩⟩
    · rw [if_neg (fun q => c ((nI_leI (by omega) h).mp q))]; exact Or.inr ⟨rfl, d, by omega, rfl⟩
/-- both know the same doings -/
theorem knows {B : Bd} {MC MR : Mem} (hc : brdC 1 B MC) (hr : brdR B MR) (hw : wfB B) (v : Int32) : (f_X0_hasDoing 1 v MC = 0 ∧ f_X12_isDoing v MR = 0) ∨ (f_X0_hasDoing 1 v MC = 1 ∧ f_X12_isDoing v MR = 1 ∧ ∃ d, d < bn B ∧ v = nI d) := by
  have e : f_X12_isDoing v MR = f_X0_hasDoing 1 v MC := by unfold f_X12_isDoing f_X0_hasDoing; rw [hc.1, hr.1]
  rw [e]
  rcases hasDoingC hc hw v with h | h
  · exact Or.inl ⟨h.1, h.1⟩
  · exact Or.inr ⟨h.1, h.1, h.2⟩
theorem knowsP {B : Bd} {MC MR : Mem} (hc : brdC 1 B MC) (hr : brdR B MR) (hw : wfB B) (v : Int32) : (f_X0_hasPlace 1 v MC = 0 ∧ f_X12_isPlace v MR = 0) ∨ (f_X0_hasPlace 1 v MC = 1 ∧ f_X12_isPlace v MR = 1 ∧ ∃ d, d < bpl B ∧ v = nI d) := by
  have h12 := hw.2.2.2.1
  have e : f_X12_isPlace v MR = f_X0_hasPlace 1 v MC := by unfold f_X12_isPlace f_X0_hasPlace; rw [hc.2.1, hr.2.1]
  rw [e]
  unfold f_X0_hasPlace
  rw [hc.2.1]
  rcases i_cases v with h | ⟨d, h, rfl⟩
  · rw [if_pos h]; exact Or.inl ⟨rfl, rfl⟩
  · rw [if_neg (nI_pos h)]
    by_cases c : bpl B ≤ d
    · rw [if_pos ((nI_leI (by omega) h).mpr c)]; exact Or.inl ⟨rfl, rfl⟩
    · rw [if_neg (fun q => c ((nI_leI (by omega) h).mp q))]; exact Or.inr ⟨rfl, rfl, d, by omega, rfl⟩
/-- what is 0 or 1 -/
theorem either (v : Int32) : (f_X11_isEither v = 0 ∧ f_X12_isIn v 0 1 = 0) ∨ (f_X11_isEither v = 1 ∧ f_X12_isIn v 0 1 = 1 ∧ v = 0) ∨ (f_X11_isEither v = 1 ∧ f_X12_isIn v 0 1 = 1 ∧ v = 1) := by
  unfold f_X11_isEither f_X12_isIn
  rcases i_cases v with h | ⟨d, h, rfl⟩
  · left
    rw [if_neg (show ¬ v = 0 from i_neg_ne h (n := 0) (by decide)), if_neg (show ¬ v = 1 from i_neg_ne h (n := 1) (by decide)), if_pos h]
    exact ⟨rfl, rfl⟩
  · by_cases c0 : d = 0
    · subst c0; right; left; exact ⟨by decide, by decide, rfl⟩
    · by_cases c1 : d = 1
      · subst c1; right; right; exact ⟨by decide, by decide, rfl⟩
      · left
        rw [if_neg (show ¬ nI d = 0 from fun q => c0 (nI_e (b := 0) h (by decide) q)), if_neg (show ¬ nI d = 1 from fun q => c1 (nI_e (b := 1) h (by decide) q)), if_neg (show ¬ nI d < 0 from nI_pos h), if_pos (show 1 < nI d from (nI_ltI (a := 1) (by decide) h).mpr (by omega))]
        exact ⟨rfl, rfl⟩
/-- a number within bounds -/
theorem boundR (v : Int32) (m : Nat) (hm : m < 2 ^ 31) : (v < 0 ∧ f_X12_bound v 0 (nI m) = -4) ∨ (∃ d, d < 2 ^ 31 ∧ m < d ∧ v = nI d ∧ f_X12_bound v 0 (nI m) = -6) ∨ (∃ d, d ≤ m ∧ v = nI d ∧ f_X12_bound v 0 (nI m) = 0) := by
  unfold f_X12_bound
  rcases i_cases v with h | ⟨d, h, rfl⟩
  · left
    rw [if_neg (show ¬ 0 ≤ v from i_neg_nle h (n := 0) (by decide))]
    exact ⟨h, rfl⟩
  · right
    rw [if_pos (nI_pos' h)]
    by_cases c : d ≤ m
    · right; rw [if_pos (nI_le c hm)]; exact ⟨d, c, rfl, rfl⟩
    · left; rw [if_neg (fun q => c ((nI_leI h hm).mp q))]; exact ⟨d, h, by omega, rfl, rfl⟩
