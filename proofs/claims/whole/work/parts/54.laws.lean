/-! reading, bestT, margin, fits: the board under other laws -/
def lwW (B : Bd) (w : Nat) : Bd := lw B (w / 9) (w % 9)
theorem lwW_wf {B : Bd} (hw : wfB B) {w : Nat} (h : w < 36) : wfB (lwW B w) := ⟨show w / 9 < 4 by omega, show w % 9 ≤ 8 by omega, hw.2.2⟩
theorem lwW_at (B : Bd) {ty te : Nat} (h : te < 9) : lwW B (9 * ty + te) = lw B ty te := by
  unfold lwW
  rw [show (9 * ty + te) / 9 = ty by omega, show (9 * ty + te) % 9 = te by omega]
def cdW (w : Nat) : Nat := 10 * (w / 9) + w % 9
theorem cdW_at {ty te : Nat} (h : te < 9) : cdW (9 * ty + te) = 10 * ty + te := by
  unfold cdW
  omega
theorem cdW_lt {w : Nat} (h : w < 36) : cdW w < 40 := by unfold cdW; omega
theorem codeOf_n {w : Nat} (h : w < 36) : f_X12_codeOf (nI w) = nI (cdW w) := by
  unfold f_X12_codeOf
  rw [l_9, l_10, nI_div (by omega) (by decide) (by decide), nI_rm (by omega) (by decide) (by decide), pk_mul, nI_add]
  rfl
def gRd (B : Bd) (w : Nat) : Nat := tot (lwW B w) B.2.2
theorem lw_tot_lt {B : Bd} (hw : wfB B) {ty te : Nat} (h1 : ty < 4) (h2 : te ≤ 8) : tot (lw B ty te) B.2.2 < 1000000 :=
  tot_small (B := lw B ty te) ⟨h1, h2, hw.2.2⟩ (by have := hw.2.2.2.1; unfold bpl at this; omega)
theorem gRd_lt {B : Bd} (hw : wfB B) {w : Nat} (h : w < 36) : gRd B w < 1000000 := lw_tot_lt hw (by omega) (by omega)
theorem amin_T {g : Nat → Nat} {T T' m : Nat} (h : ∀ x, x < m → g x < T) (h' : ∀ x, x < m → g x < T') : ∀ n, n ≤ m → amin g T n = amin g T' n := by
  intro n
  induction n with
  | zero => intro _; rfl
  | succ n ih =>
    intro hn
    rw [amin_s, amin_s, ih (by omega)]
    unfold ams
    cases amin g T' n with
    | none => simp only [if_pos (h n (by omega)), if_pos (h' n (by omega))]
    | some b => rfl
def o0 (f : Nat → Nat) (o : Option Nat) : Nat := match o with
  | none => 0
  | some b => f b
theorem oV_lt2 {g : Nat → Nat} {T m n : Nat} (hT : T < m) (hg : ∀ b, b < n → g b < m) : oV g T (amin g T n) < m :=
  oV_lt hT (fun b e => hg b (amin_lt e))
/-! the class goes through all laws -/
theorem mildC_in {B : Bd} {ty : Nat} (hw : wfB B) (hty : ty < 4) (v1 : Int32) (kont : Int32 → Int32 → Int32 → Int32 → Mem → Option (Int32 × Mem)) (Q : Int32 × Mem → Prop) :
    ∀ (k te fuel : Nat) (M : Mem), te + k = 9 → k < fuel → brdC 1 B M →
    (∀ M', brdC 1 B M' → fr [26, 27] M M' → ok (kont v1 (nI (o0 cdW (amin (gRd B) 2147483647 (9 * (ty + 1))))) (nI (oV (gRd B) 2147483647 (amin (gRd B) 2147483647 (9 * (ty + 1))))) (nI (ty + 1)) M') Q) →
    ok (f_X7_mildest_b17 kont fuel v1 (nI (o0 cdW (amin (gRd B) 2147483647 (9 * ty + te)))) (nI (oV (gRd B) 2147483647 (amin (gRd B) 2147483647 (9 * ty + te)))) (nI ty) (nI te) M) Q := by
  intro k
  induction k with
  | zero =>
    intro te fuel M hi hf hb hk
    obtain ⟨f, rfl⟩ : ∃ f, fuel = f + 1 := ⟨fuel - 1, by omega⟩
    obtain rfl : te = 9 := by omega
    unfold f_X7_mildest_b17
    rw [nI_1]
    exact ok_pos (by decide) (hk M hb fr.rf)
  | succ k ih =>
    intro te fuel M hi hf hb hk
    obtain ⟨f, rfl⟩ : ∃ f, fuel = f + 1 := ⟨fuel - 1, by omega⟩
    unfold f_X7_mildest_b17
    refine ok_neg (show ¬ 8 < nI te from fun q => absurd ((nI_ltI (a := 8) (by decide) (by omega)).mp q) (by omega)) ?_
    refine ok_bp (totalBy_ok hw hty (by omega) hb) (fun v M' ⟨q1, q2, q3⟩ => ?_)
    have hg := lw_tot_lt hw hty (te := te) (by omega)
    have hv : oV (gRd B) 2147483647 (amin (gRd B) 2147483647 (9 * ty + te)) < 2 ^ 31 := oV_lt2 (by decide) (fun b hb => by have := gRd_lt hw (w := b) (by omega); omega)
    have st := amin_step (gRd B) 2147483647 (9 * ty + te)
    have eg : gRd B (9 * ty + te) = tot (lw B ty te) B.2.2 := by unfold gRd; rw [lwW_at B (by omega)]
    have := ih (te + 1) f M' (by omega) (by omega) q2.1 (fun M2 z1 z2 => hk M2 z1 (q3.tr z2))
    rw [show 9 * ty + (te + 1) = 9 * ty + te + 1 by omega, st, eg] at this
    rw [q1, nI_1, l_10, pk_mul, nI_add]
    by_cases c : tot (lw B ty te) B.2.2 < oV (gRd B) 2147483647 (amin (gRd B) 2147483647 (9 * ty + te))
    · rw [if_pos c] at this
      refine ok_neg (nI_ge c hv) ?_
      rw [← cdW_at (ty := ty) (te := te) (by omega), ← eg]
      exact this
    · rw [if_neg c] at this
      exact ok_pos ((nI_leI hv (by omega)).mpr (by omega)) this
def rdA (B : Bd) (v1 : Int32) : Int32 := if v1 = 0 then nI (o0 cdW (amin (gRd B) 2147483647 36)) else nI (oV (gRd B) 2147483647 (amin (gRd B) 2147483647 36))
theorem mildC {B : Bd} (hw : wfB B) (v1 : Int32) : ∀ (k ty fuel : Nat) (M : Mem), ty + k = 4 → k < fuel → brdC 1 B M →
    ok2 (f_X7_mildest_b8 fuel v1 (nI (o0 cdW (amin (gRd B) 2147483647 (9 * ty)))) (nI (oV (gRd B) 2147483647 (amin (gRd B) 2147483647 (9 * ty)))) (nI ty) M) (fun x M' => x = rdA B v1 ∧ fr [26, 27] M M') := by
  intro k
  induction k with
  | zero =>
    intro ty fuel M hi hf hb
    obtain ⟨f, rfl⟩ : ∃ f, fuel = f + 1 := ⟨fuel - 1, by omega⟩
    obtain rfl : ty = 4 := by omega
    refine ok2_mk ?_
    unfold f_X7_mildest_b8 rdA
    refine ok_pos (by decide) ?_
    by_cases c : v1 = 0
    · rw [if_pos c, if_pos c]; exact ok_some ⟨rfl, fr.rf⟩
    · rw [if_neg c, if_neg c]; exact ok_some ⟨rfl, fr.rf⟩
  | succ k ih =>
    intro ty fuel M hi hf hb
    obtain ⟨f, rfl⟩ : ∃ f, fuel = f + 1 := ⟨fuel - 1, by omega⟩
    refine ok2_mk ?_
    unfold f_X7_mildest_b8
    refine ok_neg (show ¬ 4 ≤ nI ty from fun q => absurd ((nI_leI (a := 4) (by decide) (by omega)).mp q) (by omega)) ?_
    exact mildC_in hw (by omega) v1 (f_X7_mildest_b8 f) _ 9 0 FU M (by omega) (FU_big (by omega)) hb (fun M' h1 h2 => (ih (ty + 1) f M' (by omega) (by omega) h1).mono (fun x M2 z => ⟨z.1, h2.tr z.2⟩))
/-! the model lays one law after the other -/
theorem layR {B : Bd} {M M1 : Mem} {x y : Nat} {w : Nat} (hb : brdR (lw B x y) M1) (hm : mR M M1) (hw : w < 36) :
    ∃ M2, f_X12_lays (nI w) M1 = some M2 ∧ brdR (lwW B w) M2 ∧ mR M M2 ∧ M2.1 0 24 = M1.1 0 24 ∧ (∀ r, r ≠ 0 → M2.1 r = M1.1 r) := by
  refine ⟨wI (wI M1 0 7 (nI (w / 9))) 0 8 (nI (w % 9)), ?_, ?_, (hm.tr (mR.wI (Or.inl ⟨rfl, by decide, by decide, by decide, by decide⟩))).tr (mR.wI (Or.inl ⟨rfl, by decide, by decide, by decide, by decide⟩)), ?_, fun r hr => by rw [wI_other hr, wI_other hr]⟩
  · unfold f_X12_lays
    rw [l_9, nI_div (by omega) (by decide) (by decide), nI_rm (by omega) (by decide) (by decide)]
  · obtain ⟨h1, h2, h3, h4, h5, h6, h7, h8⟩ := hb
    refine ⟨?_, ?_, ?_, ?_, fun j hj => ?_, fun j hj => ?_, fun j hj => ?_, fun j hj => ?_⟩
    · simp only [wI_at]; simp; exact h1
    · simp only [wI_at]; simp; exact h2
    · simp only [wI_at]; simp; rfl
    · simp only [wI_at]; simp; rfl
    · simp only [wI_at]; simp; exact h5 j hj
    · simp only [wI_at]; simp; exact h6 j hj
    · simp only [wI_at]; simp; exact h7 j hj
    · simp only [wI_at]; simp; exact h8 j hj
  · simp only [wI_at]; simp
theorem rdR {B : Bd} {M M0 : Mem} (hw : wfB B) (ht : TH M0 M) (v1 : Int32) : ∀ (k i fuel x y : Nat) (M1 : Mem), i + k = 36 → k < fuel → brdR (lw B x y) M1 → mR M M1 →
    ok2 (f_X12_reading_b28 fuel v1 (nI (o0 id (amin (gRd B) 1000000 i))) (nI (oV (gRd B) 1000000 (amin (gRd B) 1000000 i))) (nI i) M1) (fun v M' => v = (if v1 = 0 then nI (cdW (o0 id (amin (gRd B) 1000000 36))) else nI (oV (gRd B) 1000000 (amin (gRd B) 1000000 36))) ∧ agR M0 M') := by
  intro k
  induction k with
  | zero =>
    intro i fuel x y M1 hi hf hb hm
    obtain ⟨f, rfl⟩ : ∃ f, fuel = f + 1 := ⟨fuel - 1, by omega⟩
    obtain rfl : i = 36 := by omega
    refine ok2_mk ?_
    unfold f_X12_reading_b28
    refine ok_pos (by decide) ?_
    refine ok_bind (forgets_ok ht hm) (fun M2 g => ?_)
    have hlt : o0 id (amin (gRd B) 1000000 36) < 36 := by
      cases e : amin (gRd B) 1000000 36 with
      | none => decide
      | some b => exact amin_lt e
    by_cases c : v1 = 0
    · rw [if_pos c, if_pos c, codeOf_n hlt]; exact ok_some ⟨rfl, g⟩
    · rw [if_neg c, if_neg c]; exact ok_some ⟨rfl, g⟩
  | succ k ih =>
    intro i fuel x y M1 hi hf hb hm
    obtain ⟨f, rfl⟩ : ∃ f, fuel = f + 1 := ⟨fuel - 1, by omega⟩
    refine ok2_mk ?_
    unfold f_X12_reading_b28
    refine ok_neg (show ¬ 36 ≤ nI i from fun q => absurd ((nI_leI (a := 36) (by decide) (by omega)).mp q) (by omega)) ?_
    obtain ⟨M2, e1, b1, m1, -, -⟩ := layR hb hm (w := i) (by omega)
    rw [e1, Option.bind_some, allR b1 (lwW_wf hw (by omega)), Option.bind_some, nI_1]
    have hg := gRd_lt hw (w := i) (by omega)
    have hv : oV (gRd B) 1000000 (amin (gRd B) 1000000 i) < 2 ^ 31 := oV_lt2 (by decide) (fun b hb => by have := gRd_lt hw (w := b) (by omega); omega)
    have st := amin_step (gRd B) 1000000 i
    have := ih (i + 1) f (i / 9) (i % 9) M2 (by omega) (by omega) b1 m1
    rw [st] at this
    show ok (if nI (gRd B i) < _ then _ else _) _
    by_cases c : gRd B i < oV (gRd B) 1000000 (amin (gRd B) 1000000 i)
    · rw [if_pos c] at this
      exact ok_pos ((nI_ltI (by omega) hv).mpr c) (this.mono (fun v M' z => z))
    · rw [if_neg c] at this
      exact ok_neg (fun q => c ((nI_ltI (by omega) hv).mp q)) (this.mono (fun v M' z => z))
theorem sim_reading {MC MR : Mem} (h : Inv MC MR) (a : Int32) : Sim (f_X11_reading a MC) (f_X12_reading a MR) := by
  obtain ⟨B, im, S, lt, rw', hw, hC, hR, hf⟩ := id h
  unfold f_X11_reading f_X12_reading
  simp only [bind_bp]
  have go : Sim (f_X7_mildest a MC) ((f_X12_thinks MR).bind fun M2 => f_X12_reading_b28 FU a 0 1000000 0 M2) := by
    have eT : amin (gRd B) 1000000 36 = amin (gRd B) 2147483647 36 := amin_T (m := 36) (fun x hx => gRd_lt hw.1 hx) (fun x hx => by have := gRd_lt hw.1 hx; omega) 36 (Nat.le_refl _)
    refine Sim.q h (rdA B a) (ok2.mono2 (mildC hw.1 a 4 0 FU MC (by omega) (FU_big (by omega)) hC.1) (fun x M' z => ⟨z.1, z.2.q (by decide)⟩)) (ok2_mk ?_)
    refine ok_bind thinks_ok (fun M2 ht => ?_)
    refine (rdR (M0 := MR) hw.1 ht a 36 0 FU B.1.1 B.1.2 M2 (by omega) (FU_big (by omega)) (TH.brd hw.1 hR.1 ht) mR.rf).mono (fun v M' z => ⟨?_, z.2⟩)
    rw [z.1, eT]
    unfold rdA
    cases e : amin (gRd B) 2147483647 36 with
    | none => exact absurd e (amin_ne (n := 35) (fun x hx => by have := gRd_lt hw.1 (w := x) (by omega); omega))
    | some b => rfl
  rcases either a with ⟨e1, e2⟩ | ⟨e1, e2, -⟩ | ⟨e1, e2, -⟩
  · rw [e1, e2, if_pos p00, if_pos p00]; exact Sim.no2 h
  · rw [e1, e2, if_neg n10, if_neg n10]; exact go
  · rw [e1, e2, if_neg n10, if_neg n10]; exact go
/-! bestT -/
def gT (B : Bd) (te : Nat) : Nat := tot (lw B B.1.1 te) B.2.2
theorem gT_lt {B : Bd} (hw : wfB B) {te : Nat} (h : te < 9) : gT B te < 1000000 := lw_tot_lt hw hw.1 (by omega)
theorem bTC {B : Bd} (hw : wfB B) : ∀ (k te fuel : Nat) (M : Mem), te + k = 9 → k < fuel → brdC 1 B M →
    ok2 (f_X7_mildestT_b7 fuel (nI (o0 id (amin (gT B) 2147483647 te))) (nI (oV (gT B) 2147483647 (amin (gT B) 2147483647 te))) (nI te) M) (fun x M' => x = nI (o0 id (amin (gT B) 2147483647 9)) ∧ fr [26, 27] M M') := by
  intro k
  induction k with
  | zero =>
    intro te fuel M hi hf hb
    obtain ⟨f, rfl⟩ : ∃ f, fuel = f + 1 := ⟨fuel - 1, by omega⟩
    obtain rfl : te = 9 := by omega
    refine ok2_mk ?_
    unfold f_X7_mildestT_b7
    exact ok_pos (by decide) (ok_some ⟨rfl, fr.rf⟩)
  | succ k ih =>
    intro te fuel M hi hf hb
    obtain ⟨f, rfl⟩ : ∃ f, fuel = f + 1 := ⟨fuel - 1, by omega⟩
    refine ok2_mk ?_
    unfold f_X7_mildestT_b7
    refine ok_neg (show ¬ 8 < nI te from fun q => absurd ((nI_ltI (a := 8) (by decide) (by omega)).mp q) (by omega)) ?_
    rw [hb.2.2.1]
    refine ok_bp (totalBy_ok hw hw.1 (by omega) hb) (fun v M' ⟨q1, q2, q3⟩ => ?_)
    have hg := gT_lt hw (te := te) (by omega)
    have hv : oV (gT B) 2147483647 (amin (gT B) 2147483647 te) < 2 ^ 31 := oV_lt2 (by decide) (fun b hb => by have := gT_lt hw (te := b) (by omega); omega)
    have st := amin_step (gT B) 2147483647 te
    have := ih (te + 1) f M' (by omega) (by omega) q2.1
    rw [st] at this
    rw [q1, nI_1]
    show ok (if _ ≤ nI (gT B te) then _ else _) _
    by_cases c : gT B te < oV (gT B) 2147483647 (amin (gT B) 2147483647 te)
    · rw [if_pos c] at this
      exact ok_neg (nI_ge c hv) (this.mono (fun x M2 z => ⟨z.1, q3.tr z.2⟩))
    · rw [if_neg c] at this
      exact ok_pos ((nI_leI hv (by omega)).mpr (by omega)) (this.mono (fun x M2 z => ⟨z.1, q3.tr z.2⟩))
theorem bTR {B : Bd} {M0 : Mem} (hw : wfB B) (hb0 : brdR B M0) : ∀ (k te fuel : Nat) (x : Int32), te + k = 9 → k < fuel →
    ok2 (f_X12_bestT_b13 fuel (nI B.1.2) (nI (o0 id (amin (gT B) 1000000 te))) (nI (oV (gT B) 1000000 (amin (gT B) 1000000 te))) (nI te) (wI M0 0 8 x)) (fun v M' => v = nI (o0 id (amin (gT B) 1000000 9)) ∧ agR M0 M') := by
  have ww : ∀ a b, wI (wI M0 0 8 a) 0 8 b = wI M0 0 8 b := fun a b => by
    unfold wI
    refine Prod.ext ?_ rfl
    funext r j
    simp only
    by_cases c : r = 0
    · rw [if_pos c, if_pos c]
      unfold upd
      by_cases c2 : j = 8
      · rw [if_pos c2, if_pos c2]
      · rw [if_neg c2, if_neg c2]
        simp
        intro z
        exact absurd z c2
    · rw [if_neg c, if_neg c, if_neg c]
  intro k
  induction k with
  | zero =>
    intro te fuel x hi hf
    obtain ⟨f, rfl⟩ : ∃ f, fuel = f + 1 := ⟨fuel - 1, by omega⟩
    obtain rfl : te = 9 := by omega
    refine ok2_mk ?_
    unfold f_X12_bestT_b13
    refine ok_pos (by decide) (ok_some ⟨rfl, ?_⟩)
    rw [ww]
    have e : ∀ r j, (wI M0 0 8 (nI B.1.2)).1 r j = M0.1 r j := fun r j => by
      rw [wI_at]
      by_cases c : r = 0 ∧ j = 8
      · rw [if_pos c, c.1, c.2]; exact hb0.2.2.2.1.symm
      · rw [if_neg c]
    exact ⟨fun i hi => by unfold bv; simp only [e], fun k hk => e 0 k, fun r hr => funext (e r), fun j hj => e 10 j⟩
  | succ k ih =>
    intro te fuel x hi hf
    obtain ⟨f, rfl⟩ : ∃ f, fuel = f + 1 := ⟨fuel - 1, by omega⟩
    refine ok2_mk ?_
    unfold f_X12_bestT_b13
    refine ok_neg (show ¬ 8 < nI te from fun q => absurd ((nI_ltI (a := 8) (by decide) (by omega)).mp q) (by omega)) ?_
    rw [ww, nI_1]
    have hb : brdR (lw B B.1.1 te) (wI M0 0 8 (nI te)) := by
      obtain ⟨h1, h2, h3, h4, h5, h6, h7, h8⟩ := hb0
      refine ⟨?_, ?_, ?_, ?_, fun j hj => ?_, fun j hj => ?_, fun j hj => ?_, fun j hj => ?_⟩
      · simp only [wI_at]; simp; exact h1
      · simp only [wI_at]; simp; exact h2
      · simp only [wI_at]; simp; exact h3
      · simp only [wI_at]; simp; rfl
      · simp only [wI_at]; simp; exact h5 j hj
      · simp only [wI_at]; simp; exact h6 j hj
      · simp only [wI_at]; simp; exact h7 j hj
      · simp only [wI_at]; simp; exact h8 j hj
    rw [allR hb ⟨hw.1, show te ≤ 8 by omega, hw.2.2⟩, Option.bind_some]
    have hg := gT_lt hw (te := te) (by omega)
    have hv : oV (gT B) 1000000 (amin (gT B) 1000000 te) < 2 ^ 31 := oV_lt2 (by decide) (fun b hb => by have := gT_lt hw (te := b) (by omega); omega)
    have st := amin_step (gT B) 1000000 te
    have := ih (te + 1) f (nI te) (by omega) (by omega)
    rw [st] at this
    show ok (if nI (gT B te) < _ then _ else _) _
    by_cases c : gT B te < oV (gT B) 1000000 (amin (gT B) 1000000 te)
    · rw [if_pos c] at this
      exact ok_pos ((nI_ltI (by omega) hv).mpr c) (this.mono (fun v M' z => z))
    · rw [if_neg c] at this
      exact ok_neg (fun q => c ((nI_ltI (by omega) hv).mp q)) (this.mono (fun v M' z => z))
theorem sim_bestT {MC MR : Mem} (h : Inv MC MR) : Sim (f_X11_bestT MC) (f_X12_bestT MR) := by
  obtain ⟨B, im, S, lt, rw', hw, hC, hR, hf⟩ := id h
  unfold f_X11_bestT f_X12_bestT
  rw [bind_bp, hR.1.2.2.2.1]
  have eT : amin (gT B) 1000000 9 = amin (gT B) 2147483647 9 := amin_T (m := 9) (fun x hx => gT_lt hw.1 hx) (fun x hx => by have := gT_lt hw.1 hx; omega) 9 (Nat.le_refl _)
  refine Sim.q h (nI (o0 id (amin (gT B) 2147483647 9))) (ok2.mono2 (bTC hw.1 9 0 FU MC (by omega) (FU_big (by omega)) hC.1) (fun x M' z => ⟨z.1, z.2.q (by decide)⟩)) ?_
  have e0 : wI MR 0 8 (MR.1 0 8) = MR := by
    unfold wI
    refine Prod.ext ?_ rfl
    funext r j
    simp only
    by_cases c : r = 0
    · rw [if_pos c, c]
      unfold upd
      by_cases c2 : j = 8
      · rw [if_pos c2, c2]
      · rw [if_neg c2]
    · rw [if_neg c]
  have := bTR hw.1 hR.1 9 0 FU (MR.1 0 8) (by omega) (FU_big (by omega))
  rw [e0, eT] at this
  exact this
/-! margin -/
def mgF (B : Bd) (d c m : Nat) : Nat → Nat → Nat → Nat
  | i, _, 0 => i
  | i, s, k + 1 => if s + due B d (c + i) ≤ m then mgF B d c m (i + 1) (s + due B d (c + i)) k else i
theorem mgC {B : Bd} {d m : Nat} (hw : wfB B) (hd : d < bn B) (hm : m ≤ 999) : ∀ (k i s fuel : Nat) (pre : List Nat) (M : Mem), i + k = 60 → k < fuel → s ≤ m → pre.length = bpl B + i → cnt B pre d = cnt B B.2.2 d + i → RK B B.1.1 B.1.2 pre M →
    ok2 (f_X6_timesMore_b12 fuel (nI d) (nI m) (nI s) (nI i) M) (fun x M' => x = nI (mgF B d (cnt B B.2.2 d) m i s k) ∧ fr [27] M M') := by
  have h12 := hw.2.2.2.1
  have hc := cnt_le B B.2.2 d
  have hl : B.2.2.length ≤ 12 := h12
  intro k
  induction k with
  | zero =>
    intro i s fuel pre M hi hf hs hp hcn h
    obtain ⟨f, rfl⟩ : ∃ f, fuel = f + 1 := ⟨fuel - 1, by omega⟩
    obtain rfl : i = 60 := by omega
    refine ok2_mk ?_
    unfold f_X6_timesMore_b12
    exact ok_pos (by decide) (ok_some ⟨rfl, fr.rf⟩)
  | succ k ih =>
    intro i s fuel pre M hi hf hs hp hcn h
    obtain ⟨f, rfl⟩ : ∃ f, fuel = f + 1 := ⟨fuel - 1, by omega⟩
    refine ok2_mk ?_
    unfold f_X6_timesMore_b12
    refine ok_neg (show ¬ 60 ≤ nI i from fun q => absurd ((nI_leI (a := 60) (by decide) (by omega)).mp q) (by omega)) ?_
    refine ok_bp (step_ok hw h hd (by omega)) (fun v M' ⟨q1, q2, q3⟩ => ?_)
    have q1 : v = nI (due B d (cnt B pre d)) := q1
    have hdu := due_le hw d (r := cnt B B.2.2 d + i)
    rw [q1, hcn, nI_add, nI_1]
    have st : mgF B d (cnt B B.2.2 d) m i s (k + 1) = if s + due B d (cnt B B.2.2 d + i) ≤ m then mgF B d (cnt B B.2.2 d) m (i + 1) (s + due B d (cnt B B.2.2 d + i)) k else i := rfl
    rw [st]
    by_cases c : s + due B d (cnt B B.2.2 d + i) ≤ m
    · rw [if_pos c]
      refine ok_pos (nI_le c (by omega)) ?_
      exact (ih (i + 1) _ f (pre ++ [d]) M' (by omega) (by omega) c (by simp; omega) (by rw [cnt_snoc, sm_self, hcn]; exact (Nat.add_assoc _ _ _)) q2).mono (fun x M2 z => ⟨z.1, q3.tr z.2⟩)
    · rw [if_neg c]
      exact ok_neg (fun q => c ((nI_leI (by omega) (by omega)).mp q)) (ok_some ⟨rfl, q3⟩)
theorem mgR {B : Bd} {M : Mem} {d m : Nat} (hw : wfB B) (hb : brdR B M) (hd : d < bn B) (hm : m ≤ 999) : ∀ (k i s fuel : Nat), i + k = 60 → k < fuel → s ≤ m →
    f_X12_margin_b48 fuel (nI d) (nI m) (nI (cnt B B.2.2 d)) (nI s) (nI i) M = some (nI (mgF B d (cnt B B.2.2 d) m i s k), M) := by
  have h12 := hw.2.2.2.1
  have hc := cnt_le B B.2.2 d
  have hl : B.2.2.length ≤ 12 := h12
  intro k
  induction k with
  | zero =>
    intro i s fuel hi hf hs
    obtain ⟨f, rfl⟩ : ∃ f, fuel = f + 1 := ⟨fuel - 1, by omega⟩
    obtain rfl : i = 60 := by omega
    unfold f_X12_margin_b48
    rw [if_pos (by decide)]
    rfl
  | succ k ih =>
    intro i s fuel hi hf hs
    obtain ⟨f, rfl⟩ : ∃ f, fuel = f + 1 := ⟨fuel - 1, by omega⟩
    have hdu := due_le hw d (r := cnt B B.2.2 d + i)
    unfold f_X12_margin_b48
    rw [if_neg (show ¬ 60 ≤ nI i from fun q => absurd ((nI_leI (a := 60) (by decide) (by omega)).mp q) (by omega)), nI_add, dueOfR hb hw hd (by omega), Option.bind_some, nI_add, nI_1]
    show _ = some (nI (if s + due B d (cnt B B.2.2 d + i) ≤ m then _ else _), M)
    by_cases c : s + due B d (cnt B B.2.2 d + i) ≤ m
    · rw [if_pos c, if_pos (nI_le c (by omega))]
      exact ih (i + 1) _ f (by omega) (by omega) c
    · rw [if_neg c, if_neg (fun q => c ((nI_leI (by omega) (by omega)).mp q))]
theorem sim_margin {MC MR : Mem} (h : Inv MC MR) (a b : Int32) : Sim (f_X11_margin a b MC) (f_X12_margin a b MR) := by
  obtain ⟨B, im, S, lt, rw', hw, hC, hR, hf⟩ := id h
  unfold f_X11_margin f_X12_margin f_X12_margin_b20
  simp only [bind_bp]
  rcases knows hC.1 hR.1 hw.1 a with ⟨e1, e2⟩ | ⟨e1, e2, d, hd, rfl⟩
  · rw [e1, e2, if_pos p00, if_pos p00, if_neg (show ¬ (-1 : Int32) = 0 by decide)]; exact Sim.no1 h
  rw [e1, e2, if_neg n10, if_neg n10]
  rcases boundR b 999 (by decide) with ⟨h0, e⟩ | ⟨m, hm', hm, rfl, e⟩ | ⟨m, hm, rfl, e⟩
  · rw [show f_X12_bound b 0 999 = -4 from e, if_neg (show ¬ 0 ≤ b from i_neg_nle h0 (n := 0) (by decide)), if_neg (show ¬ (-4 : Int32) = 0 by decide)]; exact Sim.no4 h
  · rw [show f_X12_bound (nI m) 0 999 = -6 from e, if_pos (nI_pos' hm'), if_neg (show ¬ nI m ≤ 999 from nI_ge (a := 999) hm hm'), if_neg (show ¬ (-6 : Int32) = 0 by decide)]; exact Sim.no6 h
  rw [show f_X12_bound (nI m) 0 999 = 0 from e, if_pos (nI_pos' (by omega)), if_pos (show nI m ≤ 999 from nI_le (b := 999) hm (by decide)), if_pos p00, hR.1.2.1, repeatsR hR.1 hw.1 hd (Nat.le_refl _), Option.bind_some, show B.2.2.take (bpl B) = B.2.2 from List.take_length]
  refine Sim.q h (nI (mgF B d (cnt B B.2.2 d) m 0 0 60)) (ok2_mk ?_) ⟨_, _, mgR hw.1 hR.1 hd hm 60 0 0 FU (by omega) (FU_big (by omega)) (Nat.zero_le _), rfl, agR.rf⟩
  unfold f_X6_timesMore
  refine ok_bind (behind_ok hw.1 hC.1) (fun M1 ⟨h1, f1⟩ => ?_)
  exact (mgC hw.1 hd hm 60 0 0 FU B.2.2 M1 (by omega) (FU_big (by omega)) (Nat.zero_le _) rfl rfl h1).mono (fun x M' z => ⟨z.1, (f1.q (by decide)).tr (z.2.q (by decide))⟩)
