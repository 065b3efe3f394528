/-! loophole, wants -/
def flB (B : Bd) (d m : Nat) : Bd := stB B d (kd B d, fg B d, mk B d ^^^ 2 ^ m)
theorem flB_wf {B : Bd} (hw : wfB B) {d m : Nat} (hd : d < bn B) (hm : m < 8) : wfB (flB B d m) := by
  obtain ⟨kw, fw, mw⟩ := hw.2.2.2.2.1 d
  exact stB_wf hw hd kw fw (xor_8 mw hm)
theorem flipC {B : Bd} {M : Mem} {d m : Nat} (hw : wfB B) (hb : brdC 1 B M) (hd : d < bn B) (hm : m < 8) : f_X0_flipMark 1 (nI d) (nI m) M = some (wI M 4 d (nI (mk B d ^^^ 2 ^ m))) ∧ brdC 1 (flB B d m) (wI M 4 d (nI (mk B d ^^^ 2 ^ m))) := by
  have hn := hw.2.2.1
  obtain ⟨h1, h2, h3, h4, h5, h6, h7, h8⟩ := id hb
  refine ⟨?_, ?_, ?_, ?_, ?_, fun j hj => ?_, fun j hj => ?_, fun j hj => ?_, fun j hj => ?_⟩
  · unfold f_X0_flipMark
    rw [ldMkC hb hw hd, Option.bind_some, jshl_1 (by omega), fa_xor, stI_n (by omega) (by decide), Option.bind_some]
  · unfold flB; rw [stB_n]; simp only [wI_at]; simp; exact h1
  · simp only [wI_at]; simp; exact h2
  · simp only [wI_at]; simp; exact h3
  · simp only [wI_at]; simp; exact h4
  · unfold flB at hj ⊢; rw [stB_n] at hj; rw [(stB_kd hd j).1]; simp only [wI_at]; simp
    by_cases c : j = d
    · rw [if_pos c, c]; exact h5 d hd
    · rw [if_neg c]; exact h5 j hj
  · unfold flB at hj ⊢; rw [stB_n] at hj; rw [(stB_kd hd j).2.1]; simp only [wI_at]; simp
    by_cases c : j = d
    · rw [if_pos c, c]; exact h6 d hd
    · rw [if_neg c]; exact h6 j hj
  · unfold flB at hj ⊢; rw [stB_n] at hj; rw [(stB_kd hd j).2.2]; simp only [wI_at]; simp
    by_cases c : j = d
    · rw [if_pos c, if_pos c]
    · rw [if_neg c, if_neg c]; exact h7 j hj
  · simp only [wI_at]; simp; exact h8 j hj
def gLo (B : Bd) (w : Nat) : Nat := tot (flB B (w / 8) (w % 8)) B.2.2
def cdL (w : Nat) : Nat := 10 * (w / 8) + w % 8
def oC (f : Nat → Nat) (o : Option Nat) : Int32 := match o with
  | none => -9
  | some w => nI (f w)
theorem gLo_at {B : Bd} {d m : Nat} (hm : m < 8) : gLo B (8 * d + m) = tot (flB B d m) B.2.2 := by
  unfold gLo
  rw [show (8 * d + m) / 8 = d by omega, show (8 * d + m) % 8 = m by omega]
theorem gLo_lt {B : Bd} (hw : wfB B) {d m : Nat} (hd : d < bn B) (hm : m < 8) : tot (flB B d m) B.2.2 < 1000000 :=
  tot_small (flB_wf hw hd hm) (by have := hw.2.2.2.1; unfold bpl at this; omega)
theorem gLo_lt2 {B : Bd} (hw : wfB B) {w : Nat} (h : w < 8 * bn B) : gLo B w < 1000000 := gLo_lt hw (by omega) (by omega)
theorem flipT {B : Bd} {M : Mem} {d m : Nat} (hw : wfB B) (hb : brdC 1 B M) (hd : d < bn B) (hm : m < 8) : ok2 (f_X5_totalFlipped (nI d) (nI m) M) (fun v M' => v = nI (tot (flB B d m) B.2.2) ∧ brdC 1 B M' ∧ fr [26, 27] M M') := by
  obtain ⟨e1, b1⟩ := flipC hw hb hd hm
  refine ok2_mk ?_
  unfold f_X5_totalFlipped
  rw [e1, Option.bind_some]
  refine ok_bp (total_ok (flB_wf hw hd hm) b1) (fun v M2 ⟨q1, q2, q3⟩ => ?_)
  have hd2 : d < bn (flB B d m) := by unfold flB; rw [stB_n]; exact hd
  obtain ⟨e2, -⟩ := flipC (flB_wf hw hd hm) q2.1 hd2 hm
  have em : mk (flB B d m) d ^^^ 2 ^ m = mk B d := by
    unfold flB
    rw [(stB_kd hd d).2.2, if_pos rfl, xor_back]
  rw [e2, Option.bind_some, em]
  have hfr : fr [26, 27] M (wI M2 4 d (nI (mk B d))) := by
    intro r hr
    by_cases c : r = 4
    · subst c
      funext j
      rw [wI_at, q3 4 (by decide), wI_at]
      by_cases c2 : j = d
      · rw [if_pos ⟨rfl, c2⟩, c2]; exact (hb.2.2.2.2.2.2.1 d hd).symm
      · rw [if_neg (by omega), if_neg (by omega)]
    · rw [wI_other c, q3 r hr, wI_other c]
  exact ok_some ⟨q1, hb.fr hfr (by decide), hfr⟩
theorem loC_in {B : Bd} {T d : Nat} (hw : wfB B) (hT : T < 1000000) (hd : d < bn B) (kont : Int32 → Int32 → Int32 → Mem → Option (Int32 × Mem)) (Q : Int32 × Mem → Prop) :
    ∀ (k m fuel : Nat) (M : Mem), m + k = 8 → k < fuel → brdC 1 B M →
    (∀ M', brdC 1 B M' → fr [26, 27] M M' → ok (kont (oC cdL (amin (gLo B) T (8 * (d + 1)))) (nI (oV (gLo B) T (amin (gLo B) T (8 * (d + 1))))) (nI (d + 1)) M') Q) →
    ok (f_X5_bestFlip_b27 kont fuel (oC cdL (amin (gLo B) T (8 * d + m))) (nI (oV (gLo B) T (amin (gLo B) T (8 * d + m)))) (nI d) (nI m) M) Q := by
  intro k
  induction k with
  | zero =>
    intro m fuel M hi hf hb hk
    obtain ⟨f, rfl⟩ : ∃ f, fuel = f + 1 := ⟨fuel - 1, by omega⟩
    obtain rfl : m = 8 := by omega
    unfold f_X5_bestFlip_b27
    rw [nI_1]
    exact ok_pos (by decide) (hk M hb fr.rf)
  | succ k ih =>
    intro m fuel M hi hf hb hk
    obtain ⟨f, rfl⟩ : ∃ f, fuel = f + 1 := ⟨fuel - 1, by omega⟩
    unfold f_X5_bestFlip_b27
    refine ok_neg (show ¬ 8 ≤ nI m from fun q => absurd ((nI_leI (a := 8) (by decide) (by omega)).mp q) (by omega)) ?_
    refine ok_bp (flipT hw hb hd (by omega)) (fun v M' ⟨q1, q2, q3⟩ => ?_)
    have hg := gLo_lt hw hd (m := m) (by omega)
    have hv : oV (gLo B) T (amin (gLo B) T (8 * d + m)) < 2 ^ 31 := oV_lt2 (by omega) (fun b hb => by have := gLo_lt2 hw (w := b) (by omega); omega)
    have st := amin_step (gLo B) T (8 * d + m)
    have := ih (m + 1) f M' (by omega) (by omega) q2 (fun M2 z1 z2 => hk M2 z1 (q3.tr z2))
    rw [show 8 * d + (m + 1) = 8 * d + m + 1 by omega, st, gLo_at (by omega)] at this
    rw [q1, nI_1, l_10, pk_mul, nI_add]
    by_cases c : tot (flB B d m) B.2.2 < oV (gLo B) T (amin (gLo B) T (8 * d + m))
    · rw [if_pos c] at this
      refine ok_neg (nI_ge c hv) ?_
      have ec : oC cdL (some (8 * d + m)) = nI (10 * d + m) := by
        show nI (10 * ((8 * d + m) / 8) + (8 * d + m) % 8) = _
        rw [show (8 * d + m) / 8 = d by omega, show (8 * d + m) % 8 = m by omega]
      have ev : oV (gLo B) T (some (8 * d + m)) = tot (flB B d m) B.2.2 := gLo_at (by omega)
      rw [ec, ev] at this
      exact this
    · rw [if_neg c] at this
      exact ok_pos ((nI_leI hv (by omega)).mpr (by omega)) this
theorem loC {B : Bd} {T : Nat} (hw : wfB B) (hT : T < 1000000) : ∀ (k d fuel : Nat) (M : Mem), d + k = bn B → k < fuel → brdC 1 B M →
    ok2 (f_X5_bestFlip_b13 fuel (oC cdL (amin (gLo B) T (8 * d))) (nI (oV (gLo B) T (amin (gLo B) T (8 * d)))) (nI d) M) (fun x M' => x = oC cdL (amin (gLo B) T (8 * bn B)) ∧ fr [26, 27] M M') := by
  have hn := hw.2.2.1
  intro k
  induction k with
  | zero =>
    intro d fuel M hi hf hb
    obtain ⟨f, rfl⟩ : ∃ f, fuel = f + 1 := ⟨fuel - 1, by omega⟩
    obtain rfl : d = bn B := by omega
    refine ok2_mk ?_
    unfold f_X5_bestFlip_b13
    rw [hb.1]
    exact ok_pos (nI_le (by omega) (by omega)) (ok_some ⟨rfl, fr.rf⟩)
  | succ k ih =>
    intro d fuel M hi hf hb
    obtain ⟨f, rfl⟩ : ∃ f, fuel = f + 1 := ⟨fuel - 1, by omega⟩
    refine ok2_mk ?_
    unfold f_X5_bestFlip_b13
    rw [hb.1]
    refine ok_neg (nI_ge (by omega) (by omega)) ?_
    exact loC_in hw hT (by omega) _ _ 8 0 FU M (by omega) (FU_big (by omega)) hb (fun M' h1 h2 => (ih (d + 1) f M' (by omega) (by omega) h1).mono (fun x M2 z => ⟨z.1, h2.tr z.2⟩))
theorem loR {B : Bd} {M : Mem} {T : Nat} (hw : wfB B) (hb : brdR B M) (hT : T < 1000000) : ∀ (k v fuel : Nat), v + k = 10 * bn B → k < fuel →
    f_X12_loophole_b10 fuel (oC cdL (amin (gLo B) T (8 * (v / 10) + min (v % 10) 8))) (nI (oV (gLo B) T (amin (gLo B) T (8 * (v / 10) + min (v % 10) 8)))) (nI v) M = some (oC cdL (amin (gLo B) T (8 * bn B)), M) := by
  have hn := hw.2.2.1
  intro k
  induction k with
  | zero =>
    intro v fuel hi hf
    obtain ⟨f, rfl⟩ : ∃ f, fuel = f + 1 := ⟨fuel - 1, by omega⟩
    unfold f_X12_loophole_b10
    rw [hb.1, l_10, pk_mul, if_pos (nI_le (by omega) (by omega)), show 8 * (v / 10) + min (v % 10) 8 = 8 * bn B by omega]
  | succ k ih =>
    intro v fuel hi hf
    obtain ⟨f, rfl⟩ : ∃ f, fuel = f + 1 := ⟨fuel - 1, by omega⟩
    have := ih (v + 1) f (by omega) (by omega)
    unfold f_X12_loophole_b10
    rw [hb.1, l_10, l_8, pk_mul, if_neg (nI_ge (by omega) (by omega)), nI_rm (by omega) (by decide) (by decide), nI_div (by omega) (by decide) (by decide), nI_1]
    by_cases c : v % 10 < 8
    · have hd : v / 10 < bn B := by omega
      rw [if_pos (nI_lt c (by omega)), ldMkR hb hw hd, Option.bind_some, jshl_1 (by omega), fa_xor, stI_n (by omega) (by decide), Option.bind_some]
      have hb2 : brdR (flB B (v / 10) (v % 10)) (wI M 4 (v / 10) (nI (mk B (v / 10) ^^^ 2 ^ (v % 10)))) := by
        obtain ⟨h1, h2, h3, h4, h5, h6, h7, h8⟩ := hb
        unfold flB
        refine ⟨?_, ?_, ?_, ?_, fun j hj => ?_, fun j hj => ?_, fun j hj => ?_, fun j hj => ?_⟩
        · rw [stB_n]; simp only [wI_at]; simp; exact h1
        · simp only [wI_at]; simp; exact h2
        · simp only [wI_at]; simp; exact h3
        · simp only [wI_at]; simp; exact h4
        · rw [stB_n] at hj; rw [(stB_kd hd j).1]; simp only [wI_at]; simp
          by_cases c : j = v / 10
          · rw [if_pos c, c]; exact h5 _ hd
          · rw [if_neg c]; exact h5 j hj
        · rw [stB_n] at hj; rw [(stB_kd hd j).2.1]; simp only [wI_at]; simp
          by_cases c : j = v / 10
          · rw [if_pos c, c]; exact h6 _ hd
          · rw [if_neg c]; exact h6 j hj
        · rw [stB_n] at hj; rw [(stB_kd hd j).2.2]; simp only [wI_at]; simp
          by_cases c : j = v / 10
          · rw [if_pos c, if_pos c]
          · rw [if_neg c, if_neg c]; exact h7 j hj
        · simp only [wI_at]; simp; exact h8 j hj
      rw [allR hb2 (flB_wf hw hd c), Option.bind_some, ldI_n (by omega) (by decide), wI_at, if_pos ⟨rfl, rfl⟩, Option.bind_some, fa_xor, xor_back, stI_n (by omega) (by decide), Option.bind_some]
      have em : wI (wI M 4 (v / 10) (nI (mk B (v / 10) ^^^ 2 ^ (v % 10)))) 4 (v / 10) (nI (mk B (v / 10))) = M := by
        refine Prod.ext ?_ rfl
        funext r j
        rw [wI_at, wI_at]
        by_cases z : r = 4 ∧ j = v / 10
        · rw [if_pos z, z.1, z.2]; exact (hb.2.2.2.2.2.2.1 _ hd).symm
        · rw [if_neg z, if_neg z]
      rw [em]
      have st := amin_step (gLo B) T (8 * (v / 10) + v % 10)
      rw [show 8 * ((v + 1) / 10) + min ((v + 1) % 10) 8 = 8 * (v / 10) + v % 10 + 1 by omega, st, gLo_at c] at this
      rw [show 8 * (v / 10) + min (v % 10) 8 = 8 * (v / 10) + v % 10 by omega]
      have hg := gLo_lt hw hd c
      have hv : oV (gLo B) T (amin (gLo B) T (8 * (v / 10) + v % 10)) < 2 ^ 31 := oV_lt2 (by omega) (fun b hb => by have := gLo_lt2 hw (w := b) (by omega); omega)
      show (if nI (tot (flB B (v / 10) (v % 10)) B.2.2) < _ then _ else _) = _
      by_cases c2 : tot (flB B (v / 10) (v % 10)) B.2.2 < oV (gLo B) T (amin (gLo B) T (8 * (v / 10) + v % 10))
      · rw [if_pos c2] at this
        rw [if_pos ((nI_ltI (by omega) hv).mpr c2)]
        have ec : oC cdL (some (8 * (v / 10) + v % 10)) = nI v := by
          show nI (10 * ((8 * (v / 10) + v % 10) / 8) + (8 * (v / 10) + v % 10) % 8) = _
          congr 1
          omega
        have ev : oV (gLo B) T (some (8 * (v / 10) + v % 10)) = tot (flB B (v / 10) (v % 10)) B.2.2 := gLo_at c
        rw [ec, ev] at this
        exact this
      · rw [if_neg c2] at this
        rw [if_neg (fun q => c2 ((nI_ltI (by omega) hv).mp q))]
        exact this
    · rw [if_neg (fun q => c ((nI_ltI (by omega) (by omega)).mp q))]
      rw [show 8 * ((v + 1) / 10) + min ((v + 1) % 10) 8 = 8 * (v / 10) + min (v % 10) 8 by omega] at this
      exact this
theorem sim_loophole {MC MR : Mem} (h : Inv MC MR) : Sim (f_X11_loophole MC) (f_X12_loophole MR) := by
  obtain ⟨B, im, S, lt, rw', hw, hC, hR, hf⟩ := id h
  have hn := hw.1.2.2.1
  have hT := tot_lt hw.1
  unfold f_X11_loophole f_X12_loophole
  rw [bind_bp, allR hR.1 hw.1, Option.bind_some, show f_X12_loophole_b10 FU (-9) (nI (tot B B.2.2)) 0 MR = _ from loR hw.1 hR.1 hT (10 * bn B) 0 FU (by omega) (FU_big (by omega))]
  refine Sim.q h (oC cdL (amin (gLo B) (tot B B.2.2) (8 * bn B))) (ok2_mk ?_) ⟨_, _, rfl, rfl, agR.rf⟩
  unfold f_X5_bestFlip
  refine ok_bp (total_ok hw.1 hC.1) (fun v M1 ⟨q1, q2, q3⟩ => ?_)
  rw [q1]
  exact (loC hw.1 hT (bn B) 0 FU M1 (by omega) (FU_big (by omega)) q2.1).mono (fun x M' z => ⟨z.1, (q3.q (by decide)).tr (z.2.q (by decide))⟩)
/-! wants -/
def mkO (B : Bd) (s : Nat) : Nat → Nat
  | 0 => 0
  | k + 1 => if s.testBit k = true then mkO B s k ||| mk B k else mkO B s k
def nxS (B : Bd) (s : Nat) : Nat → Nat
  | 0 => 0
  | k + 1 => if s.testBit k = true then nxS B s k + gPre B B.2.2 k else nxS B s k
theorem nxS_le {B : Bd} {c : Nat} (hc : ∀ k, gPre B B.2.2 k ≤ c) (s : Nat) : ∀ k, nxS B s k ≤ k * c := by
  intro k
  induction k with
  | zero => exact Nat.zero_le _
  | succ k ih =>
    have := hc k
    rw [Nat.succ_mul]
    show (if s.testBit k = true then nxS B s k + gPre B B.2.2 k else nxS B s k) ≤ _
    by_cases q : s.testBit k = true
    · rw [if_pos q]; exact Nat.add_le_add ih this
    · rw [if_neg q]; exact Nat.le_trans ih (Nat.le_add_right _ _)
theorem amsN (g : Nat → Nat) (T : Nat) (acc : Option Nat) (x : Nat) : ams g T acc x = if g x < oV g T acc then some x else acc := by cases acc <;> rfl
theorem mkOC {B : Bd} {M : Mem} {s : Nat} (hw : wfB B) (hb : brdC 1 B M) (hs : s < 2 ^ bn B) : ∀ (k i fuel : Nat), i + k = bn B → k < fuel → f_X5_marksOf_b4 M fuel (nI s) (nI (mkO B s i)) (nI i) = some (nI (mkO B s (bn B))) := by
  have hn := hw.2.2.1
  have h8 := p8 hn
  intro k
  induction k with
  | zero =>
    intro i fuel hi hf
    obtain ⟨f, rfl⟩ : ∃ f, fuel = f + 1 := ⟨fuel - 1, by omega⟩
    obtain rfl : i = bn B := by omega
    unfold f_X5_marksOf_b4
    rw [hb.1, if_pos (nI_le (by omega) (by omega))]
  | succ k ih =>
    intro i fuel hi hf
    obtain ⟨f, rfl⟩ : ∃ f, fuel = f + 1 := ⟨fuel - 1, by omega⟩
    have := ih (i + 1) f (by omega) (by omega)
    have st : mkO B s (i + 1) = if s.testBit i = true then mkO B s i ||| mk B i else mkO B s i := rfl
    rw [st] at this
    unfold f_X5_marksOf_b4
    rw [hb.1, if_neg (nI_ge (by omega) (by omega)), ldMkC hb hw (by omega), Option.bind_some, fa_or, nI_1]
    cases q : s.testBit i with
    | false => rw [q, if_neg (show ¬ false = true by decide)] at this; rw [if_pos ((bit_0 (by omega) (by omega)).mpr q)]; exact this
    | true => rw [q, if_pos rfl] at this; rw [if_neg (fun z => by rw [bit_0 (by omega) (by omega), q] at z; cases z)]; exact this
theorem mkOR {B : Bd} {M : Mem} {s : Nat} (hw : wfB B) (hb : brdR B M) (hs : s < 2 ^ bn B) : ∀ (k i fuel : Nat), i + k = bn B → k < fuel → f_X12_marksOf_b4 M fuel (nI s) (nI (mkO B s i)) (nI i) = some (nI (mkO B s (bn B))) := by
  have hn := hw.2.2.1
  have h8 := p8 hn
  intro k
  induction k with
  | zero =>
    intro i fuel hi hf
    obtain ⟨f, rfl⟩ : ∃ f, fuel = f + 1 := ⟨fuel - 1, by omega⟩
    obtain rfl : i = bn B := by omega
    unfold f_X12_marksOf_b4
    rw [hb.1, if_pos (nI_le (by omega) (by omega))]
  | succ k ih =>
    intro i fuel hi hf
    obtain ⟨f, rfl⟩ : ∃ f, fuel = f + 1 := ⟨fuel - 1, by omega⟩
    have := ih (i + 1) f (by omega) (by omega)
    have st : mkO B s (i + 1) = if s.testBit i = true then mkO B s i ||| mk B i else mkO B s i := rfl
    rw [st] at this
    unfold f_X12_marksOf_b4
    rw [hb.1, if_neg (nI_ge (by omega) (by omega)), has_n (by omega) (by omega), ldMkR hb hw (by omega), Option.bind_some, fa_or, nI_1, l_0, fa_or, Nat.or_zero]
    cases q : s.testBit i with
    | false => rw [q, if_neg (show ¬ false = true by decide)] at this; rw [if_pos (show bI false = nI 0 from rfl)]; exact this
    | true => rw [q, if_pos rfl] at this; rw [if_neg (show ¬ bI true = nI 0 from n10)]; exact this
theorem nxSC {B : Bd} {M : Mem} {s : Nat} (hw : wfB B) (h : RK B B.1.1 B.1.2 B.2.2 M) (hs : s < 2 ^ bn B) : ∀ (k i fuel : Nat), i + k = bn B → k < fuel → f_X5_nextOf_b4 M fuel (nI s) (nI (nxS B s i)) (nI i) = some (nI (nxS B s (bn B))) := by
  have hn := hw.2.2.1
  have h8 := p8 hn
  have h12 : B.2.2.length ≤ 12 := hw.2.2.2.1
  intro k
  induction k with
  | zero =>
    intro i fuel hi hf
    obtain ⟨f, rfl⟩ : ∃ f, fuel = f + 1 := ⟨fuel - 1, by omega⟩
    obtain rfl : i = bn B := by omega
    unfold f_X5_nextOf_b4
    rw [h.1.1, if_pos (nI_le (by omega) (by omega))]
  | succ k ih =>
    intro i fuel hi hf
    obtain ⟨f, rfl⟩ : ∃ f, fuel = f + 1 := ⟨fuel - 1, by omega⟩
    have := ih (i + 1) f (by omega) (by omega)
    have st : nxS B s (i + 1) = if s.testBit i = true then nxS B s i + gPre B B.2.2 i else nxS B s i := rfl
    rw [st] at this
    unfold f_X5_nextOf_b4
    rw [h.1.1, if_neg (nI_ge (by omega) (by omega)), dueNow_ok hw h (by omega) (by omega), Option.bind_some, nI_add, nI_1]
    cases q : s.testBit i with
    | false => rw [q, if_neg (show ¬ false = true by decide)] at this; rw [if_pos ((bit_0 (by omega) (by omega)).mpr q)]; exact this
    | true => rw [q, if_pos rfl] at this; rw [if_neg (fun z => by rw [bit_0 (by omega) (by omega), q] at z; cases z)]; exact this
theorem nxSR {B : Bd} {M : Mem} {s : Nat} (hw : wfB B) (hb : brdR B M) (hs : s < 2 ^ bn B) : ∀ (k i fuel : Nat), i + k = bn B → k < fuel → f_X12_nextsOf_b4 M fuel (nI s) (nI (nxS B s i)) (nI i) = some (nI (nxS B s (bn B))) := by
  have hn := hw.2.2.1
  have h8 := p8 hn
  intro k
  induction k with
  | zero =>
    intro i fuel hi hf
    obtain ⟨f, rfl⟩ : ∃ f, fuel = f + 1 := ⟨fuel - 1, by omega⟩
    obtain rfl : i = bn B := by omega
    unfold f_X12_nextsOf_b4
    rw [hb.1, if_pos (nI_le (by omega) (by omega))]
  | succ k ih =>
    intro i fuel hi hf
    obtain ⟨f, rfl⟩ : ∃ f, fuel = f + 1 := ⟨fuel - 1, by omega⟩
    have := ih (i + 1) f (by omega) (by omega)
    have st : nxS B s (i + 1) = if s.testBit i = true then nxS B s i + gPre B B.2.2 i else nxS B s i := rfl
    rw [st] at this
    unfold f_X12_nextsOf_b4
    rw [hb.1, if_neg (nI_ge (by omega) (by omega)), has_n (by omega) (by omega), nextOfR hb hw (by omega), Option.bind_some, nI_add, nI_1, l_0, nI_add]
    cases q : s.testBit i with
    | false => rw [q, if_neg (show ¬ false = true by decide)] at this; rw [if_pos (show bI false = nI 0 from rfl)]; exact this
    | true => rw [q, if_pos rfl] at this; rw [if_neg (show ¬ bI true = nI 0 from n10)]; exact this
def apm (p : Nat → Bool) (g : Nat → Nat) (T : Nat) : Nat → Option Nat
  | 0 => none
  | n + 1 => if p n = true then ams g T (apm p g T n) n else apm p g T n
theorem apm_lt {p : Nat → Bool} {g : Nat → Nat} {T : Nat} : ∀ {n b : Nat}, apm p g T n = some b → b < n := by
  intro n
  induction n with
  | zero => intro b h; cases h
  | succ n ih =>
    intro b h
    have h : (if p n = true then ams g T (apm p g T n) n else apm p g T n) = some b := h
    by_cases c : p n = true
    · rw [if_pos c] at h
      exact ams_in (P := fun x => x < n + 1) (fun x hx => by have := ih hx; omega) (Nat.lt_succ_self n) b h
    · rw [if_neg c] at h
      have := ih h; omega
def cvB (B : Bd) (v s : Nat) : Bool := decide (anot v (mkO B s (bn B)) = 0)
def gNx (B : Bd) (s : Nat) : Nat := nxS B s (bn B)
theorem gNx_lt {B : Bd} (hw : wfB B) (s : Nat) : gNx B s < 200000 := by
  have h12 : B.2.2.length ≤ 12 := hw.2.2.2.1
  have hc : ∀ k, gPre B B.2.2 k ≤ 20000 := fun k => Nat.le_of_lt (gPre_lt hw (by omega) k)
  have := nxS_le hc s (bn B)
  have hn := hw.2.2.1
  have e : bn B * 20000 ≤ 8 * 20000 := Nat.mul_le_mul_right _ hn
  exact Nat.lt_of_le_of_lt (Nat.le_trans this e) (by decide)
theorem pc8 {s : Nat} (h : s < 256) : pc s < 9 := by
  have e : pc s = pcn 8 s := pcn_hi (m := 8) (k := 4) h
  have := pcn_le 8 s
  omega
def waA (B : Bd) (v : Nat) (v2 : Int32) : Int32 := if v2 = 0 then oI (apm (cvB B v) pc 9 (2 ^ bn B)) else if v2 = 1 then oI (apm (cvB B v) (gNx B) 2147483647 (2 ^ bn B)) else oC (gNx B) (apm (cvB B v) (gNx B) 2147483647 (2 ^ bn B))
theorem waC {B : Bd} {M : Mem} {v : Nat} (hw : wfB B) (h : RK B B.1.1 B.1.2 B.2.2 M) (hv : v < 256) (v2 : Int32) : ∀ (k i fuel : Nat), i + k = 2 ^ bn B → k < fuel →
    f_X5_covering_b25 fuel (nI v) v2 (oI (apm (cvB B v) pc 9 i)) (oI (apm (cvB B v) (gNx B) 2147483647 i)) (nI (oV pc 9 (apm (cvB B v) pc 9 i))) (nI (oV (gNx B) 2147483647 (apm (cvB B v) (gNx B) 2147483647 i))) (nI i) M = some (waA B v v2, M) := by
  have hn := hw.2.2.1
  have h8 := p8 hn
  intro k
  induction k with
  | zero =>
    intro i fuel hi hf
    obtain ⟨f, rfl⟩ : ∃ f, fuel = f + 1 := ⟨fuel - 1, by omega⟩
    obtain rfl : i = 2 ^ bn B := by omega
    unfold f_X5_covering_b25 waA
    rw [h.1.1, jshl_1 (by omega), if_pos (nI_le (by omega) (by omega))]
    by_cases c : v2 = 0
    · rw [if_pos c, if_pos c]
    rw [if_neg c, if_neg c]
    by_cases c1 : v2 = 1
    · rw [if_pos c1, if_pos c1]
    rw [if_neg c1, if_neg c1]
    cases e : apm (cvB B v) (gNx B) 2147483647 (2 ^ bn B) with
    | none => rw [if_pos (show oI none = -9 from rfl)]; rfl
    | some b =>
      have := apm_lt e
      rw [if_neg (show ¬ oI (some b) = -9 from nI_ne_m9 (n := b) (by omega))]
      rfl
  | succ k ih =>
    intro i fuel hi hf
    obtain ⟨f, rfl⟩ : ∃ f, fuel = f + 1 := ⟨fuel - 1, by omega⟩
    have hi2 : i < 2 ^ bn B := by omega
    have e1 : f_X5_marksOf (nI i) M = some (nI (mkO B i (bn B))) := mkOC hw h.1 hi2 (bn B) 0 FU (by omega) (FU_big (by omega))
    have e2 : f_X5_nextOf (nI i) M = some (nI (gNx B i)) := nxSC hw h hi2 (bn B) 0 FU (by omega) (FU_big (by omega))
    have hal := anot_le v (mkO B i (bn B))
    have hp := pc8 (s := i) (by omega)
    have hg := gNx_lt hw i
    have s1 : apm (cvB B v) pc 9 (i + 1) = if cvB B v i = true then ams pc 9 (apm (cvB B v) pc 9 i) i else apm (cvB B v) pc 9 i := rfl
    have s2 : apm (cvB B v) (gNx B) 2147483647 (i + 1) = if cvB B v i = true then ams (gNx B) 2147483647 (apm (cvB B v) (gNx B) 2147483647 i) i else apm (cvB B v) (gNx B) 2147483647 i := rfl
    have v5 : oV pc 9 (apm (cvB B v) pc 9 i) < 2 ^ 31 := oV_lt (by decide) (fun b e => by have := pc_le b; omega)
    have v6 : oV (gNx B) 2147483647 (apm (cvB B v) (gNx B) 2147483647 i) < 2 ^ 31 := oV_lt (by decide) (fun b e => by have := gNx_lt hw b; omega)
    have := ih (i + 1) f (by omega) (by omega)
    rw [s1, s2] at this
    unfold f_X5_covering_b25
    rw [h.1.1, jshl_1 (by omega), if_neg (nI_ge (by omega) (by omega)), e1, Option.bind_some, m1_n, fa_xor, fa_and, e2, Option.bind_some, bitCount_n (by omega), nI_1]
    show (if nI (anot v (mkO B i (bn B))) = 0 then _ else _) = _
    by_cases c : cvB B v i = true
    · have ce : anot v (mkO B i (bn B)) = 0 := of_decide_eq_true c
      rw [if_pos c, if_pos c, amsN, amsN] at this
      have this : f_X5_covering_b25 f (nI v) v2 (oI (if pc i < oV pc 9 (apm (cvB B v) pc 9 i) then some i else apm (cvB B v) pc 9 i)) (oI (if gNx B i < oV (gNx B) 2147483647 (apm (cvB B v) (gNx B) 2147483647 i) then some i else apm (cvB B v) (gNx B) 2147483647 i)) (nI (oV pc 9 (if pc i < oV pc 9 (apm (cvB B v) pc 9 i) then some i else apm (cvB B v) pc 9 i))) (nI (oV (gNx B) 2147483647 (if gNx B i < oV (gNx B) 2147483647 (apm (cvB B v) (gNx B) 2147483647 i) then some i else apm (cvB B v) (gNx B) 2147483647 i))) (nI (i + 1)) M = some (waA B v v2, M) := this
      rw [ce, if_pos (show nI 0 = 0 from rfl)]
      unfold f_X5_covering_b80
      rw [nI_1]
      by_cases c5 : pc i < oV pc 9 (apm (cvB B v) pc 9 i)
      · rw [if_pos c5] at this
        rw [if_neg (nI_ge c5 v5)]
        by_cases c6 : gNx B i < oV (gNx B) 2147483647 (apm (cvB B v) (gNx B) 2147483647 i)
        · rw [if_pos c6] at this
          rw [if_neg (nI_ge c6 v6)]; exact this
        · rw [if_neg c6] at this
          rw [if_pos ((nI_leI v6 (by omega)).mpr (by omega))]; exact this
      · rw [if_neg c5] at this
        rw [if_pos ((nI_leI v5 (by omega)).mpr (by omega))]
        by_cases c6 : gNx B i < oV (gNx B) 2147483647 (apm (cvB B v) (gNx B) 2147483647 i)
        · rw [if_pos c6] at this
          rw [if_neg (nI_ge c6 v6)]; exact this
        · rw [if_neg c6] at this
          rw [if_pos ((nI_leI v6 (by omega)).mpr (by omega))]; exact this
    · have ce : ¬ anot v (mkO B i (bn B)) = 0 := fun z => c (decide_eq_true z)
      rw [if_neg c, if_neg c] at this
      rw [if_neg (show ¬ nI (anot v (mkO B i (bn B))) = 0 from fun q => ce (nI_e (b := 0) (by omega) (by decide) q))]
      exact this
theorem waR {B : Bd} {M : Mem} {v : Nat} (hw : wfB B) (hb : brdR B M) (hv : v < 256) (v2 : Int32) : ∀ (k i fuel : Nat), i + k = 2 ^ bn B → k < fuel →
    f_X12_wants_b46 fuel (nI v) v2 (oI (apm (cvB B v) pc 9 i)) (oI (apm (cvB B v) (gNx B) 2147483647 i)) (nI i) M = some (waA B v v2, M) := by
  have hn := hw.2.2.1
  have h8 := p8 hn
  intro k
  induction k with
  | zero =>
    intro i fuel hi hf
    obtain ⟨f, rfl⟩ : ∃ f, fuel = f + 1 := ⟨fuel - 1, by omega⟩
    obtain rfl : i = 2 ^ bn B := by omega
    unfold f_X12_wants_b46 waA
    rw [hb.1, jshl_1 (by omega), if_pos (nI_le (by omega) (by omega))]
    by_cases c : v2 = 0
    · rw [if_pos c, if_pos c]
    rw [if_neg c, if_neg c]
    by_cases c1 : v2 = 1
    · rw [if_pos c1, if_pos c1]
    rw [if_neg c1, if_neg c1]
    cases e : apm (cvB B v) (gNx B) 2147483647 (2 ^ bn B) with
    | none => rw [if_neg (show ¬ 0 ≤ oI none by decide)]; rfl
    | some b =>
      have hlt := apm_lt e
      have e2 : f_X12_nextsOf (nI b) M = some (nI (gNx B b)) := nxSR hw hb hlt (bn B) 0 FU (by omega) (FU_big (by omega))
      rw [if_pos (show 0 ≤ oI (some b) from nI_pos' (by omega)), show oI (some b) = nI b from rfl, e2]
      rfl
  | succ k ih =>
    intro i fuel hi hf
    obtain ⟨f, rfl⟩ : ∃ f, fuel = f + 1 := ⟨fuel - 1, by omega⟩
    have hi2 : i < 2 ^ bn B := by omega
    have nx : ∀ b, b < 2 ^ bn B → f_X12_nextsOf (nI b) M = some (nI (gNx B b)) := fun b hb2 => nxSR hw hb hb2 (bn B) 0 FU (by omega) (FU_big (by omega))
    have e1 : f_X12_marksOf (nI i) M = some (nI (mkO B i (bn B))) := mkOR hw hb hi2 (bn B) 0 FU (by omega) (FU_big (by omega))
    have hal := anot_le v (mkO B i (bn B))
    have hp := pc8 (s := i) (by omega)
    have hg := gNx_lt hw i
    have s1 : apm (cvB B v) pc 9 (i + 1) = if cvB B v i = true then ams pc 9 (apm (cvB B v) pc 9 i) i else apm (cvB B v) pc 9 i := rfl
    have s2 : apm (cvB B v) (gNx B) 2147483647 (i + 1) = if cvB B v i = true then ams (gNx B) 2147483647 (apm (cvB B v) (gNx B) 2147483647 i) i else apm (cvB B v) (gNx B) 2147483647 i := rfl
    have := ih (i + 1) f (by omega) (by omega)
    rw [s1, s2] at this
    unfold f_X12_wants_b46
    rw [hb.1, jshl_1 (by omega), if_neg (nI_ge (by omega) (by omega)), e1, Option.bind_some, m1_n, fa_xor, fa_and, nI_1]
    show (if nI (anot v (mkO B i (bn B))) = 0 then _ else _) = _
    by_cases c : cvB B v i = true
    · have ce : anot v (mkO B i (bn B)) = 0 := of_decide_eq_true c
      rw [if_pos c, if_pos c] at this
      rw [ce, if_pos (show nI 0 = 0 from rfl)]
      have fin : ∀ v4, v4 = oI (ams pc 9 (apm (cvB B v) pc 9 i) i) → f_X12_wants_b95 (f_X12_wants_b46 f) (nI v) v2 v4 (oI (apm (cvB B v) (gNx B) 2147483647 i)) (nI i) M = some (waA B v v2, M) := by
        intro v4 e4
        rw [e4]
        unfold f_X12_wants_b95
        rw [nI_1]
        cases e : apm (cvB B v) (gNx B) 2147483647 i with
        | none =>
          rw [e, ams_eq, ams_eq, if_pos (show gNx B i < (match (none : Option Nat) with | none => 2147483647 | some b => gNx B b) from (show gNx B i < 2147483647 by omega)), ← ams_eq] at this
          rw [if_pos (show oI none < 0 by decide)]
          exact this
        | some b =>
          have hlt := apm_lt e
          have hgb := gNx_lt hw b
          rw [if_neg (show ¬ oI (some b) < 0 from nI_pos (by omega)), nx i hi2, Option.bind_some, show oI (some b) = nI b from rfl, nx b (by omega), Option.bind_some]
          rw [e] at this
          by_cases c6 : gNx B i < gNx B b
          · rw [show ams (gNx B) 2147483647 (some b) i = some i from if_pos c6] at this
            rw [if_neg (nI_ge c6 (by omega))]; exact this
          · rw [show ams (gNx B) 2147483647 (some b) i = some b from if_neg c6] at this
            rw [if_pos (nI_le (by omega) (by omega))]; exact this
      unfold f_X12_wants_b91
      cases e : apm (cvB B v) pc 9 i with
      | none =>
        rw [if_pos (show oI none < 0 by decide)]
        exact fin _ (by rw [e, show ams pc 9 none i = some i from if_pos hp]; rfl)
      | some b =>
        have hlt := apm_lt e
        have hpb := pc_le b
        rw [if_neg (show ¬ oI (some b) < 0 from nI_pos (by omega)), bitsR (by omega), Option.bind_some, show oI (some b) = nI b from rfl, bitsR (by omega), Option.bind_some]
        by_cases c5 : pc i < pc b
        · rw [if_neg (nI_ge c5 (by omega))]
          exact fin _ (by rw [e, show ams pc 9 (some b) i = some i from if_pos c5]; rfl)
        · rw [if_pos (nI_le (by omega) (by omega))]
          exact fin _ (by rw [e, show ams pc 9 (some b) i = some b from if_neg c5]; rfl)
    · have ce : ¬ anot v (mkO B i (bn B)) = 0 := fun z => c (decide_eq_true z)
      rw [if_neg c, if_neg c] at this
      rw [if_neg (show ¬ nI (anot v (mkO B i (bn B))) = 0 from fun q => ce (nI_e (b := 0) (by omega) (by decide) q))]
      exact this
theorem sim_wants {MC MR : Mem} (h : Inv MC MR) (a b : Int32) : Sim (f_X11_wants a b MC) (f_X12_wants a b MR) := by
  obtain ⟨B, im, S, lt, rw', hw, hC, hR, hf⟩ := id h
  have hn := hw.1.2.2.1
  have h8 := p8 hn
  unfold f_X11_wants f_X12_wants f_X12_wants_b25
  simp only [bind_bp]
  rcases boundR a 255 (by decide) with ⟨h0, e⟩ | ⟨m, hm', hm, rfl, e⟩ | ⟨m, hm, rfl, e⟩
  · rw [show f_X12_bound a 0 255 = -4 from e, if_neg (show ¬ 0 ≤ a from i_neg_nle h0 (n := 0) (by decide)), if_neg (show ¬ (-4 : Int32) = 0 by decide), if_neg (show ¬ (-4 : Int32) = 0 by decide)]; exact Sim.no4 h
  · rw [show f_X12_bound (nI m) 0 255 = -6 from e, if_pos (nI_pos' hm'), if_neg (show ¬ nI m ≤ 255 from nI_ge (a := 255) hm hm'), if_neg (show ¬ (-6 : Int32) = 0 by decide), if_neg (show ¬ (-6 : Int32) = 0 by decide)]; exact Sim.no6 h
  rw [show f_X12_bound (nI m) 0 255 = 0 from e, if_pos (nI_pos' (by omega)), if_pos (show nI m ≤ 255 from nI_le (b := 255) hm (by decide)), if_pos p00, if_pos p00]
  have go : Sim (f_X5_covering (nI m) b MC) (f_X12_wants_b46 FU (nI m) b (-9) (-9) 0 MR) := by
    have e2 : f_X12_wants_b46 FU (nI m) b (-9) (-9) 0 MR = some (waA B m b, MR) := waR hw.1 hR.1 (by omega) b (2 ^ bn B) 0 FU (by omega) (FU_big (by omega))
    rw [e2]
    refine Sim.q h (waA B m b) (ok2_mk ?_) ⟨_, _, rfl, rfl, agR.rf⟩
    unfold f_X5_covering
    refine ok_bind (behind_ok hw.1 hC.1) (fun M1 ⟨h1, f1⟩ => ?_)
    exact ok_eq (waC hw.1 h1 (by omega) b (2 ^ bn B) 0 FU (by omega) (FU_big (by omega))) ⟨rfl, f1.q (by decide)⟩
  rcases i_cases b with hb | ⟨j, hj, rfl⟩
  · rw [if_pos hb, show f_X12_isIn b 0 2 = 0 from isIn_neg (a := 0) (b := 2) hb (by decide), if_pos p00, if_neg (show ¬ (-2 : Int32) = 0 by decide)]; exact Sim.no2 h
  · have e : f_X12_isIn (nI j) 0 2 = bI (decide (0 ≤ j ∧ j ≤ 2)) := isIn_n (a := 0) (b := 2) (by decide) (by decide) hj
    rw [if_neg (nI_pos hj), e]
    by_cases c : j ≤ 2
    · rw [if_pos (show nI j ≤ 2 from nI_le (b := 2) c (by decide)), decide_eq_true (by omega), if_neg (show ¬ bI true = 0 from n10)]; exact go
    · rw [if_neg (show ¬ nI j ≤ 2 from nI_ge (a := 2) (by omega) hj), decide_eq_false (by omega), if_pos (show bI false = 0 from rfl), if_neg (show ¬ (-2 : Int32) = 0 by decide)]; exact Sim.no2 h
