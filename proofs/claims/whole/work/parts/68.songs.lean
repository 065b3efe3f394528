/-! songs -/
theorem wL_at {M : Mem} {r i r' j : Nat} {v : Int64} : (wL M r i v).2 r' j = if r' = r ∧ j = i then v else M.2 r' j := by
  unfold wL vp_updL
  by_cases h : r' = r
  · subst h
    by_cases h2 : j = i
    · subst h2; simp
    · simp [h2]
  · simp [h]
theorem wL_other {M : Mem} {r i r' : Nat} {v : Int64} (h : r' ≠ r) : (wL M r i v).2 r' = M.2 r' := by simp [wL, h]
theorem ok_ldL {β : Type} {M : Mem} {q n i : Nat} {k : Int64 → Option β} {Q : β → Prop} {v : Int64} (h : i < n) (hn : n < 2 ^ 31) (hv : M.2 q i = v) (hk : ok (k v) Q) : ok ((ldL M q n (nI i)).bind k) Q := by
  rw [ldL_n h hn, hv]; exact hk
theorem ok_stL {β : Type} {M : Mem} {q n i : Nat} {x : Int64} {k : Mem → Option β} {Q : β → Prop} (h : i < n) (hn : n < 2 ^ 31) (hk : ok (k (wL M q i x)) Q) : ok ((stL M q n (nI i) x).bind k) Q := by
  rw [stL_n h hn]; exact hk
theorem fillL_lp (q n : Nat) (v : Int64) (hn : n ≤ 1000) : ∀ (k i fuel : Nat) (M : Mem), i + k = n → k < fuel → ok (f_J7_fill_d0a16_b6 q n fuel v (nI i) (nI n) M) (fun M' => (∀ j, i ≤ j → j < n → M'.2 q j = v) ∧ (∀ j, j < i → M'.2 q j = M.2 q j) ∧ M'.1 = M.1 ∧ ∀ r, r ≠ q → M'.2 r = M.2 r) := by
  intro k
  induction k with
  | zero =>
    intro i fuel M hi hf
    obtain ⟨f, rfl⟩ : ∃ f, fuel = f + 1 := ⟨fuel - 1, by omega⟩
    unfold f_J7_fill_d0a16_b6
    exact ok_pos (nI_le (by omega) (by omega)) (ok_some ⟨fun j h1 h2 => by omega, fun _ _ => rfl, rfl, fun _ _ => rfl⟩)
  | succ k ih =>
    intro i fuel M hi hf
    obtain ⟨f, rfl⟩ : ∃ f, fuel = f + 1 := ⟨fuel - 1, by omega⟩
    unfold f_J7_fill_d0a16_b6
    refine ok_neg (nI_ge (by omega) (by omega)) (ok_stL (by omega) (by omega) ?_)
    rw [nI_1]
    refine ok_mono (ih (i + 1) f _ (by omega) (by omega)) (fun M' h => ⟨fun j h1 h2 => ?_, fun j h1 => ?_, h.2.2.1, fun r hr => (h.2.2.2 r hr).trans (wL_other hr)⟩)
    · by_cases c : j = i
      · subst c
        rw [h.2.1 j (by omega), wL_at, if_pos ⟨rfl, rfl⟩]
      · exact h.1 j (by omega) h2
    · rw [h.2.1 j (by omega), wL_at, if_neg (by omega)]
theorem fillL_ok {q n : Nat} {v : Int64} {M : Mem} (hn : n ≤ 1000) : ok (f_J7_fill_d0a16 q n v M) (fun M' => (∀ j, j < n → M'.2 q j = v) ∧ M'.1 = M.1 ∧ ∀ r, r ≠ q → M'.2 r = M.2 r) :=
  ok_mono (fillL_lp q n v hn n 0 FU M (by omega) (FU_big (by omega))) (fun M' h => ⟨fun j hj => h.1 j (Nat.zero_le _) hj, h.2.2⟩)
theorem cpL_n {M : Mem} {q0 q1 n : Nat} (hn : n < 2 ^ 31) : cpL M q0 n q1 n 0 0 (nI n) = some (wAL M q1 (fun k => if k < n then M.2 q0 k else M.2 q1 k)) := by
  have hc := nI_clamp (n := n) hn
  have h0 : (0 : Int32).toNatClampNeg = 0 := rfl
  unfold cpL
  rw [hc, h0, if_neg (by
    intro q
    rcases q with q | q | q | q | q
    · exact absurd q (by decide)
    · exact absurd q (by decide)
    · exact nI_pos hn q
    · omega
    · omega)]
  congr 2
  funext k
  unfold va_cpy
  by_cases c : k < n
  · rw [if_pos ⟨Nat.zero_le _, by omega⟩, if_pos c, Nat.sub_zero, Nat.zero_add]
  · rw [if_neg (by omega), if_neg c]
theorem cmp_le {a : Nat} (ha : a < 2 ^ 63) : (lg_cmp (nL a) 0 ≤ 0) ↔ a = 0 := by
  unfold lg_cmp
  by_cases c : a = 0
  · subst c; simp; decide
  · have h2 : nL a > 0 := by
      show 0 < nL a
      rw [Int64.lt_iff_toInt_lt, nL_toInt ha]
      show (0 : Int) < a
      omega
    rw [if_pos h2]
    exact ⟨fun q => absurd q (by decide), fun q => absurd q c⟩
/-- which may follow which -/
def mf (B : Bd) (d x : Nat) : Bool := !(decide (x < bn B) && sm B x d)
def mayB (B : Bd) (g d l a : Nat) : Bool := (decide (g < 1) || mf B d l) && (decide (g < 2) || mf B d a)
def cW (B : Bd) (g : Nat) (W : Nat → Nat → Nat) (a l d : Nat) : Nat := if d < bn B ∧ mayB B g d l a = true then W l a else 0
def nxW (B : Bd) (g : Nat) (W : Nat → Nat → Nat) (d l : Nat) : Nat := sumN (fun a => cW B g W a l d) 9
def Wn (B : Bd) (g : Nat) : Nat → Nat → Nat → Nat
  | 0 => fun l a => if l = 8 ∧ a = 8 then 1 else 0
  | i + 1 => nxW B g (Wn B g i)
def vld (B : Bd) (x : Nat) : Prop := x < bn B ∨ x = 8
theorem Wn_v {B : Bd} {g : Nat} : ∀ (i l a : Nat), ¬ (vld B l ∧ vld B a) → Wn B g i l a = 0 := by
  intro i
  induction i with
  | zero =>
    intro l a h
    show (if l = 8 ∧ a = 8 then 1 else 0) = 0
    rw [if_neg]
    rintro ⟨rfl, rfl⟩
    exact h ⟨Or.inr rfl, Or.inr rfl⟩
  | succ i ih =>
    intro d l h
    refine sumN_zero _ (fun a _ => ?_)
    unfold cW
    by_cases c : d < bn B ∧ mayB B g d l a = true
    · rw [if_pos c]
      exact ih l a (fun q => h ⟨Or.inl c.1, q.1⟩)
    · rw [if_neg c]
theorem Wn_le {B : Bd} {g : Nat} : ∀ (i l a : Nat), Wn B g i l a ≤ 9 ^ i := by
  intro i
  induction i with
  | zero =>
    intro l a
    show (if l = 8 ∧ a = 8 then 1 else 0) ≤ 1
    split <;> omega
  | succ i ih =>
    intro d l
    rw [Nat.pow_succ, Nat.mul_comm]
    refine sumN_le _ (fun a _ => ?_)
    unfold cW
    split
    · exact ih l a
    · exact Nat.zero_le _
/-! the class -/
theorem mfC {B : Bd} {M : Mem} {d x : Nat} (hw : wfB B) (hA : RA B M) (hd : d < bn B) (hx : x ≤ 8) : f_X2_mayFollow (nI d) (nI x) M = some (bI (mf B d x)) := by
  have hn := hw.2.2.1
  have ha := aM_lt hw d
  unfold f_X2_mayFollow mf
  by_cases c : x = 8
  · subst c
    rw [if_pos (show nI 8 = 8 from rfl), decide_eq_false (by omega)]
    rfl
  · rw [if_neg (show ¬ nI x = 8 from fun q => c (nI_e (b := 8) (by omega) (by decide) q)), ldA hw hA hd, Option.bind_some]
    cases q : (aM B d).testBit x with
    | false =>
      rw [if_pos ((bit_0 (by omega) (by omega)).mpr q)]
      rw [aM_tb, sm_symm] at q
      rw [q]; rfl
    | true =>
      rw [if_neg (fun z => by rw [bit_0 (by omega) (by omega), q] at z; cases z)]
      rw [aM_tb, sm_symm] at q
      rw [q]; rfl
def acC (B : Bd) (g : Nat) (W : Nat → Nat → Nat) (b l e l' d' : Nat) : Nat := sumN (fun x => cW B g W x l' d') b + (if l' < l ∨ (l' = l ∧ d' < e) then cW B g W b l' d' else 0)
def LG (B : Bd) (g : Nat) (W : Nat → Nat → Nat) (b l e : Nat) (M : Mem) : Prop := ∀ j, j < 81 → M.2 40 j = nL (acC B g W b l e (j / 9) (j % 9))
theorem LG.cong {B : Bd} {g : Nat} {W : Nat → Nat → Nat} {b l e b' l' e' : Nat} {M : Mem} (h : LG B g W b l e M) (hc : ∀ x y, x < 9 → y < 9 → acC B g W b l e x y = acC B g W b' l' e' x y) : LG B g W b' l' e' M := fun j hj => by
  rw [h j hj, hc _ _ (by omega) (by omega)]
theorem lgC_d {B : Bd} {g b l : Nat} {W : Nat → Nat → Nat} {M0 : Mem} (hw : wfB B) (hb : brdC 1 B M0) (hA : RA B M0) (hg : g ≤ 2) (hb8 : b < 9) (hl8 : l < 9) (hW : W l b < 2 ^ 62) (k10 : Int32 → Int32 → Mem → Option Mem) (k18 : Int32 → Int32 → Int32 → Mem → Option Mem) (Q : Mem → Prop) :
    ∀ (k e fuel : Nat) (M : Mem), e + k = bn B → k < fuel → M.1 = M0.1 → M.2 39 = M0.2 39 → LG B g W b l e M →
    (∀ M', M'.1 = M0.1 → M'.2 39 = M0.2 39 → LG B g W b (l + 1) 0 M' → ok (k18 (nI g) (nI b) (nI (l + 1)) M') Q) →
    ok (f_X2_lengthen_b40 k10 k18 fuel (nI g) (nI b) (nI l) (nL (W l b)) (nI e) M) Q := by
  have hn := hw.2.2.1
  have out : ∀ (e : Nat) (M : Mem), e ≤ bn B → (e = bn B ∨ W l b = 0) → LG B g W b l e M → LG B g W b (l + 1) 0 M := fun e M he hz h => h.cong (fun x y hx hy => by
    unfold acC
    congr 1
    by_cases c : x < l ∨ (x = l ∧ y < e)
    · rw [if_pos c, if_pos (by omega)]
    · rw [if_neg c]
      by_cases c2 : x < l + 1 ∨ (x = l + 1 ∧ y < 0)
      · rw [if_pos c2]
        unfold cW
        obtain rfl : x = l := by omega
        rcases hz with z | z
        · rw [if_neg (by omega)]
        · rw [z]; split <;> rfl
      · rw [if_neg c2])
  intro k
  induction k with
  | zero =>
    intro e fuel M hi hf h1 h39 hL hk
    obtain ⟨f, rfl⟩ : ∃ f, fuel = f + 1 := ⟨fuel - 1, by omega⟩
    have h4 : M.1 1 4 = nI (bn B) := by rw [h1]; exact hb.1
    unfold f_X2_lengthen_b40
    rw [h4, nI_1]
    exact ok_pos (nI_le (by omega) (by omega)) (hk M h1 h39 (out e M (by omega) (Or.inl (by omega)) hL))
  | succ k ih =>
    intro e fuel M hi hf h1 h39 hL hk
    obtain ⟨f, rfl⟩ : ∃ f, fuel = f + 1 := ⟨fuel - 1, by omega⟩
    have h4 : M.1 1 4 = nI (bn B) := by rw [h1]; exact hb.1
    have hA' : RA B M := hA.fr (by rw [h1])
    unfold f_X2_lengthen_b40
    rw [h4, nI_1]
    refine ok_neg (nI_ge (by omega) (by omega)) ?_
    by_cases cz : W l b = 0
    · exact ok_pos ((cmp_le (by omega)).mpr cz) (hk M h1 h39 (out e M (by omega) (Or.inr cz) hL))
    refine ok_neg (fun q => cz ((cmp_le (by omega)).mp q)) ?_
    -- one doing more
    have skip : mayB B g e l b = false → ok (f_X2_lengthen_b40 k10 k18 f (nI g) (nI b) (nI l) (nL (W l b)) (nI (e + 1)) M) Q := fun hm => by
      refine ih (e + 1) f M (by omega) (by omega) h1 h39 (hL.cong (fun x y hx hy => ?_)) hk
      unfold acC
      congr 1
      by_cases c : x < l ∨ (x = l ∧ y < e)
      · rw [if_pos c, if_pos (by omega)]
      · rw [if_neg c]
        by_cases c2 : x < l ∨ (x = l ∧ y < e + 1)
        · rw [if_pos c2]
          obtain rfl : x = l := by omega
          obtain rfl : y = e := by omega
          unfold cW
          rw [hm, if_neg (by rintro ⟨-, q⟩; cases q)]
        · rw [if_neg c2]
    have take : mayB B g e l b = true → ok (f_X2_lengthen_b89 k10 k18 (f_X2_lengthen_b40 k10 k18 f) (nI g) (nI b) (nI l) (nL (W l b)) (nI e) M) Q := fun hm => by
      unfold f_X2_lengthen_b89
      rw [l_9, pk_mul, nI_add, nI_1]
      refine ok_ldL (by omega) (by decide) (hL (l * 9 + e) (by omega)) ?_
      refine ok_stL (by omega) (by decide) ?_
      rw [nL_add]
      refine ih (e + 1) f _ (by omega) (by omega) h1 ((wL_other (by decide)).trans h39) (fun j hj => ?_) hk
      have e1 : (l * 9 + e) / 9 = l := by omega
      have e2 : (l * 9 + e) % 9 = e := by omega
      rw [wL_at]
      by_cases c : j = l * 9 + e
      · rw [if_pos ⟨rfl, c⟩, c, e1, e2]
        congr 1
        unfold acC
        rw [if_neg (by omega), if_pos (by omega)]
        unfold cW
        rw [if_pos ⟨by omega, hm⟩]
        rfl
      · rw [if_neg (by omega), hL j hj]
        congr 1
        unfold acC
        congr 1
        by_cases c3 : j / 9 < l ∨ (j / 9 = l ∧ j % 9 < e)
        · rw [if_pos c3, if_pos (by omega)]
        · rw [if_neg c3, if_neg (by omega)]
    have mid : (decide (g < 1) || mf B e l) = true → ok (f_X2_lengthen_b74 k10 k18 (f_X2_lengthen_b40 k10 k18 f) (nI g) (nI b) (nI l) (nL (W l b)) (nI e) M) Q := fun hm => by
      unfold f_X2_lengthen_b74
      by_cases c2 : g < 2
      · refine ok_pos (nI_lt (b := 2) c2 (by decide)) (take ?_)
        unfold mayB
        rw [hm, decide_eq_true c2]; rfl
      · refine ok_neg (fun q => c2 ((nI_ltI (b := 2) (by omega) (by decide)).mp q)) ?_
        rw [mfC hw hA' (by omega) (by omega), Option.bind_some, nI_1]
        have em : mayB B g e l b = mf B e b := by
          unfold mayB
          rw [hm, decide_eq_false c2]
          cases mf B e b <;> rfl
        cases q : mf B e b with
        | false => exact ok_pos rfl (skip (em.trans q))
        | true => exact ok_neg n10 (take (em.trans q))
    by_cases c1 : g < 1
    · refine ok_pos (nI_lt (b := 1) c1 (by decide)) (mid ?_)
      rw [decide_eq_true c1]; rfl
    · refine ok_neg (fun q => c1 ((nI_ltI (b := 1) (by omega) (by decide)).mp q)) ?_
      rw [mfC hw hA' (by omega) (by omega), Option.bind_some, nI_1]
      cases q : mf B e l with
      | false =>
        refine ok_pos rfl (skip ?_)
        unfold mayB
        rw [q, decide_eq_false c1]; rfl
      | true =>
        refine ok_neg n10 (mid ?_)
        rw [q, Bool.or_true]
def RWc (W : Nat → Nat → Nat) (M : Mem) : Prop := ∀ j, j < 81 → M.2 39 j = nL (W (j % 9) (j / 9))
theorem lgC_l {B : Bd} {g b : Nat} {W : Nat → Nat → Nat} {M0 : Mem} (hw : wfB B) (hb : brdC 1 B M0) (hA : RA B M0) (hR : RWc W M0) (hg : g ≤ 2) (hb8 : b < 9) (hW : ∀ l a, W l a < 2 ^ 62) (k10 : Int32 → Int32 → Mem → Option Mem) (Q : Mem → Prop) :
    ∀ (k l fuel : Nat) (M : Mem), l + k = 9 → k < fuel → M.1 = M0.1 → M.2 39 = M0.2 39 → LG B g W b l 0 M →
    (∀ M', M'.1 = M0.1 → M'.2 39 = M0.2 39 → LG B g W (b + 1) 0 0 M' → ok (k10 (nI g) (nI (b + 1)) M') Q) →
    ok (f_X2_lengthen_b18 k10 fuel (nI g) (nI b) (nI l) M) Q := by
  have hn := hw.2.2.1
  intro k
  induction k with
  | zero =>
    intro l fuel M hi hf h1 h39 hL hk
    obtain ⟨f, rfl⟩ : ∃ f, fuel = f + 1 := ⟨fuel - 1, by omega⟩
    obtain rfl : l = 9 := by omega
    unfold f_X2_lengthen_b18
    rw [nI_1]
    refine ok_pos (by decide) (hk M h1 h39 (hL.cong (fun x y hx hy => ?_)))
    unfold acC
    rw [if_pos (by omega), if_neg (by omega)]
    rfl
  | succ k ih =>
    intro l fuel M hi hf h1 h39 hL hk
    obtain ⟨f, rfl⟩ : ∃ f, fuel = f + 1 := ⟨fuel - 1, by omega⟩
    unfold f_X2_lengthen_b18
    refine ok_neg (show ¬ 9 ≤ nI l from nI_ge (a := l) (b := 9) (by omega) (by decide)) ?_
    rw [l_9, pk_mul, nI_add]
    have e1 : (b * 9 + l) / 9 = b := by omega
    have e2 : (b * 9 + l) % 9 = l := by omega
    refine ok_ldL (v := nL (W l b)) (by omega) (by decide) (by rw [h39, hR _ (by omega), e1, e2]) ?_
    exact lgC_d (M0 := M0) hw hb hA hg hb8 (by omega) (hW l b) k10 (f_X2_lengthen_b18 k10 f) Q (bn B) 0 FU M (by omega) (FU_big (by omega)) h1 h39 hL (fun M' g1 g2 g3 => ih (l + 1) f M' (by omega) (by omega) g1 g2 g3 hk)
theorem lgC_b {B : Bd} {g : Nat} {W : Nat → Nat → Nat} {M0 : Mem} (hw : wfB B) (hb : brdC 1 B M0) (hA : RA B M0) (hR : RWc W M0) (hg : g ≤ 2) (hW : ∀ l a, W l a < 2 ^ 62) :
    ∀ (k b fuel : Nat) (M : Mem), b + k = 9 → k < fuel → M.1 = M0.1 → M.2 39 = M0.2 39 → LG B g W b 0 0 M →
    ok (f_X2_lengthen_b10 fuel (nI g) (nI b) M) (fun M' => M'.1 = M0.1 ∧ RWc (nxW B g W) M') := by
  intro k
  induction k with
  | zero =>
    intro b fuel M hi hf h1 h39 hL
    obtain ⟨f, rfl⟩ : ∃ f, fuel = f + 1 := ⟨fuel - 1, by omega⟩
    obtain rfl : b = 9 := by omega
    unfold f_X2_lengthen_b10
    refine ok_pos (by decide) ?_
    rw [l_81, l_0, show cpL M 40 81 39 81 (nI 0) (nI 0) (nI 81) = _ from cpL_n (by decide), Option.bind_some]
    refine ok_some ⟨h1, fun j hj => ?_⟩
    show (if (39 : Nat) = 39 then (fun k => if k < 81 then M.2 40 k else M.2 39 k) else M.2 39) j = _
    rw [if_pos rfl, if_pos hj, hL j hj]
    congr 1
    unfold acC
    rw [if_neg (by omega)]
    rfl
  | succ k ih =>
    intro b fuel M hi hf h1 h39 hL
    obtain ⟨f, rfl⟩ : ∃ f, fuel = f + 1 := ⟨fuel - 1, by omega⟩
    unfold f_X2_lengthen_b10
    refine ok_neg (show ¬ 9 ≤ nI b from nI_ge (a := b) (b := 9) (by omega) (by decide)) ?_
    exact lgC_l (M0 := M0) hw hb hA hR hg (by omega) hW (f_X2_lengthen_b10 f) _ 9 0 FU M (by omega) (FU_big (by omega)) h1 h39 hL (fun M' g1 g2 g3 => ih (b + 1) f M' (by omega) (by omega) g1 g2 g3)
theorem lgC {B : Bd} {g : Nat} {W : Nat → Nat → Nat} {M : Mem} (hw : wfB B) (hb : brdC 1 B M) (hA : RA B M) (hR : RWc W M) (hg : g ≤ 2) (hW : ∀ l a, W l a < 2 ^ 62) : ok (f_X2_lengthen (nI g) M) (fun M' => M'.1 = M.1 ∧ RWc (nxW B g W) M') := by
  unfold f_X2_lengthen
  refine ok_bind (fillL_ok (by decide)) (fun M1 ⟨g1, g2, g3⟩ => ?_)
  refine lgC_b (M0 := M) hw hb hA hR hg hW 9 0 FU M1 (by omega) (FU_big (by omega)) g2 (g3 39 (by decide)) (fun j hj => ?_)
  rw [g1 j hj]
  unfold acC
  rw [if_neg (by omega)]
  rfl
theorem sgS_C {h : Nat → Nat} {M : Mem} (hM : ∀ j, j < 81 → M.2 39 j = nL (h j)) : ∀ (k i fuel : Nat), i + k = 81 → k < fuel → f_X2_songRows_b46 fuel (nL (sumN h i)) (nI i) M = some (nL (sumN h 81), M) := by
  intro k
  induction k with
  | zero =>
    intro i fuel hi hf
    obtain ⟨f, rfl⟩ : ∃ f, fuel = f + 1 := ⟨fuel - 1, by omega⟩
    obtain rfl : i = 81 := by omega
    unfold f_X2_songRows_b46
    rw [if_pos (by decide)]
  | succ k ih =>
    intro i fuel hi hf
    obtain ⟨f, rfl⟩ : ∃ f, fuel = f + 1 := ⟨fuel - 1, by omega⟩
    unfold f_X2_songRows_b46
    rw [if_neg (nI_ge (by omega) (by omega)), ldL_n (by omega) (by decide), hM i (by omega), Option.bind_some, nL_add, nI_1]
    exact ih (i + 1) f (by omega) (by omega)
theorem sgC {B : Bd} {g m : Nat} {M0 : Mem} (hw : wfB B) (hb : brdC 1 B M0) (hA : RA B M0) (hg : g ≤ 2) (hm : m ≤ 8) : ∀ (k i fuel : Nat) (M : Mem), i + k = m → k < fuel → M.1 = M0.1 → RWc (Wn B g i) M →
    ok2 (f_X2_songRows_b25 fuel (nI m) (nI g) (nI i) M) (fun x M' => x = nL (sumN (fun j => Wn B g m (j % 9) (j / 9)) 81) ∧ M'.1 = M0.1) := by
  intro k
  induction k with
  | zero =>
    intro i fuel M hi hf h1 hR
    obtain ⟨f, rfl⟩ : ∃ f, fuel = f + 1 := ⟨fuel - 1, by omega⟩
    obtain rfl : i = m := by omega
    refine ok2_mk ?_
    unfold f_X2_songRows_b25
    refine ok_pos (nI_le (by omega) (by omega)) ?_
    exact ok_eq (sgS_C hR 81 0 FU (by omega) (FU_big (by omega))) ⟨rfl, h1⟩
  | succ k ih =>
    intro i fuel M hi hf h1 hR
    obtain ⟨f, rfl⟩ : ∃ f, fuel = f + 1 := ⟨fuel - 1, by omega⟩
    refine ok2_mk ?_
    unfold f_X2_songRows_b25
    refine ok_neg (nI_ge (by omega) (by omega)) ?_
    rw [nI_1]
    have hbM : brdC 1 B M := hb.cong (fun r _ _ => by rw [h1])
    have hAM : RA B M := hA.fr (by rw [h1])
    refine ok_bind (lgC hw hbM hAM hR hg (fun l a => ?_)) (fun M1 ⟨g1, g2⟩ => ?_)
    · have := Wn_le (B := B) (g := g) i l a
      have h9 : 9 ^ i ≤ 9 ^ 8 := Nat.pow_le_pow_right (by decide) (by omega)
      omega
    · exact (ih (i + 1) f M1 (by omega) (by omega) (g1.trans h1) g2).mono (fun x M' z => z)
/-! the model -/
theorem bitsR_any {v : Int32} : ∀ (k i fuel : Nat) (acc : Int32), i + k = 31 → k < fuel → ∃ x, f_X12_bits_b4 fuel v acc (nI i) = some x := by
  intro k
  induction k with
  | zero =>
    intro i fuel acc hi hf
    obtain ⟨f, rfl⟩ : ∃ f, fuel = f + 1 := ⟨fuel - 1, by omega⟩
    obtain rfl : i = 31 := by omega
    unfold f_X12_bits_b4
    rw [if_pos (by decide)]
    exact ⟨_, rfl⟩
  | succ k ih =>
    intro i fuel acc hi hf
    obtain ⟨f, rfl⟩ : ∃ f, fuel = f + 1 := ⟨fuel - 1, by omega⟩
    unfold f_X12_bits_b4
    rw [l_31, if_neg (nI_ge (a := i) (b := 31) (by omega) (by omega)), nI_1]
    exact ih (i + 1) f _ (by omega) (by omega)
theorem sameR_any {M : Mem} {i j : Nat} (hi : i < 8) (hj : j < 8) : ∃ b : Bool, f_X12_areSame (nI i) (nI j) M = some (bI b) := by
  obtain ⟨x1, h1⟩ : ∃ x, f_X12_bits (M.1 4 i &&& M.1 4 j) = some x := bitsR_any 31 0 FU 0 (by omega) (FU_big (by omega))
  obtain ⟨x2, h2⟩ : ∃ x, f_X12_bits (M.1 4 i ^^^ M.1 4 j) = some x := bitsR_any 31 0 FU 0 (by omega) (FU_big (by omega))
  unfold f_X12_areSame
  rw [ldI_n hi (by decide), ldI_n hj (by decide), ldI_n hi (by decide), ldI_n hj (by decide)]
  simp only [Option.bind_some]
  rw [h1, h2]
  simp only [Option.bind_some]
  have h0 : ∃ b : Bool, some (0 : Int32) = some (bI b) := ⟨false, rfl⟩
  have h1' : ∃ b : Bool, some (1 : Int32) = some (bI b) := ⟨true, rfl⟩
  repeat' split
  all_goals first
    | exact h0
    | exact h1'
theorem mayR {B : Bd} {M : Mem} {g d l a : Nat} (hw : wfB B) (hb : brdR B M) (hd : d < bn B) (hl : l ≤ 8) (ha : a ≤ 8) (hg : g ≤ 2) : ∃ b : Bool, f_X12_mayFollow (nI d) (nI g) (nI l) (nI a) M = some (bI b) ∧ (vld B l ∧ vld B a → b = mayB B g d l a) := by
  have hn := hw.2.2.1
  have tail : ∃ b : Bool, f_X12_mayFollow_b19 M (nI d) (nI g) (nI a) = some (bI b) ∧ (vld B a → b = (decide (g < 2) || mf B d a)) := by
    unfold f_X12_mayFollow_b19
    by_cases c : g < 2
    · rw [if_pos (show nI g ≤ 1 from nI_le (b := 1) (by omega) (by decide))]
      exact ⟨true, rfl, fun _ => by rw [decide_eq_true c]; rfl⟩
    · rw [if_neg (show ¬ nI g ≤ 1 from nI_ge (a := 1) (by omega) (by omega))]
      by_cases c8 : 8 ≤ a
      · rw [if_pos (show 8 ≤ nI a from nI_le (a := 8) c8 (by omega))]
        exact ⟨true, rfl, fun _ => by unfold mf; rw [decide_eq_false (show ¬ a < bn B by omega)]; simp⟩
      · rw [if_neg (show ¬ 8 ≤ nI a from nI_ge (b := 8) (by omega) (by decide))]
        obtain ⟨b, e⟩ := sameR_any (M := M) (show a < 8 by omega) (show d < 8 by omega)
        rw [e, Option.bind_some]
        refine ⟨!b, by cases b <;> rfl, fun hv => ?_⟩
        have hva : a < bn B := by
          rcases hv with z | z
          · exact z
          · omega
        rw [areSameR hb hw hva hd] at e
        have e2 : bI (sm B a d) = bI b := Option.some.inj e
        have e3 : sm B a d = b := by
          cases q1 : sm B a d <;> cases b <;> first | rfl | (rw [q1] at e2; exact absurd e2 (by decide))
        unfold mf
        rw [decide_eq_false c, decide_eq_true hva, e3]
        cases b <;> rfl
  unfold f_X12_mayFollow
  by_cases c : g < 1
  · rw [if_pos (show nI g ≤ 0 from nI_le (b := 0) (by omega) (by decide))]
    obtain ⟨b, e1, e2⟩ := tail
    exact ⟨b, e1, fun hv => by rw [e2 hv.2]; unfold mayB; rw [decide_eq_true c]; rfl⟩
  · rw [if_neg (show ¬ nI g ≤ 0 from nI_ge (a := 0) (by omega) (by omega))]
    by_cases c8 : 8 ≤ l
    · rw [if_pos (show 8 ≤ nI l from nI_le (a := 8) c8 (by omega))]
      obtain ⟨b, e1, e2⟩ := tail
      refine ⟨b, e1, fun hv => ?_⟩
      rw [e2 hv.2]
      have : mf B d l = true := by unfold mf; rw [decide_eq_false (show ¬ l < bn B by omega)]; rfl
      unfold mayB
      rw [this, Bool.or_true, Bool.true_and]
    · rw [if_neg (show ¬ 8 ≤ nI l from nI_ge (b := 8) (by omega) (by decide))]
      obtain ⟨b, e⟩ := sameR_any (M := M) (show l < 8 by omega) (show d < 8 by omega)
      rw [e, Option.bind_some]
      have key : vld B l → mf B d l = !b := fun hv => by
        have hvl : l < bn B := by
          rcases hv with z | z
          · exact z
          · omega
        rw [areSameR hb hw hvl hd] at e
        have e2 : bI (sm B l d) = bI b := Option.some.inj e
        have e3 : sm B l d = b := by
          cases q1 : sm B l d <;> cases b <;> first | rfl | (rw [q1] at e2; exact absurd e2 (by decide))
        unfold mf
        rw [decide_eq_true hvl, e3]
        cases b <;> rfl
      cases b with
      | false =>
        rw [if_pos (show bI false = 0 from rfl)]
        obtain ⟨b', e1, e2⟩ := tail
        refine ⟨b', e1, fun hv => ?_⟩
        rw [e2 hv.2]
        unfold mayB
        rw [key hv.1, Bool.not_false, Bool.or_true, Bool.true_and]
      | true =>
        rw [if_neg (show ¬ bI true = 0 from n10)]
        refine ⟨false, rfl, fun hv => ?_⟩
        unfold mayB
        rw [key hv.1, decide_eq_false c]
        rfl
def RWr (W : Nat → Nat → Nat) (M : Mem) : Prop := ∀ j, j < 81 → M.2 15 j = nL (W (j / 9) (j % 9))
def tR (B : Bd) (g : Nat) (W : Nat → Nat → Nat) (k j : Nat) : Nat := sumN (fun a => if (9 * (j % 9) + a) * bn B + j / 9 < k then cW B g W a (j % 9) (j / 9) else 0) 9
theorem dm_iff {x d n k : Nat} (hd : d < n) : x * n + d = k ↔ x = k / n ∧ d = k % n := by
  constructor
  · rintro rfl
    exact ⟨by rw [Nat.mul_comm, Nat.mul_add_div (by omega), Nat.div_eq_of_lt hd, Nat.add_zero], by rw [Nat.mul_comm, Nat.mul_add_mod, Nat.mod_eq_of_lt hd]⟩
  · rintro ⟨rfl, rfl⟩
    rw [Nat.mul_comm]
    exact Nat.div_add_mod k n
theorem tR_s {B : Bd} {g k : Nat} {W : Nat → Nat → Nat} (h0 : 0 < bn B) : ∀ j, j < 81 → tR B g W (k + 1) j = if j = 9 * (k % bn B) + k / bn B / 9 ∧ k / bn B < 81 then tR B g W k j + cW B g W (k / bn B % 9) (k / bn B / 9) (k % bn B) else tR B g W k j := by
  intro j hj
  have hm := Nat.mod_lt k h0
  unfold tR
  by_cases cv : j / 9 < bn B
  · by_cases c : j = 9 * (k % bn B) + k / bn B / 9 ∧ k / bn B < 81
    · rw [if_pos c]
      obtain ⟨c1, c2⟩ := c
      have hz1 := Nat.zero_le (k / bn B)
      have hz2 := Nat.zero_le (k % bn B)
      have e1 : j % 9 = k / bn B / 9 := by omega
      have e2 : j / 9 = k % bn B := by omega
      rw [e1, e2]
      have eq : (9 * (k / bn B / 9) + k / bn B % 9) * bn B + k % bn B = k := (dm_iff hm).mpr ⟨by omega, rfl⟩
      refine sumN_one (x := k / bn B % 9) ?_ (fun a ha => ?_) 9 (Nat.mod_lt _ (by decide))
      · rw [if_pos (by omega), if_neg (by omega)]
        omega
      · have : ¬ (9 * (k / bn B / 9) + a) * bn B + k % bn B = k := fun q => by
          have := ((dm_iff hm).mp q).1
          omega
        by_cases z : (9 * (k / bn B / 9) + a) * bn B + k % bn B < k
        · rw [if_pos (by omega), if_pos z]
        · rw [if_neg (by omega), if_neg z]
    · rw [if_neg c]
      refine sumN_cong _ (fun a ha => ?_)
      have : ¬ (9 * (j % 9) + a) * bn B + j / 9 = k := fun q => by
        have := (dm_iff cv).mp q
        omega
      by_cases z : (9 * (j % 9) + a) * bn B + j / 9 < k
      · rw [if_pos (by omega), if_pos z]
      · rw [if_neg (by omega), if_neg z]
  · have hz : ∀ a, cW B g W a (j % 9) (j / 9) = 0 := fun a => by
      unfold cW
      rw [if_neg (fun q => cv q.1)]
    have h1 : ∀ k, sumN (fun a => if (9 * (j % 9) + a) * bn B + j / 9 < k then cW B g W a (j % 9) (j / 9) else 0) 9 = 0 := fun k => sumN_zero _ (fun a _ => by rw [hz]; split <;> rfl)
    rw [h1, h1]
    split
    · next c =>
      exfalso
      omega
    · rfl
def LGr (B : Bd) (g : Nat) (W : Nat → Nat → Nat) (k : Nat) (M : Mem) : Prop := ∀ j, j < 81 → M.2 16 j = nL (tR B g W k j)
theorem sgR_cp {B : Bd} {m g i : Nat} {W : Nat → Nat → Nat} {M0 : Mem} (k79 : Int32 → Int32 → Int32 → Mem → Option (Int64 × Mem)) (Q : Int64 × Mem → Prop) :
    ∀ (k c fuel : Nat) (M : Mem), c + k = 81 → k < fuel → M.1 = M0.1 → (∀ j, j < 81 → M.2 16 j = nL (W (j / 9) (j % 9))) → (∀ j, j < c → M.2 15 j = nL (W (j / 9) (j % 9))) →
    (∀ M', M'.1 = M0.1 → RWr W M' → ok (k79 (nI m) (nI g) (nI (i + 1)) M') Q) → ok (f_X12_songs_b197 k79 fuel (nI m) (nI g) (nI i) (nI c) M) Q := by
  intro k
  induction k with
  | zero =>
    intro c fuel M hi hf h1 h16 h15 hk
    obtain ⟨f, rfl⟩ : ∃ f, fuel = f + 1 := ⟨fuel - 1, by omega⟩
    obtain rfl : c = 81 := by omega
    unfold f_X12_songs_b197
    rw [nI_1]
    exact ok_pos (by decide) (hk M h1 h15)
  | succ k ih =>
    intro c fuel M hi hf h1 h16 h15 hk
    obtain ⟨f, rfl⟩ : ∃ f, fuel = f + 1 := ⟨fuel - 1, by omega⟩
    unfold f_X12_songs_b197
    refine ok_neg (show ¬ 81 ≤ nI c from nI_ge (b := 81) (by omega) (by decide)) ?_
    refine ok_ldL (by omega) (by decide) (h16 c (by omega)) (ok_stL (by omega) (by decide) ?_)
    rw [nI_1]
    refine ih (c + 1) f _ (by omega) (by omega) h1 (fun j hj => by rw [wL_other (by decide)]; exact h16 j hj) (fun j hj => ?_) hk
    rw [wL_at]
    by_cases z : j = c
    · rw [if_pos ⟨rfl, z⟩, z]
    · rw [if_neg (by omega)]; exact h15 j (by omega)
theorem sgR_in {B : Bd} {m g i : Nat} {W : Nat → Nat → Nat} {M0 : Mem} (hw : wfB B) (hb : brdR B M0) (hg : g ≤ 2) (hv : ∀ l a, ¬ (vld B l ∧ vld B a) → W l a = 0) (k79 : Int32 → Int32 → Int32 → Mem → Option (Int64 × Mem)) (Q : Int64 × Mem → Prop) :
    ∀ (k c fuel : Nat) (M : Mem), c + k = 81 * bn B → k < fuel → M.1 = M0.1 → RWr W M → LGr B g W c M →
    (∀ M', M'.1 = M0.1 → RWr (nxW B g W) M' → ok (k79 (nI m) (nI g) (nI (i + 1)) M') Q) → ok (f_X12_songs_b112 k79 fuel (nI m) (nI g) (nI i) (nI c) M) Q := by
  have hn := hw.2.2.1
  intro k
  induction k with
  | zero =>
    intro c fuel M hi hf h1 h15 h16 hk
    obtain ⟨f, rfl⟩ : ∃ f, fuel = f + 1 := ⟨fuel - 1, by omega⟩
    have h5 : M.1 0 5 = nI (bn B) := by rw [h1]; exact hb.1
    unfold f_X12_songs_b112
    rw [h5, l_81, pk_mul]
    refine ok_pos (nI_le (by omega) (by omega)) ?_
    refine sgR_cp (B := B) (W := nxW B g W) (M0 := M0) k79 Q 81 0 FU M (by omega) (FU_big (by omega)) h1 (fun j hj => ?_) (fun j hj => by omega) hk
    rw [h16 j hj]
    congr 1
    unfold tR nxW
    refine sumN_cong _ (fun a ha => ?_)
    by_cases cv : j / 9 < bn B
    · rw [if_pos]
      have : (9 * (j % 9) + a) * bn B ≤ 80 * bn B := Nat.mul_le_mul_right _ (by omega)
      omega
    · have hz : cW B g W a (j % 9) (j / 9) = 0 := by
        unfold cW
        exact if_neg (fun q => cv q.1)
      rw [hz]
      split <;> rfl
  | succ k ih =>
    intro c fuel M hi hf h1 h15 h16 hk
    obtain ⟨f, rfl⟩ : ∃ f, fuel = f + 1 := ⟨fuel - 1, by omega⟩
    have h5 : M.1 0 5 = nI (bn B) := by rw [h1]; exact hb.1
    have hbM : brdR B M := by unfold brdR at *; rw [h1]; exact hb
    have h0 : 0 < bn B := by
      rcases Nat.eq_zero_or_pos (bn B) with z | z
      · rw [z] at hi; omega
      · exact z
    have hs : c / bn B < 81 := (Nat.div_lt_iff_lt_mul h0).mpr (by omega)
    have hm := Nat.mod_lt c h0
    unfold f_X12_songs_b112
    rw [h5, l_81, pk_mul]
    refine ok_neg (nI_ge (by omega) (by omega)) ?_
    rw [dvI_n (by omega) h0 (by omega), Option.bind_some, rmI_n (by omega) h0 (by omega), Option.bind_some, l_9, nI_div (by omega) (by decide) (by decide), nI_rm (by omega) (by decide) (by decide), nI_1]
    obtain ⟨b, e, hbv⟩ := mayR (g := g) (l := c / bn B / 9) (a := c / bn B % 9) hw hbM hm (by omega) (by omega) hg
    rw [e, Option.bind_some, pk_mul, nI_add]
    have ts := tR_s (B := B) (g := g) (k := c) (W := W) h0
    have val : cW B g W (c / bn B % 9) (c / bn B / 9) (c % bn B) = if b = true then W (c / bn B / 9) (c / bn B % 9) else 0 := by
      by_cases z : vld B (c / bn B / 9) ∧ vld B (c / bn B % 9)
      · rw [hbv z]
        unfold cW
        by_cases y : mayB B g (c % bn B) (c / bn B / 9) (c / bn B % 9) = true
        · rw [if_pos ⟨hm, y⟩, if_pos y]
        · rw [if_neg (fun q => y q.2), if_neg y]
      · unfold cW
        rw [hv _ _ z]
        split <;> split <;> rfl
    cases b with
    | false =>
      refine ok_pos rfl (ih (c + 1) f M (by omega) (by omega) h1 h15 (fun j hj => ?_) hk)
      rw [if_neg (show ¬ false = true by decide)] at val
      rw [ts j hj, val, Nat.add_zero]
      split <;> exact h16 j hj
    | true =>
      refine ok_neg n10 ?_
      refine ok_ldL (by omega) (by decide) (h16 _ (by omega)) ?_
      refine ok_ldL (by omega) (by decide) (h15 _ hs) ?_
      refine ok_stL (by omega) (by decide) ?_
      rw [nL_add]
      refine ih (c + 1) f _ (by omega) (by omega) h1 (fun j hj => by rw [wL_other (by decide)]; exact h15 j hj) (fun j hj => ?_) hk
      rw [ts j hj, val, if_pos rfl, wL_at]
      by_cases z : j = 9 * (c % bn B) + c / bn B / 9
      · rw [if_pos ⟨rfl, z⟩, if_pos ⟨z, hs⟩, ← z]
      · rw [if_neg (by omega), if_neg (by omega)]; exact h16 j hj
theorem sgR_z {B : Bd} {m g i : Nat} {W : Nat → Nat → Nat} {M0 : Mem} (hw : wfB B) (hb : brdR B M0) (hg : g ≤ 2) (hv : ∀ l a, ¬ (vld B l ∧ vld B a) → W l a = 0) (k79 : Int32 → Int32 → Int32 → Mem → Option (Int64 × Mem)) (Q : Int64 × Mem → Prop) :
    ∀ (k c fuel : Nat) (M : Mem), c + k = 81 → k < fuel → M.1 = M0.1 → RWr W M → (∀ j, j < c → M.2 16 j = 0) →
    (∀ M', M'.1 = M0.1 → RWr (nxW B g W) M' → ok (k79 (nI m) (nI g) (nI (i + 1)) M') Q) → ok (f_X12_songs_b88 k79 fuel (nI m) (nI g) (nI i) (nI c) M) Q := by
  have hn := hw.2.2.1
  intro k
  induction k with
  | zero =>
    intro c fuel M hi hf h1 h15 h16 hk
    obtain ⟨f, rfl⟩ : ∃ f, fuel = f + 1 := ⟨fuel - 1, by omega⟩
    obtain rfl : c = 81 := by omega
    unfold f_X12_songs_b88
    refine ok_pos (by decide) ?_
    refine sgR_in (M0 := M0) (W := W) hw hb hg hv k79 Q (81 * bn B) 0 FU M (by omega) (FU_big (by omega)) h1 h15 (fun j hj => ?_) hk
    rw [h16 j hj]
    unfold tR
    rw [sumN_zero _ (fun a _ => if_neg (by omega))]
    rfl
  | succ k ih =>
    intro c fuel M hi hf h1 h15 h16 hk
    obtain ⟨f, rfl⟩ : ∃ f, fuel = f + 1 := ⟨fuel - 1, by omega⟩
    unfold f_X12_songs_b88
    refine ok_neg (show ¬ 81 ≤ nI c from nI_ge (b := 81) (by omega) (by decide)) ?_
    refine ok_stL (by omega) (by decide) ?_
    rw [nI_1]
    refine ih (c + 1) f _ (by omega) (by omega) h1 (fun j hj => by rw [wL_other (by decide)]; exact h15 j hj) (fun j hj => ?_) hk
    rw [wL_at]
    by_cases z : j = c
    · rw [if_pos ⟨rfl, z⟩]
    · rw [if_neg (by omega)]; exact h16 j (by omega)
theorem sgS_R {h : Nat → Nat} {M : Mem} (hM : ∀ j, j < 81 → M.2 15 j = nL (h j)) : ∀ (k i fuel : Nat), i + k = 81 → k < fuel → f_X12_songs_b236 fuel (nL (sumN h i)) (nI i) M = some (nL (sumN h 81), M) := by
  intro k
  induction k with
  | zero =>
    intro i fuel hi hf
    obtain ⟨f, rfl⟩ : ∃ f, fuel = f + 1 := ⟨fuel - 1, by omega⟩
    obtain rfl : i = 81 := by omega
    unfold f_X12_songs_b236
    rw [if_pos (by decide)]
  | succ k ih =>
    intro i fuel hi hf
    obtain ⟨f, rfl⟩ : ∃ f, fuel = f + 1 := ⟨fuel - 1, by omega⟩
    unfold f_X12_songs_b236
    rw [if_neg (show ¬ 81 ≤ nI i from nI_ge (b := 81) (by omega) (by decide)), ldL_n (by omega) (by decide), hM i (by omega), Option.bind_some, nL_add, nI_1]
    exact ih (i + 1) f (by omega) (by omega)
theorem sgR {B : Bd} {g m : Nat} {M0 : Mem} (hw : wfB B) (hb : brdR B M0) (hg : g ≤ 2) (hm : m ≤ 8) : ∀ (k i fuel : Nat) (M : Mem), i + k = m → k < fuel → M.1 = M0.1 → RWr (Wn B g i) M →
    ok2 (f_X12_songs_b79 fuel (nI m) (nI g) (nI i) M) (fun x M' => x = nL (sumN (fun j => Wn B g m (j / 9) (j % 9)) 81) ∧ M'.1 = M0.1) := by
  intro k
  induction k with
  | zero =>
    intro i fuel M hi hf h1 hR
    obtain ⟨f, rfl⟩ : ∃ f, fuel = f + 1 := ⟨fuel - 1, by omega⟩
    obtain rfl : i = m := by omega
    refine ok2_mk ?_
    unfold f_X12_songs_b79
    refine ok_pos (nI_le (by omega) (by omega)) ?_
    exact ok_eq (sgS_R hR 81 0 FU (by omega) (FU_big (by omega))) ⟨rfl, h1⟩
  | succ k ih =>
    intro i fuel M hi hf h1 hR
    obtain ⟨f, rfl⟩ : ∃ f, fuel = f + 1 := ⟨fuel - 1, by omega⟩
    refine ok2_mk ?_
    unfold f_X12_songs_b79
    refine ok_neg (nI_ge (by omega) (by omega)) ?_
    exact sgR_z (M0 := M0) (W := Wn B g i) hw hb hg (fun l a h => Wn_v i l a h) (f_X12_songs_b79 f) _ 81 0 FU M (by omega) (FU_big (by omega)) h1 hR (fun j hj => by omega) (fun M' g1 g2 => (ih (i + 1) f M' (by omega) (by omega) g1 g2).mono (fun x M' z => z))
theorem sgR_0 {B : Bd} {g m : Nat} {M0 : Mem} (hw : wfB B) (hb : brdR B M0) (hg : g ≤ 2) (hm : m ≤ 8) : ∀ (k c fuel : Nat) (M : Mem), c + k = 81 → k < fuel → M.1 = M0.1 → (∀ j, j < c → M.2 15 j = nL (Wn B g 0 (j / 9) (j % 9))) →
    ok2 (f_X12_songs_b44 fuel (nI m) (nI g) (nI c) M) (fun x M' => x = nL (sumN (fun j => Wn B g m (j / 9) (j % 9)) 81) ∧ M'.1 = M0.1) := by
  intro k
  induction k with
  | zero =>
    intro c fuel M hi hf h1 hR
    obtain ⟨f, rfl⟩ : ∃ f, fuel = f + 1 := ⟨fuel - 1, by omega⟩
    obtain rfl : c = 81 := by omega
    refine ok2_mk ?_
    unfold f_X12_songs_b44
    refine ok_pos (by decide) ?_
    exact (sgR hw hb hg hm m 0 FU M (by omega) (FU_big (by omega)) h1 hR).mono (fun x M' z => z)
  | succ k ih =>
    intro c fuel M hi hf h1 hR
    obtain ⟨f, rfl⟩ : ∃ f, fuel = f + 1 := ⟨fuel - 1, by omega⟩
    refine ok2_mk ?_
    unfold f_X12_songs_b44
    refine ok_neg (show ¬ 81 ≤ nI c from nI_ge (b := 81) (by omega) (by decide)) ?_
    refine ok_stL (by omega) (by decide) ?_
    rw [nI_1]
    refine (ih (c + 1) f (wL M 15 c (if nI c = 80 then 1 else 0)) (by omega) (by omega) h1 (fun j hj => ?_)).mono (fun x M' z => z)
    rw [wL_at]
    by_cases z : j = c
    · rw [if_pos ⟨rfl, z⟩]
      subst z
      show _ = nL (if j / 9 = 8 ∧ j % 9 = 8 then 1 else 0)
      by_cases y : j = 80
      · subst y; rfl
      · rw [if_neg (show ¬ nI j = 80 from fun q => y (nI_e (b := 80) (by omega) (by decide) q)), if_neg (by omega)]
        rfl
    · rw [if_neg (by omega)]; exact hR j (by omega)
theorem sumN_swap (f : Nat → Nat → Nat) (m : Nat) : ∀ n, sumN (fun i => sumN (fun j => f i j) m) n = sumN (fun j => sumN (fun i => f i j) n) m := by
  intro n
  induction n with
  | zero => exact (sumN_zero m (fun _ _ => rfl)).symm
  | succ n ih =>
    show sumN (fun i => sumN (fun j => f i j) m) n + sumN (fun j => f n j) m = sumN (fun j => sumN (fun i => f i j) n + f n j) m
    rw [ih, sumN_add]
theorem tot81 (W : Nat → Nat → Nat) : sumN (fun j => W (j % 9) (j / 9)) 81 = sumN (fun j => W (j / 9) (j % 9)) 81 := by
  have h1 := sumN_mul (fun j => W (j % 9) (j / 9)) 9 9
  have h2 := sumN_mul (fun j => W (j / 9) (j % 9)) 9 9
  have e1 : sumN (fun d => sumN (fun c => W ((c * 9 + d) % 9) ((c * 9 + d) / 9)) 9) 9 = sumN (fun d => sumN (fun c => W d c) 9) 9 :=
    sumN_cong _ (fun d hd => sumN_cong _ (fun c hc => by rw [show (c * 9 + d) % 9 = d by omega, show (c * 9 + d) / 9 = c by omega]))
  have e2 : sumN (fun d => sumN (fun c => W ((c * 9 + d) / 9) ((c * 9 + d) % 9)) 9) 9 = sumN (fun d => sumN (fun c => W c d) 9) 9 :=
    sumN_cong _ (fun d hd => sumN_cong _ (fun c hc => by rw [show (c * 9 + d) % 9 = d by omega, show (c * 9 + d) / 9 = c by omega]))
  exact h1.trans (e1.trans ((sumN_swap W 9 9).trans (e2.symm.trans h2.symm)))
theorem agR.of1 {M M' : Mem} (h : M'.1 = M.1) : agR M M' := by
  refine ⟨fun i _ => ?_, fun k _ => by rw [h], fun r _ => by rw [h], fun j _ => by rw [h]⟩
  unfold bv
  rw [h]
theorem sim_songs {MC MR : Mem} (h : Inv MC MR) (a b : Int32) : Sim (f_X11_songs a b MC) (f_X12_songs a b MR) := by
  obtain ⟨B, im, S, lt, rw', hw, hC, hR, hf⟩ := id h
  unfold f_X11_songs f_X12_songs f_X12_songs_b30
  simp only [bind_bp]
  have n46 : ¬ (-4 : Int32) = 0 := by decide
  have n66 : ¬ (-6 : Int32) = 0 := by decide
  rcases i_cases a with ha | ⟨m, hm, rfl⟩
  · rw [if_pos ha, if_pos ha, if_neg n46]; exact Sim.noL h 4 (by decide) _ (by decide)
  rw [if_neg (nI_pos hm), if_neg (nI_pos hm)]
  rcases i_cases b with hb | ⟨g, hg, rfl⟩
  · rw [if_neg (show ¬ 0 ≤ b from i_neg_nle hb (n := 0) (by decide)), if_neg (show ¬ 0 ≤ b from i_neg_nle hb (n := 0) (by decide)), if_neg n46]; exact Sim.noL h 4 (by decide) _ (by decide)
  rw [if_pos (show 0 ≤ nI g from nI_pos' hg), if_pos (show 0 ≤ nI g from nI_pos' hg)]
  by_cases c : 8 < m
  · rw [if_pos (show 8 < nI m from nI_lt (a := 8) c hm), if_pos (show 8 < nI m from nI_lt (a := 8) c hm), if_neg n66]; exact Sim.noL h 6 (by decide) _ (by decide)
  rw [if_neg (show ¬ 8 < nI m from fun q => c ((nI_ltI (a := 8) (by decide) hm).mp q)), if_neg (show ¬ 8 < nI m from fun q => c ((nI_ltI (a := 8) (by decide) hm).mp q))]
  by_cases c2 : g ≤ 2
  · rw [if_pos (show nI g ≤ 2 from nI_le (b := 2) c2 (by decide)), if_pos (show nI g ≤ 2 from nI_le (b := 2) c2 (by decide)), if_pos p00]
    refine Sim.q h (nL (sumN (fun j => Wn B g m (j / 9) (j % 9)) 81)) (ok2_mk ?_) ((sgR_0 hw.1 hR.1 c2 (by omega) 81 0 FU MR (by omega) (FU_big (by omega)) rfl (fun j hj => by omega)).mono2 (fun x M' z => ⟨z.1, agR.of1 z.2⟩))
    unfold f_X2_songRows
    refine ok_bind (open_ok hw.1 hC.1) (fun M1 ⟨h1, f1⟩ => ?_)
    refine ok_bind (fillL_ok (by decide)) (fun M2 ⟨g1, g2, g3⟩ => ?_)
    rw [l_80]
    refine ok_stL (by decide) (by decide) ?_
    have hb2 : brdC 1 B (wL M2 39 80 1) := h1.1.cong (fun r _ _ => by show M2.1 r = _; rw [g2])
    have hA2 : RA B (wL M2 39 80 1) := h1.2.1.fr (by show M2.1 26 = _; rw [g2])
    refine (sgC hw.1 hb2 hA2 c2 (by omega) m 0 FU (wL M2 39 80 1) (by omega) (FU_big (by omega)) rfl (fun j hj => ?_)).mono (fun x M' z => ⟨z.1.trans (by rw [tot81]), (f1.q (by decide)).tr (fun r _ => ?_)⟩)
    · rw [wL_at]
      show _ = nL (if j % 9 = 8 ∧ j / 9 = 8 then 1 else 0)
      by_cases y : j = 80
      · subst y; rfl
      · rw [if_neg (by omega), if_neg (by omega), g1 j hj]; rfl
    · rw [z.2]
      show M2.1 r = _
      rw [g2]
  · rw [if_neg (show ¬ nI g ≤ 2 from nI_ge (a := 2) (by omega) hg), if_neg (show ¬ nI g ≤ 2 from nI_ge (a := 2) (by omega) hg), if_neg n66]; exact Sim.noL h 6 (by decide) _ (by decide)
