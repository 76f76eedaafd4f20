def fW (o : Option Nat) : Nat := match o with
  | none => 0
  | some j => j + 1
def zW (z : Bool) : Nat := match z with
  | true => 1
  | false => 0
def cdW (w : Wk) : Nat := 14 * w.1 + 2 * fW w.2.1 + zW w.2.2
def deW (s : Nat) : Wk := (s / 14, if s % 14 / 2 = 0 then none else some (s % 14 / 2 - 1), decide (s % 2 = 1))
theorem zW_lt {z : Bool} : zW z < 2 := by cases z <;> decide
theorem deW_cdW {w : Wk} (h : ∀ j, w.2.1 = some j → j < 6) : deW (cdW w) = w := by
  obtain ⟨c, o, z⟩ := w
  have hf : fW o < 7 := by
    cases o with
    | none => exact Nat.zero_lt_succ _
    | some j => have := h j rfl; show j + 1 < 7; omega
  have hz := zW_lt (z := z)
  have e0 : cdW (c, o, z) = 14 * c + 2 * fW o + zW z := rfl
  have e1 : cdW (c, o, z) / 14 = c := by omega
  have e2 : cdW (c, o, z) % 14 / 2 = fW o := by omega
  have e3 : cdW (c, o, z) % 2 = zW z := by omega
  unfold deW
  rw [e1, e2, e3]
  cases o <;> cases z <;> rfl
theorem wfW_6 {t : Tn} {w : Wk} (hw : wfT t) (hW : wfW t w) : ∀ j, w.2.1 = some j → j < 6 := fun j hj => by
  have h1 := hW.2 j hj
  have h2 := (hw.2.2 w.1 hW.1).2.2.2.1
  omega
theorem cdW_lt {t : Tn} {w : Wk} (hw : wfT t) (hW : wfW t w) : cdW w < 112 := by
  have h6 := wfW_6 hw hW
  have h8 := hw.1
  have h1 := hW.1
  have hf : fW w.2.1 < 7 := by
    cases e : w.2.1 with
    | none => exact Nat.zero_lt_succ _
    | some j => have := h6 j e; show j + 1 < 7; omega
  have hz := zW_lt (z := w.2.2)
  unfold cdW
  omega
def wyW (k : Nat) : Nat := if k < 12 then pwd k else k - 9
theorem wyW_isW {k : Nat} (h : k < 17) : isW (wyW k) := by
  unfold wyW pwd isW
  by_cases h1 : k < 12
  · rw [if_pos h1]
    by_cases h2 : k < 2
    · rw [if_pos h2]; omega
    · rw [if_neg h2]; omega
  · rw [if_neg h1]; omega
def nbS (t : Tn) (s k : Nat) : Option Nat := if (goW t (deW s) false false (wyW k)).1 = true then some (cdW (goW t (deW s) false false (wyW k)).2) else none
abbrev okS (t : Tn) (s : Nat) : Prop := wfW t (deW s)
theorem nbS_ok {t : Tn} {s k p : Nat} (hw : wfT t) (hs : okS t s) (h : nbS t s k = some p) : okS t p ∧ p < 112 ∧ deW p = (goW t (deW s) false false (wyW k)).2 ∧ (goW t (deW s) false false (wyW k)).1 = true := by
  unfold nbS at h
  by_cases hg : (goW t (deW s) false false (wyW k)).1 = true
  · rw [if_pos hg] at h
    cases h
    have h1 := goW_wf (img := false) (raw := false) (v := wyW k) hw hs
    have h2 := deW_cdW (wfW_6 hw h1)
    exact ⟨by rw [okS, h2]; exact h1, cdW_lt hw h1, h2, hg⟩
  · rw [if_neg hg] at h; cases h
def bE (nb : Nat → Nat → Option Nat) (s d i : Nat) : Nat → Bf → Bf
  | 0, b => b
  | k + 1, b => match nb s k with
    | none => bE nb s d i k b
    | some p => bN (bE nb s d i k b) p d i k
def bL (nb : Nat → Nat → Option Nat) (W : Nat) : Nat → Nat → Bf → Bf
  | 0, _, b => b
  | f + 1, i, b => if i < bC b then bL nb W f (i + 1) (bE nb (bQ b i) (dsB b i + 1) i W b) else b
def srB (t : Tn) (c W : Nat) : Bf := bL (nbS t) W 113 0 (bN b0 (14 * c) 0 0 0)
/-- in order; each behind one that stands before it -/
def orB (b : Bf) : Prop := (∀ j k, j ≤ k → k < bC b → dsB b j ≤ dsB b k) ∧ ∀ j, j < bC b → (j = 0 ∧ dsB b j = 0) ∨ (bP b (bQ b j) < j ∧ dsB b j = dsB b (bP b (bQ b j)) + 1)
theorem ds_old {b : Bf} {s d p w j : Nat} {N : Nat} {ok : Nat → Prop} (h : wfB N ok b) (hj : j < bC b) : dsB (bN b s d p w) j = dsB b j := by
  unfold dsB
  rw [bN_Q hj, bN_D]
  obtain ⟨-, -, e, e1, -⟩ := h.2.1 j hj
  rw [e1]; rfl
theorem orB_N {b : Bf} {s d p w : Nat} {N : Nat} {ok : Nat → Prop} (h : wfB N ok b) (ho : orB b) (hb : ∀ j, j < bC b → dsB b j ≤ d) (hp : p < bC b) (hd : d = dsB b p + 1) : orB (bN b s d p w) ∧ ∀ j, j < bC (bN b s d p w) → dsB (bN b s d p w) j ≤ d := by
  by_cases hn : (bD b s).isSome = true
  · rw [bN_old hn]; exact ⟨ho, hb⟩
  · have hnew : dsB (bN b s d p w) (bC b) = d := by
      unfold dsB
      rw [bN_new hn]
      show (va_up (bD b) s (some d) (va_up (bQ b) (bC b) s (bC b))).getD 0 = d
      rw [va_eq, va_eq]; rfl
    have hC : bC (bN b s d p w) = bC b + 1 := by rw [bN_new hn]; rfl
    refine ⟨⟨fun j k hjk hk => ?_, fun j hj => ?_⟩, fun j hj => ?_⟩
    · rw [hC] at hk
      by_cases e : k = bC b
      · rw [e, hnew]
        by_cases e2 : j = bC b
        · rw [e2, hnew]; exact Nat.le_refl _
        · rw [ds_old h (by omega)]; exact hb j (by omega)
      · rw [ds_old h (by omega), ds_old h (by omega)]; exact ho.1 j k hjk (by omega)
    · rw [hC] at hj
      by_cases e : j = bC b
      · refine Or.inr ?_
        have hq : bQ (bN b s d p w) j = s := by rw [bN_new hn, e]; exact va_eq _ _ _
        have hpp : bP (bN b s d p w) s = p := by rw [bN_new hn]; exact va_eq _ _ _
        rw [hq, hpp, e, hnew, ds_old h hp]
        exact ⟨hp, hd⟩
      · have hj2 : j < bC b := by omega
        have hq : bQ (bN b s d p w) j = bQ b j := bN_Q hj2
        have hne : bQ b j ≠ s := fun z => hn (by
          obtain ⟨-, -, e, e1, -⟩ := h.2.1 j hj2
          rw [← z, e1]; rfl)
        have hpp : bP (bN b s d p w) (bQ b j) = bP b (bQ b j) := by rw [bN_new hn]; exact va_ne _ _ hne
        rw [hq, hpp, ds_old h hj2]
        rcases ho.2 j hj2 with q | ⟨q1, q2⟩
        · exact Or.inl q
        · exact Or.inr ⟨q1, by rw [ds_old h (by omega)]; exact q2⟩
    · rw [hC] at hj
      by_cases e : j = bC b
      · rw [e, hnew]; exact Nat.le_refl _
      · rw [ds_old h (by omega)]; exact hb j (by omega)
theorem bE_wf {t : Tn} {s d i : Nat} (hw : wfT t) {b : Bf} (h : wfB 112 (okS t) b) (ho : orB b) (hs : s = bQ b i) (hi : i < bC b) (hd : d = dsB b i + 1) (hm : ∀ j, j < bC b → dsB b j ≤ d) : ∀ k, wfB 112 (okS t) (bE (nbS t) s d i k b) ∧ orB (bE (nbS t) s d i k b) ∧ (∀ j, j < bC (bE (nbS t) s d i k b) → dsB (bE (nbS t) s d i k b) j ≤ d) ∧ bC b ≤ bC (bE (nbS t) s d i k b) ∧ (∀ j, j < bC b → bQ (bE (nbS t) s d i k b) j = bQ b j ∧ dsB (bE (nbS t) s d i k b) j = dsB b j) := by
  intro k
  induction k with
  | zero => exact ⟨h, ho, hm, Nat.le_refl _, fun j hj => ⟨rfl, rfl⟩⟩
  | succ k ih =>
    obtain ⟨i1, i2, i3, i4, i5⟩ := ih
    rw [bE]
    cases e : nbS t s k with
    | none => exact ⟨i1, i2, i3, i4, i5⟩
    | some p =>
      have hso : okS t s := by rw [hs]; exact (h.2.1 i hi).2.1
      obtain ⟨o1, o2, -, -⟩ := nbS_ok hw hso e
      have hdi : d ≤ bC b := by
        have := (dsB_eq h hi).2
        omega
      have hb := orB_N (s := p) (w := k) i1 i2 i3 (show i < bC (bE (nbS t) s d i k b) by omega) (by rw [(i5 i hi).2]; exact hd)
      refine ⟨wfB_N i1 o2 o1 (by omega), hb.1, hb.2, Nat.le_trans i4 bN_C, fun j hj => ⟨?_, ?_⟩⟩
      · show bQ (bN (bE (nbS t) s d i k b) p d i k) j = bQ b j
        rw [bN_Q (by omega)]; exact (i5 j hj).1
      · show dsB (bN (bE (nbS t) s d i k b) p d i k) j = dsB b j
        rw [ds_old i1 (by omega)]; exact (i5 j hj).2
def bk (b : Bf) : Nat → Nat → Nat
  | 0, j => j
  | n + 1, j => bk b n (bP b (bQ b j))
def fstC (b : Bf) (c : Nat) : Option Nat := ufst (fun j => decide (bQ b j / 14 = c)) (bC b)
abbrev okm (k : Int32) : Prop := -1 ≤ k.toInt
def qShort (t : Tn) (c g u k : Int32) : Int32 := if okc t c ∧ okc t g ∧ okb u ∧ okm k then (match fstC (srB t (cn c) (if u = 1 then 17 else 14)) (cn g) with
  | none => -1000000
  | some j => if k = -1 then nI (dsB (srB t (cn c) (if u = 1 then 17 else 14)) j) else if k.toInt < (dsB (srB t (cn c) (if u = 1 then 17 else 14)) j : Int) then nI (wyW (bW (srB t (cn c) (if u = 1 then 17 else 14)) (bQ (srB t (cn c) (if u = 1 then 17 else 14)) (bk (srB t (cn c) (if u = 1 then 17 else 14)) (dsB (srB t (cn c) (if u = 1 then 17 else 14)) j - 1 - cn k) j)))) else -1000000) else -1000001
