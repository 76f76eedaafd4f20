/-- the sort of a byte: 5 blank, 1 letter, 2 figure, 3 sign, 4 none -/
def kdB (b : Nat) : Nat := if b = 32 ∨ b = 10 then 5 else if 97 ≤ b ∧ b ≤ 122 then 1 else if 48 ≤ b ∧ b ≤ 57 then 2 else if b = 59 then 3 else 4
/-- the first place from b on that is the end or where Q fails -/
def stp (p : Tp) (Q : Nat → Bool) (b : Nat) : Nat := b + (ufst (fun k => decide (p.1 ≤ b + k) || !Q (p.2 (b + k))) (p.1 + 1)).getD 0
theorem stp_is {p : Tp} {Q : Nat → Bool} {b i : Nat} (h1 : b ≤ i) (h2 : i ≤ p.1) (h3 : ∀ x, b ≤ x → x < i → Q (p.2 x) = true) (h4 : i < p.1 → Q (p.2 i) = false) : stp p Q b = i := by
  unfold stp
  rw [ufst_is (k := i - b) ?_ (fun k hk => ?_) (by omega)]
  · show b + (i - b) = i; omega
  · show (decide (p.1 ≤ b + (i - b)) || !Q (p.2 (b + (i - b)))) = true
    rw [show b + (i - b) = i by omega]
    by_cases h : i < p.1
    · rw [h4 h, Bool.not_false, Bool.or_true]
    · rw [decide_eq_true (by omega)]; rfl
  · show (decide (p.1 ≤ b + k) || !Q (p.2 (b + k))) = false
    rw [decide_eq_false (by omega), h3 (b + k) (by omega) (by omega)]
    rfl
theorem stp_sp {p : Tp} {Q : Nat → Bool} {b : Nat} (hb : b ≤ p.1) : b ≤ stp p Q b ∧ stp p Q b ≤ p.1 ∧ (∀ x, b ≤ x → x < stp p Q b → Q (p.2 x) = true) ∧ (stp p Q b < p.1 → Q (p.2 (stp p Q b)) = false) := by
  unfold stp
  cases e : ufst (fun k => decide (p.1 ≤ b + k) || !Q (p.2 (b + k))) (p.1 + 1) with
  | none =>
    have := ufst_none e (p.1 - b) (by omega)
    rw [decide_eq_true (by omega)] at this
    cases this
  | some k =>
    obtain ⟨h1, h2, h3⟩ := ufst_some e
    have hk : b + k ≤ p.1 := by
      by_cases q : k ≤ p.1 - b
      · omega
      · have := h3 (p.1 - b) (by omega)
        rw [decide_eq_true (by omega)] at this
        cases this
    refine ⟨Nat.le_add_right _ _, hk, fun x hx1 hx2 => ?_, fun hl => ?_⟩
    · have hx2 : x < b + k := hx2
      have := h3 (x - b) (by omega)
      rw [show b + (x - b) = x by omega, decide_eq_false (by omega)] at this
      cases q : Q (p.2 x) with
      | true => rfl
      | false => rw [q] at this; cases this
    · have hl : b + k < p.1 := hl
      show Q (p.2 (b + k)) = false
      rw [decide_eq_false (by omega)] at h2
      cases q : Q (p.2 (b + k)) with
      | false => rfl
      | true => rw [q] at h2; cases h2
def isK (s b : Nat) : Bool := decide (kdB b = s)
theorem isK_t {s b : Nat} : isK s b = true ↔ kdB b = s := decide_eq_true_iff
theorem isK_f {s b : Nat} : isK s b = false ↔ ¬ kdB b = s := decide_eq_false_iff_not
/-- where a token that begins at i ends -/
def tkE (p : Tp) (i : Nat) : Nat := if kdB (p.2 i) = 1 ∨ kdB (p.2 i) = 2 then stp p (isK (kdB (p.2 i))) (i + 1) else i + 1
/-- where the j-th token is looked for; where it begins -/
def cP (p : Tp) : Nat → Nat
  | 0 => 0
  | j + 1 => if stp p (isK 5) (cP p j) < p.1 then tkE p (stp p (isK 5) (cP p j)) else stp p (isK 5) (cP p j)
def tkS (p : Tp) (j : Nat) : Nat := stp p (isK 5) (cP p j)
/-- all tokens ahead of the j-th are tokens -/
def live (p : Tp) (j : Nat) : Prop := ∀ i, i < j → tkS p i < p.1
theorem cP_s {p : Tp} {j : Nat} (h : tkS p j < p.1) : cP p (j + 1) = tkE p (tkS p j) := if_pos h
theorem tkE_lt {p : Tp} {i : Nat} (h : i < p.1) : i < tkE p i ∧ tkE p i ≤ p.1 := by
  unfold tkE
  by_cases q : kdB (p.2 i) = 1 ∨ kdB (p.2 i) = 2
  · rw [if_pos q]
    have := stp_sp (p := p) (Q := isK (kdB (p.2 i))) (b := i + 1) (by omega)
    omega
  · rw [if_neg q]; omega
theorem cP_le {p : Tp} : ∀ {j : Nat}, cP p j ≤ p.1 := by
  intro j
  induction j with
  | zero => exact Nat.zero_le _
  | succ j ih =>
    rw [cP]
    have h1 := (stp_sp (p := p) (Q := isK 5) ih).2.1
    by_cases q : stp p (isK 5) (cP p j) < p.1
    · rw [if_pos q]; exact (tkE_lt q).2
    · rw [if_neg q]; exact h1
theorem tkS_sp {p : Tp} {j : Nat} : cP p j ≤ tkS p j ∧ tkS p j ≤ p.1 := by
  have := stp_sp (p := p) (Q := isK 5) (b := cP p j) cP_le
  exact ⟨this.1, this.2.1⟩
theorem live_le {p : Tp} {j : Nat} (h : live p j) : j ≤ cP p j := by
  induction j with
  | zero => exact Nat.zero_le _
  | succ j ih =>
    have h1 := ih (fun i hi => h i (by omega))
    have h2 := h j (Nat.lt_succ_self j)
    rw [cP_s h2]
    have h3 := (tkE_lt h2).1
    have h4 := (tkS_sp (p := p) (j := j)).1
    omega
theorem live_s {p : Tp} {j : Nat} (h : live p j) (h1 : tkS p j < p.1) : live p (j + 1) := fun i hi => by
  by_cases e : i = j
  · rw [e]; exact h1
  · exact h i (by omega)
theorem live_400 {p : Tp} {j : Nat} (h : live p j) (hp : wfP p) : j ≤ 400 := by
  have h1 := live_le h
  have h2 := cP_le (p := p) (j := j)
  have := hp.1
  omega
/-- the figures' number; the name -/
def dgV (p : Tp) (s : Nat) : Nat → Nat
  | 0 => 0
  | k + 1 => 10 * dgV p s k + (p.2 (s + k) - 48)
def spB (p : Tp) (s n k : Nat) : Bool := decide (am_lens.getD k 0 = n) && al (fun i => decide (jB k i = p.2 (s + i))) (am_lens.getD k 0)
def nmO (p : Tp) (s n : Nat) : Option Nat := ufst (spB p s n) 11
def nlI (o : Option Nat) : Int32 := match o with
  | none => -1
  | some k => nI k
def tkL (p : Tp) (j : Nat) : Nat := tkE p (tkS p j) - tkS p j
/-- a token's sort: 0 the end, 1 a name, 2 a number, 3 the sign, 4 none -/
def tkC (p : Tp) (j : Nat) : Nat := if tkS p j < p.1 then (if kdB (p.2 (tkS p j)) = 2 ∧ 3 < tkL p j then 4 else kdB (p.2 (tkS p j))) else 0
def tkVI (p : Tp) (j : Nat) : Int32 := if tkS p j < p.1 then (if kdB (p.2 (tkS p j)) = 1 then nlI (nmO p (tkS p j) (tkL p j)) else if kdB (p.2 (tkS p j)) = 2 then nI (dgV p (tkS p j) (min (tkL p j) 3)) else -1) else -1
theorem kdB_le {b : Nat} : kdB b ≤ 5 ∧ 1 ≤ kdB b := by
  unfold kdB
  split
  · omega
  · split
    · omega
    · split
      · omega
      · split <;> omega
theorem tkS_nb {p : Tp} {j : Nat} (h : tkS p j < p.1) : kdB (p.2 (tkS p j)) ≠ 5 := isK_f.mp ((stp_sp (p := p) (Q := isK 5) (b := cP p j) cP_le).2.2.2 h)
theorem tkC_le {p : Tp} {j : Nat} : tkC p j ≤ 4 := by
  unfold tkC
  by_cases h : tkS p j < p.1
  · rw [if_pos h]
    have h1 := tkS_nb h
    have h2 := (kdB_le (b := p.2 (tkS p j))).1
    split <;> omega
  · rw [if_neg h]; omega
theorem tkC_live {p : Tp} {j : Nat} (h : tkC p j ≠ 0) : tkS p j < p.1 := by
  by_cases q : tkS p j < p.1
  · exact q
  · exact absurd (if_neg q) h
theorem tkC_0 {p : Tp} {j : Nat} : tkC p j = 0 ↔ ¬ tkS p j < p.1 := by
  refine ⟨fun h q => ?_, fun h => if_neg h⟩
  unfold tkC at h
  rw [if_pos q] at h
  have := (kdB_le (b := p.2 (tkS p j))).2
  split at h <;> omega
/-- it is that name -/
abbrev isNm (p : Tp) (k j : Nat) : Prop := tkC p j = 1 ∧ tkVI p j = nI k
def numV (p : Tp) (j : Nat) : Nat := dgV p (tkS p j) (tkL p j)
theorem dgV_le {p : Tp} {s : Nat} (h : ∀ i, s ≤ i → i < s + 3 → p.2 i - 48 ≤ 9) : dgV p s 0 = 0 ∧ dgV p s 1 ≤ 9 ∧ dgV p s 2 ≤ 99 ∧ dgV p s 3 ≤ 999 := by
  have h0 := h s (by omega) (by omega)
  have h1 := h (s + 1) (by omega) (by omega)
  have h2 := h (s + 2) (by omega) (by omega)
  have e0 : dgV p s 0 = 0 := rfl
  have e1 : dgV p s 1 = 10 * dgV p s 0 + (p.2 (s + 0) - 48) := rfl
  have e2 : dgV p s 2 = 10 * dgV p s 1 + (p.2 (s + 1) - 48) := rfl
  have e3 : dgV p s 3 = 10 * dgV p s 2 + (p.2 (s + 2) - 48) := rfl
  rw [Nat.add_zero] at e1
  omega
theorem kd_2 {b : Nat} (h : kdB b = 2) : 48 ≤ b ∧ b ≤ 57 := by
  unfold kdB at h
  split at h
  · omega
  · split at h
    · omega
    · split at h
      · assumption
      · split at h <;> omega
theorem kd_1 {b : Nat} (h : kdB b = 1) : 97 ≤ b ∧ b ≤ 122 := by
  unfold kdB at h
  split at h
  · omega
  · split at h
    · assumption
    · split at h
      · omega
      · split at h <;> omega
/-- all bytes of a run are of one sort -/
theorem tkE_run {p : Tp} {i x : Nat} (h : i < p.1) (h1 : i ≤ x) (h2 : x < tkE p i) : kdB (p.2 x) = kdB (p.2 i) := by
  by_cases e : x = i
  · rw [e]
  · unfold tkE at h2
    by_cases q : kdB (p.2 i) = 1 ∨ kdB (p.2 i) = 2
    · rw [if_pos q] at h2
      exact isK_t.mp ((stp_sp (p := p) (Q := isK (kdB (p.2 i))) (b := i + 1) (by omega)).2.2.1 x (by omega) h2)
    · rw [if_neg q] at h2; omega
theorem tkC_2 {p : Tp} {j : Nat} (h : tkC p j = 2) : tkS p j < p.1 ∧ kdB (p.2 (tkS p j)) = 2 ∧ tkL p j ≤ 3 ∧ 1 ≤ tkL p j ∧ numV p j ≤ 999 ∧ tkVI p j = nI (numV p j) := by
  have hl := tkC_live (p := p) (j := j) (by omega)
  unfold tkC at h
  rw [if_pos hl] at h
  by_cases q : kdB (p.2 (tkS p j)) = 2 ∧ 3 < tkL p j
  · rw [if_pos q] at h; omega
  · rw [if_neg q] at h
    have h3 : tkL p j ≤ 3 := by omega
    have h1 : 1 ≤ tkL p j := by have := (tkE_lt hl).1; unfold tkL; omega
    refine ⟨hl, h, h3, h1, ?_, ?_⟩
    · have hd : ∀ k, k < tkL p j → p.2 (tkS p j + k) - 48 ≤ 9 := fun k hk => by
        have := kd_2 ((tkE_run (x := tkS p j + k) hl (by omega) (by unfold tkL at hk; omega)).trans h)
        omega
      have h0 := hd 0 (by omega)
      unfold numV
      have e1 : dgV p (tkS p j) 1 = 10 * dgV p (tkS p j) 0 + (p.2 (tkS p j + 0) - 48) := rfl
      have e0 : dgV p (tkS p j) 0 = 0 := rfl
      have e2 : dgV p (tkS p j) 2 = 10 * dgV p (tkS p j) 1 + (p.2 (tkS p j + 1) - 48) := rfl
      have e3 : dgV p (tkS p j) 3 = 10 * dgV p (tkS p j) 2 + (p.2 (tkS p j + 2) - 48) := rfl
      have hc : tkL p j = 1 ∨ tkL p j = 2 ∨ tkL p j = 3 := by omega
      rcases hc with hc | hc | hc
      · rw [hc]; omega
      · have h2 := hd 1 (by omega)
        rw [hc]; omega
      · have h2 := hd 1 (by omega)
        have h4 := hd 2 (by omega)
        rw [hc]; omega
    · unfold tkVI numV
      rw [if_pos hl, if_neg (by omega), if_pos h, Nat.min_eq_left h3]
theorem tkC_1 {p : Tp} {j : Nat} (h : tkC p j = 1) : tkS p j < p.1 ∧ kdB (p.2 (tkS p j)) = 1 ∧ tkVI p j = nlI (nmO p (tkS p j) (tkL p j)) := by
  have hl := tkC_live (p := p) (j := j) (by omega)
  unfold tkC at h
  rw [if_pos hl] at h
  by_cases q : kdB (p.2 (tkS p j)) = 2 ∧ 3 < tkL p j
  · rw [if_pos q] at h; omega
  · rw [if_neg q] at h
    refine ⟨hl, h, ?_⟩
    unfold tkVI
    rw [if_pos hl, if_pos h]
/-- the tokens as the class has cut them -/
def tokC (σ : am_S) (p : Tp) : Prop := ∀ j, live p j → σ 7 j = nI (tkS p j) ∧ σ 8 j = nI (tkC p j) ∧ σ 9 j = tkVI p j
