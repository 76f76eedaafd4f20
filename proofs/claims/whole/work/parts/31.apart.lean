/-- where a plain word leads from a corner: 0 up, 1 down, 2.. a mark -/
def gl (t : Tn) (c w : Nat) : Option Nat := (if w = 0 then slope t c true else if w = 1 then slope t c false else markedK t c (w - 2)).map (tB t c)
theorem gl_lt {t : Tn} {c w x : Nat} (hw : wfT t) (hc : c < tN t) (h : gl t c w = some x) : x < tN t := by
  unfold gl at h
  obtain ⟨k, hk, rfl⟩ := Option.map_eq_some_iff.mp h
  have hlt : k < tD t c := by
    by_cases h0 : w = 0
    · rw [if_pos h0] at hk; exact slope_lt hk
    · rw [if_neg h0] at hk
      by_cases h1 : w = 1
      · rw [if_pos h1] at hk; exact slope_lt hk
      · rw [if_neg h1] at hk; exact markedK_lt hk
  exact ((hw.2.2 c hc).2.2.2.2.1 k hlt).1
def ufst (p : Nat → Bool) : Nat → Option Nat
  | 0 => none
  | j + 1 => match ufst p j with
    | some k => some k
    | none => if p j then some j else none
theorem ufst_some {p : Nat → Bool} : ∀ {j k : Nat}, ufst p j = some k → k < j ∧ p k = true ∧ ∀ i, i < k → p i = false := by
  intro j
  induction j with
  | zero => intro k h; cases h
  | succ j ih =>
    intro k h
    rw [ufst] at h
    cases e : ufst p j with
    | some i =>
      rw [e] at h
      obtain ⟨h1, h2, h3⟩ := ih e
      cases h
      exact ⟨by omega, h2, h3⟩
    | none =>
      rw [e] at h
      by_cases hp : p j = true
      · rw [if_pos hp] at h
        cases h
        refine ⟨by omega, hp, ?_⟩
        intro i hi
        cases hq : p i with
        | false => rfl
        | true =>
          exfalso
          have : ∀ m, m ≤ j → ufst p m = none := by
            intro m hm
            cases e2 : ufst p m with
            | none => rfl
            | some z =>
              exfalso
              have q : ∀ d, ufst p (m + d) = some z := by
                intro d
                induction d with
                | zero => exact e2
                | succ d ih2 => rw [← Nat.add_assoc, ufst, ih2]
              have := q (j - m)
              rw [show m + (j - m) = j by omega, e] at this
              cases this
          have h5 := this (i + 1) (by omega)
          rw [ufst, this i (by omega)] at h5
          rw [show (match (none : Option Nat) with | some k => some k | none => if p i = true then some i else none) = if p i = true then some i else none from rfl, if_pos hq] at h5
          cases h5
      · rw [if_neg hp] at h; cases h
theorem ufst_none {p : Nat → Bool} : ∀ {j : Nat}, ufst p j = none → ∀ i, i < j → p i = false := by
  intro j
  induction j with
  | zero => intro _ i hi; omega
  | succ j ih =>
    intro h i hi
    rw [ufst] at h
    cases e : ufst p j with
    | some k => rw [e] at h; cases h
    | none =>
      rw [e] at h
      by_cases hp : p j = true
      · rw [if_pos hp] at h; cases h
      · by_cases hj : i = j
        · rw [hj]; simpa using hp
        · exact ih e i (by omega)
theorem ufst_congr {p q : Nat → Bool} : ∀ {j : Nat}, (∀ i, i < j → p i = q i) → ufst p j = ufst q j := by
  intro j
  induction j with
  | zero => intro _; rfl
  | succ j ih => intro h; rw [ufst, ufst, ih (fun i hi => h i (by omega)), h j (by omega)]
/-- the numbers of the classes, by their least corners -/
def nb (p : Nat → Nat → Bool) : Nat → Nat × (Nat → Nat)
  | 0 => (0, fun _ => 0)
  | j + 1 => match ufst (fun k => p k j) j with
    | some k => ((nb p j).1, va_up (nb p j).2 j ((nb p j).2 k))
    | none => ((nb p j).1 + 1, va_up (nb p j).2 j (nb p j).1)
theorem nb_congr {p q : Nat → Nat → Bool} : ∀ {j : Nat}, (∀ a b, a < b → b < j → p a b = q a b) → nb p j = nb q j := by
  intro j
  induction j with
  | zero => intro _; rfl
  | succ j ih =>
    intro h
    rw [nb, nb, ih (fun a b h1 h2 => h a b h1 (by omega)), ufst_congr (fun i hi => h i j hi (by omega))]
theorem nb_le {p : Nat → Nat → Bool} : ∀ {j : Nat}, (nb p j).1 ≤ j := by
  intro j
  induction j with
  | zero => exact Nat.le_refl _
  | succ j ih =>
    rw [nb]
    split
    · exact Nat.le_succ_of_le ih
    · exact Nat.succ_le_succ ih
def isEq (p : Nat → Nat → Bool) (n : Nat) : Prop := (∀ a, a < n → p a a = true) ∧ (∀ a b, a < n → b < n → p a b = true → p b a = true) ∧ ∀ a b c, a < n → b < n → c < n → p a b = true → p b c = true → p a c = true
theorem nb_iff {p : Nat → Nat → Bool} {n : Nat} (hp : isEq p n) : ∀ {j : Nat}, j ≤ n → (∀ a, a < j → (nb p j).2 a < (nb p j).1) ∧ ∀ a b, a < j → b < j → ((nb p j).2 a = (nb p j).2 b ↔ p a b = true) := by
  obtain ⟨hr, hs, ht⟩ := hp
  intro j
  induction j with
  | zero => intro _; exact ⟨fun a h => absurd h (Nat.not_lt_zero _), fun a b h => absurd h (Nat.not_lt_zero _)⟩
  | succ j ih =>
    intro hj
    obtain ⟨i1, i2⟩ := ih (by omega)
    rw [nb]
    cases e : ufst (fun k => p k j) j with
    | some k =>
      obtain ⟨k1, k2, k3⟩ := ufst_some e
      show (∀ a, a < j + 1 → va_up (nb p j).2 j ((nb p j).2 k) a < (nb p j).1) ∧ ∀ a b, a < j + 1 → b < j + 1 → (va_up (nb p j).2 j ((nb p j).2 k) a = va_up (nb p j).2 j ((nb p j).2 k) b ↔ p a b = true)
      unfold va_up
      refine ⟨fun a ha => ?_, fun a b ha hb => ?_⟩
      · by_cases h : a = j
        · rw [if_pos h]; exact i1 k k1
        · rw [if_neg h]; exact i1 a (by omega)
      · by_cases h : a = j
        · by_cases h2 : b = j
          · rw [if_pos h, if_pos h2, h, h2]; exact ⟨fun _ => hr j (by omega), fun _ => rfl⟩
          · rw [if_pos h, if_neg h2, h, i2 k b k1 (by omega)]
            exact ⟨fun q => ht j k b (by omega) (by omega) (by omega) (hs k j (by omega) (by omega) k2) q, fun q => ht k j b (by omega) (by omega) (by omega) k2 q⟩
        · by_cases h2 : b = j
          · rw [if_neg h, if_pos h2, h2, i2 a k (by omega) k1]
            exact ⟨fun q => ht a k j (by omega) (by omega) (by omega) q k2, fun q => ht a j k (by omega) (by omega) (by omega) q (hs k j (by omega) (by omega) k2)⟩
          · rw [if_neg h, if_neg h2]; exact i2 a b (by omega) (by omega)
    | none =>
      have hn := ufst_none e
      show (∀ a, a < j + 1 → va_up (nb p j).2 j (nb p j).1 a < (nb p j).1 + 1) ∧ ∀ a b, a < j + 1 → b < j + 1 → (va_up (nb p j).2 j (nb p j).1 a = va_up (nb p j).2 j (nb p j).1 b ↔ p a b = true)
      unfold va_up
      refine ⟨fun a ha => ?_, fun a b ha hb => ?_⟩
      · by_cases h : a = j
        · rw [if_pos h]; omega
        · rw [if_neg h]; have := i1 a (by omega); omega
      · by_cases h : a = j
        · by_cases h2 : b = j
          · rw [if_pos h, if_pos h2, h, h2]; exact ⟨fun _ => hr j (by omega), fun _ => rfl⟩
          · rw [if_pos h, if_neg h2, h]
            have := i1 b (by omega)
            refine ⟨fun q => by omega, fun q => ?_⟩
            have q2 := hn b (by omega)
            rw [hs j b (by omega) (by omega) q] at q2; cases q2
        · by_cases h2 : b = j
          · rw [if_neg h, if_pos h2, h2]
            have := i1 a (by omega)
            refine ⟨fun q => by omega, fun q => ?_⟩
            have q2 := hn a (by omega)
            rw [q] at q2; cases q2
          · rw [if_neg h, if_neg h2]; exact i2 a b (by omega) (by omega)
/-- alike so far: by a colouring -/
abbrev alk (t : Tn) (f : Nat → Nat) (a b : Nat) : Prop := tM t a = tM t b ∧ f a = f b ∧ ∀ w, w < 12 → (gl t a w).map f = (gl t b w).map f
abbrev alm (t : Tn) (f : Nat → Nat) (a b : Nat) : Prop := f a = f b ∧ ∀ w, w < 12 → (gl t a w).map f = (gl t b w).map f
def colC (t : Tn) : Nat → Nat × (Nat → Nat)
  | 0 => (0, fun _ => 0)
  | k + 1 => nb (fun a b => decide (alk t (colC t k).2 a b)) (tN t)
def colM (t : Tn) : Nat → Nat × (Nat → Nat)
  | 0 => (0, fun c => tM t c % 1000)
  | k + 1 => nb (fun a b => decide (alm t (colM t k).2 a b)) (tN t)
def rel (E : Nat → Nat → Prop) (x y : Option Nat) : Prop := match x, y with
  | none, none => True
  | some a, some b => E a b
  | _, _ => False
def dC (t : Tn) : Nat → Nat → Nat → Prop
  | 0 => fun _ _ => True
  | k + 1 => fun a b => tM t a = tM t b ∧ dC t k a b ∧ ∀ w, w < 12 → rel (dC t k) (gl t a w) (gl t b w)
def dM (t : Tn) : Nat → Nat → Nat → Prop
  | 0 => fun a b => tM t a = tM t b
  | k + 1 => fun a b => dM t k a b ∧ ∀ w, w < 12 → rel (dM t k) (gl t a w) (gl t b w)
theorem rel_mono {E F : Nat → Nat → Prop} (h : ∀ a b, E a b → F a b) {x y : Option Nat} (r : rel E x y) : rel F x y := by
  cases x <;> cases y
  · trivial
  · exact r
  · exact r
  · exact h _ _ r
theorem map_rel {f : Nat → Nat} {E : Nat → Nat → Prop} {n : Nat} (h : ∀ a b, a < n → b < n → (f a = f b ↔ E a b)) {x y : Option Nat} (hx : ∀ a, x = some a → a < n) (hy : ∀ a, y = some a → a < n) : x.map f = y.map f ↔ rel E x y := by
  cases x <;> cases y
  · exact ⟨fun _ => trivial, fun _ => rfl⟩
  · exact ⟨fun q => (by cases q), fun q => q.elim⟩
  · exact ⟨fun q => (by cases q), fun q => q.elim⟩
  · rename_i a b
    show (some (f a) = some (f b)) ↔ E a b
    rw [Option.some.injEq]
    exact h a b (hx a rfl) (hy b rfl)
theorem alk_eq (t : Tn) (f : Nat → Nat) (n : Nat) : isEq (fun a b => decide (alk t f a b)) n := by
  refine ⟨fun a _ => decide_eq_true ⟨rfl, rfl, fun _ _ => rfl⟩, fun a b _ _ h => ?_, fun a b c _ _ _ h g => ?_⟩
  · have h := of_decide_eq_true h
    exact decide_eq_true ⟨h.1.symm, h.2.1.symm, fun w hw => (h.2.2 w hw).symm⟩
  · have h := of_decide_eq_true h
    have g := of_decide_eq_true g
    exact decide_eq_true ⟨h.1.trans g.1, h.2.1.trans g.2.1, fun w hw => (h.2.2 w hw).trans (g.2.2 w hw)⟩
theorem alm_eq (t : Tn) (f : Nat → Nat) (n : Nat) : isEq (fun a b => decide (alm t f a b)) n := by
  refine ⟨fun a _ => decide_eq_true ⟨rfl, fun _ _ => rfl⟩, fun a b _ _ h => ?_, fun a b c _ _ _ h g => ?_⟩
  · have h := of_decide_eq_true h
    exact decide_eq_true ⟨h.1.symm, fun w hw => (h.2 w hw).symm⟩
  · have h := of_decide_eq_true h
    have g := of_decide_eq_true g
    exact decide_eq_true ⟨h.1.trans g.1, fun w hw => (h.2 w hw).trans (g.2 w hw)⟩
theorem colC_iff {t : Tn} (hw : wfT t) : ∀ k a b, a < tN t → b < tN t → ((colC t k).2 a = (colC t k).2 b ↔ dC t k a b) := by
  intro k
  induction k with
  | zero => intro a b _ _; exact ⟨fun _ => trivial, fun _ => rfl⟩
  | succ k ih =>
    intro a b ha hb
    rw [colC, (nb_iff (alk_eq t _ _) (Nat.le_refl _)).2 a b ha hb, decide_eq_true_iff]
    constructor
    · rintro ⟨h1, h2, h3⟩
      exact ⟨h1, (ih a b ha hb).mp h2, fun w hww => (map_rel ih (fun x hx => gl_lt hw ha hx) (fun x hx => gl_lt hw hb hx)).mp (h3 w hww)⟩
    · rintro ⟨h1, h2, h3⟩
      exact ⟨h1, (ih a b ha hb).mpr h2, fun w hww => (map_rel ih (fun x hx => gl_lt hw ha hx) (fun x hx => gl_lt hw hb hx)).mpr (h3 w hww)⟩
theorem colM_iff {t : Tn} (hw : wfT t) : ∀ k a b, a < tN t → b < tN t → ((colM t k).2 a = (colM t k).2 b ↔ dM t k a b) := by
  intro k
  induction k with
  | zero =>
    intro a b ha hb
    have h1 := (hw.2.2 a ha).2.1
    have h2 := (hw.2.2 b hb).2.1
    show tM t a % 1000 = tM t b % 1000 ↔ tM t a = tM t b
    rw [Nat.mod_eq_of_lt (by omega), Nat.mod_eq_of_lt (by omega)]
  | succ k ih =>
    intro a b ha hb
    rw [colM, (nb_iff (alm_eq t _ _) (Nat.le_refl _)).2 a b ha hb, decide_eq_true_iff]
    constructor
    · rintro ⟨h2, h3⟩
      exact ⟨(ih a b ha hb).mp h2, fun w hww => (map_rel ih (fun x hx => gl_lt hw ha hx) (fun x hx => gl_lt hw hb hx)).mp (h3 w hww)⟩
    · rintro ⟨h2, h3⟩
      exact ⟨(ih a b ha hb).mpr h2, fun w hww => (map_rel ih (fun x hx => gl_lt hw ha hx) (fun x hx => gl_lt hw hb hx)).mpr (h3 w hww)⟩
theorem dM_0 {t : Tn} : ∀ {k a b}, dM t k a b → tM t a = tM t b := by
  intro k
  induction k with
  | zero => exact fun h => h
  | succ k ih => exact fun h => ih h.1
theorem dM_dC {t : Tn} : ∀ k, (∀ a b, dC t (k + 1) a b → dM t k a b) ∧ ∀ a b, dM t k a b → dC t k a b := by
  intro k
  induction k with
  | zero => exact ⟨fun a b h => h.1, fun _ _ _ => trivial⟩
  | succ k ih => exact ⟨fun a b h => ⟨ih.1 a b h.2.1, fun w hw => rel_mono ih.1 (h.2.2 w hw)⟩, fun a b h => ⟨dM_0 h.1, ih.2 a b h.1, fun w hw => rel_mono ih.2 (h.2 w hw)⟩⟩
/-- reps are only gained; when none is, nothing splits any more -/
def stb (t : Tn) (k : Nat) : Prop := ∀ a b, a < tN t → b < tN t → dC t k a b → dC t (k + 1) a b
theorem stb_s {t : Tn} (hw : wfT t) {k : Nat} (h : stb t k) : stb t (k + 1) := by
  intro a b ha hb hd
  refine ⟨hd.1, hd, fun w hww => ?_⟩
  have h3 := hd.2.2 w hww
  cases e1 : gl t a w <;> cases e2 : gl t b w <;> rw [e1, e2] at h3
  · trivial
  · exact h3
  · exact h3
  · exact h _ _ (gl_lt hw ha e1) (gl_lt hw hb e2) h3
theorem stb_add {t : Tn} (hw : wfT t) {k : Nat} (h : stb t k) : ∀ d, stb t (k + d) := by
  intro d
  induction d with
  | zero => exact h
  | succ d ih => exact stb_s hw ih
theorem nb_one {t : Tn} {k : Nat} (hn : 0 < tN t) : 1 ≤ (colC t (k + 1)).1 := by
  rw [colC]
  have := (nb_iff (alk_eq t (colC t k).2 (tN t)) (Nat.le_refl _)).1 0 hn
  omega
theorem nb_mono {p q : Nat → Nat → Bool} {n : Nat} (hp : isEq p n) (hq : isEq q n) (h : ∀ a b, a < n → b < n → q a b = true → p a b = true) : ∀ {j : Nat}, j ≤ n → (nb p j).1 ≤ (nb q j).1 ∧ ((nb p j).1 = (nb q j).1 → ∀ a b, a < j → b < j → p a b = true → q a b = true) := by
  intro j
  induction j with
  | zero => intro _; exact ⟨Nat.le_refl _, fun _ a b h => absurd h (Nat.not_lt_zero _)⟩
  | succ j ih =>
    intro hj
    obtain ⟨i1, i2⟩ := ih (by omega)
    rw [nb, nb]
    cases ep : ufst (fun k => p k j) j with
    | none =>
      have hn := ufst_none ep
      have hnq : ufst (fun k => q k j) j = none := by
        cases eq : ufst (fun k => q k j) j with
        | none => rfl
        | some k =>
          obtain ⟨k1, k2, -⟩ := ufst_some eq
          have h1 := hn k k1
          rw [h k j (by omega) (by omega) k2] at h1
          cases h1
      rw [hnq]
      refine ⟨Nat.succ_le_succ i1, fun e a b ha hb hab => ?_⟩
      have e2 : (nb p j).1 = (nb q j).1 := Nat.succ.inj e
      by_cases h1 : a = j
      · by_cases h2 : b = j
        · rw [h1, h2]; exact hq.1 j (by omega)
        · have h3 := hn b (by omega)
          rw [h1] at hab
          rw [hp.2.1 j b (by omega) (by omega) hab] at h3; cases h3
      · by_cases h2 : b = j
        · have h3 := hn a (by omega)
          rw [h2] at hab
          rw [hab] at h3; cases h3
        · exact i2 e2 a b (by omega) (by omega) hab
    | some k =>
      obtain ⟨k1, k2, -⟩ := ufst_some ep
      cases eq : ufst (fun k => q k j) j with
      | none => exact ⟨Nat.le_succ_of_le i1, fun e => by have e' : (nb p j).1 = (nb q j).1 + 1 := e; omega⟩
      | some m =>
        obtain ⟨m1, m2, -⟩ := ufst_some eq
        refine ⟨i1, fun e a b ha hb hab => ?_⟩
        have e2 : (nb p j).1 = (nb q j).1 := e
        have pm := h m j (by omega) (by omega) m2
        by_cases h1 : a = j
        · by_cases h2 : b = j
          · rw [h1, h2]; exact hq.1 j (by omega)
          · rw [h1] at hab ⊢
            exact hq.2.2 j m b (by omega) (by omega) (by omega) (hq.2.1 m j (by omega) (by omega) m2) (i2 e2 m b m1 (by omega) (hp.2.2 m j b (by omega) (by omega) (by omega) pm hab))
        · by_cases h2 : b = j
          · rw [h2] at hab ⊢
            exact hq.2.2 a m j (by omega) (by omega) (by omega) (i2 e2 a m (by omega) m1 (hp.2.2 a j m (by omega) (by omega) (by omega) hab (hp.2.1 m j (by omega) (by omega) pm))) m2
          · exact i2 e2 a b (by omega) (by omega) hab
theorem alk_iff {t : Tn} (hw : wfT t) {k a b : Nat} (ha : a < tN t) (hb : b < tN t) : decide (alk t (colC t k).2 a b) = true ↔ dC t (k + 1) a b := by
  rw [← colC_iff hw (k + 1) a b ha hb, colC, (nb_iff (alk_eq t _ _) (Nat.le_refl _)).2 a b ha hb]
theorem alm_iff {t : Tn} (hw : wfT t) {k a b : Nat} (ha : a < tN t) (hb : b < tN t) : decide (alm t (colM t k).2 a b) = true ↔ dM t (k + 1) a b := by
  rw [← colM_iff hw (k + 1) a b ha hb, colM, (nb_iff (alm_eq t _ _) (Nat.le_refl _)).2 a b ha hb]
theorem col_grow {t : Tn} (hw : wfT t) (hn : 0 < tN t) : ∀ k, (∃ j, j < k ∧ stb t (j + 1)) ∨ k + 1 ≤ (colC t (k + 1)).1 := by
  intro k
  induction k with
  | zero => exact Or.inr (nb_one hn)
  | succ k ih =>
    rcases ih with ⟨j, hj, hs⟩ | ih
    · exact Or.inl ⟨j, by omega, hs⟩
    · have hm := nb_mono (alk_eq t (colC t k).2 (tN t)) (alk_eq t (colC t (k + 1)).2 (tN t)) (fun a b ha hb h => (alk_iff hw ha hb).mpr ((alk_iff hw ha hb).mp h).2.1) (Nat.le_refl (tN t))
      rcases Nat.lt_or_ge (colC t (k + 1)).1 (colC t (k + 2)).1 with h | h
      · exact Or.inr (show k + 1 + 1 ≤ (colC t (k + 2)).1 by omega)
      · refine Or.inl ⟨k, by omega, fun a b ha hb hd => (alk_iff hw ha hb).mp (hm.2 ?_ a b ha hb ((alk_iff hw ha hb).mpr hd))⟩
        have h1 := hm.1
        have e1 : (colC t (k + 1)).1 = (nb (fun a b => decide (alk t (colC t k).2 a b)) (tN t)).1 := by rw [colC]
        have e2 : (colC t (k + 2)).1 = (nb (fun a b => decide (alk t (colC t (k + 1)).2 a b)) (tN t)).1 := by rw [colC]
        omega
theorem stb_n {t : Tn} (hw : wfT t) (hn : 0 < tN t) : stb t (tN t) := by
  rcases col_grow hw hn (tN t) with ⟨j, hj, hs⟩ | h
  · have := stb_add hw hs (tN t - (j + 1))
    rwa [show j + 1 + (tN t - (j + 1)) = tN t by omega] at this
  · have : (colC t (tN t + 1)).1 ≤ tN t := by rw [colC]; exact nb_le
    omega
theorem dC_down {t : Tn} {a b : Nat} : ∀ {d k : Nat}, dC t (k + d) a b → dC t k a b := by
  intro d
  induction d with
  | zero => exact fun h => h
  | succ d ih => exact fun h => ih h.2.1
theorem dC_up {t : Tn} (hw : wfT t) {k a b : Nat} (hs : stb t k) (ha : a < tN t) (hb : b < tN t) (h : dC t k a b) : ∀ d, dC t (k + d) a b := by
  intro d
  induction d with
  | zero => exact h
  | succ d ih => exact stb_add hw hs d a b ha hb ih
theorem ap_eq {t : Tn} (hw : wfT t) (hn : 0 < tN t) : colC t (tN t + 1) = colM t 13 := by
  rw [colC, colM]
  have h8 := hw.1
  have hs := stb_n hw hn
  refine nb_congr (fun a b hab hb => ?_)
  have ha : a < tN t := by omega
  have e : decide (alk t (colC t (tN t)).2 a b) = true ↔ decide (alm t (colM t 12).2 a b) = true := by
    rw [alk_iff hw ha hb, alm_iff hw ha hb]
    constructor
    · intro h
      have h1 := dC_up hw hs ha hb h.2.1 (14 - tN t)
      rw [show tN t + (14 - tN t) = 13 + 1 by omega] at h1
      exact (dM_dC 13).1 a b h1
    · intro h
      have h1 := (dM_dC 13).2 a b h
      rw [show 13 = tN t + 1 + (12 - tN t) by omega] at h1
      exact dC_down h1
  cases h1 : decide (alk t (colC t (tN t)).2 a b) <;> cases h2 : decide (alm t (colM t 12).2 a b)
  · rfl
  · rw [h1, h2] at e; exact absurd (e.mpr rfl) (by decide)
  · rw [h1, h2] at e; exact absurd (e.mp rfl) (by decide)
  · rfl
def qApart (t : Tn) (c what : Int32) : Int32 := if okc t c ∧ okb what then (if what = 0 then nI ((colC t (tN t + 1)).2 (cn c)) else nI (colC t (tN t + 1)).1) else -1000001
