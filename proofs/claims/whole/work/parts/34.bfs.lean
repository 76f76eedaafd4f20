def cnB (p : Nat → Bool) : Nat → Nat
  | 0 => 0
  | n + 1 => cnB p n + if p n then 1 else 0
theorem cnB_le {p : Nat → Bool} : ∀ {n : Nat}, cnB p n ≤ n := by
  intro n
  induction n with
  | zero => exact Nat.le_refl _
  | succ n ih => rw [cnB]; split <;> omega
theorem cnB_congr {p q : Nat → Bool} : ∀ {n : Nat}, (∀ i, i < n → p i = q i) → cnB p n = cnB q n := by
  intro n
  induction n with
  | zero => intro _; rfl
  | succ n ih => intro h; rw [cnB, cnB, ih (fun i hi => h i (by omega)), h n (by omega)]
theorem cnB_put {p q : Nat → Bool} {k : Nat} (h0 : p k = false) (h1 : q k = true) (he : ∀ i, i ≠ k → q i = p i) : ∀ {n : Nat}, k < n → cnB q n = cnB p n + 1 := by
  intro n
  induction n with
  | zero => intro h; omega
  | succ n ih =>
    intro h
    rw [cnB, cnB]
    by_cases e : n = k
    · subst e
      rw [cnB_congr (p := q) (q := p) (fun i hi => he i (by omega)), h0, h1]
      rfl
    · rw [ih (by omega), he n e]; omega
/-- how many, in which order, behind how many words, from where, by which word -/
abbrev Bf : Type := Nat × (Nat → Nat) × (Nat → Option Nat) × (Nat → Nat) × (Nat → Nat)
def bC (b : Bf) : Nat := b.1
def bQ (b : Bf) : Nat → Nat := b.2.1
def bD (b : Bf) : Nat → Option Nat := b.2.2.1
def bP (b : Bf) : Nat → Nat := b.2.2.2.1
def bW (b : Bf) : Nat → Nat := b.2.2.2.2
def bN (b : Bf) (s d p w : Nat) : Bf := if (bD b s).isSome then b else (bC b + 1, va_up (bQ b) (bC b) s, va_up (bD b) s (some d), va_up (bP b) s p, va_up (bW b) s w)
def b0 : Bf := (0, fun _ => 0, fun _ => none, fun _ => 0, fun _ => 0)
def wfB (N : Nat) (ok : Nat → Prop) (b : Bf) : Prop := bC b = cnB (fun s => (bD b s).isSome) N ∧ (∀ j, j < bC b → bQ b j < N ∧ ok (bQ b j) ∧ ∃ d, bD b (bQ b j) = some d ∧ d ≤ j) ∧ ∀ s, (bD b s).isSome = true → ∃ j, j < bC b ∧ bQ b j = s
theorem wfB_0 {N : Nat} {ok : Nat → Prop} : wfB N ok b0 := by
  refine ⟨?_, fun j h => absurd h (Nat.not_lt_zero _), fun s h => by cases h⟩
  show 0 = cnB (fun _ => false) N
  induction N with
  | zero => rfl
  | succ n ih => rw [cnB, ← ih]; rfl
theorem bN_old {b : Bf} {s d p w : Nat} (h : (bD b s).isSome = true) : bN b s d p w = b := if_pos h
theorem bN_new {b : Bf} {s d p w : Nat} (h : ¬ (bD b s).isSome = true) : bN b s d p w = (bC b + 1, va_up (bQ b) (bC b) s, va_up (bD b) s (some d), va_up (bP b) s p, va_up (bW b) s w) := if_neg h
theorem wfB_lt {N : Nat} {ok : Nat → Prop} {b : Bf} (h : wfB N ok b) {s : Nat} (hs : s < N) (hn : ¬ (bD b s).isSome = true) : bC b < N := by
  have h1 : cnB (fun x => (va_up (bD b) s (some 0) x).isSome) N = cnB (fun x => (bD b x).isSome) N + 1 := by
    refine cnB_put (k := s) (by simpa using hn) ?_ (fun i hi => ?_) hs
    · show (va_up (bD b) s (some 0) s).isSome = true
      rw [va_eq]; rfl
    · show (va_up (bD b) s (some 0) i).isSome = _
      rw [va_ne _ _ hi]
  have h2 : cnB (fun x => (va_up (bD b) s (some 0) x).isSome) N ≤ N := cnB_le
  have h3 := h.1
  omega
theorem wfB_N {N : Nat} {ok : Nat → Prop} {b : Bf} {s d p w : Nat} (h : wfB N ok b) (hs : s < N) (ho : ok s) (hd : d ≤ bC b) : wfB N ok (bN b s d p w) := by
  by_cases hn : (bD b s).isSome = true
  · rw [bN_old hn]; exact h
  · rw [bN_new hn]
    obtain ⟨h1, h2, h3⟩ := h
    refine ⟨?_, fun j hj => ?_, fun x hx => ?_⟩
    · show bC b + 1 = cnB (fun x => (va_up (bD b) s (some d) x).isSome) N
      rw [h1]
      refine (cnB_put (k := s) (by simpa using hn) ?_ (fun i hi => ?_) hs).symm
      · show (va_up (bD b) s (some d) s).isSome = true
        rw [va_eq]; rfl
      · show (va_up (bD b) s (some d) i).isSome = _
        rw [va_ne _ _ hi]
    · show va_up (bQ b) (bC b) s j < N ∧ ok (va_up (bQ b) (bC b) s j) ∧ ∃ e, va_up (bD b) s (some d) (va_up (bQ b) (bC b) s j) = some e ∧ e ≤ j
      by_cases e : j = bC b
      · rw [e, va_eq, va_eq]; exact ⟨hs, ho, d, rfl, hd⟩
      · have hj2 : j < bC b := by have hj3 : j < bC b + 1 := hj; omega
        rw [va_ne _ _ e]
        obtain ⟨k1, k2, f, k3, k4⟩ := h2 j hj2
        refine ⟨k1, k2, f, ?_, k4⟩
        rw [va_ne _ _ (fun z => hn (by rw [← z, k3]; rfl))]
        exact k3
    · by_cases e : x = s
      · exact ⟨bC b, Nat.lt_succ_self _, (va_eq _ _ _).trans e.symm⟩
      · have hx2 : (va_up (bD b) s (some d) x).isSome = true := hx
        rw [va_ne _ _ e] at hx2
        obtain ⟨j, j1, j2⟩ := h3 x hx2
        exact ⟨j, Nat.lt_succ_of_lt j1, (va_ne _ _ (by omega)).trans j2⟩
theorem bN_C {b : Bf} {s d p w : Nat} : bC b ≤ bC (bN b s d p w) := by
  by_cases hn : (bD b s).isSome = true
  · rw [bN_old hn]; exact Nat.le_refl _
  · rw [bN_new hn]; exact Nat.le_succ _
theorem bN_Q {b : Bf} {s d p w j : Nat} (hj : j < bC b) : bQ (bN b s d p w) j = bQ b j := by
  by_cases hn : (bD b s).isSome = true
  · rw [bN_old hn]
  · rw [bN_new hn]; exact va_ne _ _ (by omega)
theorem bN_D {b : Bf} {s d p w x : Nat} (hx : (bD b x).isSome = true) : bD (bN b s d p w) x = bD b x := by
  by_cases hn : (bD b s).isSome = true
  · rw [bN_old hn]
  · rw [bN_new hn]; exact va_ne _ _ (fun z => hn (by rw [← z]; exact hx))
/-- the meeting of two by one word each: pairs 8 a + b -/
def nbP (t : Tn) (s w : Nat) : Option Nat := match gl t (s / 8) w, gl t (s % 8) w with
  | some x, some y => some (8 * x + y)
  | _, _ => none
abbrev dgP (s : Nat) : Prop := s / 8 = s % 8
def mtE (t : Tn) (s d i : Nat) : Nat → Bf → Option Bf
  | 0, b => some b
  | k + 1, b => match mtE t s d i k b with
    | none => none
    | some b' => match nbP t s k with
      | none => some b'
      | some p => if dgP p then none else some (bN b' p d i k)
def dsB (b : Bf) (i : Nat) : Nat := (bD b (bQ b i)).getD 0
def mtL (t : Tn) : Nat → Nat → Bf → Option Nat
  | 0, _, _ => none
  | f + 1, i, b => if i < bC b then (match mtE t (bQ b i) (dsB b i + 1) i 12 b with
    | none => some (dsB b i + 1)
    | some b' => mtL t f (i + 1) b') else none
def soonF (t : Tn) (a b : Nat) : Option Nat := if a = b then some 0 else mtL t 65 0 (bN b0 (8 * a + b) 0 0 0)
abbrev okP (t : Tn) (s : Nat) : Prop := s / 8 < tN t ∧ s % 8 < tN t
theorem nbP_ok {t : Tn} {s w p : Nat} (hw : wfT t) (hs : okP t s) (h : nbP t s w = some p) : okP t p ∧ p < 64 := by
  have h8 := hw.1
  unfold nbP at h
  cases e1 : gl t (s / 8) w <;> cases e2 : gl t (s % 8) w <;> rw [e1, e2] at h <;> cases h
  rename_i x y
  have hx := gl_lt hw hs.1 e1
  have hy := gl_lt hw hs.2 e2
  exact ⟨⟨by omega, by omega⟩, by omega⟩
theorem mtE_wf {t : Tn} {s d i : Nat} (hw : wfT t) (hs : okP t s) : ∀ {k : Nat} {b b' : Bf}, wfB 64 (okP t) b → d ≤ bC b → mtE t s d i k b = some b' → wfB 64 (okP t) b' ∧ bC b ≤ bC b' := by
  intro k
  induction k with
  | zero => intro b b' h _ e; cases e; exact ⟨h, Nat.le_refl _⟩
  | succ k ih =>
    intro b b' h hd e
    rw [mtE] at e
    cases e1 : mtE t s d i k b with
    | none => rw [e1] at e; cases e
    | some b1 =>
      rw [e1] at e
      obtain ⟨i1, i2⟩ := ih h hd e1
      cases e2 : nbP t s k with
      | none => rw [e2] at e; cases e; exact ⟨i1, i2⟩
      | some p =>
        rw [e2] at e
        have e : (if dgP p then none else some (bN b1 p d i k)) = some b' := e
        by_cases hp : dgP p
        · rw [if_pos hp] at e; cases e
        · rw [if_neg hp] at e
          cases e
          obtain ⟨o1, o2⟩ := nbP_ok hw hs e2
          exact ⟨wfB_N i1 o2 o1 (by omega), Nat.le_trans i2 bN_C⟩
