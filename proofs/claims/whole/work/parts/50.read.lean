abbrev Er (A : Type) : Type := Except (Nat × Nat) A
def rNum (p : Tp) (most j : Nat) : Er Nat := if tkC p j = 2 then (if most < numV p j then .error (2, tkS p j) else .ok (numV p j)) else .error (1, tkS p j)
def rSig (p : Tp) (j : Nat) : Er Unit := if tkC p j = 3 then .ok () else .error (1, tkS p j)
def wlN (p : Tp) (j : Nat) : Nat := if isNm p 10 j then 1 else 0
def rCor (p : Tp) (j : Nat) : Er ((Nat × Nat × Nat) × Nat) := match rNum p 99 j with
  | .error e => .error e
  | .ok h => match rNum p 9 (j + 1) with
    | .error e => .error e
    | .ok m => match rSig p (j + 2 + wlN p (j + 2)) with
      | .error e => .error e
      | .ok _ => .ok ((h, m, wlN p (j + 2)), j + 3 + wlN p (j + 2))
def tn0 : Tn := (0, 0, fun _ => 0, fun _ => 0, fun _ => 0, fun _ => 0, fun _ _ => 0)
def tAddC (D : Tn) (h m w : Nat) : Tn := (tN D + 1, tS D, va_up (tH D) (tN D) h, va_up (tM D) (tN D) m, va_up (tW D) (tN D) w, tD D, tB D)
def tHalf (D : Tn) (a b : Nat) : Tn := (tN D, tS D, tH D, tM D, tW D, va_up (tD D) a (tD D a + 1), fun c i => if c = a ∧ i = tD D a then b else tB D c i)
def tAddS (D : Tn) (a b : Nat) : Tn := (tN D, tS D + 1, tH D, tM D, tW D, tD (tHalf (tHalf D a b) b a), tB (tHalf (tHalf D a b) b a))
def jnB (D : Tn) (o : Option Nat) (v : Nat) : Bool := match o with
  | none => false
  | some a => decide (a = v) || adB D a v
def rEnd (p : Tp) (D : Tn) (o : Option Nat) (j : Nat) : Er Nat := if tkC p j = 2 then (if numV p j < tN D ∧ jnB D o (numV p j) = false then (if 6 ≤ tD D (numV p j) then .error (3, tkS p j) else .ok (numV p j)) else .error (2, tkS p j)) else .error (1, tkS p j)
def rStr (p : Tp) (D : Tn) (j : Nat) : Er (Tn × Nat) := match rEnd p D none j with
  | .error e => .error e
  | .ok a => match rEnd p D (some a) (j + 1) with
    | .error e => .error e
    | .ok b => match rSig p (j + 2) with
      | .error e => .error e
      | .ok _ => .ok (tAddS D a b, j + 3)
def rCs (p : Tp) : Nat → Tn → Nat → Er (Tn × Nat)
  | 0, D, j => if isNm p 8 j then .error (3, tkS p j) else .ok (D, j)
  | f + 1, D, j => if isNm p 8 j then (match rCor p (j + 1) with
    | .error e => .error e
    | .ok q => rCs p f (tAddC D q.1.1 q.1.2.1 q.1.2.2) q.2) else if 2 ≤ tN D then .ok (D, j) else .error (1, tkS p j)
def rSs (p : Tp) : Nat → Tn → Nat → Er Tn
  | 0, D, j => if tkC p j = 0 then .ok D else .error (if isNm p 9 j then 3 else 1, tkS p j)
  | f + 1, D, j => if isNm p 9 j then (match rStr p D (j + 1) with
    | .error e => .error e
    | .ok q => rSs p f q.1 q.2) else if 0 < tS D ∧ tkC p j = 0 then .ok D else .error (1, tkS p j)
def rTown (p : Tp) : Er Tn := match rCs p 8 tn0 0 with
  | .error e => .error e
  | .ok q => rSs p 12 q.1 q.2
/-- a word -/
def wd8 (o : Option Nat) : Option Nat := match o with
  | none => none
  | some k => if k < 8 then some k else none
def wdK (p : Tp) (j : Nat) : Option Nat := if tkC p j = 1 then wd8 (nmO p (tkS p j) (tkL p j)) else none
def rWd (p : Tp) (k j : Nat) : Er (Nat × Nat) := if k = 2 then (match rNum p 9 (j + 1) with
  | .error e => .error e
  | .ok m => .ok (20 + m, j + 2)) else .ok (k, j + 1)
def sAdd (s : Sy) (w : Nat) : Sy := (s.1 + 1, va_up s.2 s.1 w)
def rWs (p : Tp) : Nat → Sy → Nat → Er (Sy × Nat)
  | 0, s, j => match wdK p j with
    | none => .ok (s, j)
    | some _ => .error (3, tkS p j)
  | f + 1, s, j => match wdK p j with
    | none => .ok (s, j)
    | some k => match rWd p k j with
      | .error e => .error e
      | .ok q => rWs p f (sAdd s q.1) q.2
def rSay (p : Tp) : Er Sy := match rWs p 12 (0, fun _ => 0) 0 with
  | .error e => .error e
  | .ok q => match rSig p q.2 with
    | .error e => .error e
    | .ok _ => if tkC p (q.2 + 1) = 0 then .ok q.1 else .error (1, tkS p (q.2 + 1))
theorem rNum_ok {p : Tp} {m j v : Nat} (h : rNum p m j = .ok v) : tkC p j = 2 ∧ v = numV p j ∧ v ≤ m := by
  unfold rNum at h
  by_cases h1 : tkC p j = 2
  · rw [if_pos h1] at h
    by_cases h2 : m < numV p j
    · rw [if_pos h2] at h; cases h
    · rw [if_neg h2] at h
      cases h
      exact ⟨h1, rfl, by omega⟩
  · rw [if_neg h1] at h; cases h
theorem rSig_ok {p : Tp} {j : Nat} {u : Unit} (h : rSig p j = .ok u) : tkC p j = 3 := by
  unfold rSig at h
  by_cases h1 : tkC p j = 3
  · exact h1
  · rw [if_neg h1] at h; cases h
theorem rEnd_ok {p : Tp} {D : Tn} {o : Option Nat} {j v : Nat} (h : rEnd p D o j = .ok v) : tkC p j = 2 ∧ v = numV p j ∧ v < tN D ∧ jnB D o v = false ∧ tD D v < 6 := by
  unfold rEnd at h
  by_cases h1 : tkC p j = 2
  · rw [if_pos h1] at h
    by_cases h2 : numV p j < tN D ∧ jnB D o (numV p j) = false
    · rw [if_pos h2] at h
      by_cases h3 : 6 ≤ tD D (numV p j)
      · rw [if_pos h3] at h; cases h
      · rw [if_neg h3] at h
        cases h
        exact ⟨h1, rfl, h2.1, h2.2, by omega⟩
    · rw [if_neg h2] at h; cases h
  · rw [if_neg h1] at h; cases h
theorem live_c {p : Tp} {j : Nat} (h : live p j) (hc : tkC p j ≠ 0) : live p (j + 1) := live_s h (tkC_live hc)
def wfD (D : Tn) : Prop := wfT D ∧ ∀ c, tN D ≤ c → tD D c = 0
theorem wfD_0 : wfD tn0 := ⟨⟨Nat.zero_le _, Nat.zero_le _, fun c hc => absurd hc (Nat.not_lt_zero _)⟩, fun _ _ => rfl⟩
theorem wfD_C {D : Tn} {h m w : Nat} (hD : wfD D) (h8 : tN D < 8) (hh : h ≤ 99) (hm : m ≤ 9) (hw : w ≤ 1) : wfD (tAddC D h m w) := by
  obtain ⟨⟨w1, w2, w3⟩, w4⟩ := hD
  refine ⟨⟨h8, w2, fun c hc => ?_⟩, fun c hc => w4 c (Nat.le_of_succ_le hc)⟩
  have hc : c < tN D + 1 := hc
  by_cases e : c = tN D
  · have hz : tD D c = 0 := w4 c (by omega)
    refine ⟨?_, ?_, ?_, ?_, ?_, ?_, ?_⟩
    · show va_up (tH D) (tN D) h c ≤ 99
      rw [e, va_eq]; exact hh
    · show va_up (tM D) (tN D) m c ≤ 9
      rw [e, va_eq]; exact hm
    · show va_up (tW D) (tN D) w c ≤ 1
      rw [e, va_eq]; exact hw
    · show tD D c ≤ 6
      omega
    · intro i hi
      have hi : i < tD D c := hi
      omega
    · intro i j hi
      have hi : i < tD D c := hi
      omega
    · intro i hi
      have hi : i < tD D c := hi
      omega
  · obtain ⟨c1, c2, c3, c4, c5, c6, c7⟩ := w3 c (by omega)
    refine ⟨?_, ?_, ?_, c4, fun i hi => ⟨Nat.lt_succ_of_lt (c5 i hi).1, (c5 i hi).2⟩, c6, c7⟩
    · show va_up (tH D) (tN D) h c ≤ 99
      rw [va_ne _ _ e]; exact c1
    · show va_up (tM D) (tN D) m c ≤ 9
      rw [va_ne _ _ e]; exact c2
    · show va_up (tW D) (tN D) w c ≤ 1
      rw [va_ne _ _ e]; exact c3
theorem tAddS_D {D : Tn} {a b : Nat} (hab : a ≠ b) (c : Nat) : tD (tAddS D a b) c = if c = a then tD D a + 1 else if c = b then tD D b + 1 else tD D c := by
  show va_up (va_up (tD D) a (tD D a + 1)) b (va_up (tD D) a (tD D a + 1) b + 1) c = _
  rw [va_ne (tD D) _ (Ne.symm hab)]
  by_cases e : c = b
  · rw [e, va_eq, if_neg (Ne.symm hab), if_pos rfl]
  · rw [va_ne _ _ e]
    by_cases e2 : c = a
    · rw [e2, va_eq, if_pos rfl]
    · rw [va_ne _ _ e2, if_neg e2, if_neg e]
theorem tAddS_B {D : Tn} {a b : Nat} (hab : a ≠ b) (c i : Nat) : tB (tAddS D a b) c i = if c = a ∧ i = tD D a then b else if c = b ∧ i = tD D b then a else tB D c i := by
  show (if c = b ∧ i = va_up (tD D) a (tD D a + 1) b then a else if c = a ∧ i = tD D a then b else tB D c i) = _
  rw [va_ne (tD D) _ (Ne.symm hab)]
  by_cases e : c = b ∧ i = tD D b
  · rw [if_pos e, if_neg (fun q => hab (q.1.symm.trans e.1)), if_pos e]
  · rw [if_neg e, if_neg e]
theorem tAddS_Ba {D : Tn} {a b : Nat} (hab : a ≠ b) (i : Nat) : tB (tAddS D a b) a i = if i = tD D a then b else tB D a i := by
  rw [tAddS_B hab]
  by_cases e : i = tD D a
  · rw [if_pos ⟨rfl, e⟩, if_pos e]
  · rw [if_neg (fun q => e q.2), if_neg (fun q => hab q.1), if_neg e]
theorem tAddS_Bb {D : Tn} {a b : Nat} (hab : a ≠ b) (i : Nat) : tB (tAddS D a b) b i = if i = tD D b then a else tB D b i := by
  rw [tAddS_B hab, if_neg (fun q => hab q.1.symm)]
  by_cases e : i = tD D b
  · rw [if_pos ⟨rfl, e⟩, if_pos e]
  · rw [if_neg (fun q => e q.2), if_neg e]
theorem tAddS_Bo {D : Tn} {a b c : Nat} (hab : a ≠ b) (h1 : c ≠ a) (h2 : c ≠ b) (i : Nat) : tB (tAddS D a b) c i = tB D c i := by
  rw [tAddS_B hab, if_neg (fun q => h1 q.1), if_neg (fun q => h2 q.1)]
theorem adB_no {D : Tn} {a b : Nat} (h : adB D a b = false) : ∀ i, i < tD D a → tB D a i ≠ b := fun i hi q => by
  have := adB_iff.mpr ⟨i, hi, q⟩
  rw [h] at this
  cases this
theorem wfD_S {D : Tn} {a b : Nat} (hD : wfD D) (h12 : tS D < 12) (ha : a < tN D) (hb : b < tN D) (hab : a ≠ b) (hj : adB D a b = false) (ha6 : tD D a < 6) (hb6 : tD D b < 6) : wfD (tAddS D a b) := by
  have hjb : adB D b a = false := by rw [adB_comm hD.1 hb ha]; exact hj
  have na := adB_no hj
  have nb := adB_no hjb
  obtain ⟨⟨w1, w2, w3⟩, w4⟩ := hD
  refine ⟨⟨w1, h12, fun c hc => ?_⟩, fun c hc => ?_⟩
  · have hc : c < tN D := hc
    obtain ⟨c1, c2, c3, c4, c5, c6, c7⟩ := w3 c hc
    refine ⟨c1, c2, c3, ?_, fun i hi => ?_, fun i j hi hj' => ?_, fun i hi => ?_⟩
    · rw [tAddS_D hab]
      by_cases e : c = a
      · rw [if_pos e]; omega
      · rw [if_neg e]
        by_cases e2 : c = b
        · rw [if_pos e2]; omega
        · rw [if_neg e2]; exact c4
    · rw [tAddS_D hab] at hi
      rw [tAddS_B hab]
      show (if c = a ∧ i = tD D a then b else if c = b ∧ i = tD D b then a else tB D c i) < tN D ∧ _
      by_cases e : c = a
      · subst e
        rw [if_pos rfl] at hi
        by_cases e3 : i = tD D c
        · rw [if_pos ⟨rfl, e3⟩]; exact ⟨hb, Ne.symm hab⟩
        · rw [if_neg (fun q => e3 q.2), if_neg (fun q => hab q.1)]; exact c5 i (by omega)
      · rw [if_neg e] at hi
        rw [if_neg (fun q => e q.1)]
        by_cases e2 : c = b
        · subst e2
          rw [if_pos rfl] at hi
          by_cases e3 : i = tD D c
          · rw [if_pos ⟨rfl, e3⟩]; exact ⟨ha, hab⟩
          · rw [if_neg (fun q => e3 q.2)]; exact c5 i (by omega)
        · rw [if_neg e2] at hi
          rw [if_neg (fun q => e2 q.1)]; exact c5 i hi
    · rw [tAddS_D hab] at hi hj'
      by_cases e : c = a
      · subst e
        rw [if_pos rfl] at hi hj'
        rw [tAddS_Ba hab, tAddS_Ba hab]
        by_cases e3 : i = tD D c
        · rw [if_pos e3]
          by_cases e4 : j = tD D c
          · intro _; omega
          · rw [if_neg e4]
            intro q; exact absurd q.symm (na j (by omega))
        · rw [if_neg e3]
          by_cases e4 : j = tD D c
          · rw [if_pos e4]
            intro q; exact absurd q (na i (by omega))
          · rw [if_neg e4]
            exact c6 i j (by omega) (by omega)
      · rw [if_neg e] at hi hj'
        by_cases e2 : c = b
        · subst e2
          rw [if_pos rfl] at hi hj'
          rw [tAddS_Bb hab, tAddS_Bb hab]
          by_cases e3 : i = tD D c
          · rw [if_pos e3]
            by_cases e4 : j = tD D c
            · intro _; omega
            · rw [if_neg e4]
              intro q; exact absurd q.symm (nb j (by omega))
          · rw [if_neg e3]
            by_cases e4 : j = tD D c
            · rw [if_pos e4]
              intro q; exact absurd q (nb i (by omega))
            · rw [if_neg e4]
              exact c6 i j (by omega) (by omega)
        · rw [if_neg e2] at hi hj'
          rw [tAddS_Bo hab e e2, tAddS_Bo hab e e2]
          exact c6 i j hi hj'
    · rw [tAddS_D hab] at hi
      rw [tAddS_B hab]
      have old : ∀ (x y : Nat), x < tN D → (∃ j, j < tD D x ∧ tB D x j = y) → ∃ j, j < tD (tAddS D a b) x ∧ tB (tAddS D a b) x j = y := by
        intro x y hx ⟨j, j1, j2⟩
        refine ⟨j, ?_, ?_⟩
        · rw [tAddS_D hab]
          by_cases q : x = a
          · rw [if_pos q, ← q]; omega
          · rw [if_neg q]
            by_cases q2 : x = b
            · rw [if_pos q2, ← q2]; omega
            · rw [if_neg q2]; exact j1
        · rw [tAddS_B hab, if_neg (fun q => by have := q.2; rw [← q.1] at this; omega), if_neg (fun q => by have := q.2; rw [← q.1] at this; omega)]
          exact j2
      by_cases e : c = a
      · subst e
        rw [if_pos rfl] at hi
        by_cases e3 : i = tD D c
        · rw [if_pos ⟨rfl, e3⟩]
          refine ⟨tD D b, ?_, ?_⟩
          · rw [tAddS_D hab, if_neg (Ne.symm hab), if_pos rfl]; omega
          · rw [tAddS_B hab, if_neg (fun q => hab q.1.symm), if_pos ⟨rfl, rfl⟩]
        · rw [if_neg (fun q => e3 q.2), if_neg (fun q => hab q.1)]
          exact old _ _ (c5 i (by omega)).1 (c7 i (by omega))
      · rw [if_neg e] at hi
        rw [if_neg (fun q => e q.1)]
        by_cases e2 : c = b
        · subst e2
          rw [if_pos rfl] at hi
          by_cases e3 : i = tD D c
          · rw [if_pos ⟨rfl, e3⟩]
            refine ⟨tD D a, ?_, ?_⟩
            · rw [tAddS_D hab, if_pos rfl]; omega
            · rw [tAddS_B hab, if_pos ⟨rfl, rfl⟩]
          · rw [if_neg (fun q => e3 q.2)]
            exact old _ _ (c5 i (by omega)).1 (c7 i (by omega))
        · rw [if_neg e2] at hi
          rw [if_neg (fun q => e2 q.1)]
          exact old _ _ (c5 i hi).1 (c7 i hi)
  · have hc : tN D ≤ c := hc
    rw [tAddS_D hab, if_neg (by omega), if_neg (by omega)]
    exact w4 c hc
