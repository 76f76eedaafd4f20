/-! THE MATHEMATICAL STATE, and how the two objects hold it -/
abbrev Tn : Type := Nat × Nat × (Nat → Nat) × (Nat → Nat) × (Nat → Nat) × (Nat → Nat) × (Nat → Nat → Nat)
/-- corners, streets; a corner's height, mark, well, streets; where its i-th street leads -/
def tN (t : Tn) : Nat := t.1
def tS (t : Tn) : Nat := t.2.1
def tH (t : Tn) : Nat → Nat := t.2.2.1
def tM (t : Tn) : Nat → Nat := t.2.2.2.1
def tW (t : Tn) : Nat → Nat := t.2.2.2.2.1
def tD (t : Tn) : Nat → Nat := t.2.2.2.2.2.1
def tB (t : Tn) : Nat → Nat → Nat := t.2.2.2.2.2.2
def wfC (t : Tn) (c : Nat) : Prop := tH t c ≤ 99 ∧ tM t c ≤ 9 ∧ tW t c ≤ 1 ∧ tD t c ≤ 6 ∧ (∀ i, i < tD t c → tB t c i < tN t ∧ tB t c i ≠ c) ∧ (∀ i j, i < tD t c → j < tD t c → tB t c i = tB t c j → i = j) ∧ ∀ i, i < tD t c → ∃ j, j < tD t (tB t c i) ∧ tB t (tB t c i) j = c
def wfT (t : Tn) : Prop := tN t ≤ 8 ∧ tS t ≤ 12 ∧ ∀ c, c < tN t → wfC t c
abbrev Sy : Type := Nat × (Nat → Nat)
def isW (w : Nat) : Prop := (w < 8 ∧ w ≠ 2) ∨ (20 ≤ w ∧ w < 30)
def wfS (s : Sy) : Prop := s.1 ≤ 12 ∧ ∀ k, k < s.1 → isW (s.2 k)
def townC (k : Nat) (σ : am_S) (t : Tn) : Prop := σ k 0 = nI (tN t) ∧ σ k 1 = nI (tS t) ∧ ∀ c, c < tN t → σ (k + 1) c = nI (tH t c) ∧ σ (k + 2) c = nI (tM t c) ∧ σ (k + 3) c = nI (tW t c) ∧ σ (k + 4) c = nI (tD t c) ∧
  (∀ i, i < 6 → σ (k + 5) (c * 6 + i) = if i < tD t c then nI (tB t c i) else -1000000) ∧ (∀ i, i < tD t c → σ (k + 6) (c * 8 + tB t c i) = nI i) ∧ ∀ b, b < 8 → (∀ i, i < tD t c → tB t c i ≠ b) → σ (k + 6) (c * 8 + b) = -1000000
def townM (q o : Nat) (σ : am_S) (t : Tn) : Prop := σ q o = nI (tN t) ∧ σ q (o + 1) = nI (tS t) ∧ ∀ c, c < tN t → σ q (o + 2 + c) = nI (tH t c) ∧ σ q (o + 14 + c) = nI (tM t c) ∧ σ q (o + 26 + c) = nI (tW t c) ∧ σ q (o + 38 + c) = nI (tD t c) ∧ ∀ i, i < tD t c → σ q (o + 50 + 6 * c + i) = nI (tB t c i)
def sayC (k : Nat) (σ : am_S) (s : Sy) : Prop := σ k 0 = nI s.1 ∧ ∀ j, j < s.1 → σ (k + 1) j = nI (s.2 j)
def sayM (q o : Nat) (σ : am_S) (s : Sy) : Prop := σ q o = nI s.1 ∧ ∀ j, j < s.1 → σ q (o + 1 + j) = nI (s.2 j)
/-- rows: lanes, how many items, the items -/
abbrev Rw : Type := (Nat → Int32) × (Nat → Nat) × (Nat → Int32)
def wfR (r : Rw) : Prop := ∀ k, k < 8 → (r.1 k = -1 ∨ r.1 k = 0 ∨ r.1 k = 1 ∨ r.1 k = 2) ∧ r.2.1 k ≤ 40
def rowsV (a b c : Nat) (σ : am_S) (r : Rw) : Prop := ∀ k, k < 8 → σ a k = r.1 k ∧ σ b k = nI (r.2.1 k) ∧ ∀ i, i < r.2.1 k → σ c (40 * k + i) = r.2.2 (40 * k + i)
abbrev Tp : Type := Nat × (Nat → Nat)
def wfP (p : Tp) : Prop := p.1 ≤ 400 ∧ ∀ i, i < p.1 → p.2 i < 256
abbrev Tr : Type := Nat × (Nat → Int32)
abbrev Kp : Type := Option (Tn × Sy)
abbrev St : Type := Rw × Tp × Tn × Sy × Kp × Kp × Int32 × Int32 × Tr
def sR (S : St) : Rw := S.1
def sP (S : St) : Tp := S.2.1
def sT (S : St) : Tn := S.2.2.1
def sY (S : St) : Sy := S.2.2.2.1
def sK0 (S : St) : Kp := S.2.2.2.2.1
def sK1 (S : St) : Kp := S.2.2.2.2.2.1
def sF (S : St) : Int32 := S.2.2.2.2.2.2.1
def sL (S : St) : Int32 := S.2.2.2.2.2.2.2.1
def sX (S : St) : Tr := S.2.2.2.2.2.2.2.2
def wfK (k : Kp) : Prop := match k with
  | none => True
  | some q => wfT q.1 ∧ wfS q.2 ∧ 2 ≤ tN q.1
def wf (S : St) : Prop := wfR (sR S) ∧ wfP (sP S) ∧ (wfT (sT S) ∧ (tN (sT S) = 0 ∨ 2 ≤ tN (sT S))) ∧ wfS (sY S) ∧ wfK (sK0 S) ∧ wfK (sK1 S) ∧ (sX S).1 ≤ 16
def keptC (k : Nat) (σ : am_S) (q : Kp) : Prop := match q with
  | none => σ k 2 = 0
  | some q => σ k 2 = 1 ∧ townC (k + 1) σ q.1 ∧ sayC (k + 8) σ q.2
def keptM (i : Nat) (σ : am_S) (q : Kp) : Prop := match q with
  | none => σ 85 i = 0
  | some q => σ 85 i = 1 ∧ townM 86 (122 * i) σ q.1 ∧ sayM 87 (13 * i) σ q.2
def traceV (a b q : Nat) (σ : am_S) (x : Tr) : Prop := σ a b = nI x.1 ∧ ∀ i, i < x.1 → σ q i = x.2 i
def same (l : List Nat) (σ σ' : am_S) : Prop := ∀ q, q ∉ l → σ' q = σ q
theorem same.rf {l : List Nat} {σ : am_S} : same l σ σ := fun _ _ => rfl
theorem same.trans {l : List Nat} {a b c : am_S} (h1 : same l a b) (h2 : same l b c) : same l a c := fun q hq => (h2 q hq).trans (h1 q hq)
theorem same.sub {l m : List Nat} {a b : am_S} (h : same l a b) (hs : ∀ q ∈ l, q ∈ m) : same m a b := fun q hq => h q (fun z => hq (hs q z))
theorem same.s1 {l : List Nat} {σ σ' : am_S} (h : same l σ σ') {q : Nat} {f : Nat → Int32} (hq : q ∈ l) : same l σ (am_s1 σ' q f) := fun a ha => by
  have e : a ≠ q := fun e => ha (by rw [e]; exact hq)
  rw [am_s1_ne _ _ e]
  exact h a ha
theorem townC.kept {k : Nat} {σ σ' : am_S} {t : Tn} (h : townC k σ t) (e : ∀ j, j < 7 → σ' (k + j) = σ (k + j)) : townC k σ' t := by
  have e0 : σ' k = σ k := e 0 (by omega)
  unfold townC
  rw [e0, e 1 (by omega), e 2 (by omega), e 3 (by omega), e 4 (by omega), e 5 (by omega), e 6 (by omega)]
  exact h
theorem sayC.kept {k : Nat} {σ σ' : am_S} {s : Sy} (h : sayC k σ s) (e0 : σ' k = σ k) (e1 : σ' (k + 1) = σ (k + 1)) : sayC k σ' s := by
  unfold sayC
  rw [e0, e1]
  exact h
theorem townM.kept {q o : Nat} {σ σ' : am_S} {t : Tn} (h : townM q o σ t) (e : σ' q = σ q) : townM q o σ' t := by
  unfold townM
  rw [e]
  exact h
theorem sayM.kept {q o : Nat} {σ σ' : am_S} {t : Sy} (h : sayM q o σ t) (e : σ' q = σ q) : sayM q o σ' t := by
  unfold sayM
  rw [e]
  exact h
theorem rowsV.kept {a b c : Nat} {σ σ' : am_S} {r : Rw} (h : rowsV a b c σ r) (e0 : σ' a = σ a) (e1 : σ' b = σ b) (e2 : σ' c = σ c) : rowsV a b c σ' r := by
  unfold rowsV
  rw [e0, e1, e2]
  exact h
theorem keptC.kept {k : Nat} {σ σ' : am_S} {q : Kp} (h : keptC k σ q) (e : ∀ j, j < 10 → σ' (k + j) = σ (k + j)) : keptC k σ' q := by
  have e0 : σ' k = σ k := e 0 (by omega)
  cases q with
  | none => exact (congrFun e0 2).trans h
  | some q =>
    obtain ⟨h1, h2, h3⟩ := h
    refine ⟨(congrFun e0 2).trans h1, h2.kept (fun j hj => ?_), h3.kept (e 8 (by omega)) ?_⟩
    · rw [show k + 1 + j = k + (1 + j) by omega]
      exact e _ (by omega)
    · rw [show k + 8 + 1 = k + 9 by omega]
      exact e 9 (by omega)
theorem keptM.kept {i : Nat} {σ σ' : am_S} {q : Kp} (h : keptM i σ q) (e0 : σ' 85 = σ 85) (e1 : σ' 86 = σ 86) (e2 : σ' 87 = σ 87) : keptM i σ' q := by
  cases q with
  | none => exact (congrFun e0 i).trans h
  | some q =>
    obtain ⟨h1, h2, h3⟩ := h
    exact ⟨(congrFun e0 i).trans h1, h2.kept e1, h3.kept e2⟩
theorem traceV.kept {a b q : Nat} {σ σ' : am_S} {x : Tr} (h : traceV a b q σ x) (e0 : σ' a b = σ a b) (e1 : σ' q = σ q) : traceV a b q σ' x := by
  unfold traceV
  rw [e0, e1]
  exact h
