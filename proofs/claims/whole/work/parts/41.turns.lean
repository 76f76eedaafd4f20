def al (P : Nat → Bool) : Nat → Bool
  | 0 => true
  | k + 1 => al P k && P k
def ay (P : Nat → Bool) : Nat → Bool
  | 0 => false
  | k + 1 => ay P k || P k
theorem al_iff {P : Nat → Bool} : ∀ {k : Nat}, al P k = true ↔ ∀ i, i < k → P i = true := by
  intro k
  induction k with
  | zero => exact ⟨fun _ i hi => absurd hi (Nat.not_lt_zero _), fun _ => rfl⟩
  | succ k ih =>
    rw [al, Bool.and_eq_true, ih]
    refine ⟨fun h i hi => ?_, fun h => ⟨fun i hi => h i (by omega), h k (Nat.lt_succ_self k)⟩⟩
    by_cases e : i = k
    · rw [e]; exact h.2
    · exact h.1 i (by omega)
theorem ay_iff {P : Nat → Bool} : ∀ {k : Nat}, ay P k = true ↔ ∃ i, i < k ∧ P i = true := by
  intro k
  induction k with
  | zero => exact ⟨fun h => (by cases h), fun ⟨i, hi, _⟩ => absurd hi (Nat.not_lt_zero _)⟩
  | succ k ih =>
    rw [ay, Bool.or_eq_true, ih]
    refine ⟨fun h => ?_, fun ⟨i, hi, hp⟩ => ?_⟩
    · rcases h with ⟨i, hi, hp⟩ | hp
      · exact ⟨i, by omega, hp⟩
      · exact ⟨k, Nat.lt_succ_self k, hp⟩
    · by_cases e : i = k
      · exact Or.inr (by rw [← e]; exact hp)
      · exact Or.inl ⟨i, by omega, hp⟩
theorem al_congr {P Q : Nat → Bool} {k : Nat} (h : ∀ i, i < k → P i = Q i) : al P k = al Q k := by
  induction k with
  | zero => rfl
  | succ k ih => rw [al, al, ih (fun i hi => h i (by omega)), h k (Nat.lt_succ_self k)]
theorem ay_congr {P Q : Nat → Bool} {k : Nat} (h : ∀ i, i < k → P i = Q i) : ay P k = ay Q k := by
  induction k with
  | zero => rfl
  | succ k ih => rw [ay, ay, ih (fun i hi => h i (by omega)), h k (Nat.lt_succ_self k)]
/-- joined -/
def adB (t : Tn) (a b : Nat) : Bool := ay (fun i => decide (tB t a i = b)) (tD t a)
theorem adB_iff {t : Tn} {a b : Nat} : adB t a b = true ↔ ∃ i, i < tD t a ∧ tB t a i = b := by
  unfold adB
  rw [ay_iff]
  exact ⟨fun ⟨i, h1, h2⟩ => ⟨i, h1, of_decide_eq_true h2⟩, fun ⟨i, h1, h2⟩ => ⟨i, h1, decide_eq_true h2⟩⟩
theorem adB_sym {t : Tn} {a b : Nat} (hw : wfT t) (ha : a < tN t) (h : adB t a b = true) : adB t b a = true := by
  obtain ⟨i, h1, h2⟩ := adB_iff.mp h
  have := (hw.2.2 a ha).2.2.2.2.2.2 i h1
  rw [h2] at this
  exact adB_iff.mpr this
theorem adB_comm {t : Tn} {a b : Nat} (hw : wfT t) (ha : a < tN t) (hb : b < tN t) : adB t a b = adB t b a := by
  rw [Bool.eq_iff_iff]
  exact ⟨adB_sym hw ha, adB_sym hw hb⟩
theorem adB_self {t : Tn} {a : Nat} (hw : wfT t) (ha : a < tN t) : adB t a a = false := by
  cases e : adB t a a with
  | false => rfl
  | true =>
    obtain ⟨i, h1, h2⟩ := adB_iff.mp e
    exact absurd h2 ((hw.2.2 a ha).2.2.2.2.1 i h1).2
def pl (g : Bool) (off k n : Nat) : Nat := match g with
  | true => (off + n - k) % n
  | false => (off + k) % n
theorem pl_lt {g : Bool} {o k n : Nat} (h : 0 < n) : pl g o k n < n := by cases g <;> exact Nat.mod_lt _ h
theorem pl_K : ∀ g : Bool, ∀ n : Fin 7, ∀ a b k : Fin 6, a.val < n.val → b.val < n.val → k.val < n.val → pl g a.val (pl false b.val k.val n.val) n.val = pl g (pl g a.val b.val n.val) k.val n.val := by decide +kernel
def pq (g : Bool) (o1 o n : Nat) : Nat := match g with
  | true => (o1 + n - o) % n
  | false => (o + n - o1) % n
theorem pl_L : ∀ g : Bool, ∀ n : Fin 7, ∀ a b k : Fin 6, a.val < n.val → b.val < n.val → k.val < n.val → pl g a.val (pl false (pq g a.val b.val n.val) k.val n.val) n.val = pl g b.val k.val n.val := by decide +kernel
theorem pl_k {g : Bool} {n a b k : Nat} (hn : n ≤ 6) (ha : a < n) (hb : b < n) (hk : k < n) : pl g a (pl false b k n) n = pl g (pl g a b n) k n := pl_K g ⟨n, by omega⟩ ⟨a, by omega⟩ ⟨b, by omega⟩ ⟨k, by omega⟩ ha hb hk
theorem pl_l {g : Bool} {n a b k : Nat} (hn : n ≤ 6) (ha : a < n) (hb : b < n) (hk : k < n) : pl g a (pl false (pq g a b n) k n) n = pl g b k n := pl_L g ⟨n, by omega⟩ ⟨a, by omega⟩ ⟨b, by omega⟩ ⟨k, by omega⟩ ha hb hk
theorem pq_lt {g : Bool} {o1 o n : Nat} (h : 0 < n) : pq g o1 o n < n := by cases g <;> exact Nat.mod_lt _ h
abbrev akin (t : Tn) (c d : Nat) : Prop := tH t c = tH t d ∧ tM t c = tM t d ∧ tW t c = tW t d ∧ tD t c = tD t d
/-- the order about a corner is laid upon that about another one -/
def orO (t : Tn) (g : Bool) (f : Nat → Nat) (c : Nat) : Prop := tD t c = 0 ∨ ∃ off, off < tD t c ∧ ∀ k, k < tD t c → tB t (f c) (pl g off k (tD t c)) = f (tB t c k)
def pwO (t : Tn) (f : Nat → Nat) (k : Nat) : Prop := ∀ c, c < k → f c < tN t ∧ akin t c (f c) ∧ ∀ e, e < c → f e ≠ f c ∧ adB t e c = adB t (f e) (f c)
def Wy (t : Tn) (g : Bool) (f : Nat → Nat) : Prop := pwO t f (tN t) ∧ ∀ c, c < tN t → orO t g f c
theorem pwO_inj {t : Tn} {f : Nat → Nat} {k a b : Nat} (h : pwO t f k) (ha : a < k) (hb : b < k) (he : f a = f b) : a = b := by
  rcases Nat.lt_trichotomy a b with q | q | q
  · exact absurd he ((h b hb).2.2 a q).1
  · exact q
  · exact absurd he.symm ((h a ha).2.2 b q).1
theorem pwO_adj {t : Tn} {f : Nat → Nat} {k a b : Nat} (hw : wfT t) (hk : k ≤ tN t) (h : pwO t f k) (ha : a < k) (hb : b < k) : adB t a b = adB t (f a) (f b) := by
  rcases Nat.lt_trichotomy a b with q | q | q
  · exact ((h b hb).2.2 a q).2
  · rw [q, adB_self hw (by omega), adB_self hw (h b hb).1]
  · rw [adB_comm hw (by omega) (by omega), adB_comm hw (h a ha).1 (h b hb).1]
    exact ((h a ha).2.2 b q).2
theorem pwO_mk {t : Tn} {f : Nat → Nat} (h1 : ∀ c, c < tN t → f c < tN t ∧ akin t c (f c)) (h2 : ∀ a b, a < tN t → b < tN t → f a = f b → a = b) (h3 : ∀ a b, a < tN t → b < tN t → adB t a b = adB t (f a) (f b)) : pwO t f (tN t) := fun c hc => ⟨(h1 c hc).1, (h1 c hc).2, fun e he => ⟨fun q => by have := h2 e c (by omega) hc q; omega, h3 e c (by omega) hc⟩⟩
theorem pwO_mono {t : Tn} {f : Nat → Nat} {k m : Nat} (h : pwO t f m) (hk : k ≤ m) : pwO t f k := fun c hc => h c (by omega)
theorem nd_surj {n : Nat} {f : Nat → Nat} (h1 : ∀ c, c < n → f c < n) (h2 : ∀ a b, a < n → b < n → f a = f b → a = b) {e : Nat} (he : e < n) : ∃ d, d < n ∧ f d = e := by
  rcases Classical.em (∃ d, d < n ∧ f d = e) with h | h
  · exact h
  · exfalso
    have hnd : (e :: (List.range n).map f).Nodup := by
      refine List.nodup_cons.mpr ⟨fun hm => ?_, ?_⟩
      · obtain ⟨d, hd, hd2⟩ := List.mem_map.mp hm
        exact h ⟨d, List.mem_range.mp hd, hd2⟩
      · have hp : (List.range n).Pairwise (fun a b => a < b) := List.pairwise_lt_range
        have hp2 : (List.range n).Pairwise (fun a b => a ∈ List.range n ∧ b ∈ List.range n ∧ a < b) := by
          refine List.Pairwise.imp_of_mem (fun ha hb hab => ⟨ha, hb, hab⟩) hp
        exact hp2.map f (fun a b hab q => by
          have := h2 a b (List.mem_range.mp hab.1) (List.mem_range.mp hab.2.1) q
          omega)
    have hl := List.Nodup.length_le_of_subset hnd (l₂ := List.range n) (fun x hx => by
      rcases List.mem_cons.mp hx with q | q
      · rw [q]; exact List.mem_range.mpr he
      · obtain ⟨d, hd, hd2⟩ := List.mem_map.mp q
        rw [← hd2]
        exact List.mem_range.mpr (h1 d (List.mem_range.mp hd)))
    rw [List.length_cons, List.length_map, List.length_range] at hl
    omega
theorem Wy_comp {t : Tn} {g : Bool} {w u : Nat → Nat} (hw : wfT t) (h : Wy t g w) (hu : Wy t false u) : Wy t g (fun c => w (u c)) := by
  refine ⟨pwO_mk (fun c hc => ?_) (fun a b ha hb q => ?_) (fun a b ha hb => ?_), fun c hc => ?_⟩
  · have q1 := hu.1 c hc
    have q2 := h.1 (u c) q1.1
    exact ⟨q2.1, q1.2.1.1.trans q2.2.1.1, q1.2.1.2.1.trans q2.2.1.2.1, q1.2.1.2.2.1.trans q2.2.1.2.2.1, q1.2.1.2.2.2.trans q2.2.1.2.2.2⟩
  · exact pwO_inj hu.1 ha hb (pwO_inj h.1 (hu.1 a ha).1 (hu.1 b hb).1 q)
  · rw [pwO_adj hw (Nat.le_refl _) hu.1 ha hb]
    exact pwO_adj hw (Nat.le_refl _) h.1 (hu.1 a ha).1 (hu.1 b hb).1
  · have h6 := (hw.2.2 c hc).2.2.2.1
    have hD : tD t c = tD t (u c) := (hu.1 c hc).2.1.2.2.2
    rcases hu.2 c hc with q | ⟨o2, q1, q2⟩
    · exact Or.inl q
    · rcases h.2 (u c) (hu.1 c hc).1 with p | ⟨o1, p1, p2⟩
      · exact Or.inl (hD.trans p)
      · rw [← hD] at p1 p2
        refine Or.inr ⟨pl g o1 o2 (tD t c), pl_lt (by omega), fun k hk => ?_⟩
        show tB t (w (u c)) _ = w (u (tB t c k))
        rw [← pl_k h6 p1 q1 hk, p2 _ (pl_lt (by omega)), q2 k hk]
theorem Wy_quot {t : Tn} {g : Bool} {w w' : Nat → Nat} (hw : wfT t) (h : Wy t g w) (h' : Wy t g w') : ∃ u, Wy t false u ∧ ∀ c, c < tN t → w (u c) = w' c := by
  have hs : ∀ e, e < tN t → ∃ d, d < tN t ∧ w d = e := fun e he => nd_surj (fun c hc => (h.1 c hc).1) (fun a b ha hb => pwO_inj h.1 ha hb) he
  have hu : ∀ c, c < tN t → ∃ d, d < tN t ∧ w d = w' c := fun c hc => hs _ (h'.1 c hc).1
  let u : Nat → Nat := fun c => (ufst (fun d => decide (w d = w' c)) (tN t)).getD 0
  have hU : ∀ c, c < tN t → u c < tN t ∧ w (u c) = w' c := fun c hc => by
    show (ufst (fun d => decide (w d = w' c)) (tN t)).getD 0 < tN t ∧ w ((ufst (fun d => decide (w d = w' c)) (tN t)).getD 0) = w' c
    cases e : ufst (fun d => decide (w d = w' c)) (tN t) with
    | none =>
      obtain ⟨d, d1, d2⟩ := hu c hc
      exact absurd (ufst_none e d d1) (by simpa using d2)
    | some d =>
      obtain ⟨d1, d2, -⟩ := ufst_some e
      exact ⟨d1, of_decide_eq_true d2⟩
  refine ⟨u, ⟨pwO_mk (fun c hc => ?_) (fun a b ha hb q => ?_) (fun a b ha hb => ?_), fun c hc => ?_⟩, fun c hc => (hU c hc).2⟩
  · obtain ⟨u1, u2⟩ := hU c hc
    have q1 := (h.1 (u c) u1).2.1
    have q2 := (h'.1 c hc).2.1
    rw [u2] at q1
    exact ⟨u1, q2.1.trans q1.1.symm, q2.2.1.trans q1.2.1.symm, q2.2.2.1.trans q1.2.2.1.symm, q2.2.2.2.trans q1.2.2.2.symm⟩
  · exact pwO_inj h'.1 ha hb (by rw [← (hU a ha).2, ← (hU b hb).2, q])
  · rw [pwO_adj hw (Nat.le_refl _) h'.1 ha hb, ← (hU a ha).2, ← (hU b hb).2]
    exact (pwO_adj hw (Nat.le_refl _) h.1 (hU a ha).1 (hU b hb).1).symm
  · obtain ⟨u1, u2⟩ := hU c hc
    have h6 := (hw.2.2 c hc).2.2.2.1
    have q1 := (h.1 (u c) u1).2.1
    have q2 := (h'.1 c hc).2.1
    rw [u2] at q1
    have hD : tD t c = tD t (u c) := q2.2.2.2.trans q1.2.2.2.symm
    rcases h'.2 c hc with q | ⟨o, p1, p2⟩
    · exact Or.inl q
    · rcases h.2 (u c) u1 with p | ⟨o1, r1, r2⟩
      · exact Or.inl (hD.trans p)
      · rw [← hD, u2] at r2
        rw [← hD] at r1
        refine Or.inr ⟨pq g o1 o (tD t c), pq_lt (by omega), fun k hk => ?_⟩
        have hb := ((hw.2.2 c hc).2.2.2.2.1 k hk).1
        have hz : pl false (pq g o1 o (tD t c)) k (tD t c) < tD t (u c) := by rw [← hD]; exact pl_lt (by omega)
        refine pwO_inj h.1 ((hw.2.2 (u c) u1).2.2.2.2.1 _ hz).1 (hU _ hb).1 ?_
        rw [(hU _ hb).2, ← p2 k hk, ← pl_l h6 r1 p1 hk]
        exact (r2 _ (pl_lt (by omega))).symm
def fiB (t : Tn) (p : Nat → Nat) (k d : Nat) : Bool := decide (akin t k d) && al (fun e => decide (p e ≠ d) && (adB t e k == adB t (p e) d)) k
theorem fiB_iff {t : Tn} {p : Nat → Nat} {k d : Nat} : fiB t p k d = true ↔ akin t k d ∧ ∀ e, e < k → p e ≠ d ∧ adB t e k = adB t (p e) d := by
  unfold fiB
  rw [Bool.and_eq_true, al_iff, decide_eq_true_eq]
  refine ⟨fun h => ⟨h.1, fun e he => ?_⟩, fun h => ⟨h.1, fun e he => ?_⟩⟩
  · have := h.2 e he
    rw [Bool.and_eq_true, decide_eq_true_eq, beq_iff_eq] at this
    exact this
  · rw [Bool.and_eq_true, decide_eq_true_eq, beq_iff_eq]
    exact h.2 e he
theorem pwO_up {t : Tn} {p : Nat → Nat} {k d : Nat} (h : pwO t p k) (hd : d < tN t) (hf : fiB t p k d = true) : pwO t (va_up p k d) (k + 1) := by
  obtain ⟨f1, f2⟩ := fiB_iff.mp hf
  intro c hc
  by_cases e : c = k
  · subst e
    rw [va_eq]
    refine ⟨hd, f1, fun e he => ?_⟩
    rw [va_ne _ _ (by omega)]
    exact f2 e he
  · rw [va_ne _ _ e]
    obtain ⟨h1, h2, h3⟩ := h c (by omega)
    refine ⟨h1, h2, fun e he => ?_⟩
    rw [va_ne _ _ (by omega)]
    exact h3 e he
def ooB (t : Tn) (g : Bool) (f : Nat → Nat) (c : Nat) : Bool := decide (tD t c = 0) || ay (fun off => al (fun k => decide (tB t (f c) (pl g off k (tD t c)) = f (tB t c k))) (tD t c)) (tD t c)
theorem ooB_iff {t : Tn} {g : Bool} {f : Nat → Nat} {c : Nat} : ooB t g f c = true ↔ orO t g f c := by
  unfold ooB orO
  rw [Bool.or_eq_true, decide_eq_true_eq, ay_iff]
  refine ⟨fun h => h.imp_right (fun ⟨o, h1, h2⟩ => ⟨o, h1, fun k hk => of_decide_eq_true (al_iff.mp h2 k hk)⟩), fun h => h.imp_right (fun ⟨o, h1, h2⟩ => ⟨o, h1, al_iff.mpr (fun k hk => decide_eq_true (h2 k hk))⟩)⟩
def iwB (t : Tn) (g : Bool) (f : Nat → Nat) : Bool := al (ooB t g f) (tN t)
theorem iwB_iff {t : Tn} {g : Bool} {f : Nat → Nat} : iwB t g f = true ↔ ∀ c, c < tN t → orO t g f c := by
  unfold iwB
  rw [al_iff]
  exact ⟨fun h c hc => ooB_iff.mp (h c hc), fun h c hc => ooB_iff.mpr (h c hc)⟩
theorem iwB_congr {t : Tn} {g : Bool} {f f' : Nat → Nat} (hw : wfT t) (h : ∀ c, c < tN t → f c = f' c) : iwB t g f = iwB t g f' := by
  refine al_congr (fun c hc => ?_)
  unfold ooB
  rw [h c hc]
  congr 1
  exact ay_congr (fun o ho => al_congr (fun k hk => by rw [h _ ((hw.2.2 c hc).2.2.2.2.1 k hk).1]))
def ws {A : Type} (F : Nat → List A) : Nat → Nat → List A
  | 0, _ => []
  | j + 1, d => F d ++ ws F j (d + 1)
/-- all ways that lay the first k as they are laid; m are left -/
def wl (t : Tn) (g : Bool) : Nat → Nat → (Nat → Nat) → List (Nat → Nat)
  | 0, _, p => if iwB t g p = true then [p] else []
  | m + 1, k, p => ws (fun d => if fiB t p k d = true then wl t g m (k + 1) (va_up p k d) else []) (tN t) 0
theorem ws_mem {A : Type} {F : Nat → List A} {x : A} : ∀ {j d : Nat}, x ∈ ws F j d ↔ ∃ i, d ≤ i ∧ i < d + j ∧ x ∈ F i := by
  intro j
  induction j with
  | zero => intro d; exact ⟨fun h => (by cases h), fun ⟨i, h1, h2, _⟩ => by omega⟩
  | succ j ih =>
    intro d
    rw [ws, List.mem_append, ih]
    refine ⟨fun h => ?_, fun ⟨i, h1, h2, h3⟩ => ?_⟩
    · rcases h with h | ⟨i, h1, h2, h3⟩
      · exact ⟨d, Nat.le_refl _, by omega, h⟩
      · exact ⟨i, by omega, by omega, h3⟩
    · by_cases e : i = d
      · exact Or.inl (by rw [← e]; exact h3)
      · exact Or.inr ⟨i, by omega, by omega, h3⟩
theorem ws_len {A : Type} {F : Nat → List A} {G : Nat → Bool} {B : Nat} : ∀ {j d : Nat}, (∀ i, d ≤ i → i < d + j → (F i).length = if G i = true then B else 0) → (ws F j d).length + cnB G d * B = cnB G (d + j) * B := by
  intro j
  induction j with
  | zero => intro d _; exact Nat.zero_add _
  | succ j ih =>
    intro d h
    have h1 := ih (d := d + 1) (fun i h1 h2 => h i (by omega) (by omega))
    rw [ws, List.length_append, h d (Nat.le_refl _) (by omega), show d + (j + 1) = d + 1 + j by omega, ← h1, cnB, Nat.add_mul]
    by_cases e : G d = true
    · rw [if_pos e, if_pos e]; omega
    · rw [if_neg e, if_neg e]; omega
theorem wl_mem {t : Tn} {g : Bool} (hw : wfT t) : ∀ {m k : Nat} {p w : Nat → Nat}, k + m = tN t → pwO t p k → w ∈ wl t g m k p → Wy t g w ∧ ∀ i, i < k → w i = p i := by
  intro m
  induction m with
  | zero =>
    intro k p w hk hp hm
    rw [wl] at hm
    by_cases e : iwB t g p = true
    · rw [if_pos e, List.mem_singleton] at hm
      subst hm
      rw [show k = tN t by omega] at hp
      exact ⟨⟨hp, iwB_iff.mp e⟩, fun _ _ => rfl⟩
    · rw [if_neg e] at hm; cases hm
  | succ m ih =>
    intro k p w hk hp hm
    rw [wl, ws_mem] at hm
    obtain ⟨d, -, hd, hm⟩ := hm
    by_cases e : fiB t p k d = true
    · rw [if_pos e] at hm
      obtain ⟨h1, h2⟩ := ih (by omega) (pwO_up hp (by omega) e) hm
      refine ⟨h1, fun i hi => ?_⟩
      rw [h2 i (by omega), va_ne _ _ (by omega)]
    · rw [if_neg e] at hm; cases hm
theorem fiB_way {t : Tn} {g : Bool} {p w : Nat → Nat} {k : Nat} (h : Wy t g w) (hk : k < tN t) (hp : ∀ i, i < k → w i = p i) : fiB t p k (w k) = true := by
  refine fiB_iff.mpr ⟨(h.1 k hk).2.1, fun e he => ?_⟩
  rw [← hp e he]
  exact (h.1 k hk).2.2 e he
theorem wl_ex {t : Tn} {g : Bool} (hw : wfT t) {w : Nat → Nat} (h : Wy t g w) : ∀ {m k : Nat} {p : Nat → Nat}, k + m = tN t → (∀ i, i < k → w i = p i) → ∃ w', w' ∈ wl t g m k p ∧ ∀ i, i < tN t → w' i = w i := by
  intro m
  induction m with
  | zero =>
    intro k p hk hp
    rw [wl, if_pos]
    · exact ⟨p, List.mem_singleton.mpr rfl, fun i hi => (hp i (by omega)).symm⟩
    · rw [← iwB_congr hw (f := w) (fun c hc => hp c (by omega))]
      exact iwB_iff.mpr h.2
  | succ m ih =>
    intro k p hk hp
    have hkn : k < tN t := by omega
    obtain ⟨w', h1, h2⟩ := ih (k := k + 1) (p := va_up p k (w k)) (by omega) (fun i hi => by
      by_cases e : i = k
      · rw [e, va_eq]
      · rw [va_ne _ _ e]; exact hp i (by omega))
    refine ⟨w', ?_, h2⟩
    rw [wl, ws_mem]
    refine ⟨w k, Nat.zero_le _, by have := (h.1 k hkn).1; omega, ?_⟩
    rw [if_pos (fiB_way h hkn hp)]
    exact h1
/-- whether a way lays the first k so, and the next one there -/
def gB (t : Tn) (g : Bool) (p : Nat → Nat) (k d : Nat) : Bool := fiB t p k d && !(wl t g (tN t - (k + 1)) (k + 1) (va_up p k d)).isEmpty
theorem gB_iff {t : Tn} {g : Bool} {p : Nat → Nat} {k d : Nat} (hw : wfT t) (hk : k < tN t) (hp : pwO t p k) (hd : d < tN t) : gB t g p k d = true ↔ ∃ w, Wy t g w ∧ (∀ i, i < k → w i = p i) ∧ w k = d := by
  unfold gB
  rw [Bool.and_eq_true]
  refine ⟨fun ⟨h1, h2⟩ => ?_, fun ⟨w, h1, h2, h3⟩ => ?_⟩
  · cases e : wl t g (tN t - (k + 1)) (k + 1) (va_up p k d) with
    | nil => rw [e] at h2; cases h2
    | cons w l =>
      obtain ⟨w1, w2⟩ := wl_mem (w := w) hw (m := tN t - (k + 1)) (by omega) (pwO_up hp hd h1) (by rw [e]; exact List.mem_cons_self)
      refine ⟨w, w1, fun i hi => ?_, ?_⟩
      · rw [w2 i (by omega), va_ne _ _ (by omega)]
      · rw [w2 k (by omega), va_eq]
  · subst h3
    refine ⟨fiB_way h1 hk h2, ?_⟩
    obtain ⟨w', w1, -⟩ := wl_ex hw h1 (m := tN t - (k + 1)) (k := k + 1) (p := va_up p k (w k)) (by omega) (fun i hi => by
      by_cases e : i = k
      · rw [e, va_eq]
      · rw [va_ne _ _ e]; exact h2 i (by omega))
    cases e : wl t g (tN t - (k + 1)) (k + 1) (va_up p k (w k)) with
    | nil => rw [e] at w1; cases w1
    | cons x l => rfl
/-- how many turns leave the first ones where they are; m are left -/
def bkF (t : Tn) : Nat → Nat
  | 0 => 1
  | m + 1 => cnB (gB t false (fun i => i) (tN t - (m + 1))) (tN t) * bkF t m
theorem pl_0 {n k : Nat} (h : k < n) : pl false 0 k n = k := by show (0 + k) % n = k; rw [Nat.zero_add, Nat.mod_eq_of_lt h]
theorem Wy_id {t : Tn} : Wy t false (fun i => i) := by
  refine ⟨fun c hc => ⟨hc, ⟨rfl, rfl, rfl, rfl⟩, fun e he => ⟨by show e ≠ c; omega, rfl⟩⟩, fun c hc => ?_⟩
  by_cases h : tD t c = 0
  · exact Or.inl h
  · exact Or.inr ⟨0, by omega, fun k hk => by rw [pl_0 hk]⟩
theorem cnB_le_map {P Q : Nat → Bool} {n : Nat} {f : Nat → Nat} (h1 : ∀ c, c < n → f c < n) (h2 : ∀ a b, a < n → b < n → f a = f b → a = b) (h3 : ∀ d, d < n → P d = true → Q (f d) = true) : cnB P n ≤ cnB Q n := by
  have hc : ∀ (R : Nat → Bool) (m : Nat), cnB R m = ((List.range m).filter R).length := by
    intro R m
    induction m with
    | zero => rfl
    | succ m ih =>
      rw [cnB, ih, List.range_succ, List.filter_append, List.length_append]
      congr 1
      by_cases e : R m = true
      · rw [if_pos e, List.filter_cons_of_pos e]; rfl
      · rw [if_neg e, List.filter_cons_of_neg e]; rfl
  rw [hc, hc, ← List.length_map (as := (List.range n).filter P) f]
  refine List.Nodup.length_le_of_subset ?_ ?_
  · have hp : ((List.range n).filter P).Pairwise (fun a b => a < b) := List.Pairwise.filter P List.pairwise_lt_range
    have hp2 : ((List.range n).filter P).Pairwise (fun a b => a ∈ (List.range n).filter P ∧ b ∈ (List.range n).filter P ∧ a < b) := List.Pairwise.imp_of_mem (fun ha hb hab => ⟨ha, hb, hab⟩) hp
    exact hp2.map f (fun a b hab q => by
      have := h2 a b (List.mem_range.mp (List.mem_filter.mp hab.1).1) (List.mem_range.mp (List.mem_filter.mp hab.2.1).1) q
      omega)
  · intro x hx
    obtain ⟨d, hd, hd2⟩ := List.mem_map.mp hx
    obtain ⟨d1, d2⟩ := List.mem_filter.mp hd
    have d1 := List.mem_range.mp d1
    rw [← hd2]
    exact List.mem_filter.mpr ⟨List.mem_range.mpr (h1 d d1), h3 d d1 d2⟩
/-- as many go on from a beginning as turns leave it where it is -/
theorem gB_cnt {t : Tn} {g : Bool} {p w0 : Nat → Nat} {k : Nat} (hw : wfT t) (hk : k < tN t) (hp : pwO t p k) (h0 : Wy t g w0) (h1 : ∀ i, i < k → w0 i = p i) : cnB (gB t g p k) (tN t) = cnB (gB t false (fun i => i) k) (tN t) := by
  have hid : pwO t (fun i => i) k := pwO_mono (Wy_id (t := t)).1 (by omega)
  refine Nat.le_antisymm ?_ ?_
  · let f : Nat → Nat := fun e => (ufst (fun d => decide (w0 d = e)) (tN t)).getD 0
    have hf : ∀ e, e < tN t → f e < tN t ∧ w0 (f e) = e := fun e he => by
      show (ufst (fun d => decide (w0 d = e)) (tN t)).getD 0 < tN t ∧ w0 ((ufst (fun d => decide (w0 d = e)) (tN t)).getD 0) = e
      cases q : ufst (fun d => decide (w0 d = e)) (tN t) with
      | none =>
        obtain ⟨d, d1, d2⟩ := nd_surj (fun c hc => (h0.1 c hc).1) (fun a b ha hb => pwO_inj h0.1 ha hb) he
        exact absurd (ufst_none q d d1) (by simpa using d2)
      | some d =>
        obtain ⟨d1, d2, -⟩ := ufst_some q
        exact ⟨d1, of_decide_eq_true d2⟩
    refine cnB_le_map (f := f) (fun c hc => (hf c hc).1) (fun a b ha hb q => by rw [← (hf a ha).2, ← (hf b hb).2, q]) (fun e he hg => ?_)
    obtain ⟨w, w1, w2, w3⟩ := (gB_iff hw hk hp he).mp hg
    obtain ⟨u, u1, u2⟩ := Wy_quot hw h0 w1
    refine (gB_iff hw hk hid (hf e he).1).mpr ⟨u, u1, fun i hi => ?_, ?_⟩
    · exact pwO_inj h0.1 (u1.1 i (by omega)).1 (by omega) (by rw [u2 i (by omega), w2 i hi, h1 i hi])
    · exact pwO_inj h0.1 (u1.1 k hk).1 (hf e he).1 (by rw [u2 k hk, w3, (hf e he).2])
  · refine cnB_le_map (f := w0) (fun c hc => (h0.1 c hc).1) (fun a b ha hb => pwO_inj h0.1 ha hb) (fun d hd hg => ?_)
    obtain ⟨u, u1, u2, u3⟩ := (gB_iff hw hk hid hd).mp hg
    exact (gB_iff hw hk hp (h0.1 d hd).1).mpr ⟨_, Wy_comp hw h0 u1, fun i hi => by show w0 (u i) = p i; rw [u2 i hi]; exact h1 i hi, by show w0 (u k) = w0 d; rw [u3]⟩
theorem wl_len {t : Tn} {g : Bool} (hw : wfT t) : ∀ {m k : Nat} {p w0 : Nat → Nat}, k + m = tN t → pwO t p k → Wy t g w0 → (∀ i, i < k → w0 i = p i) → (wl t g m k p).length = bkF t m := by
  intro m
  induction m with
  | zero =>
    intro k p w0 hk hp h0 h1
    rw [wl, if_pos]
    · rfl
    · rw [← iwB_congr hw (f := w0) (fun c hc => h1 c (by omega))]
      exact iwB_iff.mpr h0.2
  | succ m ih =>
    intro k p w0 hk hp h0 h1
    have hkn : k < tN t := by omega
    rw [wl, bkF, ← show k = tN t - (m + 1) by omega, ← gB_cnt hw hkn hp h0 h1]
    have h2 := ws_len (F := fun d => if fiB t p k d = true then wl t g m (k + 1) (va_up p k d) else []) (G := gB t g p k) (B := bkF t m) (j := tN t) (d := 0) (fun d _ hd => ?_)
    · rw [cnB, Nat.zero_mul, Nat.zero_add, Nat.add_zero] at h2
      exact h2
    · have hd : d < tN t := by omega
      show (if fiB t p k d = true then wl t g m (k + 1) (va_up p k d) else []).length = _
      by_cases e : gB t g p k d = true
      · rw [if_pos e]
        obtain ⟨w, w1, w2, w3⟩ := (gB_iff hw hkn hp hd).mp e
        have hf : fiB t p k d = true := by unfold gB at e; rw [Bool.and_eq_true] at e; exact e.1
        rw [if_pos hf]
        exact ih (by omega) (pwO_up hp hd hf) w1 (fun i hi => by
          by_cases q : i = k
          · rw [q, va_eq]; exact w3
          · rw [va_ne _ _ q]; exact w2 i (by omega))
      · rw [if_neg e]
        unfold gB at e
        rw [show tN t - (k + 1) = m by omega] at e
        by_cases hf : fiB t p k d = true
        · rw [if_pos hf]
          rw [hf, Bool.true_and] at e
          cases q : wl t g m (k + 1) (va_up p k d) with
          | nil => rfl
          | cons x l => rw [q] at e; exact absurd rfl e
        · rw [if_neg hf]; rfl
theorem bkF_pos {t : Tn} (hw : wfT t) {m : Nat} (hm : m ≤ tN t) : 0 < bkF t m := by
  obtain ⟨w', h1, -⟩ := wl_ex hw (Wy_id (t := t)) (m := m) (k := tN t - m) (p := fun i => i) (by omega) (fun _ _ => rfl)
  rw [← wl_len hw (g := false) (m := m) (k := tN t - m) (p := fun i => i) (by omega) (pwO_mono Wy_id.1 (by omega)) Wy_id (fun _ _ => rfl)]
  exact List.length_pos_of_mem h1
theorem bkF_le {t : Tn} (hw : wfT t) : ∀ {m : Nat}, bkF t m ≤ 8 ^ m := by
  intro m
  induction m with
  | zero => exact Nat.le_refl _
  | succ m ih =>
    rw [bkF, Nat.pow_succ, Nat.mul_comm]
    exact Nat.mul_le_mul ih (Nat.le_trans cnB_le hw.1)
theorem bkF_b {t : Tn} (hw : wfT t) {m : Nat} (hm : m ≤ 8) : bkF t m ≤ 16777216 := Nat.le_trans (bkF_le hw) (Nat.pow_le_pow_right (by omega) hm)
def wys (t : Tn) (g : Bool) : List (Nat → Nat) := wl t g (tN t) 0 (fun i => i)
def qLaid (t : Tn) (what i c : Int32) : Int32 := if okb what ∧ okm i ∧ okc t c then (if i = -1 then nI (wys t (b1 what)).length else (match (wys t (b1 what))[cn i]? with
  | none => -1000000
  | some w => nI (w (cn c)))) else -1000001
def qEnds (t : Tn) : Int32 := if tN t = 0 then -1000002 else if (wys t true).isEmpty = true then -1000000 else fkI (ufst (fun c => (wys t true).all (fun w => decide (w c ≠ c))) (tN t))
theorem wys_len {t : Tn} {g : Bool} (hw : wfT t) : (wys t g).length = if (wys t g).isEmpty = true then 0 else bkF t (tN t) := by
  cases e : wys t g with
  | nil => rfl
  | cons w l =>
    have h1 : w ∈ wys t g := by rw [e]; exact List.mem_cons_self
    obtain ⟨w1, -⟩ := wl_mem hw (Nat.zero_add _) (fun c hc => absurd hc (Nat.not_lt_zero _)) h1
    rw [← e, if_neg (by rw [e]; exact Bool.false_ne_true)]
    exact wl_len hw (Nat.zero_add _) (fun c hc => absurd hc (Nat.not_lt_zero _)) w1 (fun i hi => absurd hi (Nat.not_lt_zero _))
theorem wys_ex {t : Tn} {g : Bool} (hw : wfT t) : (wys t g).isEmpty = false ↔ ∃ w, Wy t g w := by
  refine ⟨fun h => ?_, fun ⟨w, h⟩ => ?_⟩
  · cases e : wys t g with
    | nil => rw [e] at h; cases h
    | cons w l =>
      have h1 : w ∈ wys t g := by rw [e]; exact List.mem_cons_self
      exact ⟨w, (wl_mem hw (Nat.zero_add _) (fun c hc => absurd hc (Nat.not_lt_zero _)) h1).1⟩
  · obtain ⟨w', h1, -⟩ := wl_ex hw h (Nat.zero_add _) (p := fun i => i) (fun i hi => absurd hi (Nat.not_lt_zero _))
    have h1 : w' ∈ wys t g := h1
    cases e : wys t g with
    | nil => rw [e] at h1; cases h1
    | cons x l => rfl
