/-! THE JUDGEMENT of a frame -/
def am_L (as : Nat → Nat) (n : Nat) (L : List Value) (ls : Array Slot) (nL : Nat) : Prop := L.length = nL ∧ ∃ l : List (Nat × Value), lv_has ls nL l ∧ ∀ (i : Nat) (v : Value), L[i]? = some v → v ≠ .retAddr 0 → ∃ rv, (i, rv) ∈ l ∧ am_R as n v rv
theorem am_L.mono {as as' : Nat → Nat} {n n' nL : Nat} {L : List Value} {ls : Array Slot} (hE : am_E as as' n n') (h : am_L as n L ls nL) : am_L as' n' L ls nL := by
  obtain ⟨h1, l, h2, h3⟩ := h
  exact ⟨h1, l, h2, fun i v hi hv => by obtain ⟨rv, a, b⟩ := h3 i v hi hv; exact ⟨rv, a, b.mono hE⟩⟩
theorem am_L.get {as : Nat → Nat} {n nL : Nat} {L : List Value} {ls : Array Slot} (h : am_L as n L ls nL) {i : Nat} {v : Value} (hi : L[i]? = some v) (hv : v ≠ .retAddr 0) : ∃ rv, ls[i]? = some (.val rv) ∧ am_R as n v rv := by
  obtain ⟨-, l, h2, h3⟩ := h
  obtain ⟨rv, a, b⟩ := h3 i v hi hv
  exact ⟨rv, h2.2.2 (i, rv) a, b⟩
def am_cut (L : List Value) (i : Nat) : Bool := match i with
  | 0 => true
  | k + 1 => match L[k]? with
    | some (.long _) => false
    | some (.double _) => false
    | _ => true
/-- a local of one place is stored -/
def am_sto (L : List Value) (i : Nat) (v : Value) : Option (List Value) := match (decide (i < L.length) && am_cut L i) with
  | true => some (L.set i v)
  | false => none
theorem am_L.sto {as : Nat → Nat} {n nL : Nat} {L L' : List Value} {ls ls' : Array Slot} {i : Nat} {v rv : Value} {l : List (Nat × Value)} (h1 : L.length = nL) (h3 : ∀ (i : Nat) (v : Value), L[i]? = some v → v ≠ .retAddr 0 → ∃ rv, (i, rv) ∈ l ∧ am_R as n v rv)
    (hs : am_sto L i v = some L') (hv : am_R as n v rv) (hl : lv_has ls' nL ((i, rv) :: l.filter (fun q => !(q.1 == i) && !(q.1 + 1 == i && q.2.category == 2)))) : am_L as n L' ls' nL := by
  unfold am_sto at hs
  split at hs
  · rename_i hc
    rw [Bool.and_eq_true, decide_eq_true_eq] at hc
    cases hs
    refine ⟨by rw [List.length_set]; exact h1, _, hl, fun j w hj hw => ?_⟩
    by_cases e : j = i
    · subst e
      rw [List.getElem?_set_self hc.1] at hj
      cases hj
      exact ⟨rv, List.mem_cons_self, hv⟩
    · rw [List.getElem?_set_ne (fun q => e q.symm)] at hj
      obtain ⟨rw', a, b⟩ := h3 j w hj hw
      refine ⟨rw', List.mem_cons_of_mem _ (List.mem_filter.mpr ⟨a, ?_⟩), b⟩
      have c1 : (j == i) = false := by simpa using e
      have c2 : (j + 1 == i && rw'.category == 2) = false := by
        by_cases e2 : j + 1 = i
        · subst e2
          have hc2 := hc.2
          unfold am_cut at hc2
          simp only [hj] at hc2
          rw [b.cat]
          cases w <;> simp [Value.category] at hc2 ⊢
        · have : (j + 1 == i) = false := by simpa using e2
          rw [this]; rfl
      show (!(j == i) && !(j + 1 == i && rw'.category == 2)) = true
      rw [c1, c2]; rfl
  · cases hs
def am_sto2 (L : List Value) (i : Nat) (v : Value) : Option (List Value) := match (decide (i + 1 < L.length) && am_cut L i) with
  | true => some ((L.set i v).set (i + 1) (.retAddr 0))
  | false => none
theorem am_L.sto2 {as : Nat → Nat} {n nL : Nat} {L L' : List Value} {ls ls' : Array Slot} {i : Nat} {v rv : Value} {l : List (Nat × Value)} (h1 : L.length = nL) (h3 : ∀ (i : Nat) (v : Value), L[i]? = some v → v ≠ .retAddr 0 → ∃ rv, (i, rv) ∈ l ∧ am_R as n v rv)
    (hs : am_sto2 L i v = some L') (hv : am_R as n v rv) (hl : lv_has ls' nL ((i, rv) :: l.filter (fun q => !(q.1 == i) && (!(q.1 == i + 1) && !(q.1 + 1 == i && q.2.category == 2))))) : am_L as n L' ls' nL := by
  unfold am_sto2 at hs
  split at hs
  · rename_i hc
    rw [Bool.and_eq_true, decide_eq_true_eq] at hc
    cases hs
    refine ⟨by rw [List.length_set, List.length_set]; exact h1, _, hl, fun j w hj hw => ?_⟩
    by_cases e0 : j = i + 1
    · subst e0
      rw [List.getElem?_set_self (by rw [List.length_set]; exact hc.1)] at hj
      cases hj
      exact absurd rfl hw
    · rw [List.getElem?_set_ne (fun q => e0 q.symm)] at hj
      by_cases e : j = i
      · subst e
        rw [List.getElem?_set_self (by omega)] at hj
        cases hj
        exact ⟨rv, List.mem_cons_self, hv⟩
      · rw [List.getElem?_set_ne (fun q => e q.symm)] at hj
        obtain ⟨rw', a, b⟩ := h3 j w hj hw
        refine ⟨rw', List.mem_cons_of_mem _ (List.mem_filter.mpr ⟨a, ?_⟩), b⟩
        have c1 : (j == i) = false := by simpa using e
        have c0 : (j == i + 1) = false := by simpa using e0
        have c2 : (j + 1 == i && rw'.category == 2) = false := by
          by_cases e2 : j + 1 = i
          · subst e2
            have hc2 := hc.2
            unfold am_cut at hc2
            simp only [hj] at hc2
            rw [b.cat]
            cases w <;> simp [Value.category] at hc2 ⊢
          · have : (j + 1 == i) = false := by simpa using e2
            rw [this]; rfl
        show (!(j == i) && (!(j == i + 1) && !(j + 1 == i && rw'.category == 2))) = true
        rw [c1, c0, c2]; rfl
  · cases hs
theorem am_sto_lt {L L' : List Value} {i : Nat} {v : Value} (hs : am_sto L i v = some L') : i < L.length := by
  unfold am_sto at hs
  split at hs
  · rename_i hc
    rw [Bool.and_eq_true, decide_eq_true_eq] at hc
    exact hc.1
  · cases hs
theorem am_sto2_lt {L L' : List Value} {i : Nat} {v : Value} (hs : am_sto2 L i v = some L') : i + 1 < L.length := by
  unfold am_sto2 at hs
  split at hs
  · rename_i hc
    rw [Bool.and_eq_true, decide_eq_true_eq] at hc
    exact hc.1
  · cases hs
def am_leL : List Value → List Value → Prop
  | [], [] => True
  | a :: l, b :: m => (a = .retAddr 0 ∨ a = b) ∧ am_leL l m
  | _, _ => False
theorem am_leL.len : ∀ {l m : List Value}, am_leL l m → m.length = l.length
  | [], [], _ => rfl
  | _ :: _, _ :: _, h => by simp [am_leL.len h.2]
theorem am_leL.get : ∀ {l m : List Value}, am_leL l m → ∀ {k : Nat} {v : Value}, l[k]? = some v → v ≠ .retAddr 0 → m[k]? = some v
  | [], [], _, k, v, hk, _ => by simp at hk
  | a :: l, b :: m, h, 0, v, hk, hv => by
    simp at hk
    subst hk
    rcases h.1 with e | e
    · exact absurd e hv
    · simp [e]
  | a :: l, b :: m, h, k + 1, v, hk, hv => by simpa using am_leL.get h.2 (k := k) (v := v) (by simpa using hk) hv
abbrev am_X0 : Type := Option (Nat × (Nat → Int32))
def am_Sc (X : am_X0) (as : Nat → Nat) (A : Nat → Prop) (s : State) : Prop := match X with
  | none => True
  | some (N, xs) => va_X (as 4000) N xs s s.heap ∧ as 4000 < s.heap.size ∧ ¬ A (as 4000)
theorem am_Sc.to {X : am_X0} {as as' : Nat → Nat} {n n' : Nat} (hE : am_E as as' n n') {A : Nat → Prop} {s : State} (h : am_Sc X as A s) : am_Sc X as' A s := by
  cases X with
  | none => trivial
  | some q =>
    have e : as' 4000 = as 4000 := hE.2 _ (Or.inr (by omega))
    unfold am_Sc at h ⊢
    rw [e]
    exact h
/-- which answers a return gives -/
def am_ret (ret : Option FieldType) (i : Instr) (rv : Option Value) : Prop := match i with
  | .return_ => ret = none ∧ rv = none
  | .ireturn => ∃ (v : Int32) (ty : FieldType), rv = some (.int v) ∧ ret = some ty ∧ narrow ty (.int v) = .int v
  | .lreturn => ∃ v : Int64, rv = some (.long v) ∧ ret = some .long
  | .areturn => ∃ (a : Nat) (ty : FieldType), rv = some (.ref a) ∧ ret = some ty ∧ ((∃ n, ty = .object n) ∨ ∃ t, ty = .array t)
  | _ => False
def am_Ro (as : Nat → Nat) (n : Nat) (v rv : Option Value) : Prop := match v, rv with
  | none, none => True
  | some a, some b => am_R as n a b
  | _, _ => False
def am_Ex (M : am_M) (Q : Option Value → am_H → Nat → Prop) (mc ms : Nat) (p : Program) (l : Launch) (e : Env) (R : Room) (s : State) (m : MethodId) (args : Array Value) (below : List Frame) (meth : Method) (c : Code) (Qw : State → Prop) (D : va_G) (as : Nat → Nat) (n : Nat) (A : Nat → Prop) : Prop :=
  ∀ (H : Heap) (locs : List Loc) (as' : Nat → Nat) (n' : Nat) (h' : am_H) (v rv : Option Value) (pc : Nat) (ls : Array Slot) (i : Instr), decode M.2.1 pc = .ok (i, 1) → am_ret M.2.2.2.1 i rv → am_Ro as' n' v rv → Q v h' n' → am_W D as' n' h' A s H → am_E as as' n n' ∧ n' ≤ 1000 → va_S A s.heap H locs →
    W p l e R s m args below meth c H locs mc ms Qw (F0 m pc ls rv.toList)
theorem am_Ex.to {M : am_M} {Q : Option Value → am_H → Nat → Prop} {mc ms : Nat} {p : Program} {l : Launch} {e : Env} {R : Room} {s : State} {m : MethodId} {args : Array Value} {below : List Frame} {meth : Method} {c : Code} {Qw : State → Prop} {D : va_G} {as as1 : Nat → Nat} {n n1 : Nat} {A : Nat → Prop} (hE : am_E as as1 n n1)
    (h : am_Ex M Q mc ms p l e R s m args below meth c Qw D as n A) : am_Ex M Q mc ms p l e R s m args below meth c Qw D as1 n1 A := fun H locs as' n' h' v rv pc ls i a1 a2 a3 a4 a5 a6 a7 => h H locs as' n' h' v rv pc ls i a1 a2 a3 a4 a5 ⟨hE.trans a6.1, a6.2⟩ a7
def am_X (M : am_M) (d mc ms : Nat) (p : Program) (R : Room) (s : State) (m : MethodId) (args : Array Value) (meth : Method) (c : Code) : Prop :=
  p.tables.exec = Jvm.exec ∧ c.code = M.2.1 ∧ c.maxLocals = M.2.2.1 ∧ meth.sig.returnType = M.2.2.2.1 ∧ meth.locks = false ∧ meth.name = M.1.name ∧ s.vm.findClass M.1.cls = some m.cls ∧ (∀ w ∈ lw_T, w.before args s = true) ∧ d ≤ R.frames ∧ 40 * d ≤ R.locals ∧ mc ≤ R.cells ∧ ms ≤ R.slots ∧ am_ok0 M
/-- a frame of the abstract machine at pc with locals L, stack st, cells h (n of them; k, z: how many it has made, how many places these have): it ends, and Q -/
def G (X : am_X0) (M : am_M) (d : Nat) (Q : Option Value → am_H → Nat → Prop) (mc ms pc : Nat) (L st : List Value) (h : am_H) (n k z : Nat) : Prop :=
  ∀ (p : Program) (l : Launch) (e : Env) (R : Room) (s : State) (m : MethodId) (args : Array Value) (below : List Frame) (meth : Method) (c : Code) (Qw : State → Prop) (D : va_G) (as : Nat → Nat) (A : Nat → Prop) (H : Heap) (locs : List Loc) (ls : Array Slot) (rst : List Value),
    am_X M d mc ms p R s m args meth c → am_Ex M Q mc ms p l e R s m args below meth c Qw D as n A → ((∀ q : Nat, s.heap.size ≤ q → A q) ∧ am_Z as A s s.heap ∧ am_Sc X as A s) → am_W D as n h A s H → va_S A s.heap H locs → (k ≤ mc ∧ z ≤ ms ∧ n ≤ 1000) → am_L as n L ls M.2.2.1 → am_Vs as n st rst →
    W p l e R s m args below meth c H locs k z Qw (F0 m pc ls rst)
theorem am_ldcI_in {cl : String} {own idx : Nat} {x : List Nat} {w : Int32} (hc : am_cn own = cl) (h : am_ldcI own idx x w = true) : Cond.constant cl idx w ∈ lw_T := by
  unfold am_ldcI am_3 at h
  split at h
  · rename_i i a b
    rw [Bool.and_eq_true, decide_eq_true_eq, decide_eq_true_eq] at h
    obtain ⟨h1, rfl⟩ := h
    subst hc
    exact am_pw_T h1 rfl
  · cases h
theorem am_ldcL_in {cl : String} {own idx : Nat} {x : List Nat} {w : Int64} (hc : am_cn own = cl) (h : am_ldcL own idx x w = true) : Cond.constantLong cl idx w ∈ lw_T := by
  unfold am_ldcL am_3 at h
  split at h
  · rename_i i a b
    rw [Bool.and_eq_true, decide_eq_true_eq, decide_eq_true_eq] at h
    obtain ⟨h1, rfl⟩ := h
    subst hc
    exact am_pw_T h1 rfl
  · cases h
section GR
variable {X : am_X0} {M : am_M} {d : Nat} {Q : Option Value → am_H → Nat → Prop} {mc ms pc nx : Nat} {L L' st : List Value} {h : am_H} {n k z : Nat} {x : List Nat} {y : Nat} {v : Value}
theorem G.weak {L1 : List Value} (hL : am_leL L1 L) (kk : G X M d Q mc ms pc L1 st h n k z) : G X M d Q mc ms pc L st h n k z := by
  intro p l e R s m args below meth c Qw D as A H locs ls rst C E Z0 Wd S hk hl hst
  refine kk p l e R s m args below meth c Qw D as A H locs ls rst C E Z0 Wd S hk ?_ hst
  obtain ⟨h1, l, h2, h3⟩ := hl
  exact ⟨by rw [← hL.len]; exact h1, l, h2, fun i v hi hv => h3 i v (hL.get hi hv) hv⟩
theorem G.eqh {h2 : am_H} (e : ∀ k, k < n → h k = h2 k) (kk : G X M d Q mc ms pc L st h2 n k z) : G X M d Q mc ms pc L st h n k z := by
  intro p l e' R s m args below meth c Qw D as A H locs ls rst C E Z0 Wd S hk hl hst
  refine kk p l e' R s m args below meth c Qw D as A H locs ls rst C E Z0 ?_ S hk hl hst
  obtain ⟨ws, tys, w1, w2, w3⟩ := Wd
  exact ⟨ws, tys, w1, fun k hk => by rw [← e k hk]; exact w2 k hk, w3⟩
theorem G.iconst {a : Int} {w : Int32} (hj : am_at M pc = some (.iconst a, nx, x, y, .int w)) (kk : G X M d Q mc ms nx L (.int w :: st) h n k z) : G X M d Q mc ms pc L st h n k z := by
  intro p l e R s m args below meth c Qw D as A H locs ls rst C E Z0 Wd S hk hl hst
  obtain ⟨hd, hnx, hok⟩ := am_okM_dec C.2.2.2.2.2.2.2.2.2.2.2.2 hj
  obtain rfl : nx = pc + 1 := hnx
  have e1 := of_decide_eq_true hok
  cases e1
  exact lv_iconst C.1 C.2.1 hd rfl (kk p l e R s m args below meth c Qw D as A H locs ls _ C E Z0 Wd S hk hl ⟨rfl, hst⟩)
theorem G.bipush {a : Int} {w : Int32} (hj : am_at M pc = some (.bipush a, nx, x, y, .int w)) (kk : G X M d Q mc ms nx L (.int w :: st) h n k z) : G X M d Q mc ms pc L st h n k z := by
  intro p l e R s m args below meth c Qw D as A H locs ls rst C E Z0 Wd S hk hl hst
  obtain ⟨hd, hnx, hok⟩ := am_okM_dec C.2.2.2.2.2.2.2.2.2.2.2.2 hj
  obtain rfl : nx = pc + 2 := hnx
  have e1 := of_decide_eq_true hok
  cases e1
  exact lv_bipush C.1 C.2.1 hd rfl (kk p l e R s m args below meth c Qw D as A H locs ls _ C E Z0 Wd S hk hl ⟨rfl, hst⟩)
theorem G.sipush {a : Int} {w : Int32} (hj : am_at M pc = some (.sipush a, nx, x, y, .int w)) (kk : G X M d Q mc ms nx L (.int w :: st) h n k z) : G X M d Q mc ms pc L st h n k z := by
  intro p l e R s m args below meth c Qw D as A H locs ls rst C E Z0 Wd S hk hl hst
  obtain ⟨hd, hnx, hok⟩ := am_okM_dec C.2.2.2.2.2.2.2.2.2.2.2.2 hj
  obtain rfl : nx = pc + 3 := hnx
  have e1 := of_decide_eq_true hok
  cases e1
  exact lv_sipush C.1 C.2.1 hd rfl (kk p l e R s m args below meth c Qw D as A H locs ls _ C E Z0 Wd S hk hl ⟨rfl, hst⟩)
theorem G.lconst {a : Fin 2} {w : Int64} (hj : am_at M pc = some (.lconst a, nx, x, y, .long w)) (kk : G X M d Q mc ms nx L (.long w :: st) h n k z) : G X M d Q mc ms pc L st h n k z := by
  intro p l e R s m args below meth c Qw D as A H locs ls rst C E Z0 Wd S hk hl hst
  obtain ⟨hd, hnx, hok⟩ := am_okM_dec C.2.2.2.2.2.2.2.2.2.2.2.2 hj
  obtain rfl : nx = pc + 1 := hnx
  have e1 := of_decide_eq_true hok
  cases e1
  exact lv_lconst C.1 C.2.1 hd rfl (kk p l e R s m args below meth c Qw D as A H locs ls _ C E Z0 Wd S hk hl ⟨rfl, hst⟩)
theorem G.ldc {a : Nat} {w : Int32} (hj : am_at M pc = some (.ldc a, nx, x, y, .int w)) (kk : G X M d Q mc ms nx L (.int w :: st) h n k z) : G X M d Q mc ms pc L st h n k z := by
  intro p l e R s m args below meth c Qw D as A H locs ls rst C E Z0 Wd S hk hl hst
  obtain ⟨hd, hnx, hok⟩ := am_okM_dec C.2.2.2.2.2.2.2.2.2.2.2.2 hj
  obtain rfl : nx = pc + 2 := hnx
  exact lv_ldc C.1 C.2.1 C.2.2.2.2.2.2.1 (C.2.2.2.2.2.2.2.1 _ (am_ldcI_in C.2.2.2.2.2.2.2.2.2.2.2.2.2 (show am_ldcI M.2.2.2.2.1.2 a x w = true from hok))) hd (kk p l e R s m args below meth c Qw D as A H locs ls _ C E Z0 Wd S hk hl ⟨rfl, hst⟩)
theorem G.ldcw {a : Nat} {w : Int32} (hj : am_at M pc = some (.ldc_w a, nx, x, y, .int w)) (kk : G X M d Q mc ms nx L (.int w :: st) h n k z) : G X M d Q mc ms pc L st h n k z := by
  intro p l e R s m args below meth c Qw D as A H locs ls rst C E Z0 Wd S hk hl hst
  obtain ⟨hd, hnx, hok⟩ := am_okM_dec C.2.2.2.2.2.2.2.2.2.2.2.2 hj
  obtain rfl : nx = pc + 3 := hnx
  exact lv_ldcw C.1 C.2.1 C.2.2.2.2.2.2.1 (C.2.2.2.2.2.2.2.1 _ (am_ldcI_in C.2.2.2.2.2.2.2.2.2.2.2.2.2 (show am_ldcI M.2.2.2.2.1.2 a x w = true from hok))) hd (kk p l e R s m args below meth c Qw D as A H locs ls _ C E Z0 Wd S hk hl ⟨rfl, hst⟩)
theorem G.ldc2 {a : Nat} {w : Int64} (hj : am_at M pc = some (.ldc2_w a, nx, x, y, .long w)) (kk : G X M d Q mc ms nx L (.long w :: st) h n k z) : G X M d Q mc ms pc L st h n k z := by
  intro p l e R s m args below meth c Qw D as A H locs ls rst C E Z0 Wd S hk hl hst
  obtain ⟨hd, hnx, hok⟩ := am_okM_dec C.2.2.2.2.2.2.2.2.2.2.2.2 hj
  obtain rfl : nx = pc + 3 := hnx
  exact lv_ldc2 C.1 C.2.1 C.2.2.2.2.2.2.1 (C.2.2.2.2.2.2.2.1 _ (am_ldcL_in C.2.2.2.2.2.2.2.2.2.2.2.2.2 (show am_ldcL M.2.2.2.2.1.2 a x w = true from hok))) hd (kk p l e R s m args below meth c Qw D as A H locs ls _ C E Z0 Wd S hk hl ⟨rfl, hst⟩)
theorem G.ldcS {a q : Nat} (hj : am_at M pc = some (.ldc a, nx, x, y, .ref q)) (kk : G X M d Q mc ms nx L (.ref q :: st) h n k z) : G X M d Q mc ms pc L st h n k z := by
  intro p l e R s m args below meth c Qw D as A H locs ls rst C E Z0 Wd S hk hl hst
  obtain ⟨hd, hnx, hok⟩ := am_okM_dec C.2.2.2.2.2.2.2.2.2.2.2.2 hj
  obtain rfl : nx = pc + 2 := hnx
  have e1 : am_ldcR M.2.2.2.2.1.2 a q = true := hok
  simp only [am_ldcR, Bool.and_eq_true, decide_eq_true_eq] at e1
  obtain ⟨a1, a2, a3, a4⟩ := e1
  have hR := Z0.2.1.2.2.2.2.2.1 (q - 1000) (by omega)
  rw [a4, show 1000 + (q - 1000) = q by omega, show RX7 = M.1.cls by rw [← C.2.2.2.2.2.2.2.2.2.2.2.2.2, a3]; rfl] at hR
  exact va_ldcS C.1 C.2.1 C.2.2.2.2.2.2.1 hR hd (kk p l e R s m args below meth c Qw D as A H locs ls _ C E Z0 Wd S hk hl ⟨⟨Or.inr a1, rfl⟩, hst⟩)
theorem G.iload {a : Nat} {w : Int32} (hj : am_at M pc = some (.iload a, nx, x, y, v)) (hi : L[a]? = some (.int w)) (kk : G X M d Q mc ms nx L (.int w :: st) h n k z) : G X M d Q mc ms pc L st h n k z := by
  intro p l e R s m args below meth c Qw D as A H locs ls rst C E Z0 Wd S hk hl hst
  obtain ⟨hd, hnx, hok⟩ := am_okM_dec C.2.2.2.2.2.2.2.2.2.2.2.2 hj
  obtain rfl : nx = pc + 2 := hnx
  obtain ⟨rv, g1, g2⟩ := hl.get hi (by simp)
  rw [show rv = .int w from g2] at g1
  exact lv_iload C.1 C.2.1 hd g1 (kk p l e R s m args below meth c Qw D as A H locs ls _ C E Z0 Wd S hk hl ⟨rfl, hst⟩)
theorem G.iload_n {a : Fin 4} {w : Int32} (hj : am_at M pc = some (.iload_n a, nx, x, y, v)) (hi : L[(a : Nat)]? = some (.int w)) (kk : G X M d Q mc ms nx L (.int w :: st) h n k z) : G X M d Q mc ms pc L st h n k z := by
  intro p l e R s m args below meth c Qw D as A H locs ls rst C E Z0 Wd S hk hl hst
  obtain ⟨hd, hnx, hok⟩ := am_okM_dec C.2.2.2.2.2.2.2.2.2.2.2.2 hj
  obtain rfl : nx = pc + 1 := hnx
  obtain ⟨rv, g1, g2⟩ := hl.get hi (by simp)
  rw [show rv = .int w from g2] at g1
  exact lv_iload_n C.1 C.2.1 hd rfl g1 (kk p l e R s m args below meth c Qw D as A H locs ls _ C E Z0 Wd S hk hl ⟨rfl, hst⟩)
theorem G.lload {a : Nat} {w : Int64} (hj : am_at M pc = some (.lload a, nx, x, y, v)) (hi : L[a]? = some (.long w)) (kk : G X M d Q mc ms nx L (.long w :: st) h n k z) : G X M d Q mc ms pc L st h n k z := by
  intro p l e R s m args below meth c Qw D as A H locs ls rst C E Z0 Wd S hk hl hst
  obtain ⟨hd, hnx, hok⟩ := am_okM_dec C.2.2.2.2.2.2.2.2.2.2.2.2 hj
  obtain rfl : nx = pc + 2 := hnx
  obtain ⟨rv, g1, g2⟩ := hl.get hi (by simp)
  rw [show rv = .long w from g2] at g1
  exact lv_lload C.1 C.2.1 hd g1 (kk p l e R s m args below meth c Qw D as A H locs ls _ C E Z0 Wd S hk hl ⟨rfl, hst⟩)
theorem G.lload_n {a : Fin 4} {w : Int64} (hj : am_at M pc = some (.lload_n a, nx, x, y, v)) (hi : L[(a : Nat)]? = some (.long w)) (kk : G X M d Q mc ms nx L (.long w :: st) h n k z) : G X M d Q mc ms pc L st h n k z := by
  intro p l e R s m args below meth c Qw D as A H locs ls rst C E Z0 Wd S hk hl hst
  obtain ⟨hd, hnx, hok⟩ := am_okM_dec C.2.2.2.2.2.2.2.2.2.2.2.2 hj
  obtain rfl : nx = pc + 1 := hnx
  obtain ⟨rv, g1, g2⟩ := hl.get hi (by simp)
  rw [show rv = .long w from g2] at g1
  exact lv_lload_n C.1 C.2.1 hd rfl g1 (kk p l e R s m args below meth c Qw D as A H locs ls _ C E Z0 Wd S hk hl ⟨rfl, hst⟩)
theorem G.aload {a : Nat} {w : Nat} (hj : am_at M pc = some (.aload a, nx, x, y, v)) (hi : L[a]? = some (.ref w)) (kk : G X M d Q mc ms nx L (.ref w :: st) h n k z) : G X M d Q mc ms pc L st h n k z := by
  intro p l e R s m args below meth c Qw D as A H locs ls rst C E Z0 Wd S hk hl hst
  obtain ⟨hd, hnx, hok⟩ := am_okM_dec C.2.2.2.2.2.2.2.2.2.2.2.2 hj
  obtain rfl : nx = pc + 2 := hnx
  obtain ⟨rv, g1, g2⟩ := hl.get hi (by simp)
  rw [g2.2] at g1
  exact lv_aload C.1 C.2.1 hd g1 (kk p l e R s m args below meth c Qw D as A H locs ls _ C E Z0 Wd S hk hl ⟨⟨g2.1, rfl⟩, hst⟩)
theorem G.aload_n {a : Fin 4} {w : Nat} (hj : am_at M pc = some (.aload_n a, nx, x, y, v)) (hi : L[(a : Nat)]? = some (.ref w)) (kk : G X M d Q mc ms nx L (.ref w :: st) h n k z) : G X M d Q mc ms pc L st h n k z := by
  intro p l e R s m args below meth c Qw D as A H locs ls rst C E Z0 Wd S hk hl hst
  obtain ⟨hd, hnx, hok⟩ := am_okM_dec C.2.2.2.2.2.2.2.2.2.2.2.2 hj
  obtain rfl : nx = pc + 1 := hnx
  obtain ⟨rv, g1, g2⟩ := hl.get hi (by simp)
  rw [g2.2] at g1
  exact lv_aload_n C.1 C.2.1 hd rfl g1 (kk p l e R s m args below meth c Qw D as A H locs ls _ C E Z0 Wd S hk hl ⟨⟨g2.1, rfl⟩, hst⟩)
theorem G.istore {a : Nat} {w : Int32} (hj : am_at M pc = some (.istore a, nx, x, y, v)) (hs : am_sto L a (.int w) = some L') (kk : G X M d Q mc ms nx L' st h n k z) : G X M d Q mc ms pc L (.int w :: st) h n k z := by
  intro p l e R s m args below meth c Qw D as A H locs ls rst C E Z0 Wd S hk hl hst
  obtain ⟨hd, hnx, hok⟩ := am_okM_dec C.2.2.2.2.2.2.2.2.2.2.2.2 hj
  obtain rfl : nx = pc + 2 := hnx
  obtain ⟨r0, e0, h0⟩ := am_Vi hst
  subst e0
  obtain ⟨q1, lq, q2, q3⟩ := hl
  have hlt : a < M.2.2.1 := q1 ▸ am_sto_lt hs
  exact lv_istore C.1 C.2.1 hd q2 hlt rfl (fun ls' hl' => kk p l e R s m args below meth c Qw D as A H locs ls' _ C E Z0 Wd S hk (am_L.sto (ls := ls) q1 q3 hs rfl hl') h0)
theorem G.istore_n {a : Fin 4} {w : Int32} (hj : am_at M pc = some (.istore_n a, nx, x, y, v)) (hs : am_sto L (a : Nat) (.int w) = some L') (kk : G X M d Q mc ms nx L' st h n k z) : G X M d Q mc ms pc L (.int w :: st) h n k z := by
  intro p l e R s m args below meth c Qw D as A H locs ls rst C E Z0 Wd S hk hl hst
  obtain ⟨hd, hnx, hok⟩ := am_okM_dec C.2.2.2.2.2.2.2.2.2.2.2.2 hj
  obtain rfl : nx = pc + 1 := hnx
  obtain ⟨r0, e0, h0⟩ := am_Vi hst
  subst e0
  obtain ⟨q1, lq, q2, q3⟩ := hl
  have hlt : (a : Nat) < M.2.2.1 := q1 ▸ am_sto_lt hs
  exact lv_istore_n C.1 C.2.1 hd rfl q2 hlt rfl (fun ls' hl' => kk p l e R s m args below meth c Qw D as A H locs ls' _ C E Z0 Wd S hk (am_L.sto (ls := ls) q1 q3 hs rfl hl') h0)
theorem G.astore {a : Nat} {w : Nat} (hj : am_at M pc = some (.astore a, nx, x, y, v)) (hs : am_sto L a (.ref w) = some L') (kk : G X M d Q mc ms nx L' st h n k z) : G X M d Q mc ms pc L (.ref w :: st) h n k z := by
  intro p l e R s m args below meth c Qw D as A H locs ls rst C E Z0 Wd S hk hl hst
  obtain ⟨hd, hnx, hok⟩ := am_okM_dec C.2.2.2.2.2.2.2.2.2.2.2.2 hj
  obtain rfl : nx = pc + 2 := hnx
  obtain ⟨r0, e0, g0, h0⟩ := am_Vr hst
  subst e0
  obtain ⟨q1, lq, q2, q3⟩ := hl
  have hlt : a < M.2.2.1 := q1 ▸ am_sto_lt hs
  exact lv_astore C.1 C.2.1 hd q2 hlt rfl (fun ls' hl' => kk p l e R s m args below meth c Qw D as A H locs ls' _ C E Z0 Wd S hk (am_L.sto (ls := ls) q1 q3 hs ⟨g0, rfl⟩ hl') h0)
theorem G.astore_n {a : Fin 4} {w : Nat} (hj : am_at M pc = some (.astore_n a, nx, x, y, v)) (hs : am_sto L (a : Nat) (.ref w) = some L') (kk : G X M d Q mc ms nx L' st h n k z) : G X M d Q mc ms pc L (.ref w :: st) h n k z := by
  intro p l e R s m args below meth c Qw D as A H locs ls rst C E Z0 Wd S hk hl hst
  obtain ⟨hd, hnx, hok⟩ := am_okM_dec C.2.2.2.2.2.2.2.2.2.2.2.2 hj
  obtain rfl : nx = pc + 1 := hnx
  obtain ⟨r0, e0, g0, h0⟩ := am_Vr hst
  subst e0
  obtain ⟨q1, lq, q2, q3⟩ := hl
  have hlt : (a : Nat) < M.2.2.1 := q1 ▸ am_sto_lt hs
  exact lv_astore_n C.1 C.2.1 hd rfl q2 hlt rfl (fun ls' hl' => kk p l e R s m args below meth c Qw D as A H locs ls' _ C E Z0 Wd S hk (am_L.sto (ls := ls) q1 q3 hs ⟨g0, rfl⟩ hl') h0)
theorem G.lstore {a : Nat} {w : Int64} (hj : am_at M pc = some (.lstore a, nx, x, y, v)) (hs : am_sto2 L a (.long w) = some L') (kk : G X M d Q mc ms nx L' st h n k z) : G X M d Q mc ms pc L (.long w :: st) h n k z := by
  intro p l e R s m args below meth c Qw D as A H locs ls rst C E Z0 Wd S hk hl hst
  obtain ⟨hd, hnx, hok⟩ := am_okM_dec C.2.2.2.2.2.2.2.2.2.2.2.2 hj
  obtain rfl : nx = pc + 2 := hnx
  obtain ⟨r0, e0, h0⟩ := am_Vl hst
  subst e0
  obtain ⟨q1, lq, q2, q3⟩ := hl
  have hlt : a + 1 < M.2.2.1 := q1 ▸ am_sto2_lt hs
  exact lv_lstore C.1 C.2.1 hd q2 hlt rfl (fun ls' hl' => kk p l e R s m args below meth c Qw D as A H locs ls' _ C E Z0 Wd S hk (am_L.sto2 (ls := ls) q1 q3 hs rfl hl') h0)
theorem G.lstore_n {a : Fin 4} {w : Int64} (hj : am_at M pc = some (.lstore_n a, nx, x, y, v)) (hs : am_sto2 L (a : Nat) (.long w) = some L') (kk : G X M d Q mc ms nx L' st h n k z) : G X M d Q mc ms pc L (.long w :: st) h n k z := by
  intro p l e R s m args below meth c Qw D as A H locs ls rst C E Z0 Wd S hk hl hst
  obtain ⟨hd, hnx, hok⟩ := am_okM_dec C.2.2.2.2.2.2.2.2.2.2.2.2 hj
  obtain rfl : nx = pc + 1 := hnx
  obtain ⟨r0, e0, h0⟩ := am_Vl hst
  subst e0
  obtain ⟨q1, lq, q2, q3⟩ := hl
  have hlt : (a : Nat) + 1 < M.2.2.1 := q1 ▸ am_sto2_lt hs
  exact lv_lstore_n C.1 C.2.1 hd rfl q2 hlt rfl (fun ls' hl' => kk p l e R s m args below meth c Qw D as A H locs ls' _ C E Z0 Wd S hk (am_L.sto2 (ls := ls) q1 q3 hs rfl hl') h0)
theorem G.iinc {a : Nat} {b : Int} {w c0 : Int32} (hj : am_at M pc = some (.iinc a b, nx, x, y, .int c0)) (hi : L[a]? = some (.int w)) (hs : am_sto L a (.int (w + c0)) = some L') (kk : G X M d Q mc ms nx L' st h n k z) : G X M d Q mc ms pc L st h n k z := by
  intro p l e R s m args below meth c Qw D as A H locs ls rst C E Z0 Wd S hk hl hst
  obtain ⟨hd, hnx, hok⟩ := am_okM_dec C.2.2.2.2.2.2.2.2.2.2.2.2 hj
  obtain rfl : nx = pc + 3 := hnx
  have e1 := of_decide_eq_true hok
  cases e1
  obtain ⟨q1, lq, q2, q3⟩ := hl
  have hlt : a < M.2.2.1 := q1 ▸ am_sto_lt hs
  obtain ⟨rv, a1, a2⟩ := q3 a _ hi (by simp)
  rw [show rv = .int w from a2] at a1
  obtain ⟨kp, hkp⟩ := List.getElem?_of_mem a1
  exact lv_iinc C.1 C.2.1 hd q2 (k := kp) hkp rfl hlt rfl (fun ls' hl' => kk p l e R s m args below meth c Qw D as A H locs ls' _ C E Z0 Wd S hk (am_L.sto (ls := ls) q1 q3 hs rfl hl') hst)
theorem G.iadd {a b : Int32} (hj : am_at M pc = some (.iadd, nx, x, y, v)) (kk : G X M d Q mc ms nx L (.int (a + b) :: st) h n k z) : G X M d Q mc ms pc L (.int b :: .int a :: st) h n k z := by
  intro p l e R s m args below meth c Qw D as A H locs ls rst C E Z0 Wd S hk hl hst
  obtain ⟨hd, hnx, hok⟩ := am_okM_dec C.2.2.2.2.2.2.2.2.2.2.2.2 hj
  obtain rfl : nx = pc + 1 := hnx
  obtain ⟨r0, e0, h0⟩ := am_Vi hst
  subst e0
  obtain ⟨r1, e1, h1⟩ := am_Vi h0
  subst e1
  exact lv_iadd C.1 C.2.1 hd  (kk p l e R s m args below meth c Qw D as A H locs ls _ C E Z0 Wd S hk hl ⟨rfl, h1⟩)
theorem G.isub {a b : Int32} (hj : am_at M pc = some (.isub, nx, x, y, v)) (kk : G X M d Q mc ms nx L (.int (a - b) :: st) h n k z) : G X M d Q mc ms pc L (.int b :: .int a :: st) h n k z := by
  intro p l e R s m args below meth c Qw D as A H locs ls rst C E Z0 Wd S hk hl hst
  obtain ⟨hd, hnx, hok⟩ := am_okM_dec C.2.2.2.2.2.2.2.2.2.2.2.2 hj
  obtain rfl : nx = pc + 1 := hnx
  obtain ⟨r0, e0, h0⟩ := am_Vi hst
  subst e0
  obtain ⟨r1, e1, h1⟩ := am_Vi h0
  subst e1
  exact lv_isub C.1 C.2.1 hd  (kk p l e R s m args below meth c Qw D as A H locs ls _ C E Z0 Wd S hk hl ⟨rfl, h1⟩)
theorem G.imul {a b : Int32} (hj : am_at M pc = some (.imul, nx, x, y, v)) (kk : G X M d Q mc ms nx L (.int (a * b) :: st) h n k z) : G X M d Q mc ms pc L (.int b :: .int a :: st) h n k z := by
  intro p l e R s m args below meth c Qw D as A H locs ls rst C E Z0 Wd S hk hl hst
  obtain ⟨hd, hnx, hok⟩ := am_okM_dec C.2.2.2.2.2.2.2.2.2.2.2.2 hj
  obtain rfl : nx = pc + 1 := hnx
  obtain ⟨r0, e0, h0⟩ := am_Vi hst
  subst e0
  obtain ⟨r1, e1, h1⟩ := am_Vi h0
  subst e1
  exact lv_imul C.1 C.2.1 hd  (kk p l e R s m args below meth c Qw D as A H locs ls _ C E Z0 Wd S hk hl ⟨rfl, h1⟩)
theorem G.iand {a b : Int32} (hj : am_at M pc = some (.iand, nx, x, y, v)) (kk : G X M d Q mc ms nx L (.int (a &&& b) :: st) h n k z) : G X M d Q mc ms pc L (.int b :: .int a :: st) h n k z := by
  intro p l e R s m args below meth c Qw D as A H locs ls rst C E Z0 Wd S hk hl hst
  obtain ⟨hd, hnx, hok⟩ := am_okM_dec C.2.2.2.2.2.2.2.2.2.2.2.2 hj
  obtain rfl : nx = pc + 1 := hnx
  obtain ⟨r0, e0, h0⟩ := am_Vi hst
  subst e0
  obtain ⟨r1, e1, h1⟩ := am_Vi h0
  subst e1
  exact lv_iand C.1 C.2.1 hd  (kk p l e R s m args below meth c Qw D as A H locs ls _ C E Z0 Wd S hk hl ⟨rfl, h1⟩)
theorem G.ior {a b : Int32} (hj : am_at M pc = some (.ior, nx, x, y, v)) (kk : G X M d Q mc ms nx L (.int (a ||| b) :: st) h n k z) : G X M d Q mc ms pc L (.int b :: .int a :: st) h n k z := by
  intro p l e R s m args below meth c Qw D as A H locs ls rst C E Z0 Wd S hk hl hst
  obtain ⟨hd, hnx, hok⟩ := am_okM_dec C.2.2.2.2.2.2.2.2.2.2.2.2 hj
  obtain rfl : nx = pc + 1 := hnx
  obtain ⟨r0, e0, h0⟩ := am_Vi hst
  subst e0
  obtain ⟨r1, e1, h1⟩ := am_Vi h0
  subst e1
  exact lv_ior C.1 C.2.1 hd  (kk p l e R s m args below meth c Qw D as A H locs ls _ C E Z0 Wd S hk hl ⟨rfl, h1⟩)
theorem G.ixor {a b : Int32} (hj : am_at M pc = some (.ixor, nx, x, y, v)) (kk : G X M d Q mc ms nx L (.int (a ^^^ b) :: st) h n k z) : G X M d Q mc ms pc L (.int b :: .int a :: st) h n k z := by
  intro p l e R s m args below meth c Qw D as A H locs ls rst C E Z0 Wd S hk hl hst
  obtain ⟨hd, hnx, hok⟩ := am_okM_dec C.2.2.2.2.2.2.2.2.2.2.2.2 hj
  obtain rfl : nx = pc + 1 := hnx
  obtain ⟨r0, e0, h0⟩ := am_Vi hst
  subst e0
  obtain ⟨r1, e1, h1⟩ := am_Vi h0
  subst e1
  exact lv_ixor C.1 C.2.1 hd  (kk p l e R s m args below meth c Qw D as A H locs ls _ C E Z0 Wd S hk hl ⟨rfl, h1⟩)
theorem G.ishl {a b : Int32} (hj : am_at M pc = some (.ishl, nx, x, y, v)) (kk : G X M d Q mc ms nx L (.int (a <<< (b &&& 31)) :: st) h n k z) : G X M d Q mc ms pc L (.int b :: .int a :: st) h n k z := by
  intro p l e R s m args below meth c Qw D as A H locs ls rst C E Z0 Wd S hk hl hst
  obtain ⟨hd, hnx, hok⟩ := am_okM_dec C.2.2.2.2.2.2.2.2.2.2.2.2 hj
  obtain rfl : nx = pc + 1 := hnx
  obtain ⟨r0, e0, h0⟩ := am_Vi hst
  subst e0
  obtain ⟨r1, e1, h1⟩ := am_Vi h0
  subst e1
  exact lv_ishl C.1 C.2.1 hd  (kk p l e R s m args below meth c Qw D as A H locs ls _ C E Z0 Wd S hk hl ⟨rfl, h1⟩)
theorem G.ishr {a b : Int32} (hj : am_at M pc = some (.ishr, nx, x, y, v)) (kk : G X M d Q mc ms nx L (.int (a >>> (b &&& 31)) :: st) h n k z) : G X M d Q mc ms pc L (.int b :: .int a :: st) h n k z := by
  intro p l e R s m args below meth c Qw D as A H locs ls rst C E Z0 Wd S hk hl hst
  obtain ⟨hd, hnx, hok⟩ := am_okM_dec C.2.2.2.2.2.2.2.2.2.2.2.2 hj
  obtain rfl : nx = pc + 1 := hnx
  obtain ⟨r0, e0, h0⟩ := am_Vi hst
  subst e0
  obtain ⟨r1, e1, h1⟩ := am_Vi h0
  subst e1
  exact lv_ishr C.1 C.2.1 hd  (kk p l e R s m args below meth c Qw D as A H locs ls _ C E Z0 Wd S hk hl ⟨rfl, h1⟩)
theorem G.idiv {a b : Int32} (hj : am_at M pc = some (.idiv, nx, x, y, v)) (hne : ¬ b = 0) (kk : G X M d Q mc ms nx L (.int (a / b) :: st) h n k z) : G X M d Q mc ms pc L (.int b :: .int a :: st) h n k z := by
  intro p l e R s m args below meth c Qw D as A H locs ls rst C E Z0 Wd S hk hl hst
  obtain ⟨hd, hnx, hok⟩ := am_okM_dec C.2.2.2.2.2.2.2.2.2.2.2.2 hj
  obtain rfl : nx = pc + 1 := hnx
  obtain ⟨r0, e0, h0⟩ := am_Vi hst
  subst e0
  obtain ⟨r1, e1, h1⟩ := am_Vi h0
  subst e1
  exact lv_idiv C.1 C.2.1 hd hne (kk p l e R s m args below meth c Qw D as A H locs ls _ C E Z0 Wd S hk hl ⟨rfl, h1⟩)
theorem G.irem {a b : Int32} (hj : am_at M pc = some (.irem, nx, x, y, v)) (hne : ¬ b = 0) (kk : G X M d Q mc ms nx L (.int (a - a / b * b) :: st) h n k z) : G X M d Q mc ms pc L (.int b :: .int a :: st) h n k z := by
  intro p l e R s m args below meth c Qw D as A H locs ls rst C E Z0 Wd S hk hl hst
  obtain ⟨hd, hnx, hok⟩ := am_okM_dec C.2.2.2.2.2.2.2.2.2.2.2.2 hj
  obtain rfl : nx = pc + 1 := hnx
  obtain ⟨r0, e0, h0⟩ := am_Vi hst
  subst e0
  obtain ⟨r1, e1, h1⟩ := am_Vi h0
  subst e1
  exact lv_irem C.1 C.2.1 hd hne (kk p l e R s m args below meth c Qw D as A H locs ls _ C E Z0 Wd S hk hl ⟨rfl, h1⟩)
theorem G.ladd {a b : Int64} (hj : am_at M pc = some (.ladd, nx, x, y, v)) (kk : G X M d Q mc ms nx L (.long (a + b) :: st) h n k z) : G X M d Q mc ms pc L (.long b :: .long a :: st) h n k z := by
  intro p l e R s m args below meth c Qw D as A H locs ls rst C E Z0 Wd S hk hl hst
  obtain ⟨hd, hnx, hok⟩ := am_okM_dec C.2.2.2.2.2.2.2.2.2.2.2.2 hj
  obtain rfl : nx = pc + 1 := hnx
  obtain ⟨r0, e0, h0⟩ := am_Vl hst
  subst e0
  obtain ⟨r1, e1, h1⟩ := am_Vl h0
  subst e1
  exact lv_ladd C.1 C.2.1 hd  (kk p l e R s m args below meth c Qw D as A H locs ls _ C E Z0 Wd S hk hl ⟨rfl, h1⟩)
theorem G.lsub {a b : Int64} (hj : am_at M pc = some (.lsub, nx, x, y, v)) (kk : G X M d Q mc ms nx L (.long (a - b) :: st) h n k z) : G X M d Q mc ms pc L (.long b :: .long a :: st) h n k z := by
  intro p l e R s m args below meth c Qw D as A H locs ls rst C E Z0 Wd S hk hl hst
  obtain ⟨hd, hnx, hok⟩ := am_okM_dec C.2.2.2.2.2.2.2.2.2.2.2.2 hj
  obtain rfl : nx = pc + 1 := hnx
  obtain ⟨r0, e0, h0⟩ := am_Vl hst
  subst e0
  obtain ⟨r1, e1, h1⟩ := am_Vl h0
  subst e1
  exact lv_lsub C.1 C.2.1 hd  (kk p l e R s m args below meth c Qw D as A H locs ls _ C E Z0 Wd S hk hl ⟨rfl, h1⟩)
theorem G.land {a b : Int64} (hj : am_at M pc = some (.land, nx, x, y, v)) (kk : G X M d Q mc ms nx L (.long (a &&& b) :: st) h n k z) : G X M d Q mc ms pc L (.long b :: .long a :: st) h n k z := by
  intro p l e R s m args below meth c Qw D as A H locs ls rst C E Z0 Wd S hk hl hst
  obtain ⟨hd, hnx, hok⟩ := am_okM_dec C.2.2.2.2.2.2.2.2.2.2.2.2 hj
  obtain rfl : nx = pc + 1 := hnx
  obtain ⟨r0, e0, h0⟩ := am_Vl hst
  subst e0
  obtain ⟨r1, e1, h1⟩ := am_Vl h0
  subst e1
  exact lv_land C.1 C.2.1 hd  (kk p l e R s m args below meth c Qw D as A H locs ls _ C E Z0 Wd S hk hl ⟨rfl, h1⟩)
theorem G.lor {a b : Int64} (hj : am_at M pc = some (.lor, nx, x, y, v)) (kk : G X M d Q mc ms nx L (.long (a ||| b) :: st) h n k z) : G X M d Q mc ms pc L (.long b :: .long a :: st) h n k z := by
  intro p l e R s m args below meth c Qw D as A H locs ls rst C E Z0 Wd S hk hl hst
  obtain ⟨hd, hnx, hok⟩ := am_okM_dec C.2.2.2.2.2.2.2.2.2.2.2.2 hj
  obtain rfl : nx = pc + 1 := hnx
  obtain ⟨r0, e0, h0⟩ := am_Vl hst
  subst e0
  obtain ⟨r1, e1, h1⟩ := am_Vl h0
  subst e1
  exact lv_lor C.1 C.2.1 hd  (kk p l e R s m args below meth c Qw D as A H locs ls _ C E Z0 Wd S hk hl ⟨rfl, h1⟩)
theorem G.lshl {a : Int64} {b : Int32} (hj : am_at M pc = some (.lshl, nx, x, y, v)) (kk : G X M d Q mc ms nx L (.long (a <<< (b.toInt64 &&& 63)) :: st) h n k z) : G X M d Q mc ms pc L (.int b :: .long a :: st) h n k z := by
  intro p l e R s m args below meth c Qw D as A H locs ls rst C E Z0 Wd S hk hl hst
  obtain ⟨hd, hnx, hok⟩ := am_okM_dec C.2.2.2.2.2.2.2.2.2.2.2.2 hj
  obtain rfl : nx = pc + 1 := hnx
  obtain ⟨r0, e0, h0⟩ := am_Vi hst
  subst e0
  obtain ⟨r1, e1, h1⟩ := am_Vl h0
  subst e1
  exact lv_lshl C.1 C.2.1 hd rfl (kk p l e R s m args below meth c Qw D as A H locs ls _ C E Z0 Wd S hk hl ⟨rfl, h1⟩)
theorem G.lshr {a : Int64} {b : Int32} (hj : am_at M pc = some (.lshr, nx, x, y, v)) (kk : G X M d Q mc ms nx L (.long (a >>> (b.toInt64 &&& 63)) :: st) h n k z) : G X M d Q mc ms pc L (.int b :: .long a :: st) h n k z := by
  intro p l e R s m args below meth c Qw D as A H locs ls rst C E Z0 Wd S hk hl hst
  obtain ⟨hd, hnx, hok⟩ := am_okM_dec C.2.2.2.2.2.2.2.2.2.2.2.2 hj
  obtain rfl : nx = pc + 1 := hnx
  obtain ⟨r0, e0, h0⟩ := am_Vi hst
  subst e0
  obtain ⟨r1, e1, h1⟩ := am_Vl h0
  subst e1
  exact lv_lshr C.1 C.2.1 hd rfl (kk p l e R s m args below meth c Qw D as A H locs ls _ C E Z0 Wd S hk hl ⟨rfl, h1⟩)
theorem G.lushr {a : Int64} {b : Int32} (hj : am_at M pc = some (.lushr, nx, x, y, v)) (kk : G X M d Q mc ms nx L (.long (a.toUInt64 >>> (b.toInt64.toUInt64 &&& Int64.toUInt64 63)).toInt64 :: st) h n k z) : G X M d Q mc ms pc L (.int b :: .long a :: st) h n k z := by
  intro p l e R s m args below meth c Qw D as A H locs ls rst C E Z0 Wd S hk hl hst
  obtain ⟨hd, hnx, hok⟩ := am_okM_dec C.2.2.2.2.2.2.2.2.2.2.2.2 hj
  obtain rfl : nx = pc + 1 := hnx
  obtain ⟨r0, e0, h0⟩ := am_Vi hst
  subst e0
  obtain ⟨r1, e1, h1⟩ := am_Vl h0
  subst e1
  exact lv_lushr C.1 C.2.1 hd rfl (kk p l e R s m args below meth c Qw D as A H locs ls _ C E Z0 Wd S hk hl ⟨rfl, h1⟩)
theorem G.lcmp {a b : Int64} (hj : am_at M pc = some (.lcmp, nx, x, y, v)) (kk : G X M d Q mc ms nx L (.int (lg_cmp a b) :: st) h n k z) : G X M d Q mc ms pc L (.long b :: .long a :: st) h n k z := by
  intro p l e R s m args below meth c Qw D as A H locs ls rst C E Z0 Wd S hk hl hst
  obtain ⟨hd, hnx, hok⟩ := am_okM_dec C.2.2.2.2.2.2.2.2.2.2.2.2 hj
  obtain rfl : nx = pc + 1 := hnx
  obtain ⟨r0, e0, h0⟩ := am_Vl hst
  subst e0
  obtain ⟨r1, e1, h1⟩ := am_Vl h0
  subst e1
  exact W.lcmp C.1 C.2.1 hd  (kk p l e R s m args below meth c Qw D as A H locs ls _ C E Z0 Wd S hk hl ⟨rfl, h1⟩)
theorem G.ineg {a : Int32} (hj : am_at M pc = some (.ineg, nx, x, y, v)) (kk : G X M d Q mc ms nx L (.int (-a) :: st) h n k z) : G X M d Q mc ms pc L (.int a :: st) h n k z := by
  intro p l e R s m args below meth c Qw D as A H locs ls rst C E Z0 Wd S hk hl hst
  obtain ⟨hd, hnx, hok⟩ := am_okM_dec C.2.2.2.2.2.2.2.2.2.2.2.2 hj
  obtain rfl : nx = pc + 1 := hnx
  obtain ⟨r0, e0, h0⟩ := am_Vi hst
  subst e0
  exact lv_ineg C.1 C.2.1 hd  (kk p l e R s m args below meth c Qw D as A H locs ls _ C E Z0 Wd S hk hl ⟨rfl, h0⟩)
theorem G.i2l {a : Int32} (hj : am_at M pc = some (.i2l, nx, x, y, v)) (kk : G X M d Q mc ms nx L (.long a.toInt64 :: st) h n k z) : G X M d Q mc ms pc L (.int a :: st) h n k z := by
  intro p l e R s m args below meth c Qw D as A H locs ls rst C E Z0 Wd S hk hl hst
  obtain ⟨hd, hnx, hok⟩ := am_okM_dec C.2.2.2.2.2.2.2.2.2.2.2.2 hj
  obtain rfl : nx = pc + 1 := hnx
  obtain ⟨r0, e0, h0⟩ := am_Vi hst
  subst e0
  exact lv_i2l C.1 C.2.1 hd rfl (kk p l e R s m args below meth c Qw D as A H locs ls _ C E Z0 Wd S hk hl ⟨rfl, h0⟩)
theorem G.l2i {a : Int64} (hj : am_at M pc = some (.l2i, nx, x, y, v)) (kk : G X M d Q mc ms nx L (.int a.toInt32 :: st) h n k z) : G X M d Q mc ms pc L (.long a :: st) h n k z := by
  intro p l e R s m args below meth c Qw D as A H locs ls rst C E Z0 Wd S hk hl hst
  obtain ⟨hd, hnx, hok⟩ := am_okM_dec C.2.2.2.2.2.2.2.2.2.2.2.2 hj
  obtain rfl : nx = pc + 1 := hnx
  obtain ⟨r0, e0, h0⟩ := am_Vl hst
  subst e0
  exact lv_l2i C.1 C.2.1 hd rfl (kk p l e R s m args below meth c Qw D as A H locs ls _ C E Z0 Wd S hk hl ⟨rfl, h0⟩)
theorem G.i2b {a : Int32} (hj : am_at M pc = some (.i2b, nx, x, y, v)) (kk : G X M d Q mc ms nx L (.int a.toInt8.toInt32 :: st) h n k z) : G X M d Q mc ms pc L (.int a :: st) h n k z := by
  intro p l e R s m args below meth c Qw D as A H locs ls rst C E Z0 Wd S hk hl hst
  obtain ⟨hd, hnx, hok⟩ := am_okM_dec C.2.2.2.2.2.2.2.2.2.2.2.2 hj
  obtain rfl : nx = pc + 1 := hnx
  obtain ⟨r0, e0, h0⟩ := am_Vi hst
  subst e0
  exact lv_i2b C.1 C.2.1 hd rfl (kk p l e R s m args below meth c Qw D as A H locs ls _ C E Z0 Wd S hk hl ⟨rfl, h0⟩)
theorem G.i2s {a : Int32} (hj : am_at M pc = some (.i2s, nx, x, y, v)) (kk : G X M d Q mc ms nx L (.int a.toInt16.toInt32 :: st) h n k z) : G X M d Q mc ms pc L (.int a :: st) h n k z := by
  intro p l e R s m args below meth c Qw D as A H locs ls rst C E Z0 Wd S hk hl hst
  obtain ⟨hd, hnx, hok⟩ := am_okM_dec C.2.2.2.2.2.2.2.2.2.2.2.2 hj
  obtain rfl : nx = pc + 1 := hnx
  obtain ⟨r0, e0, h0⟩ := am_Vi hst
  subst e0
  exact lv_i2s C.1 C.2.1 hd rfl (kk p l e R s m args below meth c Qw D as A H locs ls _ C E Z0 Wd S hk hl ⟨rfl, h0⟩)
theorem G.i2c {a : Int32} (hj : am_at M pc = some (.i2c, nx, x, y, v)) (kk : G X M d Q mc ms nx L (.int (a.toUInt32 % 65536).toInt32 :: st) h n k z) : G X M d Q mc ms pc L (.int a :: st) h n k z := by
  intro p l e R s m args below meth c Qw D as A H locs ls rst C E Z0 Wd S hk hl hst
  obtain ⟨hd, hnx, hok⟩ := am_okM_dec C.2.2.2.2.2.2.2.2.2.2.2.2 hj
  obtain rfl : nx = pc + 1 := hnx
  obtain ⟨r0, e0, h0⟩ := am_Vi hst
  subst e0
  exact lv_i2c C.1 C.2.1 hd rfl (kk p l e R s m args below meth c Qw D as A H locs ls _ C E Z0 Wd S hk hl ⟨rfl, h0⟩)
theorem G.dup {a : Value} (hj : am_at M pc = some (.dup, nx, x, y, v)) (hc : a.category = 1) (kk : G X M d Q mc ms nx L (a :: a :: st) h n k z) : G X M d Q mc ms pc L (a :: st) h n k z := by
  intro p l e R s m args below meth c Qw D as A H locs ls rst C E Z0 Wd S hk hl hst
  obtain ⟨hd, hnx, hok⟩ := am_okM_dec C.2.2.2.2.2.2.2.2.2.2.2.2 hj
  obtain rfl : nx = pc + 1 := hnx
  obtain ⟨x0, r0, e0, g0, h0⟩ := am_Vc hst
  subst e0
  exact lv_dup C.1 C.2.1 hd (g0.cat.trans hc) (kk p l e R s m args below meth c Qw D as A H locs ls _ C E Z0 Wd S hk hl ⟨g0, g0, h0⟩)
theorem G.pop {a : Value} (hj : am_at M pc = some (.pop, nx, x, y, v)) (hc : a.category = 1) (kk : G X M d Q mc ms nx L (st) h n k z) : G X M d Q mc ms pc L (a :: st) h n k z := by
  intro p l e R s m args below meth c Qw D as A H locs ls rst C E Z0 Wd S hk hl hst
  obtain ⟨hd, hnx, hok⟩ := am_okM_dec C.2.2.2.2.2.2.2.2.2.2.2.2 hj
  obtain rfl : nx = pc + 1 := hnx
  obtain ⟨x0, r0, e0, g0, h0⟩ := am_Vc hst
  subst e0
  exact lv_pop C.1 C.2.1 hd (g0.cat.trans hc) (kk p l e R s m args below meth c Qw D as A H locs ls _ C E Z0 Wd S hk hl h0)
theorem G.dup2 {a b : Value} (hj : am_at M pc = some (.dup2, nx, x, y, v)) (hc : a.category = 1 ∧ b.category = 1) (kk : G X M d Q mc ms nx L (a :: b :: a :: b :: st) h n k z) : G X M d Q mc ms pc L (a :: b :: st) h n k z := by
  intro p l e R s m args below meth c Qw D as A H locs ls rst C E Z0 Wd S hk hl hst
  obtain ⟨hd, hnx, hok⟩ := am_okM_dec C.2.2.2.2.2.2.2.2.2.2.2.2 hj
  obtain rfl : nx = pc + 1 := hnx
  obtain ⟨x0, r0, e0, g0, h0⟩ := am_Vc hst
  subst e0
  obtain ⟨x1, r1, e1, g1, h1⟩ := am_Vc h0
  subst e1
  exact lv_dup2_11 C.1 C.2.1 hd (g0.cat.trans hc.1) (g1.cat.trans hc.2) (kk p l e R s m args below meth c Qw D as A H locs ls _ C E Z0 Wd S hk hl ⟨g0, g1, g0, g1, h1⟩)
theorem G.goto {o : Int} {t : Nat} (hj : am_at M pc = some (.goto o, nx, [t], y, v)) (kk : G X M d Q mc ms t L st h n k z) : G X M d Q mc ms pc L st h n k z := by
  intro p l e R s m args below meth c Qw D as A H locs ls rst C E Z0 Wd S hk hl hst
  obtain ⟨hd, hnx, hok⟩ := am_okM_dec C.2.2.2.2.2.2.2.2.2.2.2.2 hj
  obtain rfl : nx = pc + 3 := hnx
  exact lv_goto C.1 C.2.1 hd (of_decide_eq_true (show decide ((pc : Int) + o = (t : Int)) = true from hok)) (kk p l e R s m args below meth c Qw D as A H locs ls _ C E Z0 Wd S hk hl hst)
theorem G.if_eq {a : Int32} {o : Int} {t : Nat} (hj : am_at M pc = some (.ifCond .eq o, nx, [t], y, v)) (kt : a = 0 → G X M d Q mc ms t L st h n k z) (kf : ¬ a = 0 → G X M d Q mc ms nx L st h n k z) : G X M d Q mc ms pc L (.int a :: st) h n k z := by
  intro p l e R s m args below meth c Qw D as A H locs ls rst C E Z0 Wd S hk hl hst
  obtain ⟨hd, hnx, hok⟩ := am_okM_dec C.2.2.2.2.2.2.2.2.2.2.2.2 hj
  obtain rfl : nx = pc + 3 := hnx
  obtain ⟨r0, e0, h0⟩ := am_Vi hst
  subst e0
  exact lv_if_eq C.1 C.2.1 hd (of_decide_eq_true (show decide ((pc : Int) + o = (t : Int)) = true from hok)) (fun q => kt q p l e R s m args below meth c Qw D as A H locs ls _ C E Z0 Wd S hk hl h0) (fun q => kf q p l e R s m args below meth c Qw D as A H locs ls _ C E Z0 Wd S hk hl h0)
theorem G.icmp_eq {a b : Int32} {o : Int} {t : Nat} (hj : am_at M pc = some (.if_icmp .eq o, nx, [t], y, v)) (kt : a = b → G X M d Q mc ms t L st h n k z) (kf : ¬ a = b → G X M d Q mc ms nx L st h n k z) : G X M d Q mc ms pc L (.int b :: .int a :: st) h n k z := by
  intro p l e R s m args below meth c Qw D as A H locs ls rst C E Z0 Wd S hk hl hst
  obtain ⟨hd, hnx, hok⟩ := am_okM_dec C.2.2.2.2.2.2.2.2.2.2.2.2 hj
  obtain rfl : nx = pc + 3 := hnx
  obtain ⟨r0, e0, h0⟩ := am_Vi hst
  subst e0
  obtain ⟨r1, e1, h1⟩ := am_Vi h0
  subst e1
  exact lv_icmp_eq C.1 C.2.1 hd (of_decide_eq_true (show decide ((pc : Int) + o = (t : Int)) = true from hok)) (fun q => kt q p l e R s m args below meth c Qw D as A H locs ls _ C E Z0 Wd S hk hl h1) (fun q => kf q p l e R s m args below meth c Qw D as A H locs ls _ C E Z0 Wd S hk hl h1)
theorem G.if_ne {a : Int32} {o : Int} {t : Nat} (hj : am_at M pc = some (.ifCond .ne o, nx, [t], y, v)) (kt : ¬ a = 0 → G X M d Q mc ms t L st h n k z) (kf : a = 0 → G X M d Q mc ms nx L st h n k z) : G X M d Q mc ms pc L (.int a :: st) h n k z := by
  intro p l e R s m args below meth c Qw D as A H locs ls rst C E Z0 Wd S hk hl hst
  obtain ⟨hd, hnx, hok⟩ := am_okM_dec C.2.2.2.2.2.2.2.2.2.2.2.2 hj
  obtain rfl : nx = pc + 3 := hnx
  obtain ⟨r0, e0, h0⟩ := am_Vi hst
  subst e0
  exact lv_if_ne C.1 C.2.1 hd (of_decide_eq_true (show decide ((pc : Int) + o = (t : Int)) = true from hok)) (fun q => kt q p l e R s m args below meth c Qw D as A H locs ls _ C E Z0 Wd S hk hl h0) (fun q => kf q p l e R s m args below meth c Qw D as A H locs ls _ C E Z0 Wd S hk hl h0)
theorem G.icmp_ne {a b : Int32} {o : Int} {t : Nat} (hj : am_at M pc = some (.if_icmp .ne o, nx, [t], y, v)) (kt : ¬ a = b → G X M d Q mc ms t L st h n k z) (kf : a = b → G X M d Q mc ms nx L st h n k z) : G X M d Q mc ms pc L (.int b :: .int a :: st) h n k z := by
  intro p l e R s m args below meth c Qw D as A H locs ls rst C E Z0 Wd S hk hl hst
  obtain ⟨hd, hnx, hok⟩ := am_okM_dec C.2.2.2.2.2.2.2.2.2.2.2.2 hj
  obtain rfl : nx = pc + 3 := hnx
  obtain ⟨r0, e0, h0⟩ := am_Vi hst
  subst e0
  obtain ⟨r1, e1, h1⟩ := am_Vi h0
  subst e1
  exact lv_icmp_ne C.1 C.2.1 hd (of_decide_eq_true (show decide ((pc : Int) + o = (t : Int)) = true from hok)) (fun q => kt q p l e R s m args below meth c Qw D as A H locs ls _ C E Z0 Wd S hk hl h1) (fun q => kf q p l e R s m args below meth c Qw D as A H locs ls _ C E Z0 Wd S hk hl h1)
theorem G.if_lt {a : Int32} {o : Int} {t : Nat} (hj : am_at M pc = some (.ifCond .lt o, nx, [t], y, v)) (kt : a < 0 → G X M d Q mc ms t L st h n k z) (kf : ¬ a < 0 → G X M d Q mc ms nx L st h n k z) : G X M d Q mc ms pc L (.int a :: st) h n k z := by
  intro p l e R s m args below meth c Qw D as A H locs ls rst C E Z0 Wd S hk hl hst
  obtain ⟨hd, hnx, hok⟩ := am_okM_dec C.2.2.2.2.2.2.2.2.2.2.2.2 hj
  obtain rfl : nx = pc + 3 := hnx
  obtain ⟨r0, e0, h0⟩ := am_Vi hst
  subst e0
  exact lv_if_lt C.1 C.2.1 hd (of_decide_eq_true (show decide ((pc : Int) + o = (t : Int)) = true from hok)) (fun q => kt q p l e R s m args below meth c Qw D as A H locs ls _ C E Z0 Wd S hk hl h0) (fun q => kf q p l e R s m args below meth c Qw D as A H locs ls _ C E Z0 Wd S hk hl h0)
theorem G.icmp_lt {a b : Int32} {o : Int} {t : Nat} (hj : am_at M pc = some (.if_icmp .lt o, nx, [t], y, v)) (kt : a < b → G X M d Q mc ms t L st h n k z) (kf : ¬ a < b → G X M d Q mc ms nx L st h n k z) : G X M d Q mc ms pc L (.int b :: .int a :: st) h n k z := by
  intro p l e R s m args below meth c Qw D as A H locs ls rst C E Z0 Wd S hk hl hst
  obtain ⟨hd, hnx, hok⟩ := am_okM_dec C.2.2.2.2.2.2.2.2.2.2.2.2 hj
  obtain rfl : nx = pc + 3 := hnx
  obtain ⟨r0, e0, h0⟩ := am_Vi hst
  subst e0
  obtain ⟨r1, e1, h1⟩ := am_Vi h0
  subst e1
  exact lv_icmp_lt C.1 C.2.1 hd (of_decide_eq_true (show decide ((pc : Int) + o = (t : Int)) = true from hok)) (fun q => kt q p l e R s m args below meth c Qw D as A H locs ls _ C E Z0 Wd S hk hl h1) (fun q => kf q p l e R s m args below meth c Qw D as A H locs ls _ C E Z0 Wd S hk hl h1)
theorem G.if_ge {a : Int32} {o : Int} {t : Nat} (hj : am_at M pc = some (.ifCond .ge o, nx, [t], y, v)) (kt : 0 ≤ a → G X M d Q mc ms t L st h n k z) (kf : ¬ 0 ≤ a → G X M d Q mc ms nx L st h n k z) : G X M d Q mc ms pc L (.int a :: st) h n k z := by
  intro p l e R s m args below meth c Qw D as A H locs ls rst C E Z0 Wd S hk hl hst
  obtain ⟨hd, hnx, hok⟩ := am_okM_dec C.2.2.2.2.2.2.2.2.2.2.2.2 hj
  obtain rfl : nx = pc + 3 := hnx
  obtain ⟨r0, e0, h0⟩ := am_Vi hst
  subst e0
  exact lv_if_ge C.1 C.2.1 hd (of_decide_eq_true (show decide ((pc : Int) + o = (t : Int)) = true from hok)) (fun q => kt q p l e R s m args below meth c Qw D as A H locs ls _ C E Z0 Wd S hk hl h0) (fun q => kf q p l e R s m args below meth c Qw D as A H locs ls _ C E Z0 Wd S hk hl h0)
theorem G.icmp_ge {a b : Int32} {o : Int} {t : Nat} (hj : am_at M pc = some (.if_icmp .ge o, nx, [t], y, v)) (kt : b ≤ a → G X M d Q mc ms t L st h n k z) (kf : ¬ b ≤ a → G X M d Q mc ms nx L st h n k z) : G X M d Q mc ms pc L (.int b :: .int a :: st) h n k z := by
  intro p l e R s m args below meth c Qw D as A H locs ls rst C E Z0 Wd S hk hl hst
  obtain ⟨hd, hnx, hok⟩ := am_okM_dec C.2.2.2.2.2.2.2.2.2.2.2.2 hj
  obtain rfl : nx = pc + 3 := hnx
  obtain ⟨r0, e0, h0⟩ := am_Vi hst
  subst e0
  obtain ⟨r1, e1, h1⟩ := am_Vi h0
  subst e1
  exact lv_icmp_ge C.1 C.2.1 hd (of_decide_eq_true (show decide ((pc : Int) + o = (t : Int)) = true from hok)) (fun q => kt q p l e R s m args below meth c Qw D as A H locs ls _ C E Z0 Wd S hk hl h1) (fun q => kf q p l e R s m args below meth c Qw D as A H locs ls _ C E Z0 Wd S hk hl h1)
theorem G.if_gt {a : Int32} {o : Int} {t : Nat} (hj : am_at M pc = some (.ifCond .gt o, nx, [t], y, v)) (kt : 0 < a → G X M d Q mc ms t L st h n k z) (kf : ¬ 0 < a → G X M d Q mc ms nx L st h n k z) : G X M d Q mc ms pc L (.int a :: st) h n k z := by
  intro p l e R s m args below meth c Qw D as A H locs ls rst C E Z0 Wd S hk hl hst
  obtain ⟨hd, hnx, hok⟩ := am_okM_dec C.2.2.2.2.2.2.2.2.2.2.2.2 hj
  obtain rfl : nx = pc + 3 := hnx
  obtain ⟨r0, e0, h0⟩ := am_Vi hst
  subst e0
  exact lv_if_gt C.1 C.2.1 hd (of_decide_eq_true (show decide ((pc : Int) + o = (t : Int)) = true from hok)) (fun q => kt q p l e R s m args below meth c Qw D as A H locs ls _ C E Z0 Wd S hk hl h0) (fun q => kf q p l e R s m args below meth c Qw D as A H locs ls _ C E Z0 Wd S hk hl h0)
theorem G.icmp_gt {a b : Int32} {o : Int} {t : Nat} (hj : am_at M pc = some (.if_icmp .gt o, nx, [t], y, v)) (kt : b < a → G X M d Q mc ms t L st h n k z) (kf : ¬ b < a → G X M d Q mc ms nx L st h n k z) : G X M d Q mc ms pc L (.int b :: .int a :: st) h n k z := by
  intro p l e R s m args below meth c Qw D as A H locs ls rst C E Z0 Wd S hk hl hst
  obtain ⟨hd, hnx, hok⟩ := am_okM_dec C.2.2.2.2.2.2.2.2.2.2.2.2 hj
  obtain rfl : nx = pc + 3 := hnx
  obtain ⟨r0, e0, h0⟩ := am_Vi hst
  subst e0
  obtain ⟨r1, e1, h1⟩ := am_Vi h0
  subst e1
  exact lv_icmp_gt C.1 C.2.1 hd (of_decide_eq_true (show decide ((pc : Int) + o = (t : Int)) = true from hok)) (fun q => kt q p l e R s m args below meth c Qw D as A H locs ls _ C E Z0 Wd S hk hl h1) (fun q => kf q p l e R s m args below meth c Qw D as A H locs ls _ C E Z0 Wd S hk hl h1)
theorem G.if_le {a : Int32} {o : Int} {t : Nat} (hj : am_at M pc = some (.ifCond .le o, nx, [t], y, v)) (kt : a ≤ 0 → G X M d Q mc ms t L st h n k z) (kf : ¬ a ≤ 0 → G X M d Q mc ms nx L st h n k z) : G X M d Q mc ms pc L (.int a :: st) h n k z := by
  intro p l e R s m args below meth c Qw D as A H locs ls rst C E Z0 Wd S hk hl hst
  obtain ⟨hd, hnx, hok⟩ := am_okM_dec C.2.2.2.2.2.2.2.2.2.2.2.2 hj
  obtain rfl : nx = pc + 3 := hnx
  obtain ⟨r0, e0, h0⟩ := am_Vi hst
  subst e0
  exact lv_if_le C.1 C.2.1 hd (of_decide_eq_true (show decide ((pc : Int) + o = (t : Int)) = true from hok)) (fun q => kt q p l e R s m args below meth c Qw D as A H locs ls _ C E Z0 Wd S hk hl h0) (fun q => kf q p l e R s m args below meth c Qw D as A H locs ls _ C E Z0 Wd S hk hl h0)
theorem G.icmp_le {a b : Int32} {o : Int} {t : Nat} (hj : am_at M pc = some (.if_icmp .le o, nx, [t], y, v)) (kt : a ≤ b → G X M d Q mc ms t L st h n k z) (kf : ¬ a ≤ b → G X M d Q mc ms nx L st h n k z) : G X M d Q mc ms pc L (.int b :: .int a :: st) h n k z := by
  intro p l e R s m args below meth c Qw D as A H locs ls rst C E Z0 Wd S hk hl hst
  obtain ⟨hd, hnx, hok⟩ := am_okM_dec C.2.2.2.2.2.2.2.2.2.2.2.2 hj
  obtain rfl : nx = pc + 3 := hnx
  obtain ⟨r0, e0, h0⟩ := am_Vi hst
  subst e0
  obtain ⟨r1, e1, h1⟩ := am_Vi h0
  subst e1
  exact lv_icmp_le C.1 C.2.1 hd (of_decide_eq_true (show decide ((pc : Int) + o = (t : Int)) = true from hok)) (fun q => kt q p l e R s m args below meth c Qw D as A H locs ls _ C E Z0 Wd S hk hl h1) (fun q => kf q p l e R s m args below meth c Qw D as A H locs ls _ C E Z0 Wd S hk hl h1)
end GR
