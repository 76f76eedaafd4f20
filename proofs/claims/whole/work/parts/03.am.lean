/-! AN ABSTRACT MACHINE: cells by their numbers, not their addresses. A method is a table of instructions, held against its bytes by a program. -/
abbrev am_C : Type := (Nat × Nat × (Nat → Int32)) ⊕ (Nat × List Value)
abbrev am_H : Type := Nat → am_C
abbrev am_J : Type := Instr × Nat × List Nat × Nat × Value
/-- a method: its name, bytes, locals, answer, how many bytes and the number of its class, its table -/
abbrev am_M : Type := MethodName × ByteArray × Nat × Option FieldType × (Nat × Nat) × (Nat → Option am_J)
def am_at (M : am_M) (pc : Nat) : Option am_J := if pc < M.2.2.2.2.1.1 then M.2.2.2.2.2 pc else none
def am_len (i : Instr) (d : Nat) : Nat := match i with
  | .bipush _ => 2
  | .iload _ => 2
  | .istore _ => 2
  | .aload _ => 2
  | .astore _ => 2
  | .lload _ => 2
  | .lstore _ => 2
  | .ldc _ => 2
  | .newarray _ => 2
  | .sipush _ => 3
  | .iinc _ _ => 3
  | .ifCond _ _ => 3
  | .if_icmp _ _ => 3
  | .goto _ => 3
  | .getfield _ => 3
  | .putfield _ => 3
  | .getstatic _ => 3
  | .invokevirtual _ => 3
  | .invokestatic _ => 3
  | .invokespecial _ => 3
  | .new _ => 3
  | .ldc_w _ => 3
  | .ldc2_w _ => 3
  | .tableswitch _ _ _ _ => d
  | .lookupswitch _ _ => d
  | _ => 1
def am_1 (x : List Nat) (f : Nat → Bool) : Bool := match x with
  | [a] => f a
  | _ => false
def am_2 (x : List Nat) (f : Nat → Nat → Bool) : Bool := match x with
  | [a, b] => f a b
  | _ => false
def am_3 (x : List Nat) (f : Nat → Nat → Nat → Bool) : Bool := match x with
  | [a, b, c] => f a b c
  | _ => false
def am_3e (x : List Nat) (f : Nat → Nat → Nat → Bool) : Bool := match x with
  | [] => true
  | [a, b, c] => f a b c
  | _ => false
def am_4 (x : List Nat) (f : Nat → Nat → Nat → Nat → Bool) : Bool := match x with
  | [a, b, c, d] => f a b c d
  | _ => false
def am_ii (v : Value) (f : Int32 → Bool) : Bool := match v with
  | .int a => f a
  | _ => false
def am_ll (v : Value) (f : Int64 → Bool) : Bool := match v with
  | .long a => f a
  | _ => false
def am_fld (own idx ci k i : Nat) (put : Bool) : Bool := decide (am_pw i = some (1, own, idx, ci, k)) && (match vwCl[ci]? with
  | some q => decide (k < q.2.2) && (!put || !(q.2.1 k).2.2.2 || decide (ci = own))
  | none => false)
/-- the texts -/
def am_txt : List (Nat × String × List Int32) := [(166, "up", [117, 112]), (168, "down", [100, 111, 119, 110]), (170, "mark", [109, 97, 114, 107]), (172, "on", [111, 110]), (174, "back", [98, 97, 99, 107]), (176, "hand", [104, 97, 110, 100]), (178, "other", [111, 116, 104, 101, 114]), (180, "take", [116, 97, 107, 101]), (182, "corner", [99, 111, 114, 110, 101, 114]), (184, "street", [115, 116, 114, 101, 101, 116]), (186, "well", [119, 101, 108, 108]), (188, "", [])]
def am_tx (k : Nat) : Nat × String × List Int32 := am_txt.getD k (0, "", [])
def am_byt : List (List Int32) := am_txt.map fun q => q.2.2
def am_lens : List Nat := am_txt.map fun q => q.2.2.length
def am_ldcR (own idx q : Nat) : Bool := decide (1000 ≤ q) && (decide (q < 1012) && (decide (own = 7) && decide ((am_tx (q - 1000)).1 = idx)))
def am_ldcI (own idx : Nat) (x : List Nat) (w : Int32) : Bool := am_3 x fun i a b => decide (am_pw i = some (4, own, idx, a, b)) && decide (w = Int32.ofInt ((a : Int) - b))
def am_ldcL (own idx : Nat) (x : List Nat) (w : Int64) : Bool := am_3 x fun i a b => decide (am_pw i = some (5, own, idx, a, b)) && decide (w = Int64.ofInt ((a : Int) - b))
def am_ldcOk (own idx : Nat) (x : List Nat) (v : Value) : Bool := match v with
  | .int a => am_ldcI own idx x a
  | .ref q => am_ldcR own idx q
  | _ => false
def am_nest (w : Cond) : Bool := match w with
  | .methodLinkNest _ _ _ _ => true
  | .fieldLinkNest _ _ _ _ _ _ => true
  | _ => false
/-- a call's link: plain (0), of a nest mate (1, and the host) -/
def am_link (own idx : Nat) (x : List Nat) (y : Nat) : Bool := am_3 x fun k i b => match k with
  | 0 => decide (am_pw i = some (2, own, idx, y, 0))
  | _ => decide (am_pw i = some (3, own, idx, y, b))
def am_okX (own : Nat) (pc : Nat) (i : Instr) (x : List Nat) (y : Nat) (v : Value) : Bool := match i with
  | .iconst n => decide (v = .int (Int32.ofInt n))
  | .bipush n => decide (v = .int (Int8.ofInt n).toInt32)
  | .sipush n => decide (v = .int (Int16.ofInt n).toInt32)
  | .lconst n => decide (v = .long (Int64.ofNat (n : Nat)))
  | .iinc _ n => decide (v = .int (Int32.ofInt n))
  | .ldc idx => am_ldcOk own idx x v
  | .ldc_w idx => am_ii v fun a => am_ldcI own idx x a
  | .ldc2_w idx => am_ll v fun a => am_ldcL own idx x a
  | .goto o => am_1 x fun t => decide ((pc : Int) + o = (t : Int))
  | .ifCond _ o => am_1 x fun t => decide ((pc : Int) + o = (t : Int))
  | .if_icmp _ o => am_1 x fun t => decide ((pc : Int) + o = (t : Int))
  | .tableswitch d _ _ os => decide (((pc : Int) + d) :: os.toList.map (fun o => (pc : Int) + o) = x.map Int.ofNat)
  | .lookupswitch d ps => decide (((pc : Int) + d) :: ps.toList.map (fun o => (pc : Int) + o.2) = x.map Int.ofNat) && (ps.toList.zip (ps.toList.drop 1)).all (fun (a, next) => a.1 < next.1)
  | .getfield idx => am_3e x fun ci k i => am_fld own idx ci k i false
  | .putfield idx => am_3 x fun ci k i => am_fld own idx ci k i true
  | .invokevirtual idx => am_link own idx x y
  | .invokestatic idx => am_link own idx x y
  | .invokespecial idx => am_link own idx x y
  | .new idx => am_4 x fun ci i1 i2 i3 => decide (am_pw i1 = some (6, own, idx, ci, 0)) && (decide (am_pw i2 = some (7, ci, 0, 0, 0)) && decide (am_pw i3 = some (8, ci, 0, 0, 0)))
  | .newarray t => am_2 x fun i kd => decide (am_pw i = some (9, kd, 0, 0, 0)) && decide (newarray.typeOf t = am_K0 kd)
  | _ => true
def am_okJ (M : am_M) (pc : Nat) (j : am_J) : Bool := decide (decode M.2.1 pc = .ok (j.1, am_len j.1 (j.2.1 - pc))) && (decide (j.2.1 = pc + am_len j.1 (j.2.1 - pc)) && am_okX M.2.2.2.2.1.2 pc j.1 j.2.2.1 j.2.2.2.1 j.2.2.2.2)
def am_okP (M : am_M) (pc : Nat) : Bool := match M.2.2.2.2.2 pc with
  | none => true
  | some j => am_okJ M pc j
def am_okM (M : am_M) : Bool := (List.range M.2.2.2.2.1.1).all (am_okP M)
def am_okR (M : am_M) (a b : Nat) : Bool := (List.range (b - a)).all fun i => am_okP M (a + i)
theorem am_okR_of {M : am_M} {a b : Nat} (h : am_okR M a b = true) {pc : Nat} (h1 : a ≤ pc) (h2 : pc < b) : am_okP M pc = true := by
  have h3 := List.all_eq_true.mp h (pc - a) (List.mem_range.mpr (by omega))
  rwa [show a + (pc - a) = pc by omega] at h3
theorem am_okM_of {M : am_M} (h : ∀ pc, pc < M.2.2.2.2.1.1 → am_okP M pc = true) : am_okM M = true := List.all_eq_true.mpr fun pc hp => h pc (List.mem_range.mp hp)
/-- a table that stands: it is its bytes', its class is the one that its number says -/
def am_ok0 (M : am_M) : Prop := am_okM M = true ∧ am_cn M.2.2.2.2.1.2 = M.1.cls
theorem am_okM_at {M : am_M} (h : am_okM M = true) {pc : Nat} {j : am_J} (hj : am_at M pc = some j) : am_okJ M pc j = true := by
  unfold am_at at hj
  by_cases hp : pc < M.2.2.2.2.1.1
  · rw [if_pos hp] at hj
    have h1 := List.all_eq_true.mp h pc (List.mem_range.mpr hp)
    unfold am_okP at h1
    rw [hj] at h1
    exact h1
  · rw [if_neg hp] at hj
    cases hj
theorem am_okM_dec {M : am_M} (h : am_ok0 M) {pc nx : Nat} {i : Instr} {x : List Nat} {y : Nat} {v : Value} (hj : am_at M pc = some (i, nx, x, y, v)) : decode M.2.1 pc = .ok (i, am_len i (nx - pc)) ∧ nx = pc + am_len i (nx - pc) ∧ am_okX M.2.2.2.2.1.2 pc i x y v = true := by
  have h1 := am_okM_at h.1 hj
  unfold am_okJ at h1
  rw [Bool.and_eq_true, Bool.and_eq_true, decide_eq_true_eq, decide_eq_true_eq] at h1
  exact h1
/-! values -/
def am_ok (n k : Nat) : Prop := k < n ∨ 1000 ≤ k
def am_R (as : Nat → Nat) (n : Nat) (v rv : Value) : Prop := match v with
  | .ref k => am_ok n k ∧ rv = .ref (as k)
  | w => rv = w
def am_Vs (as : Nat → Nat) (n : Nat) : List Value → List Value → Prop
  | [], [] => True
  | a :: l, b :: m => am_R as n a b ∧ am_Vs as n l m
  | _, _ => False
def am_E (as as' : Nat → Nat) (n n' : Nat) : Prop := n ≤ n' ∧ ∀ k, am_ok n k → as' k = as k
theorem am_E.rf {as : Nat → Nat} {n : Nat} : am_E as as n n := ⟨Nat.le_refl _, fun _ _ => rfl⟩
theorem am_E.trans {a b c : Nat → Nat} {n n' n'' : Nat} (h1 : am_E a b n n') (h2 : am_E b c n' n'') : am_E a c n n'' := ⟨Nat.le_trans h1.1 h2.1, fun k hk => (h2.2 k (hk.elim (fun h => Or.inl (Nat.lt_of_lt_of_le h h1.1)) Or.inr)).trans (h1.2 k hk)⟩
theorem am_R.mono {as as' : Nat → Nat} {n n' : Nat} (hE : am_E as as' n n') {v rv : Value} (h : am_R as n v rv) : am_R as' n' v rv := by
  cases v with
  | ref k =>
    obtain ⟨h1, h2⟩ := h
    exact ⟨h1.elim (fun h => Or.inl (Nat.lt_of_lt_of_le h hE.1)) Or.inr, by rw [h2, hE.2 k h1]⟩
  | _ => exact h
theorem am_Vs.mono {as as' : Nat → Nat} {n n' : Nat} (hE : am_E as as' n n') : ∀ {l m : List Value}, am_Vs as n l m → am_Vs as' n' l m
  | [], [], _ => trivial
  | _ :: _, _ :: _, h => ⟨h.1.mono hE, am_Vs.mono hE h.2⟩
theorem am_Vs.len {as : Nat → Nat} {n : Nat} : ∀ {l m : List Value}, am_Vs as n l m → m.length = l.length
  | [], [], _ => rfl
  | _ :: _, _ :: _, h => by simp [am_Vs.len h.2]
theorem am_Vs.get {as : Nat → Nat} {n : Nat} : ∀ {l m : List Value}, am_Vs as n l m → ∀ {k : Nat} {v : Value}, l[k]? = some v → ∃ rv, m[k]? = some rv ∧ am_R as n v rv
  | [], [], _, k, v, hk => by simp at hk
  | a :: l, b :: m, h, 0, v, hk => ⟨b, rfl, by simp at hk; rw [← hk]; exact h.1⟩
  | a :: l, b :: m, h, k + 1, v, hk => by simpa using am_Vs.get h.2 (k := k) (v := v) (by simpa using hk)
theorem am_Vs.set {as : Nat → Nat} {n : Nat} {v rv : Value} (hv : am_R as n v rv) : ∀ {l m : List Value}, am_Vs as n l m → ∀ k : Nat, am_Vs as n (l.set k v) (m.set k rv)
  | [], [], _, _ => trivial
  | _ :: _, _ :: _, h, 0 => ⟨hv, h.2⟩
  | _ :: _, _ :: _, h, k + 1 => ⟨h.1, am_Vs.set hv h.2 k⟩
theorem am_Vs.app {as : Nat → Nat} {n : Nat} {l2 m2 : List Value} (h2 : am_Vs as n l2 m2) : ∀ {l m : List Value}, am_Vs as n l m → am_Vs as n (l ++ l2) (m ++ m2)
  | [], [], _ => h2
  | _ :: _, _ :: _, h => ⟨h.1, am_Vs.app h2 h.2⟩
theorem am_Vs.rev {as : Nat → Nat} {n : Nat} : ∀ {l m : List Value}, am_Vs as n l m → am_Vs as n l.reverse m.reverse
  | [], [], _ => trivial
  | a :: l, b :: m, h => by
    rw [List.reverse_cons, List.reverse_cons]
    exact am_Vs.app (l2 := [a]) (m2 := [b]) ⟨h.1, trivial⟩ (am_Vs.rev h.2)
theorem am_Vs.split {as : Nat → Nat} {n : Nat} : ∀ {l l2 m : List Value}, am_Vs as n (l ++ l2) m → ∃ m1 m2, m = m1 ++ m2 ∧ am_Vs as n l m1 ∧ am_Vs as n l2 m2
  | [], l2, m, h => ⟨[], m, rfl, trivial, h⟩
  | a :: l, l2, b :: m, h => by
    obtain ⟨m1, m2, h1, h2, h3⟩ := am_Vs.split (l := l) (l2 := l2) h.2
    exact ⟨b :: m1, m2, by rw [h1]; rfl, ⟨h.1, h2⟩, h3⟩
theorem am_Vi {as : Nat → Nat} {n : Nat} {x : Int32} {l m : List Value} (h : am_Vs as n (.int x :: l) m) : ∃ m', m = .int x :: m' ∧ am_Vs as n l m' := by
  cases m with
  | nil => exact h.elim
  | cons b m => exact ⟨m, by rw [show b = .int x from h.1], h.2⟩
theorem am_Vl {as : Nat → Nat} {n : Nat} {x : Int64} {l m : List Value} (h : am_Vs as n (.long x :: l) m) : ∃ m', m = .long x :: m' ∧ am_Vs as n l m' := by
  cases m with
  | nil => exact h.elim
  | cons b m => exact ⟨m, by rw [show b = .long x from h.1], h.2⟩
theorem am_Vr {as : Nat → Nat} {n : Nat} {x : Nat} {l m : List Value} (h : am_Vs as n (.ref x :: l) m) : ∃ m', m = .ref (as x) :: m' ∧ am_ok n x ∧ am_Vs as n l m' := by
  cases m with
  | nil => exact h.elim
  | cons b m => exact ⟨m, by rw [h.1.2], h.1.1, h.2⟩
theorem am_Vc {as : Nat → Nat} {n : Nat} {x : Value} {l m : List Value} (h : am_Vs as n (x :: l) m) : ∃ rx m', m = rx :: m' ∧ am_R as n x rx ∧ am_Vs as n l m' := by
  cases m with
  | nil => exact h.elim
  | cons b m => exact ⟨b, m, rfl, h.1, h.2⟩
theorem am_V0 {as : Nat → Nat} {n : Nat} {m : List Value} (h : am_Vs as n [] m) : m = [] := by
  cases m with
  | nil => rfl
  | cons b m => exact h.elim
theorem am_R.cat {as : Nat → Nat} {n : Nat} {v rv : Value} (h : am_R as n v rv) : rv.category = v.category := by
  cases v with
  | ref k => rw [h.2]; rfl
  | _ => rw [show rv = _ from h]
theorem am_Vs.cat {as : Nat → Nat} {n : Nat} : ∀ {l m : List Value}, am_Vs as n l m → (m.map fun v => v.category) = (l.map fun v => v.category)
  | [], [], _ => rfl
  | _ :: _, _ :: _, h => by rw [List.map_cons, List.map_cons, h.1.cat, am_Vs.cat h.2]
/-! the world -/
def am_Cl (as : Nat → Nat) (n : Nat) (tys : List (ClassId × FieldType)) (c : am_C) (e : va_E) : Prop := match c with
  | .inl (kd, len, f) => ∃ (cA : ClassId) (t0 : Nat), e = .inl (cA, len, .inl f) ∧ tys[t0]? = some (cA, am_K0 kd)
  | .inr (ci, fs) => ∃ fs' : List Value, e = .inr (ci, fs') ∧ am_Vs as n fs fs'
def am_W (D : va_G) (as : Nat → Nat) (n : Nat) (h : am_H) (A : Nat → Prop) (U : State) (H : Heap) : Prop :=
  ∃ (ws : va_W) (tys : List (ClassId × FieldType)), ws.length = n ∧ (∀ k : Nat, k < n → ∃ e, ws[k]? = some (as k, e) ∧ am_Cl as n tys (h k) e) ∧ va_P D vwCl ws H ∧ va_K D vwCl tys U ∧ va_D A ws
def am_ways : List Int32 := [0, 1, 20, 21, 22, 23, 24, 25, 26, 27, 28, 29, 3, 4, 5, 6, 7]
/-- what was there before: the constants, the texts, the links of nest mates -/
def am_Z (as : Nat → Nat) (A : Nat → Prop) (U : State) (H : Heap) : Prop :=
  va_Z RX11 "WAYS" "[I" (.ref (as 3000)) A U H ∧ va_T .int (as 3000) 17 (fun j => .int (am_ways.getD j 0)) A U H ∧ va_Z "java/lang/String" "COMPACT_STRINGS" "Z" (.int 1) A U H ∧
  (va_Z "jdk/internal/util/Preconditions" "SIOOBE_FORMATTER" "Ljava/util/function/BiFunction;" (.ref (as 3001)) A U H ∨ va_Z "jdk/internal/util/Preconditions" "SIOOBE_FORMATTER" "Ljava/util/function/BiFunction;" .null A U H) ∧
  vk_S 12 am_lens am_byt (fun i => as (1000 + i)) (fun i => as (2000 + i)) A U H ∧ (∀ i : Nat, i < 12 → vk_R RX7 (am_tx i).1 (am_tx i).2.1 (as (1000 + i)) U) ∧ ∀ w ∈ lw_tbl, am_nest w = true → va_Nw w U
theorem am_Cl.mono {as as' : Nat → Nat} {n n' : Nat} (hE : am_E as as' n n') {tys t2 : List (ClassId × FieldType)} {c : am_C} {e : va_E} (h : am_Cl as n tys c e) : am_Cl as' n' (tys ++ t2) c e := by
  cases c with
  | inl a =>
    obtain ⟨cA, t0, h1, h2⟩ := h
    exact ⟨cA, t0, h1, by rw [List.getElem?_append_left (List.getElem?_eq_some_iff.mp h2).1]; exact h2⟩
  | inr o =>
    obtain ⟨fs', h1, h2⟩ := h
    exact ⟨fs', h1, h2.mono hE⟩
theorem am_Nw.warm {w : Cond} (hn : am_nest w = true) {s U : State} (hW : s.WarmedH U.vm) (h : va_Nw w s) : va_Nw w U := by
  cases w <;> first | exact va_Nw.warmM hW h | exact va_Nw.warmF hW h | (exact absurd hn (by decide)) | (simp [am_nest] at hn)
theorem am_Nw.same {w : Cond} (hn : am_nest w = true) {s U : State} (hv : s.vm = U.vm) (h : va_Nw w s) : va_Nw w U := by
  cases w <;> first | exact va_Nw.same rfl hv h | (simp [am_nest] at hn)
theorem am_Z.to {as as' : Nat → Nat} {n n' : Nat} (hE : am_E as as' n n') {A B : Nat → Prop} {s U : State} {H H1 : Heap} (hW : s.WarmedH U.vm) (hq : ∀ a : Nat, a < H.size → ¬ A a → H1[a]? = H[a]?) (hAB : ∀ q, B q → A q) (h : am_Z as A s H) : am_Z as' B U H1 := by
  obtain ⟨h1, h2, h3, h4, h5, h6, h7⟩ := h
  have e0 : as' 3000 = as 3000 := hE.2 _ (Or.inr (by omega))
  have e1 : as' 3001 = as 3001 := hE.2 _ (Or.inr (by omega))
  have e2 : (fun i => as' (1000 + i)) = (fun i => as (1000 + i)) := funext fun i => hE.2 _ (Or.inr (by omega))
  have e3 : (fun i => as' (2000 + i)) = (fun i => as (2000 + i)) := funext fun i => hE.2 _ (Or.inr (by omega))
  refine ⟨by rw [e0]; exact ((h1.moved hW.alike).kept hq).narrow hAB, by rw [e0]; exact ((h2.moved hW.alike).kept hq).narrow hAB, ((h3.moved hW.alike).kept hq).narrow hAB, by rw [e1]; exact h4.imp (fun h => ((h.moved hW.alike).kept hq).narrow hAB) (fun h => ((h.moved hW.alike).kept hq).narrow hAB), by rw [e2, e3]; exact ((h5.moved hW.alike).kept hq).narrow hAB, fun i hi => ?_, fun w hw hn => am_Nw.warm hn hW (h7 w hw hn)⟩
  rw [show as' (1000 + i) = as (1000 + i) from hE.2 _ (Or.inr (by omega))]
  exact (h6 i hi).warm hW
