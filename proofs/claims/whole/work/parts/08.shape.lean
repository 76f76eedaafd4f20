/-! THE CELLS behind the constructors: what each is, which never changes; its numbers, which do -/
abbrev am_S : Type := Nat → Nat → Int32
abbrev am_Sh : Type := (Nat × Nat) ⊕ (Nat × List (Option Nat))
def am_sh (q : Nat) : Option am_Sh := bif Nat.ble 89 q then none else (bif Nat.ble 44 q then (bif Nat.ble 66 q then (bif Nat.ble 77 q then (bif Nat.ble 83 q then (bif Nat.ble 86 q then (bif Nat.ble 87 q then (bif Nat.ble 88 q then (some (.inl (0, 16))) else (some (.inl (0, 26)))) else (some (.inl (0, 244)))) else (bif Nat.ble 84 q then (bif Nat.ble 85 q then (some (.inl (1, 2))) else (some (.inl (0, 12)))) else (some (.inl (0, 168))))) else (bif Nat.ble 80 q then (bif Nat.ble 81 q then (bif Nat.ble 82 q then (some (.inl (0, 168))) else (some (.inl (0, 168)))) else (some (.inl (0, 168)))) else (bif Nat.ble 78 q then (bif Nat.ble 79 q then (some (.inl (0, 12))) else (some (.inl (0, 12)))) else (some (.inl (0, 400)))))) else (bif Nat.ble 71 q then (bif Nat.ble 74 q then (bif Nat.ble 75 q then (bif Nat.ble 76 q then (some (.inl (0, 13))) else (some (.inl (0, 13)))) else (some (.inl (0, 122)))) else (bif Nat.ble 72 q then (bif Nat.ble 73 q then (some (.inl (0, 122))) else (some (.inl (0, 320)))) else (some (.inl (0, 8))))) else (bif Nat.ble 68 q then (bif Nat.ble 69 q then (bif Nat.ble 70 q then (some (.inl (0, 8))) else (some (.inr (12, [none, none, some 70, some 71, some 72, some 73, some 74, none, some 75, some 76, some 77, none, none, none, none, none, none, none, none, none, none, none, none, none, none, none, some 78, some 79, some 80, some 81, some 82, some 83, none, some 84, none, none, some 85, some 86, some 87, some 88, none])))) else (some (.inl (0, 16)))) else (bif Nat.ble 67 q then (some (.inr (0, [some 24, none, none, none, some 68, none]))) else (some (.inl (0, 9))))))) else (bif Nat.ble 55 q then (bif Nat.ble 60 q then (bif Nat.ble 63 q then (bif Nat.ble 64 q then (bif Nat.ble 65 q then (some (.inl (0, 8))) else (some (.inr (3, [some 10, some 65, some 66, none, none])))) else (some (.inr (9, [some 10, none, none, none, none, none])))) else (bif Nat.ble 61 q then (bif Nat.ble 62 q then (some (.inl (0, 144))) else (some (.inl (0, 144)))) else (some (.inl (0, 144))))) else (bif Nat.ble 57 q then (bif Nat.ble 58 q then (bif Nat.ble 59 q then (some (.inl (0, 144))) else (some (.inl (0, 144)))) else (some (.inr (6, [some 10, some 63, some 58, some 59, some 60, some 61, some 62, none])))) else (bif Nat.ble 56 q then (some (.inl (0, 64))) else (some (.inl (0, 64)))))) else (bif Nat.ble 49 q then (bif Nat.ble 52 q then (bif Nat.ble 53 q then (bif Nat.ble 54 q then (some (.inl (0, 8))) else (some (.inl (0, 8)))) else (some (.inl (0, 96)))) else (bif Nat.ble 50 q then (bif Nat.ble 51 q then (some (.inr (1, [some 10, some 52, some 53, some 54, none, some 55, some 56, none]))) else (some (.inr (9, [some 10, none, none, none, none, none])))) else (some (.inr (9, [some 10, none, none, none, none, none]))))) else (bif Nat.ble 46 q then (bif Nat.ble 47 q then (bif Nat.ble 48 q then (some (.inr (10, [some 24, some 49, some 50]))) else (some (.inl (0, 12)))) else (some (.inr (5, [none, some 47])))) else (bif Nat.ble 45 q then (some (.inl (0, 64))) else (some (.inl (0, 48)))))))) else (bif Nat.ble 22 q then (bif Nat.ble 33 q then (bif Nat.ble 38 q then (bif Nat.ble 41 q then (bif Nat.ble 42 q then (bif Nat.ble 43 q then (some (.inl (0, 8))) else (some (.inl (0, 8)))) else (some (.inl (0, 8)))) else (bif Nat.ble 39 q then (bif Nat.ble 40 q then (some (.inl (0, 8))) else (some (.inr (8, [none, none, some 40, some 41, some 42, some 43, some 44, some 45])))) else (some (.inr (2, [some 39, some 46, none]))))) else (bif Nat.ble 35 q then (bif Nat.ble 36 q then (bif Nat.ble 37 q then (some (.inl (0, 12))) else (some (.inr (5, [none, some 37])))) else (some (.inl (0, 64)))) else (bif Nat.ble 34 q then (some (.inl (0, 48))) else (some (.inl (0, 8)))))) else (bif Nat.ble 27 q then (bif Nat.ble 30 q then (bif Nat.ble 31 q then (bif Nat.ble 32 q then (some (.inl (0, 8))) else (some (.inl (0, 8)))) else (some (.inl (0, 8)))) else (bif Nat.ble 28 q then (bif Nat.ble 29 q then (some (.inr (8, [none, none, some 30, some 31, some 32, some 33, some 34, some 35]))) else (some (.inr (2, [some 29, some 36, none])))) else (some (.inl (0, 12))))) else (bif Nat.ble 24 q then (bif Nat.ble 25 q then (bif Nat.ble 26 q then (some (.inr (5, [none, some 27]))) else (some (.inl (0, 12)))) else (some (.inr (5, [none, some 25])))) else (bif Nat.ble 23 q then (some (.inl (0, 64))) else (some (.inl (0, 48))))))) else (bif Nat.ble 11 q then (bif Nat.ble 16 q then (bif Nat.ble 19 q then (bif Nat.ble 20 q then (bif Nat.ble 21 q then (some (.inl (0, 8))) else (some (.inl (0, 8)))) else (some (.inl (0, 8)))) else (bif Nat.ble 17 q then (bif Nat.ble 18 q then (some (.inl (0, 8))) else (some (.inr (8, [none, none, some 18, some 19, some 20, some 21, some 22, some 23])))) else (some (.inl (0, 64))))) else (bif Nat.ble 13 q then (bif Nat.ble 14 q then (bif Nat.ble 15 q then (some (.inl (0, 48))) else (some (.inl (0, 8)))) else (some (.inl (0, 8)))) else (bif Nat.ble 12 q then (some (.inl (0, 8))) else (some (.inl (0, 8)))))) else (bif Nat.ble 5 q then (bif Nat.ble 8 q then (bif Nat.ble 9 q then (bif Nat.ble 10 q then (some (.inr (8, [none, none, some 11, some 12, some 13, some 14, some 15, some 16]))) else (some (.inl (0, 401)))) else (some (.inl (0, 401)))) else (bif Nat.ble 6 q then (bif Nat.ble 7 q then (some (.inl (0, 401))) else (some (.inl (0, 400)))) else (some (.inr (7, [some 6, none, some 7, some 8, some 9, none, none, none, none, none]))))) else (bif Nat.ble 2 q then (bif Nat.ble 3 q then (bif Nat.ble 4 q then (some (.inl (0, 320))) else (some (.inl (0, 8)))) else (some (.inl (0, 8)))) else (bif Nat.ble 1 q then (some (.inr (4, [some 2, some 3, some 4]))) else (some (.inr (11, [some 1, some 5, some 10, some 17, some 24, some 26, some 28, some 38, some 48, some 51, some 57, some 64, some 67, none])))))))))
def am_flds (f : Nat → Int32) (i : Nat) : List (Option Nat) → List Value
  | [] => []
  | none :: l => .int (f i) :: am_flds f (i + 1) l
  | some r :: l => .ref r :: am_flds f (i + 1) l
def am_mk (σ : am_S) : am_H := fun k => match am_sh k with
  | some (.inl (kd, len)) => .inl (kd, len, σ k)
  | some (.inr (ci, fl)) => .inr (ci, am_flds (σ k) 0 fl)
  | none => .inr (0, [])
def am_s1 (σ : am_S) (q : Nat) (f : Nat → Int32) : am_S := fun a => if a = q then f else σ a
theorem am_s1_eq (σ : am_S) (q : Nat) (f : Nat → Int32) : am_s1 σ q f q = f := if_pos rfl
theorem am_s1_ne (σ : am_S) {q a : Nat} (f : Nat → Int32) (h : a ≠ q) : am_s1 σ q f a = σ a := if_neg h
theorem am_sh_lt {q : Nat} {s : am_Sh} (h : am_sh q = some s) : q < 89 := by
  by_cases hq : q < 89
  · exact hq
  · unfold am_sh at h
    rw [Nat.ble_eq_true_of_le (Nat.le_of_not_lt hq)] at h
    cases h
theorem am_flds_get {f : Nat → Int32} : ∀ {fl : List (Option Nat)} {i k : Nat}, (am_flds f i fl)[k]? = (fl[k]?).map (fun o => match o with
  | none => Value.int (f (i + k))
  | some r => Value.ref r)
  | [], i, k => by simp [am_flds]
  | none :: l, i, 0 => by simp [am_flds]
  | some r :: l, i, 0 => by simp [am_flds]
  | none :: l, i, k + 1 => by simp only [am_flds, List.getElem?_cons_succ]; rw [am_flds_get, show i + 1 + k = i + (k + 1) by omega]
  | some r :: l, i, k + 1 => by simp only [am_flds, List.getElem?_cons_succ]; rw [am_flds_get, show i + 1 + k = i + (k + 1) by omega]
theorem am_flds_len {f : Nat → Int32} : ∀ {fl : List (Option Nat)} {i : Nat}, (am_flds f i fl).length = fl.length
  | [], i => rfl
  | none :: l, i => by simp [am_flds, am_flds_len]
  | some r :: l, i => by simp [am_flds, am_flds_len]
theorem am_flds_set {f : Nat → Int32} {w : Int32} : ∀ {fl : List (Option Nat)} {i k : Nat}, fl[k]? = some none → (am_flds f i fl).set k (.int w) = am_flds (upd f (i + k) w) i fl := by
  intro fl i k h
  apply List.ext_getElem?
  intro j
  rw [am_flds_get]
  by_cases e : k = j
  · subst e
    have hk : k < fl.length := (List.getElem?_eq_some_iff.mp h).1
    rw [List.getElem?_set_self (by rw [am_flds_len]; exact hk), h]
    simp [upd]
  · rw [List.getElem?_set_ne e, am_flds_get]
    have e2 : ¬ j = k := fun z => e z.symm
    cases fl[j]? with
    | none => rfl
    | some q => cases q <;> simp [upd, e2]
theorem am_mk_put {σ : am_S} {q ci kf : Nat} {fl : List (Option Nat)} {w : Int32} (hs : am_sh q = some (.inr (ci, fl))) (hk : fl[kf]? = some none) : am_up (am_mk σ) q (.inr (ci, (am_flds (σ q) 0 fl).set kf (.int w))) = am_mk (am_s1 σ q (upd (σ q) kf w)) := by
  funext k
  unfold am_up
  by_cases e : k = q
  · subst e
    rw [if_pos rfl, am_flds_set hk, Nat.zero_add]
    unfold am_mk
    rw [hs]
    simp only [am_s1_eq]
  · rw [if_neg e]
    unfold am_mk
    rw [am_s1_ne _ _ e]
theorem am_mk_ast {σ : am_S} {q kd len : Nat} {f : Nat → Int32} (hs : am_sh q = some (.inl (kd, len))) : am_up (am_mk σ) q (.inl (kd, len, f)) = am_mk (am_s1 σ q f) := by
  funext k
  unfold am_up
  by_cases e : k = q
  · subst e
    rw [if_pos rfl]
    unfold am_mk
    rw [hs]
    simp only [am_s1_eq]
  · rw [if_neg e]
    unfold am_mk
    rw [am_s1_ne _ _ e]
theorem am_mk_obj {σ : am_S} {q ci : Nat} {fl : List (Option Nat)} (hs : am_sh q = some (.inr (ci, fl))) : am_mk σ q = .inr (ci, am_flds (σ q) 0 fl) := by unfold am_mk; rw [hs]
theorem am_mk_arr {σ : am_S} {q kd len : Nat} (hs : am_sh q = some (.inl (kd, len))) : am_mk σ q = .inl (kd, len, σ q) := by unfold am_mk; rw [hs]
def am_P (Q : Option Value → am_S → Prop) : Option Value → am_H → Nat → Prop := fun v h n => n = 89 ∧ ∃ σ, h = am_mk σ ∧ Q v σ
def GS (X : am_X0) (M : am_M) (d : Nat) (Q : Option Value → am_S → Prop) (pc : Nat) (L st : List Value) (σ : am_S) : Prop := G X M d (am_P Q) 0 0 pc L st (am_mk σ) 89 0 0
def CallS (M : am_M) (d : Nat) (args : List Value) (σ : am_S) (Q : Option Value → am_S → Prop) : Prop := Call M d args (am_mk σ) 89 0 0 (am_P Q)
/-- the answer and the numbers behind it -/
def am_det (v : Option Value) (σ1 : am_S) : Option Value → am_S → Prop := fun v' σ' => v' = v ∧ σ' = σ1
abbrev am_R3 : Type := Option (List Value × List Value × am_S)
def am_ci (v : Value) (L st : List Value) (σ : am_S) : am_R3 := match v with
  | .int w => some (L, .int w :: st, σ)
  | _ => none
def am_cl' (v : Value) (L st : List Value) (σ : am_S) : am_R3 := match v with
  | .long w => some (L, .long w :: st, σ)
  | _ => none
def am_cs (v : Value) (L st : List Value) (σ : am_S) : am_R3 := match v with
  | .int w => some (L, .int w :: st, σ)
  | .ref w => some (L, .ref w :: st, σ)
  | _ => none
def am_ildi (a : Nat) (L st : List Value) (σ : am_S) : am_R3 := match L[a]? with
  | some (.int w) => some (L, .int w :: st, σ)
  | _ => none
def am_ildl (a : Nat) (L st : List Value) (σ : am_S) : am_R3 := match L[a]? with
  | some (.long w) => some (L, .long w :: st, σ)
  | _ => none
def am_ilda (a : Nat) (L st : List Value) (σ : am_S) : am_R3 := match L[a]? with
  | some (.ref w) => some (L, .ref w :: st, σ)
  | _ => none
def am_wL (o : Option (List Value)) (st : List Value) (σ : am_S) : am_R3 := match o with
  | some L' => some (L', st, σ)
  | none => none
def am_ists (a : Nat) (L st : List Value) (σ : am_S) : am_R3 := match st with
  | .int w :: r => am_wL (am_sto L a (.int w)) r σ
  | _ => none
def am_istl (a : Nat) (L st : List Value) (σ : am_S) : am_R3 := match st with
  | .long w :: r => am_wL (am_sto2 L a (.long w)) r σ
  | _ => none
def am_ista (a : Nat) (L st : List Value) (σ : am_S) : am_R3 := match st with
  | .ref w :: r => am_wL (am_sto L a (.ref w)) r σ
  | _ => none
def am_iinc (a : Nat) (v : Value) (L st : List Value) (σ : am_S) : am_R3 := match v, L[a]? with
  | .int c, some (.int w) => am_wL (am_sto L a (.int (w + c))) st σ
  | _, _ => none

def am_o_iadd (L st : List Value) (σ : am_S) : am_R3 := match st with
  | .int b :: .int a :: r => some (L, .int (a + b) :: r, σ)
  | _ => none
def am_o_isub (L st : List Value) (σ : am_S) : am_R3 := match st with
  | .int b :: .int a :: r => some (L, .int (a - b) :: r, σ)
  | _ => none
def am_o_imul (L st : List Value) (σ : am_S) : am_R3 := match st with
  | .int b :: .int a :: r => some (L, .int (a * b) :: r, σ)
  | _ => none
def am_o_iand (L st : List Value) (σ : am_S) : am_R3 := match st with
  | .int b :: .int a :: r => some (L, .int (a &&& b) :: r, σ)
  | _ => none
def am_o_ior (L st : List Value) (σ : am_S) : am_R3 := match st with
  | .int b :: .int a :: r => some (L, .int (a ||| b) :: r, σ)
  | _ => none
def am_o_ixor (L st : List Value) (σ : am_S) : am_R3 := match st with
  | .int b :: .int a :: r => some (L, .int (a ^^^ b) :: r, σ)
  | _ => none
def am_o_ishl (L st : List Value) (σ : am_S) : am_R3 := match st with
  | .int b :: .int a :: r => some (L, .int (a <<< (b &&& 31)) :: r, σ)
  | _ => none
def am_o_ishr (L st : List Value) (σ : am_S) : am_R3 := match st with
  | .int b :: .int a :: r => some (L, .int (a >>> (b &&& 31)) :: r, σ)
  | _ => none
def am_o_ladd (L st : List Value) (σ : am_S) : am_R3 := match st with
  | .long b :: .long a :: r => some (L, .long (a + b) :: r, σ)
  | _ => none
def am_o_lsub (L st : List Value) (σ : am_S) : am_R3 := match st with
  | .long b :: .long a :: r => some (L, .long (a - b) :: r, σ)
  | _ => none
def am_o_land (L st : List Value) (σ : am_S) : am_R3 := match st with
  | .long b :: .long a :: r => some (L, .long (a &&& b) :: r, σ)
  | _ => none
def am_o_lor (L st : List Value) (σ : am_S) : am_R3 := match st with
  | .long b :: .long a :: r => some (L, .long (a ||| b) :: r, σ)
  | _ => none
def am_o_lshl (L st : List Value) (σ : am_S) : am_R3 := match st with
  | .int b :: .long a :: r => some (L, .long (a <<< (b.toInt64 &&& 63)) :: r, σ)
  | _ => none
def am_o_lshr (L st : List Value) (σ : am_S) : am_R3 := match st with
  | .int b :: .long a :: r => some (L, .long (a >>> (b.toInt64 &&& 63)) :: r, σ)
  | _ => none
def am_o_lushr (L st : List Value) (σ : am_S) : am_R3 := match st with
  | .int b :: .long a :: r => some (L, .long ((a.toUInt64 >>> (b.toInt64.toUInt64 &&& Int64.toUInt64 63)).toInt64) :: r, σ)
  | _ => none
def am_o_ineg (L st : List Value) (σ : am_S) : am_R3 := match st with
  | .int a :: r => some (L, .int (-a) :: r, σ)
  | _ => none
def am_o_i2b (L st : List Value) (σ : am_S) : am_R3 := match st with
  | .int a :: r => some (L, .int (a.toInt8.toInt32) :: r, σ)
  | _ => none
def am_o_i2s (L st : List Value) (σ : am_S) : am_R3 := match st with
  | .int a :: r => some (L, .int (a.toInt16.toInt32) :: r, σ)
  | _ => none
def am_o_i2c (L st : List Value) (σ : am_S) : am_R3 := match st with
  | .int a :: r => some (L, .int ((a.toUInt32 % 65536).toInt32) :: r, σ)
  | _ => none
def am_cmp (L st : List Value) (σ : am_S) : am_R3 := match st with
  | .long b :: .long a :: r => some (L, .int (lg_cmp a b) :: r, σ)
  | _ => none
def am_i2l (L st : List Value) (σ : am_S) : am_R3 := match st with
  | .int a :: r => some (L, .long a.toInt64 :: r, σ)
  | _ => none
def am_l2i (L st : List Value) (σ : am_S) : am_R3 := match st with
  | .long a :: r => some (L, .int a.toInt32 :: r, σ)
  | _ => none
def am_dup (L st : List Value) (σ : am_S) : am_R3 := match st with
  | .int a :: r => some (L, .int a :: .int a :: r, σ)
  | .ref a :: r => some (L, .ref a :: .ref a :: r, σ)
  | _ => none
def am_dup2 (L st : List Value) (σ : am_S) : am_R3 := match st with
  | .int b :: .ref a :: r => some (L, .int b :: .ref a :: .int b :: .ref a :: r, σ)
  | _ => none
def am_pop (L st : List Value) (σ : am_S) : am_R3 := match st with
  | .int _ :: r => some (L, r, σ)
  | _ => none
def am_gf2 (q kf : Nat) (o : Option (Option Nat)) (L r : List Value) (σ : am_S) : am_R3 := match o with
  | some (some a) => some (L, .ref a :: r, σ)
  | some none => some (L, .int (σ q kf) :: r, σ)
  | none => none
def am_gf1 (q ci kf : Nat) (L r : List Value) (σ : am_S) : am_R3 := match am_sh q with
  | some (.inr (cj, fl)) => bif Nat.beq ci cj then am_gf2 q kf fl[kf]? L r σ else none
  | _ => none
def am_gf (x : List Nat) (L st : List Value) (σ : am_S) : am_R3 := match x, st with
  | [ci, kf, _], .ref q :: r => am_gf1 q ci kf L r σ
  | _, _ => none
def am_pf2 (q kf : Nat) (w : Int32) (o : Option (Option Nat)) (t : FieldType) (L r : List Value) (σ : am_S) : am_R3 := match o, t with
  | some none, .int => some (L, r, am_s1 σ q (upd (σ q) kf w))
  | _, _ => none
def am_fin (ci kf : Nat) : Bool := match vwCl[ci]? with
  | some qc => (qc.2.1 kf).2.2.2
  | none => true
def am_pf1 (q ci kf : Nat) (w : Int32) (L r : List Value) (σ : am_S) : am_R3 := match am_sh q with
  | some (.inr (cj, fl)) => bif (Nat.beq ci cj && !am_fin ci kf) then am_pf2 q kf w fl[kf]? (am_ty ci kf) L r σ else none
  | _ => none
def am_pf (x : List Nat) (L st : List Value) (σ : am_S) : am_R3 := match x, st with
  | [ci, kf, _], .int w :: .ref q :: r => am_pf1 q ci kf w L r σ
  | _, _ => none
def am_st1 (j : am_J) (L st : List Value) (σ : am_S) : am_R3 := match j.1 with
  | .iconst _ => am_ci j.2.2.2.2 L st σ
  | .bipush _ => am_ci j.2.2.2.2 L st σ
  | .sipush _ => am_ci j.2.2.2.2 L st σ
  | .lconst _ => am_cl' j.2.2.2.2 L st σ
  | .ldc _ => am_cs j.2.2.2.2 L st σ
  | .ldc_w _ => am_ci j.2.2.2.2 L st σ
  | .ldc2_w _ => am_cl' j.2.2.2.2 L st σ
  | .iload_n a => am_ildi (a : Nat) L st σ
  | .iload a => am_ildi a L st σ
  | .lload_n a => am_ildl (a : Nat) L st σ
  | .lload a => am_ildl a L st σ
  | .aload_n a => am_ilda (a : Nat) L st σ
  | .aload a => am_ilda a L st σ
  | .istore_n a => am_ists (a : Nat) L st σ
  | .istore a => am_ists a L st σ
  | .lstore_n a => am_istl (a : Nat) L st σ
  | .lstore a => am_istl a L st σ
  | .astore_n a => am_ista (a : Nat) L st σ
  | .astore a => am_ista a L st σ
  | .iinc a _ => am_iinc a j.2.2.2.2 L st σ
  | .iadd => am_o_iadd L st σ
  | .isub => am_o_isub L st σ
  | .imul => am_o_imul L st σ
  | .iand => am_o_iand L st σ
  | .ior => am_o_ior L st σ
  | .ixor => am_o_ixor L st σ
  | .ishl => am_o_ishl L st σ
  | .ishr => am_o_ishr L st σ
  | .ladd => am_o_ladd L st σ
  | .lsub => am_o_lsub L st σ
  | .land => am_o_land L st σ
  | .lor => am_o_lor L st σ
  | .lshl => am_o_lshl L st σ
  | .lshr => am_o_lshr L st σ
  | .lushr => am_o_lushr L st σ
  | .ineg => am_o_ineg L st σ
  | .i2b => am_o_i2b L st σ
  | .i2s => am_o_i2s L st σ
  | .i2c => am_o_i2c L st σ
  | .lcmp => am_cmp L st σ
  | .i2l => am_i2l L st σ
  | .l2i => am_l2i L st σ
  | .dup => am_dup L st σ
  | .dup2 => am_dup2 L st σ
  | .pop => am_pop L st σ
  | .getfield _ => am_gf j.2.2.1 L st σ
  | .putfield _ => am_pf j.2.2.1 L st σ
  | _ => none
def am_gt (j : am_J) : Option Nat := match j.1, j.2.2.1 with
  | .goto _, [t] => some t
  | _, _ => none
/-- runs on to the first instruction that it doesn't know, or to a stop -/
def am_rs (M : am_M) (stops : List Nat) : Nat → Nat → List Value → List Value → am_S → Nat × List Value × List Value × am_S
  | 0, pc, L, st, σ => (pc, L, st, σ)
  | f + 1, pc, L, st, σ => match am_at M pc with
    | none => (pc, L, st, σ)
    | some j => match am_gt j with
      | some t => bif stops.contains t then (t, L, st, σ) else am_rs M stops f t L st σ
      | none => match am_st1 j L st σ with
        | some (L', st', σ') => bif stops.contains j.2.1 then (j.2.1, L', st', σ') else am_rs M stops f j.2.1 L' st' σ'
        | none => (pc, L, st, σ)
section GSR
variable {X : am_X0} {M : am_M} {d : Nat} {Q : Option Value → am_S → Prop} {pc nx : Nat} {L L' st st' : List Value} {σ σ' : am_S} {x : List Nat} {y : Nat} {v : Value}
theorem GS.s_iconst {a : Int} (hj : am_at M pc = some (.iconst a, nx, x, y, v)) (hs : am_ci v L st σ = some (L', st', σ')) (kk : GS X M d Q nx L' st' σ') : GS X M d Q pc L st σ := by
  unfold am_ci at hs
  split at hs
  · cases hs; exact G.iconst hj kk
  · cases hs
theorem GS.s_bipush {a : Int} (hj : am_at M pc = some (.bipush a, nx, x, y, v)) (hs : am_ci v L st σ = some (L', st', σ')) (kk : GS X M d Q nx L' st' σ') : GS X M d Q pc L st σ := by
  unfold am_ci at hs
  split at hs
  · cases hs; exact G.bipush hj kk
  · cases hs
theorem GS.s_sipush {a : Int} (hj : am_at M pc = some (.sipush a, nx, x, y, v)) (hs : am_ci v L st σ = some (L', st', σ')) (kk : GS X M d Q nx L' st' σ') : GS X M d Q pc L st σ := by
  unfold am_ci at hs
  split at hs
  · cases hs; exact G.sipush hj kk
  · cases hs
theorem GS.s_lconst {a : Fin 2} (hj : am_at M pc = some (.lconst a, nx, x, y, v)) (hs : am_cl' v L st σ = some (L', st', σ')) (kk : GS X M d Q nx L' st' σ') : GS X M d Q pc L st σ := by
  unfold am_cl' at hs
  split at hs
  · cases hs; exact G.lconst hj kk
  · cases hs
theorem GS.s_ldc {a : Nat} (hj : am_at M pc = some (.ldc a, nx, x, y, v)) (hs : am_cs v L st σ = some (L', st', σ')) (kk : GS X M d Q nx L' st' σ') : GS X M d Q pc L st σ := by
  unfold am_cs at hs
  split at hs
  · cases hs; exact G.ldc hj kk
  · cases hs; exact G.ldcS hj kk
  · cases hs
theorem GS.s_ldc_w {a : Nat} (hj : am_at M pc = some (.ldc_w a, nx, x, y, v)) (hs : am_ci v L st σ = some (L', st', σ')) (kk : GS X M d Q nx L' st' σ') : GS X M d Q pc L st σ := by
  unfold am_ci at hs
  split at hs
  · cases hs; exact G.ldcw hj kk
  · cases hs
theorem GS.s_ldc2_w {a : Nat} (hj : am_at M pc = some (.ldc2_w a, nx, x, y, v)) (hs : am_cl' v L st σ = some (L', st', σ')) (kk : GS X M d Q nx L' st' σ') : GS X M d Q pc L st σ := by
  unfold am_cl' at hs
  split at hs
  · cases hs; exact G.ldc2 hj kk
  · cases hs
theorem GS.s_iload {a : Nat} (hj : am_at M pc = some (.iload a, nx, x, y, v)) (hs : am_ildi (a : Nat) L st σ = some (L', st', σ')) (kk : GS X M d Q nx L' st' σ') : GS X M d Q pc L st σ := by
  unfold am_ildi at hs
  split at hs
  · rename_i w hw; cases hs; exact G.iload hj hw kk
  · cases hs
theorem GS.s_iload_n {a : Fin 4} (hj : am_at M pc = some (.iload_n a, nx, x, y, v)) (hs : am_ildi (a : Nat) L st σ = some (L', st', σ')) (kk : GS X M d Q nx L' st' σ') : GS X M d Q pc L st σ := by
  unfold am_ildi at hs
  split at hs
  · rename_i w hw; cases hs; exact G.iload_n hj hw kk
  · cases hs
theorem GS.s_lload {a : Nat} (hj : am_at M pc = some (.lload a, nx, x, y, v)) (hs : am_ildl (a : Nat) L st σ = some (L', st', σ')) (kk : GS X M d Q nx L' st' σ') : GS X M d Q pc L st σ := by
  unfold am_ildl at hs
  split at hs
  · rename_i w hw; cases hs; exact G.lload hj hw kk
  · cases hs
theorem GS.s_lload_n {a : Fin 4} (hj : am_at M pc = some (.lload_n a, nx, x, y, v)) (hs : am_ildl (a : Nat) L st σ = some (L', st', σ')) (kk : GS X M d Q nx L' st' σ') : GS X M d Q pc L st σ := by
  unfold am_ildl at hs
  split at hs
  · rename_i w hw; cases hs; exact G.lload_n hj hw kk
  · cases hs
theorem GS.s_aload {a : Nat} (hj : am_at M pc = some (.aload a, nx, x, y, v)) (hs : am_ilda (a : Nat) L st σ = some (L', st', σ')) (kk : GS X M d Q nx L' st' σ') : GS X M d Q pc L st σ := by
  unfold am_ilda at hs
  split at hs
  · rename_i w hw; cases hs; exact G.aload hj hw kk
  · cases hs
theorem GS.s_aload_n {a : Fin 4} (hj : am_at M pc = some (.aload_n a, nx, x, y, v)) (hs : am_ilda (a : Nat) L st σ = some (L', st', σ')) (kk : GS X M d Q nx L' st' σ') : GS X M d Q pc L st σ := by
  unfold am_ilda at hs
  split at hs
  · rename_i w hw; cases hs; exact G.aload_n hj hw kk
  · cases hs
theorem GS.s_istore {a : Nat} (hj : am_at M pc = some (.istore a, nx, x, y, v)) (hs : am_ists (a : Nat) L st σ = some (L', st', σ')) (kk : GS X M d Q nx L' st' σ') : GS X M d Q pc L st σ := by
  unfold am_ists at hs
  split at hs
  · unfold am_wL at hs
    split at hs
    · rename_i L1 hL; cases hs; exact G.istore hj hL kk
    · cases hs
  · cases hs
theorem GS.s_istore_n {a : Fin 4} (hj : am_at M pc = some (.istore_n a, nx, x, y, v)) (hs : am_ists (a : Nat) L st σ = some (L', st', σ')) (kk : GS X M d Q nx L' st' σ') : GS X M d Q pc L st σ := by
  unfold am_ists at hs
  split at hs
  · unfold am_wL at hs
    split at hs
    · rename_i L1 hL; cases hs; exact G.istore_n hj hL kk
    · cases hs
  · cases hs
theorem GS.s_lstore {a : Nat} (hj : am_at M pc = some (.lstore a, nx, x, y, v)) (hs : am_istl (a : Nat) L st σ = some (L', st', σ')) (kk : GS X M d Q nx L' st' σ') : GS X M d Q pc L st σ := by
  unfold am_istl at hs
  split at hs
  · unfold am_wL at hs
    split at hs
    · rename_i L1 hL; cases hs; exact G.lstore hj hL kk
    · cases hs
  · cases hs
theorem GS.s_lstore_n {a : Fin 4} (hj : am_at M pc = some (.lstore_n a, nx, x, y, v)) (hs : am_istl (a : Nat) L st σ = some (L', st', σ')) (kk : GS X M d Q nx L' st' σ') : GS X M d Q pc L st σ := by
  unfold am_istl at hs
  split at hs
  · unfold am_wL at hs
    split at hs
    · rename_i L1 hL; cases hs; exact G.lstore_n hj hL kk
    · cases hs
  · cases hs
theorem GS.s_astore {a : Nat} (hj : am_at M pc = some (.astore a, nx, x, y, v)) (hs : am_ista (a : Nat) L st σ = some (L', st', σ')) (kk : GS X M d Q nx L' st' σ') : GS X M d Q pc L st σ := by
  unfold am_ista at hs
  split at hs
  · unfold am_wL at hs
    split at hs
    · rename_i L1 hL; cases hs; exact G.astore hj hL kk
    · cases hs
  · cases hs
theorem GS.s_astore_n {a : Fin 4} (hj : am_at M pc = some (.astore_n a, nx, x, y, v)) (hs : am_ista (a : Nat) L st σ = some (L', st', σ')) (kk : GS X M d Q nx L' st' σ') : GS X M d Q pc L st σ := by
  unfold am_ista at hs
  split at hs
  · unfold am_wL at hs
    split at hs
    · rename_i L1 hL; cases hs; exact G.astore_n hj hL kk
    · cases hs
  · cases hs
theorem GS.s_iinc {a : Nat} {b : Int} (hj : am_at M pc = some (.iinc a b, nx, x, y, v)) (hs : am_iinc a v L st σ = some (L', st', σ')) (kk : GS X M d Q nx L' st' σ') : GS X M d Q pc L st σ := by
  unfold am_iinc at hs
  split at hs
  · rename_i c w hw
    unfold am_wL at hs
    split at hs
    · rename_i L1 hL; cases hs; exact G.iinc hj hw hL kk
    · cases hs
  · cases hs
theorem GS.s_iadd  (hj : am_at M pc = some (.iadd, nx, x, y, v)) (hs : am_o_iadd L st σ = some (L', st', σ')) (kk : GS X M d Q nx L' st' σ') : GS X M d Q pc L st σ := by
  unfold am_o_iadd at hs
  split at hs
  · cases hs; exact G.iadd hj kk
  · cases hs
theorem GS.s_isub  (hj : am_at M pc = some (.isub, nx, x, y, v)) (hs : am_o_isub L st σ = some (L', st', σ')) (kk : GS X M d Q nx L' st' σ') : GS X M d Q pc L st σ := by
  unfold am_o_isub at hs
  split at hs
  · cases hs; exact G.isub hj kk
  · cases hs
theorem GS.s_imul  (hj : am_at M pc = some (.imul, nx, x, y, v)) (hs : am_o_imul L st σ = some (L', st', σ')) (kk : GS X M d Q nx L' st' σ') : GS X M d Q pc L st σ := by
  unfold am_o_imul at hs
  split at hs
  · cases hs; exact G.imul hj kk
  · cases hs
theorem GS.s_iand  (hj : am_at M pc = some (.iand, nx, x, y, v)) (hs : am_o_iand L st σ = some (L', st', σ')) (kk : GS X M d Q nx L' st' σ') : GS X M d Q pc L st σ := by
  unfold am_o_iand at hs
  split at hs
  · cases hs; exact G.iand hj kk
  · cases hs
theorem GS.s_ior  (hj : am_at M pc = some (.ior, nx, x, y, v)) (hs : am_o_ior L st σ = some (L', st', σ')) (kk : GS X M d Q nx L' st' σ') : GS X M d Q pc L st σ := by
  unfold am_o_ior at hs
  split at hs
  · cases hs; exact G.ior hj kk
  · cases hs
theorem GS.s_ixor  (hj : am_at M pc = some (.ixor, nx, x, y, v)) (hs : am_o_ixor L st σ = some (L', st', σ')) (kk : GS X M d Q nx L' st' σ') : GS X M d Q pc L st σ := by
  unfold am_o_ixor at hs
  split at hs
  · cases hs; exact G.ixor hj kk
  · cases hs
theorem GS.s_ishl  (hj : am_at M pc = some (.ishl, nx, x, y, v)) (hs : am_o_ishl L st σ = some (L', st', σ')) (kk : GS X M d Q nx L' st' σ') : GS X M d Q pc L st σ := by
  unfold am_o_ishl at hs
  split at hs
  · cases hs; exact G.ishl hj kk
  · cases hs
theorem GS.s_ishr  (hj : am_at M pc = some (.ishr, nx, x, y, v)) (hs : am_o_ishr L st σ = some (L', st', σ')) (kk : GS X M d Q nx L' st' σ') : GS X M d Q pc L st σ := by
  unfold am_o_ishr at hs
  split at hs
  · cases hs; exact G.ishr hj kk
  · cases hs
theorem GS.s_ladd  (hj : am_at M pc = some (.ladd, nx, x, y, v)) (hs : am_o_ladd L st σ = some (L', st', σ')) (kk : GS X M d Q nx L' st' σ') : GS X M d Q pc L st σ := by
  unfold am_o_ladd at hs
  split at hs
  · cases hs; exact G.ladd hj kk
  · cases hs
theorem GS.s_lsub  (hj : am_at M pc = some (.lsub, nx, x, y, v)) (hs : am_o_lsub L st σ = some (L', st', σ')) (kk : GS X M d Q nx L' st' σ') : GS X M d Q pc L st σ := by
  unfold am_o_lsub at hs
  split at hs
  · cases hs; exact G.lsub hj kk
  · cases hs
theorem GS.s_land  (hj : am_at M pc = some (.land, nx, x, y, v)) (hs : am_o_land L st σ = some (L', st', σ')) (kk : GS X M d Q nx L' st' σ') : GS X M d Q pc L st σ := by
  unfold am_o_land at hs
  split at hs
  · cases hs; exact G.land hj kk
  · cases hs
theorem GS.s_lor  (hj : am_at M pc = some (.lor, nx, x, y, v)) (hs : am_o_lor L st σ = some (L', st', σ')) (kk : GS X M d Q nx L' st' σ') : GS X M d Q pc L st σ := by
  unfold am_o_lor at hs
  split at hs
  · cases hs; exact G.lor hj kk
  · cases hs
theorem GS.s_lshl  (hj : am_at M pc = some (.lshl, nx, x, y, v)) (hs : am_o_lshl L st σ = some (L', st', σ')) (kk : GS X M d Q nx L' st' σ') : GS X M d Q pc L st σ := by
  unfold am_o_lshl at hs
  split at hs
  · cases hs; exact G.lshl hj kk
  · cases hs
theorem GS.s_lshr  (hj : am_at M pc = some (.lshr, nx, x, y, v)) (hs : am_o_lshr L st σ = some (L', st', σ')) (kk : GS X M d Q nx L' st' σ') : GS X M d Q pc L st σ := by
  unfold am_o_lshr at hs
  split at hs
  · cases hs; exact G.lshr hj kk
  · cases hs
theorem GS.s_lushr  (hj : am_at M pc = some (.lushr, nx, x, y, v)) (hs : am_o_lushr L st σ = some (L', st', σ')) (kk : GS X M d Q nx L' st' σ') : GS X M d Q pc L st σ := by
  unfold am_o_lushr at hs
  split at hs
  · cases hs; exact G.lushr hj kk
  · cases hs
theorem GS.s_ineg  (hj : am_at M pc = some (.ineg, nx, x, y, v)) (hs : am_o_ineg L st σ = some (L', st', σ')) (kk : GS X M d Q nx L' st' σ') : GS X M d Q pc L st σ := by
  unfold am_o_ineg at hs
  split at hs
  · cases hs; exact G.ineg hj kk
  · cases hs
theorem GS.s_i2b  (hj : am_at M pc = some (.i2b, nx, x, y, v)) (hs : am_o_i2b L st σ = some (L', st', σ')) (kk : GS X M d Q nx L' st' σ') : GS X M d Q pc L st σ := by
  unfold am_o_i2b at hs
  split at hs
  · cases hs; exact G.i2b hj kk
  · cases hs
theorem GS.s_i2s  (hj : am_at M pc = some (.i2s, nx, x, y, v)) (hs : am_o_i2s L st σ = some (L', st', σ')) (kk : GS X M d Q nx L' st' σ') : GS X M d Q pc L st σ := by
  unfold am_o_i2s at hs
  split at hs
  · cases hs; exact G.i2s hj kk
  · cases hs
theorem GS.s_i2c  (hj : am_at M pc = some (.i2c, nx, x, y, v)) (hs : am_o_i2c L st σ = some (L', st', σ')) (kk : GS X M d Q nx L' st' σ') : GS X M d Q pc L st σ := by
  unfold am_o_i2c at hs
  split at hs
  · cases hs; exact G.i2c hj kk
  · cases hs
theorem GS.s_lcmp  (hj : am_at M pc = some (.lcmp, nx, x, y, v)) (hs : am_cmp L st σ = some (L', st', σ')) (kk : GS X M d Q nx L' st' σ') : GS X M d Q pc L st σ := by
  unfold am_cmp at hs
  split at hs
  · cases hs; exact G.lcmp hj kk
  · cases hs
theorem GS.s_i2l  (hj : am_at M pc = some (.i2l, nx, x, y, v)) (hs : am_i2l L st σ = some (L', st', σ')) (kk : GS X M d Q nx L' st' σ') : GS X M d Q pc L st σ := by
  unfold am_i2l at hs
  split at hs
  · cases hs; exact G.i2l hj kk
  · cases hs
theorem GS.s_l2i  (hj : am_at M pc = some (.l2i, nx, x, y, v)) (hs : am_l2i L st σ = some (L', st', σ')) (kk : GS X M d Q nx L' st' σ') : GS X M d Q pc L st σ := by
  unfold am_l2i at hs
  split at hs
  · cases hs; exact G.l2i hj kk
  · cases hs
theorem GS.s_dup  (hj : am_at M pc = some (.dup, nx, x, y, v)) (hs : am_dup L st σ = some (L', st', σ')) (kk : GS X M d Q nx L' st' σ') : GS X M d Q pc L st σ := by
  unfold am_dup at hs
  split at hs
  · cases hs; exact G.dup hj rfl kk
  · cases hs; exact G.dup hj rfl kk
  · cases hs
theorem GS.s_dup2  (hj : am_at M pc = some (.dup2, nx, x, y, v)) (hs : am_dup2 L st σ = some (L', st', σ')) (kk : GS X M d Q nx L' st' σ') : GS X M d Q pc L st σ := by
  unfold am_dup2 at hs
  split at hs
  · cases hs; exact G.dup2 hj ⟨rfl, rfl⟩ kk
  · cases hs
theorem GS.s_pop  (hj : am_at M pc = some (.pop, nx, x, y, v)) (hs : am_pop L st σ = some (L', st', σ')) (kk : GS X M d Q nx L' st' σ') : GS X M d Q pc L st σ := by
  unfold am_pop at hs
  split at hs
  · cases hs; exact G.pop hj rfl kk
  · cases hs
theorem GS.s_getfield {a : Nat} (hj : am_at M pc = some (.getfield a, nx, x, y, v)) (hs : am_gf x L st σ = some (L', st', σ')) (kk : GS X M d Q nx L' st' σ') : GS X M d Q pc L st σ := by
  unfold am_gf at hs
  split at hs
  · unfold am_gf1 at hs
    split at hs
    · rename_i cj fl hsh
      cases hb : Nat.beq _ cj with
      | false => rw [hb] at hs; cases hs
      | true =>
        rw [hb] at hs
        have e := Nat.eq_of_beq_eq_true hb
        subst e
        unfold am_gf2 at hs
        simp only [cond_true] at hs
        split at hs
        · rename_i r0 hr0
          cases hs
          exact G.getf hj (am_sh_lt hsh) (am_mk_obj hsh) (by rw [am_flds_get, hr0]; rfl) kk
        · rename_i hr0
          cases hs
          exact G.getf hj (am_sh_lt hsh) (am_mk_obj hsh) (by rw [am_flds_get, hr0]; simp) kk
        · cases hs
    · cases hs
  · cases hs
theorem GS.s_putfield {a : Nat} (hj : am_at M pc = some (.putfield a, nx, x, y, v)) (hs : am_pf x L st σ = some (L', st', σ')) (kk : GS X M d Q nx L' st' σ') : GS X M d Q pc L st σ := by
  unfold am_pf at hs
  split at hs
  · unfold am_pf1 at hs
    split at hs
    · rename_i cj fl hsh
      cases hb : (Nat.beq _ cj && !am_fin _ _) with
      | false => rw [hb] at hs; cases hs
      | true =>
        rw [hb] at hs
        rw [Bool.and_eq_true] at hb
        have e := Nat.eq_of_beq_eq_true hb.1
        subst e
        simp only [cond_true] at hs
        unfold am_pf2 at hs
        split at hs
        · rename_i hr0 hty
          cases hs
          refine G.putf hj (am_sh_lt hsh) (am_mk_obj hsh) (by rw [am_flds_len]; exact (List.getElem?_eq_some_iff.mp hr0).1) (by rw [hty]; rfl) (by rw [hty]; rfl) (fun qc h1 h2 => ?_) (by rw [am_mk_put hsh hr0]; exact kk)
          have h3 := hb.2
          unfold am_fin at h3
          rw [h1] at h3
          simp [h2] at h3
        · cases hs
    · cases hs
  · cases hs
theorem GS.s_st1 {j : am_J} (hj : am_at M pc = some j) (hs : am_st1 j L st σ = some (L', st', σ')) (kk : GS X M d Q j.2.1 L' st' σ') : GS X M d Q pc L st σ := by
  obtain ⟨i, nx, x, y, v⟩ := j
  cases i
  case iconst _ => exact GS.s_iconst hj hs kk
  case bipush _ => exact GS.s_bipush hj hs kk
  case sipush _ => exact GS.s_sipush hj hs kk
  case lconst _ => exact GS.s_lconst hj hs kk
  case ldc _ => exact GS.s_ldc hj hs kk
  case ldc_w _ => exact GS.s_ldc_w hj hs kk
  case ldc2_w _ => exact GS.s_ldc2_w hj hs kk
  case iload_n _ => exact GS.s_iload_n hj hs kk
  case iload _ => exact GS.s_iload hj hs kk
  case lload_n _ => exact GS.s_lload_n hj hs kk
  case lload _ => exact GS.s_lload hj hs kk
  case aload_n _ => exact GS.s_aload_n hj hs kk
  case aload _ => exact GS.s_aload hj hs kk
  case istore_n _ => exact GS.s_istore_n hj hs kk
  case istore _ => exact GS.s_istore hj hs kk
  case lstore_n _ => exact GS.s_lstore_n hj hs kk
  case lstore _ => exact GS.s_lstore hj hs kk
  case astore_n _ => exact GS.s_astore_n hj hs kk
  case astore _ => exact GS.s_astore hj hs kk
  case iinc _ _ => exact GS.s_iinc hj hs kk
  case iadd => exact GS.s_iadd hj hs kk
  case isub => exact GS.s_isub hj hs kk
  case imul => exact GS.s_imul hj hs kk
  case iand => exact GS.s_iand hj hs kk
  case ior => exact GS.s_ior hj hs kk
  case ixor => exact GS.s_ixor hj hs kk
  case ishl => exact GS.s_ishl hj hs kk
  case ishr => exact GS.s_ishr hj hs kk
  case ladd => exact GS.s_ladd hj hs kk
  case lsub => exact GS.s_lsub hj hs kk
  case land => exact GS.s_land hj hs kk
  case lor => exact GS.s_lor hj hs kk
  case lshl => exact GS.s_lshl hj hs kk
  case lshr => exact GS.s_lshr hj hs kk
  case lushr => exact GS.s_lushr hj hs kk
  case ineg => exact GS.s_ineg hj hs kk
  case i2b => exact GS.s_i2b hj hs kk
  case i2s => exact GS.s_i2s hj hs kk
  case i2c => exact GS.s_i2c hj hs kk
  case lcmp => exact GS.s_lcmp hj hs kk
  case i2l => exact GS.s_i2l hj hs kk
  case l2i => exact GS.s_l2i hj hs kk
  case dup => exact GS.s_dup hj hs kk
  case dup2 => exact GS.s_dup2 hj hs kk
  case pop => exact GS.s_pop hj hs kk
  case getfield _ => exact GS.s_getfield hj hs kk
  case putfield _ => exact GS.s_putfield hj hs kk
  all_goals cases hs
theorem GS.run (stops : List Nat) (f : Nat) : ∀ {pc pc' : Nat} {L L' st st' : List Value} {σ σ' : am_S}, am_rs M stops f pc L st σ = (pc', L', st', σ') → GS X M d Q pc' L' st' σ' → GS X M d Q pc L st σ := by
  induction f with
  | zero =>
    intro pc pc' L L' st st' σ σ' h kk
    cases h
    exact kk
  | succ f ih =>
    intro pc pc' L L' st st' σ σ' h kk
    unfold am_rs at h
    split at h
    · cases h; exact kk
    · rename_i j hj
      split at h
      · rename_i t ht
        have e : GS X M d Q t L st σ → GS X M d Q pc L st σ := by
          intro k1
          obtain ⟨i, nx, x, y, v⟩ := j
          unfold am_gt at ht
          split at ht
          · rename_i o t' hi hx
            cases ht
            dsimp only at hi hx
            subst hi; subst hx
            exact G.goto hj k1
          · cases ht
        cases hc : stops.contains t with
        | true => rw [hc] at h; cases h; exact e kk
        | false => rw [hc] at h; exact e (ih h kk)
      · split at h
        · rename_i L1 st1 σ1 h1
          cases hc : stops.contains j.2.1 with
          | true => rw [hc] at h; cases h; exact GS.s_st1 hj h1 kk
          | false => rw [hc] at h; exact GS.s_st1 hj h1 (ih h kk)
        · cases h; exact kk
theorem GS.weak {L1 : List Value} (hL : am_leL L1 L) (kk : GS X M d Q pc L1 st σ) : GS X M d Q pc L st σ := G.weak hL kk
theorem GS.iaload {q len : Nat} {a : Int32} (hj : am_at M pc = some (.iaload, nx, x, y, v)) (hs : am_sh q = some (.inl (0, len))) (hin : vp_in a len) (kk : GS X M d Q nx L (.int (σ q a.toNatClampNeg) :: st) σ) : GS X M d Q pc L (.int a :: .ref q :: st) σ := G.iaload hj (am_sh_lt hs) (am_mk_arr hs) hin kk
theorem GS.iastore {q len : Nat} {a b : Int32} (hj : am_at M pc = some (.iastore, nx, x, y, v)) (hs : am_sh q = some (.inl (0, len))) (hin : vp_in a len) (kk : GS X M d Q nx L st (am_s1 σ q (upd (σ q) a.toNatClampNeg b))) : GS X M d Q pc L (.int b :: .int a :: .ref q :: st) σ := G.iastore hj (am_sh_lt hs) (am_mk_arr hs) hin (by rw [am_mk_ast hs]; exact kk)
theorem GS.baload {q len : Nat} {a : Int32} (hj : am_at M pc = some (.baload, nx, x, y, v)) (hs : am_sh q = some (.inl (1, len))) (hin : vp_in a len) (kk : GS X M d Q nx L (.int (σ q a.toNatClampNeg) :: st) σ) : GS X M d Q pc L (.int a :: .ref q :: st) σ := G.baload hj (am_sh_lt hs) (am_mk_arr hs) hin kk
theorem GS.bastore {q len : Nat} {a b : Int32} (hj : am_at M pc = some (.bastore, nx, x, y, v)) (hs : am_sh q = some (.inl (1, len))) (hin : vp_in a len) (kk : GS X M d Q nx L st (am_s1 σ q (upd (σ q) a.toNatClampNeg (vp_nar .boolean b)))) : GS X M d Q pc L (.int b :: .int a :: .ref q :: st) σ := G.bastore hj (am_sh_lt hs) (am_mk_arr hs) hin (by rw [am_mk_ast hs]; exact kk)
theorem GS.alen {q kd len : Nat} (hj : am_at M pc = some (.arraylength, nx, x, y, v)) (hs : am_sh q = some (.inl (kd, len))) (kk : GS X M d Q nx L (.int (nI len) :: st) σ) : GS X M d Q pc L (.ref q :: st) σ := G.alen hj (am_sh_lt hs) (am_mk_arr hs) kk
/-- a field that is no int (0 or 1) -/
theorem GS.putZ {a q ci kf i : Nat} {w : Int32} {fl : List (Option Nat)} (hj : am_at M pc = some (.putfield a, nx, [ci, kf, i], y, v)) (hs : am_sh q = some (.inr (ci, fl))) (hk : fl[kf]? = some none) (hn : narrow (am_ty ci kf) (.int w) = .int w) (hf : fits (am_ty ci kf) (.int w) = true) (hfi : am_fin ci kf = false) (kk : GS X M d Q nx L st (am_s1 σ q (upd (σ q) kf w))) : GS X M d Q pc L (.int w :: .ref q :: st) σ :=
  G.putf hj (am_sh_lt hs) (am_mk_obj hs) (by rw [am_flds_len]; exact (List.getElem?_eq_some_iff.mp hk).1) hn hf (fun qc h1 h2 => by unfold am_fin at hfi; simp [h1, h2] at hfi) (by rw [am_mk_put hs hk]; exact kk)
theorem GS.iret {a : Int32} {ty : FieldType} (hj : am_at M pc = some (.ireturn, nx, x, y, v)) (hr : M.2.2.2.1 = some ty) (hn : narrow ty (.int a) = .int a) (kk : Q (some (.int a)) σ) : GS X M d Q pc L [.int a] σ := G.iret hj hr hn ⟨rfl, σ, rfl, kk⟩
theorem GS.lret {a : Int64} (hj : am_at M pc = some (.lreturn, nx, x, y, v)) (hr : M.2.2.2.1 = some .long) (kk : Q (some (.long a)) σ) : GS X M d Q pc L [.long a] σ := G.lret hj hr ⟨rfl, σ, rfl, kk⟩
theorem GS.aret {a : Nat} {ty : FieldType} (hj : am_at M pc = some (.areturn, nx, x, y, v)) (hr : M.2.2.2.1 = some ty) (hn : (∃ n, ty = .object n) ∨ ∃ t, ty = .array t) (kk : Q (some (.ref a)) σ) : GS X M d Q pc L [.ref a] σ := G.aret hj hr hn ⟨rfl, σ, rfl, kk⟩
theorem GS.vret (hj : am_at M pc = some (.return_, nx, x, y, v)) (hr : M.2.2.2.1 = none) (kk : Q none σ) : GS X M d Q pc L [] σ := G.vret hj hr ⟨rfl, σ, rfl, kk⟩
theorem GS.callV {a q ci d' np : Nat} {qc : vw_C} {fl : List (Option Nat)} {args st0 : List Value} {M' : am_M} {Q' : Option Value → am_S → Prop} (hC : am_okC2 M' 0 np) (hcall : CallS M' d' (.ref q :: args) σ Q') (hj : am_at M pc = some (.invokevirtual a, nx, x, y, v)) (hy : am_yn y = M'.1) (hst : st0 = args.reverse ++ (.ref q :: st)) (hnp : args.length = np) (hs : am_sh q = some (.inr (ci, fl))) (hc : vwCl[ci]? = some qc) (hcn : M'.1.cls = qc.1) (hcat : (st.map fun v => v.category).sum ≤ 8) (hd : d' + 1 ≤ d)
    (kk : ∀ (v : Option Value) (σ' : am_S), Q' v σ' → GS X M d Q nx L (v.toList ++ st) σ') : GS X M d Q pc L st0 σ := by
  subst hst
  exact G.callV hj hy hC hnp (am_sh_lt hs) (am_mk_obj hs) hc hcn hd (Nat.le_refl _) (Nat.le_refl _) hcat hcall (fun v h' n' hq => by obtain ⟨rfl, σ', rfl, hq⟩ := hq; exact kk v σ' hq)
theorem GS.callS {a d' np : Nat} {args st0 : List Value} {M' : am_M} {Q' : Option Value → am_S → Prop} (hC : am_okC2 M' 1 np) (hcall : CallS M' d' args σ Q') (hj : am_at M pc = some (.invokestatic a, nx, x, y, v)) (hy : am_yn y = M'.1) (hst : st0 = args.reverse ++ st) (hnp : args.length = np) (hcat : (st.map fun v => v.category).sum ≤ 8) (hd : d' + 1 ≤ d)
    (kk : ∀ (v : Option Value) (σ' : am_S), Q' v σ' → GS X M d Q nx L (v.toList ++ st) σ') : GS X M d Q pc L st0 σ := by
  subst hst
  exact G.callS hj hy hC hnp hd (Nat.le_refl _) (Nat.le_refl _) hcat hcall (fun v h' n' hq => by obtain ⟨rfl, σ', rfl, hq⟩ := hq; exact kk v σ' hq)
/-- a call whose answer and end are known -/
theorem GS.cV {a q ci d' np : Nat} {qc : vw_C} {fl : List (Option Nat)} {args st0 : List Value} {M' : am_M} {v1 : Option Value} {σ1 : am_S} (hC : am_okC2 M' 0 np) (hcall : CallS M' d' (.ref q :: args) σ (am_det v1 σ1)) (hj : am_at M pc = some (.invokevirtual a, nx, x, y, v)) (hy : am_yn y = M'.1) (hst : st0 = args.reverse ++ (.ref q :: st)) (hnp : args.length = np) (hs : am_sh q = some (.inr (ci, fl))) (hc : vwCl[ci]? = some qc) (hcn : M'.1.cls = qc.1) (hcat : (st.map fun v => v.category).sum ≤ 8) (hd : d' + 1 ≤ d)
    (kk : GS X M d Q nx L (v1.toList ++ st) σ1) : GS X M d Q pc L st0 σ :=
  GS.callV hC hcall hj hy hst hnp hs hc hcn hcat hd (fun v σ' hq => by obtain ⟨rfl, rfl⟩ := hq; exact kk)
theorem GS.cS {a d' np : Nat} {args st0 : List Value} {M' : am_M} {v1 : Option Value} {σ1 : am_S} (hC : am_okC2 M' 1 np) (hcall : CallS M' d' args σ (am_det v1 σ1)) (hj : am_at M pc = some (.invokestatic a, nx, x, y, v)) (hy : am_yn y = M'.1) (hst : st0 = args.reverse ++ st) (hnp : args.length = np) (hcat : (st.map fun v => v.category).sum ≤ 8) (hd : d' + 1 ≤ d)
    (kk : GS X M d Q nx L (v1.toList ++ st) σ1) : GS X M d Q pc L st0 σ :=
  GS.callS hC hcall hj hy hst hnp hcat hd (fun v σ' hq => by obtain ⟨rfl, rfl⟩ := hq; exact kk)
end GSR
theorem CallS.of {M : am_M} {d : Nat} {args : List Value} {σ : am_S} {Q : Option Value → am_S → Prop} (hok : am_ok0 M) (hy : plainFor M.1 = true) (L : List Value) (hL : am_ent args ++ List.replicate (M.2.2.1 - (am_ent args).length) (.retAddr 0) = L) (hle : (am_ent args).length ≤ M.2.2.1) (kk : GS none M d Q 0 L [] σ) : CallS M d args σ Q := by
  subst hL
  exact am_Met hok hy hle kk
theorem CallS.mono {M : am_M} {d : Nat} {args : List Value} {σ : am_S} {Q Q' : Option Value → am_S → Prop} (h : CallS M d args σ Q) (hQ : ∀ v σ', Q v σ' → Q' v σ') : CallS M d args σ Q' := by
  intro hn l D as aargs sz hv p e ha hc hk s m a below hf happ hp hK
  obtain ⟨n, o, h1, h2, h3, h4⟩ := h hn l D as aargs sz hv p e ha hc hk s m a below hf happ hp hK
  refine ⟨n, o, h1, h2, h3, ?_⟩
  obtain ⟨⟨⟨v, rv, h', n', as', q1, q2, ⟨q3, σ', q4, q5⟩, q6⟩, q7⟩, q8⟩ := h4
  exact ⟨⟨⟨v, rv, h', n', as', q1, q2, ⟨q3, σ', q4, hQ v σ' q5⟩, q6⟩, q7⟩, q8⟩
theorem CallS.eq {M : am_M} {d : Nat} {args : List Value} {σ : am_S} {v v' : Option Value} {σ1 σ1' : am_S} (h : CallS M d args σ (am_det v σ1)) (hv : v = v') (hσ : σ1 = σ1') : CallS M d args σ (am_det v' σ1') := by subst hv; subst hσ; exact h
