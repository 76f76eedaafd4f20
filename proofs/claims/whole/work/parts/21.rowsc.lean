abbrev okr (k : Int32) : Prop := 0 ≤ k.toInt ∧ k.toInt < 8
abbrev beyR (sz : Nat) (i n : Int32) : Prop := i.toInt < 0 ∨ n.toInt < 0 ∨ (sz : Int) < i.toInt + n.toInt
def low (l v : Int32) : Int32 := if l = 0 then v.toInt8.toInt32 else if l = 1 then v.toInt16.toInt32 else v
def rMake (r : Rw) (k : Nat) (l : Int32) (n : Nat) : Rw := (va_up r.1 k l, va_up r.2.1 k n, fun j => if 40 * k ≤ j ∧ j < 40 * k + 40 then 0 else r.2.2 j)
def rStore (r : Rw) (k i : Nat) (v : Int32) : Rw := (r.1, r.2.1, va_up r.2.2 (40 * k + i) v)
def rDrop (r : Rw) (k : Nat) : Rw := (va_up r.1 k (-1), r.2.1, r.2.2)
/-- n places of f moved from src to dst, s of them done: from the start, or from the end -/
def mvF (up : Bool) (f : Nat → Int32) (src dst n s : Nat) : Nat → Int32 := fun x => if (match up with
  | true => decide (dst ≤ x ∧ x < dst + s)
  | false => decide (dst + (n - s) ≤ x ∧ x < dst + n)) = true then f (src + (x - dst)) else f x
def mvK (up : Bool) (n s : Nat) : Nat := match up with
  | true => s
  | false => n - 1 - s
theorem mvF_0 {up : Bool} {f : Nat → Int32} {src dst n : Nat} : mvF up f src dst n 0 = f := by
  funext x
  unfold mvF
  cases up <;> rw [if_neg (by simp <;> omega)]
theorem mvF_s {up : Bool} {f : Nat → Int32} {src dst n s : Nat} (hs : s < n) (h1 : up = true → dst ≤ src ∨ src + n ≤ dst) (h2 : up = false → src ≤ dst ∨ dst + n ≤ src) :
    upd (mvF up f src dst n s) (dst + mvK up n s) (mvF up f src dst n s (src + mvK up n s)) = mvF up f src dst n (s + 1) := by
  have e : mvF up f src dst n s (src + mvK up n s) = f (src + mvK up n s) := by
    unfold mvF mvK
    cases up with
    | true => have := h1 rfl; rw [if_neg]; simp; omega
    | false => have := h2 rfl; rw [if_neg]; simp; omega
  rw [e]
  funext x
  unfold upd mvF mvK
  cases up with
  | true =>
    simp only [decide_eq_true_eq]
    by_cases hx : x = dst + s
    · rw [if_pos hx, if_pos (by omega), hx, Nat.add_sub_cancel_left]
    · rw [if_neg hx]
      by_cases hx2 : dst ≤ x ∧ x < dst + s
      · rw [if_pos hx2, if_pos (by omega)]
      · rw [if_neg hx2, if_neg (by omega)]
  | false =>
    simp only [decide_eq_true_eq]
    by_cases hx : x = dst + (n - 1 - s)
    · rw [if_pos hx, if_pos (by omega), hx, Nat.add_sub_cancel_left]
    · rw [if_neg hx]
      by_cases hx2 : dst + (n - s) ≤ x ∧ x < dst + n
      · rw [if_pos hx2, if_pos (by omega)]
      · rw [if_neg hx2, if_neg (by omega)]
def rCopy (r : Rw) (a i b j n : Nat) : Rw := (r.1, r.2.1, mvF true r.2.2 (40 * a + i) (40 * b + j) n n)
theorem mvF_n {up : Bool} {f : Nat → Int32} {src dst n : Nat} : mvF up f src dst n n = mvF true f src dst n n := by
  funext x
  unfold mvF
  cases up with
  | true => rfl
  | false =>
    simp only [decide_eq_true_eq]
    by_cases hx : dst ≤ x ∧ x < dst + n
    · rw [if_pos hx, if_pos (by omega)]
    · rw [if_neg hx, if_neg (by omega)]
abbrev Qr : Type := Int32 × Rw × Int32
def qRow (r : Rw) (f k l n : Int32) : Qr := if okr k ∧ (0 ≤ l.toInt ∧ l.toInt < 3) ∧ n.toInt ≤ 40 then (if n.toInt < 0 then (-1000014, r, 4) else (n, rMake r (cn k) l (cn n), 0)) else (-1000001, r, f)
def qSet (r : Rw) (f k i v : Int32) : Qr := if okr k then (if (r.1 (cn k)).toInt < 0 then (-1000011, r, 1) else if beyR (r.2.1 (cn k)) i 1 then (-1000012, r, 2) else (low (r.1 (cn k)) v, rStore r (cn k) (cn i) (low (r.1 (cn k)) v), 0)) else (-1000001, r, f)
def qCopy (r : Rw) (f a i b j n : Int32) : Qr := if okr a ∧ okr b then (if (r.1 (cn a)).toInt < 0 ∨ (r.1 (cn b)).toInt < 0 then (-1000011, r, 1) else if r.1 (cn a) ≠ r.1 (cn b) then (-1000015, r, 5) else if beyR (r.2.1 (cn a)) i n ∨ beyR (r.2.1 (cn b)) j n then (-1000012, r, 2) else (n, rCopy r (cn a) (cn i) (cn b) (cn j) (cn n), 0)) else (-1000001, r, f)
def qDrop (r : Rw) (f k : Int32) : Qr := if okr k then (if (r.1 (cn k)).toInt < 0 then (-1000011, r, 1) else (nI (r.2.1 (cn k)), rDrop r (cn k), 0)) else (-1000001, r, f)
theorem okr_nat {k : Int32} (h : okr k) : ∃ a, a < 8 ∧ k = nI a := by
  refine ⟨k.toInt.toNat, by omega, ?_⟩
  rw [zI_n, show ((k.toInt.toNat : Nat) : Int) = k.toInt by omega, zI_of]
theorem nat_of {i : Int32} {m : Nat} (h : 0 ≤ i.toInt) (h2 : i.toInt ≤ m) : ∃ a, a ≤ m ∧ i = nI a := by
  refine ⟨i.toInt.toNat, by omega, ?_⟩
  rw [zI_n, show ((i.toInt.toNat : Nat) : Int) = i.toInt by omega, zI_of]
theorem he_it {k i : Nat} : nI k * 40 + nI i = nI (40 * k + i) := by rw [il_40, pk_mul, nI_add, Nat.mul_comm]
section VR
variable {σ : am_S} {r : Rw} {k : Nat}
theorem v_lane (h : rowsV 2 3 4 σ r) (hk : k < 8) : am_get (σ 2) 8 (nI k) = r.1 k := v_get hk (by omega) (h k hk).1
theorem v_size (h : rowsV 2 3 4 σ r) (hk : k < 8) : am_get (σ 3) 8 (nI k) = nI (r.2.1 k) := v_get hk (by omega) (h k hk).2.1
theorem v_item {i : Nat} (h : rowsV 2 3 4 σ r) (hw : wfR r) (hk : k < 8) (hi : i < r.2.1 k) : am_get (σ 4) 320 (nI k * 40 + nI i) = r.2.2 (40 * k + i) := by
  have h1 := (hw k hk).2
  rw [he_it]
  exact v_get (by omega) (by omega) ((h k hk).2.2 i hi)
end VR
theorem c_rhas (d : Nat) (σ : am_S) (k : Int32) : CallS mX4_has (d + 1) [.ref 1, .int k] σ (am_det (some (.int (am_b (okr k)))) σ) := by
  refine CallS.of kX4_has pX4_has [.ref 1, .int k] rfl (Nat.le_of_ble_eq_true rfl) ?_
  refine GS.run [] 2 rfl ?_
  refine GS.cS oX11_within (c_withinN d σ k 8 (by decide)) rfl rfl rfl rfl (Nat.le_of_ble_eq_true rfl) (by omega) ?_
  refine GS.iret rfl rfl (nar_b _) ?_
  exact ⟨rfl, rfl⟩
theorem c_missing (d : Nat) (σ : am_S) (r : Rw) (k : Nat) (hr : rowsV 2 3 4 σ r) (hwf : wfR r) (hk : k < 8) : CallS mX4_missing (d + 1) [.ref 1, .int (nI k)] σ (am_det (some (.int (am_b ((r.1 k).toInt < 0)))) σ) := by
  refine CallS.of kX4_missing pX4_missing [.ref 1, .int (nI k)] rfl (Nat.le_of_ble_eq_true rfl) ?_
  refine GS.run [] 3 rfl ?_
  refine GS.cS oX11_at ((c_at d σ 2 8 (nI k) rfl).eq (congrArg (fun z => some (Value.int z)) (v_lane hr hk)) rfl) rfl rfl rfl rfl (Nat.le_of_ble_eq_true rfl) (by omega) ?_
  refine GS.if_ge rfl (fun c8 => ?_) (fun c8 => ?_)
  · refine GS.run [] 1 rfl ?_
    refine GS.iret rfl rfl (rfl) ?_
    refine ⟨?_, rfl⟩
    unfold am_b
    first
      | (rw [if_neg (by rw [tI_le, tI_0] at c8; omega)])
      | (rw [if_pos (by rw [tI_le, tI_0] at c8; omega)])
  · refine GS.run [] 2 rfl ?_
    refine GS.iret rfl rfl (rfl) ?_
    refine ⟨?_, rfl⟩
    unfold am_b
    first
      | (rw [if_neg (by rw [tI_le, tI_0] at c8; omega)])
      | (rw [if_pos (by rw [tI_le, tI_0] at c8; omega)])
theorem c_beyond (d : Nat) (σ : am_S) (r : Rw) (k : Nat) (i n : Int32) (hr : rowsV 2 3 4 σ r) (hwf : wfR r) (hk : k < 8) : CallS mX4_beyond (d + 1) [.ref 1, .int (nI k), .int i, .int n] σ (am_det (some (.int (am_b (beyR (r.2.1 k) i n)))) σ) := by
  refine CallS.of kX4_beyond pX4_beyond [.ref 1, .int (nI k), .int i, .int n] rfl (Nat.le_of_ble_eq_true rfl) ?_
  refine GS.run [] 1 rfl ?_
  refine GS.if_lt rfl (fun c1 => ?_) (fun c1 => ?_)
  · refine GS.run [] 2 rfl ?_
    refine GS.iret rfl rfl (rfl) ?_
    refine ⟨?_, rfl⟩
    have h1 := (hwf k hk).2
    have hn1 := n.le_toInt
    have hn2 := n.toInt_lt
    have e : 0 ≤ n.toInt → (nI (r.2.1 k) - n).toInt = (r.2.1 k : Int) - n.toInt := fun h => by
      rw [← zI_of n, zI_n, zI_sub, zI_t (by omega) (by omega), zI_of]
    unfold am_b
    first
      | (rw [if_pos (Or.inl (by rw [tI_lt, tI_0] at c1; exact c1))])
      | (rw [if_pos (Or.inr (Or.inl (by rw [tI_lt, tI_0] at c5; exact c5)))])
      | (rw [if_neg (by rw [tI_lt, tI_0] at c1 c5; rw [tI_le, e (by omega)] at c19; omega)])
      | (rw [if_pos (by rw [tI_lt, tI_0] at c1 c5; rw [tI_le, e (by omega)] at c19; omega)])
  · refine GS.run [] 1 rfl ?_
    refine GS.if_lt rfl (fun c5 => ?_) (fun c5 => ?_)
    · refine GS.run [] 2 rfl ?_
      refine GS.iret rfl rfl (rfl) ?_
      refine ⟨?_, rfl⟩
      have h1 := (hwf k hk).2
      have hn1 := n.le_toInt
      have hn2 := n.toInt_lt
      have e : 0 ≤ n.toInt → (nI (r.2.1 k) - n).toInt = (r.2.1 k : Int) - n.toInt := fun h => by
        rw [← zI_of n, zI_n, zI_sub, zI_t (by omega) (by omega), zI_of]
      unfold am_b
      first
        | (rw [if_pos (Or.inl (by rw [tI_lt, tI_0] at c1; exact c1))])
        | (rw [if_pos (Or.inr (Or.inl (by rw [tI_lt, tI_0] at c5; exact c5)))])
        | (rw [if_neg (by rw [tI_lt, tI_0] at c1 c5; rw [tI_le, e (by omega)] at c19; omega)])
        | (rw [if_pos (by rw [tI_lt, tI_0] at c1 c5; rw [tI_le, e (by omega)] at c19; omega)])
    · refine GS.run [] 4 rfl ?_
      refine GS.cS oX11_at ((c_at d σ 3 8 (nI k) rfl).eq (congrArg (fun z => some (Value.int z)) (v_size hr hk)) rfl) rfl rfl rfl rfl (Nat.le_of_ble_eq_true rfl) (by omega) ?_
      refine GS.run [] 2 rfl ?_
      refine GS.icmp_le rfl (fun c19 => ?_) (fun c19 => ?_)
      · refine GS.run [] 1 rfl ?_
        refine GS.iret rfl rfl (rfl) ?_
        refine ⟨?_, rfl⟩
        have h1 := (hwf k hk).2
        have hn1 := n.le_toInt
        have hn2 := n.toInt_lt
        have e : 0 ≤ n.toInt → (nI (r.2.1 k) - n).toInt = (r.2.1 k : Int) - n.toInt := fun h => by
          rw [← zI_of n, zI_n, zI_sub, zI_t (by omega) (by omega), zI_of]
        unfold am_b
        first
          | (rw [if_pos (Or.inl (by rw [tI_lt, tI_0] at c1; exact c1))])
          | (rw [if_pos (Or.inr (Or.inl (by rw [tI_lt, tI_0] at c5; exact c5)))])
          | (rw [if_neg (by rw [tI_lt, tI_0] at c1 c5; rw [tI_le, e (by omega)] at c19; omega)])
          | (rw [if_pos (by rw [tI_lt, tI_0] at c1 c5; rw [tI_le, e (by omega)] at c19; omega)])
      · refine GS.run [] 2 rfl ?_
        refine GS.iret rfl rfl (rfl) ?_
        refine ⟨?_, rfl⟩
        have h1 := (hwf k hk).2
        have hn1 := n.le_toInt
        have hn2 := n.toInt_lt
        have e : 0 ≤ n.toInt → (nI (r.2.1 k) - n).toInt = (r.2.1 k : Int) - n.toInt := fun h => by
          rw [← zI_of n, zI_n, zI_sub, zI_t (by omega) (by omega), zI_of]
        unfold am_b
        first
          | (rw [if_pos (Or.inl (by rw [tI_lt, tI_0] at c1; exact c1))])
          | (rw [if_pos (Or.inr (Or.inl (by rw [tI_lt, tI_0] at c5; exact c5)))])
          | (rw [if_neg (by rw [tI_lt, tI_0] at c1 c5; rw [tI_le, e (by omega)] at c19; omega)])
          | (rw [if_pos (by rw [tI_lt, tI_0] at c1 c5; rw [tI_le, e (by omega)] at c19; omega)])
theorem c_findAt (d : Nat) (σ : am_S) (r : Rw) (k : Nat) (i n : Int32) (hr : rowsV 2 3 4 σ r) (hwf : wfR r) (hk : k < 8) : CallS mX4_findingAt (d + 3) [.ref 1, .int (nI k), .int i, .int n] σ (am_det (some (.int (if (r.1 k).toInt < 0 then 1 else if beyR (r.2.1 k) i n then 2 else 0))) σ) := by
  refine CallS.of kX4_findingAt pX4_findingAt [.ref 1, .int (nI k), .int i, .int n] rfl (Nat.le_of_ble_eq_true rfl) ?_
  refine GS.run [] 2 rfl ?_
  refine GS.cV oX4_missing (c_missing (d + 1) σ r k hr hwf hk) rfl rfl rfl rfl rfl rfl rfl (Nat.le_of_ble_eq_true rfl) (by omega) ?_
  refine GS.if_eq rfl (fun c5 => ?_) (fun c5 => ?_)
  · refine GS.run [] 4 rfl ?_
    refine GS.cV oX4_beyond (c_beyond (d + 1) σ r k i n hr hwf hk) rfl rfl rfl rfl rfl rfl rfl (Nat.le_of_ble_eq_true rfl) (by omega) ?_
    refine GS.if_eq rfl (fun c17 => ?_) (fun c17 => ?_)
    · refine GS.run [] 1 rfl ?_
      refine GS.iret rfl rfl (rfl) ?_
      refine ⟨?_, rfl⟩
      first
        | (rw [if_pos (am_bT c5)])
        | (rw [if_neg (am_b0.mp c5), if_pos (am_bT c17)])
        | (rw [if_neg (am_b0.mp c5), if_neg (am_b0.mp c17)])
    · refine GS.run [] 2 rfl ?_
      refine GS.iret rfl rfl (rfl) ?_
      refine ⟨?_, rfl⟩
      first
        | (rw [if_pos (am_bT c5)])
        | (rw [if_neg (am_b0.mp c5), if_pos (am_bT c17)])
        | (rw [if_neg (am_b0.mp c5), if_neg (am_b0.mp c17)])
  · refine GS.run [] 1 rfl ?_
    refine GS.iret rfl rfl (rfl) ?_
    refine ⟨?_, rfl⟩
    first
      | (rw [if_pos (am_bT c5)])
      | (rw [if_neg (am_b0.mp c5), if_pos (am_bT c17)])
      | (rw [if_neg (am_b0.mp c5), if_neg (am_b0.mp c17)])
theorem c_findBt (d : Nat) (σ : am_S) (r : Rw) (a b : Nat) (i j n : Int32) (hr : rowsV 2 3 4 σ r) (hwf : wfR r) (ha : a < 8) (hb : b < 8) : CallS mX4_findingBetween (d + 3) [.ref 1, .int (nI a), .int i, .int (nI b), .int j, .int n] σ (am_det (some (.int (if (r.1 a).toInt < 0 ∨ (r.1 b).toInt < 0 then 1 else if r.1 a ≠ r.1 b then 5 else if beyR (r.2.1 a) i n ∨ beyR (r.2.1 b) j n then 2 else 0))) σ) := by
  refine CallS.of kX4_findingBetween pX4_findingBetween [.ref 1, .int (nI a), .int i, .int (nI b), .int j, .int n] rfl (Nat.le_of_ble_eq_true rfl) ?_
  refine GS.run [] 2 rfl ?_
  refine GS.cV oX4_missing (c_missing (d + 1) σ r a hr hwf ha) rfl rfl rfl rfl rfl rfl rfl (Nat.le_of_ble_eq_true rfl) (by omega) ?_
  refine GS.if_ne rfl (fun c5 => ?_) (fun c5 => ?_)
  · refine GS.run [] 1 rfl ?_
    refine GS.iret rfl rfl (rfl) ?_
    refine ⟨?_, rfl⟩
    first
      | (rw [if_pos (Or.inl (am_bT c5))])
      | (rw [if_pos (Or.inr (am_bT c13))])
      | (rw [if_neg (fun h => h.elim (am_b0.mp c5) (am_b0.mp c13)), if_pos c34])
      | (rw [if_neg (fun h => h.elim (am_b0.mp c5) (am_b0.mp c13)), if_neg (fun h => h c34), if_pos (Or.inl (am_bT c47))])
      | (rw [if_neg (fun h => h.elim (am_b0.mp c5) (am_b0.mp c13)), if_neg (fun h => h c34), if_pos (Or.inr (am_bT c59))])
      | (rw [if_neg (fun h => h.elim (am_b0.mp c5) (am_b0.mp c13)), if_neg (fun h => h c34), if_neg (fun h => h.elim (am_b0.mp c47) (am_b0.mp c59))])
  · refine GS.run [] 2 rfl ?_
    refine GS.cV oX4_missing (c_missing (d + 1) σ r b hr hwf hb) rfl rfl rfl rfl rfl rfl rfl (Nat.le_of_ble_eq_true rfl) (by omega) ?_
    refine GS.if_eq rfl (fun c13 => ?_) (fun c13 => ?_)
    · refine GS.run [] 3 rfl ?_
      refine GS.cS oX11_at ((c_at (d + 2) σ 2 8 (nI a) rfl).eq (congrArg (fun z => some (Value.int z)) (v_lane hr ha)) rfl) rfl rfl rfl rfl (Nat.le_of_ble_eq_true rfl) (by omega) ?_
      refine GS.run [] 3 rfl ?_
      refine GS.cS oX11_at ((c_at (d + 2) σ 2 8 (nI b) rfl).eq (congrArg (fun z => some (Value.int z)) (v_lane hr hb)) rfl) rfl rfl rfl rfl (Nat.le_of_ble_eq_true rfl) (by omega) ?_
      refine GS.icmp_eq rfl (fun c34 => ?_) (fun c34 => ?_)
      · refine GS.run [] 4 rfl ?_
        refine GS.cV oX4_beyond (c_beyond (d + 1) σ r a i n hr hwf ha) rfl rfl rfl rfl rfl rfl rfl (Nat.le_of_ble_eq_true rfl) (by omega) ?_
        refine GS.if_ne rfl (fun c47 => ?_) (fun c47 => ?_)
        · refine GS.run [] 2 rfl ?_
          refine GS.iret rfl rfl (rfl) ?_
          refine ⟨?_, rfl⟩
          first
            | (rw [if_pos (Or.inl (am_bT c5))])
            | (rw [if_pos (Or.inr (am_bT c13))])
            | (rw [if_neg (fun h => h.elim (am_b0.mp c5) (am_b0.mp c13)), if_pos c34])
            | (rw [if_neg (fun h => h.elim (am_b0.mp c5) (am_b0.mp c13)), if_neg (fun h => h c34), if_pos (Or.inl (am_bT c47))])
            | (rw [if_neg (fun h => h.elim (am_b0.mp c5) (am_b0.mp c13)), if_neg (fun h => h c34), if_pos (Or.inr (am_bT c59))])
            | (rw [if_neg (fun h => h.elim (am_b0.mp c5) (am_b0.mp c13)), if_neg (fun h => h c34), if_neg (fun h => h.elim (am_b0.mp c47) (am_b0.mp c59))])
        · refine GS.run [] 4 rfl ?_
          refine GS.cV oX4_beyond (c_beyond (d + 1) σ r b j n hr hwf hb) rfl rfl rfl rfl rfl rfl rfl (Nat.le_of_ble_eq_true rfl) (by omega) ?_
          refine GS.if_eq rfl (fun c59 => ?_) (fun c59 => ?_)
          · refine GS.run [] 1 rfl ?_
            refine GS.iret rfl rfl (rfl) ?_
            refine ⟨?_, rfl⟩
            first
              | (rw [if_pos (Or.inl (am_bT c5))])
              | (rw [if_pos (Or.inr (am_bT c13))])
              | (rw [if_neg (fun h => h.elim (am_b0.mp c5) (am_b0.mp c13)), if_pos c34])
              | (rw [if_neg (fun h => h.elim (am_b0.mp c5) (am_b0.mp c13)), if_neg (fun h => h c34), if_pos (Or.inl (am_bT c47))])
              | (rw [if_neg (fun h => h.elim (am_b0.mp c5) (am_b0.mp c13)), if_neg (fun h => h c34), if_pos (Or.inr (am_bT c59))])
              | (rw [if_neg (fun h => h.elim (am_b0.mp c5) (am_b0.mp c13)), if_neg (fun h => h c34), if_neg (fun h => h.elim (am_b0.mp c47) (am_b0.mp c59))])
          · refine GS.run [] 2 rfl ?_
            refine GS.iret rfl rfl (rfl) ?_
            refine ⟨?_, rfl⟩
            first
              | (rw [if_pos (Or.inl (am_bT c5))])
              | (rw [if_pos (Or.inr (am_bT c13))])
              | (rw [if_neg (fun h => h.elim (am_b0.mp c5) (am_b0.mp c13)), if_pos c34])
              | (rw [if_neg (fun h => h.elim (am_b0.mp c5) (am_b0.mp c13)), if_neg (fun h => h c34), if_pos (Or.inl (am_bT c47))])
              | (rw [if_neg (fun h => h.elim (am_b0.mp c5) (am_b0.mp c13)), if_neg (fun h => h c34), if_pos (Or.inr (am_bT c59))])
              | (rw [if_neg (fun h => h.elim (am_b0.mp c5) (am_b0.mp c13)), if_neg (fun h => h c34), if_neg (fun h => h.elim (am_b0.mp c47) (am_b0.mp c59))])
      · refine GS.run [] 1 rfl ?_
        refine GS.iret rfl rfl (rfl) ?_
        refine ⟨?_, rfl⟩
        first
          | (rw [if_pos (Or.inl (am_bT c5))])
          | (rw [if_pos (Or.inr (am_bT c13))])
          | (rw [if_neg (fun h => h.elim (am_b0.mp c5) (am_b0.mp c13)), if_pos c34])
          | (rw [if_neg (fun h => h.elim (am_b0.mp c5) (am_b0.mp c13)), if_neg (fun h => h c34), if_pos (Or.inl (am_bT c47))])
          | (rw [if_neg (fun h => h.elim (am_b0.mp c5) (am_b0.mp c13)), if_neg (fun h => h c34), if_pos (Or.inr (am_bT c59))])
          | (rw [if_neg (fun h => h.elim (am_b0.mp c5) (am_b0.mp c13)), if_neg (fun h => h c34), if_neg (fun h => h.elim (am_b0.mp c47) (am_b0.mp c59))])
    · refine GS.run [] 1 rfl ?_
      refine GS.iret rfl rfl (rfl) ?_
      refine ⟨?_, rfl⟩
      first
        | (rw [if_pos (Or.inl (am_bT c5))])
        | (rw [if_pos (Or.inr (am_bT c13))])
        | (rw [if_neg (fun h => h.elim (am_b0.mp c5) (am_b0.mp c13)), if_pos c34])
        | (rw [if_neg (fun h => h.elim (am_b0.mp c5) (am_b0.mp c13)), if_neg (fun h => h c34), if_pos (Or.inl (am_bT c47))])
        | (rw [if_neg (fun h => h.elim (am_b0.mp c5) (am_b0.mp c13)), if_neg (fun h => h c34), if_pos (Or.inr (am_bT c59))])
        | (rw [if_neg (fun h => h.elim (am_b0.mp c5) (am_b0.mp c13)), if_neg (fun h => h c34), if_neg (fun h => h.elim (am_b0.mp c47) (am_b0.mp c59))])
def zF (f : Nat → Int32) (k j : Nat) : Nat → Int32 := fun x => if 40 * k ≤ x ∧ x < 40 * k + j then 0 else f x
theorem zF_0 (f : Nat → Int32) (k : Nat) : zF f k 0 = f := by funext x; unfold zF; rw [if_neg (by omega)]
theorem zF_s (f : Nat → Int32) (k j : Nat) : upd (zF f k j) (40 * k + j) 0 = zF f k (j + 1) := by
  funext x
  unfold upd zF
  by_cases hx : x = 40 * k + j
  · rw [if_pos hx, if_pos (by omega)]
  · rw [if_neg hx]
    by_cases hx2 : 40 * k ≤ x ∧ x < 40 * k + j
    · rw [if_pos hx2, if_pos (by omega)]
    · rw [if_neg hx2, if_neg (by omega)]
theorem c_make (d : Nat) (σ : am_S) (k n : Nat) (l : Int32) (hk : k < 8) (hn : n ≤ 40) : CallS mX4_make (d + 1) [.ref 1, .int (nI k), .int l, .int (nI n)] σ (am_det none (am_s1 (am_s1 (am_s1 σ 2 (upd (σ 2) k l)) 3 (upd (σ 3) k (nI n))) 4 (zF (σ 4) k n))) := by
  refine CallS.of kX4_make pX4_make [.ref 1, .int (nI k), .int l, .int (nI n), .retAddr 0] rfl (Nat.le_of_ble_eq_true rfl) ?_
  refine GS.run [] 4 rfl ?_
  refine GS.cS oX11_put ((c_put d σ 2 8 (nI k) l rfl).eq rfl (by rw [am_put_nI hk (by omega)])) rfl rfl rfl rfl (Nat.le_of_ble_eq_true rfl) (by omega) ?_
  refine GS.run [] 4 rfl ?_
  refine GS.cS oX11_put ((c_put d (am_s1 σ 2 (upd (σ 2) k l)) 3 8 (nI k) (nI n) rfl).eq rfl (by rw [am_put_nI hk (by omega)])) rfl rfl rfl rfl (Nat.le_of_ble_eq_true rfl) (by omega) ?_
  refine GS.run [] 2 rfl ?_
  have loop21 : ∀ (fu : Nat) (j : Nat) (hj : j ≤ n), n - j = fu → GS none mX4_make (d + 1) (am_det none (am_s1 (am_s1 (am_s1 σ 2 (upd (σ 2) k l)) 3 (upd (σ 3) k (nI n))) 4 (zF (σ 4) k n))) 21 [.ref 1, .int (nI k), .int l, .int (nI n), .int (nI j)] [] (am_s1 (am_s1 (am_s1 σ 2 (upd (σ 2) k l)) 3 (upd (σ 3) k (nI n))) 4 (zF (σ 4) k j)) := by
    intro fu
    induction fu using Nat.strongRecOn with
    | ind fu ih21 =>
      intro j hj hfu
      refine GS.run [] 2 rfl ?_
      refine GS.icmp_ge rfl (fun c24 => ?_) (fun c24 => ?_)
      · have e : n = j := by have := (nI_leI (by omega) (by omega)).mp c24; omega
        refine GS.vret rfl rfl ?_
        subst e
        exact ⟨rfl, rfl⟩
      · have hlt : j < n := (nI_gtI (by omega) (by omega)).mp c24
        refine GS.run [] 2 rfl ?_
        refine GS.icmp_ge rfl (fun q => absurd q (fun z => absurd ((nI_leI (a := 40) (by omega) (by omega)).mp z) (by omega))) (fun c31 => ?_)
        refine GS.run [] 8 rfl ?_
        refine GS.cS oX11_put ((c_put d (am_s1 (am_s1 (am_s1 σ 2 (upd (σ 2) k l)) 3 (upd (σ 3) k (nI n))) 4 (zF (σ 4) k j)) 4 320 (nI k * 40 + nI j) 0 rfl).eq rfl (by rw [he_it, am_put_nI (by omega) (by omega), am_s1_eq, am_s1_s1, zF_s])) rfl rfl rfl rfl (Nat.le_of_ble_eq_true rfl) (by omega) ?_
        refine GS.run [] 2 rfl ?_
        rw [nI_1]
        exact ih21 _ (by omega) (j + 1) (by omega) rfl
  have e0 := loop21 _ 0 (Nat.zero_le _) rfl
  rw [zF_0] at e0
  have e1 : am_s1 (am_s1 (am_s1 σ 2 (upd (σ 2) k l)) 3 (upd (σ 3) k (nI n))) 4 (σ 4) = am_s1 (am_s1 σ 2 (upd (σ 2) k l)) 3 (upd (σ 3) k (nI n)) := am_s1_self _ 4
  rw [e1] at e0
  exact e0
theorem c_item (d : Nat) (σ : am_S) (r : Rw) (k i : Nat) (hr : rowsV 2 3 4 σ r) (hwf : wfR r) (hk : k < 8) (hi : i < r.2.1 k) : CallS mX4_item (d + 1) [.ref 1, .int (nI k), .int (nI i)] σ (am_det (some (.int (r.2.2 (40 * k + i)))) σ) := by
  refine CallS.of kX4_item pX4_item [.ref 1, .int (nI k), .int (nI i)] rfl (Nat.le_of_ble_eq_true rfl) ?_
  refine GS.run [] 7 rfl ?_
  refine GS.cS oX11_at ((c_at d σ 4 320 (nI k * 40 + nI i) rfl).eq (congrArg (fun z => some (Value.int z)) (v_item hr hwf hk hi)) rfl) rfl rfl rfl rfl (Nat.le_of_ble_eq_true rfl) (by omega) ?_
  refine GS.iret rfl rfl (rfl) ?_
  exact ⟨rfl, rfl⟩
theorem c_low (d : Nat) (σ : am_S) (l v : Int32) (hl : l = 0 ∨ l = 1 ∨ l = 2) : CallS mX4_lowestBits (d) [.int l, .int v] σ (am_det (some (.int (low l v))) σ) := by
  refine CallS.of kX4_lowestBits pX4_lowestBits [.int l, .int v] rfl (Nat.le_of_ble_eq_true rfl) ?_
  refine GS.run [] 1 rfl ?_
  rcases hl with rfl | rfl | rfl
  · refine GS.lkp (off := 27) (t := 28) rfl (rfl) (by decide) ?_
    refine GS.run [] 2 rfl ?_
    refine GS.iret rfl rfl (rfl) ?_
    exact ⟨rfl, rfl⟩
  · refine GS.lkp (off := 30) (t := 31) rfl (rfl) (by decide) ?_
    refine GS.run [] 2 rfl ?_
    refine GS.iret rfl rfl (rfl) ?_
    exact ⟨rfl, rfl⟩
  · refine GS.lkp (off := 33) (t := 34) rfl (rfl) (by decide) ?_
    refine GS.run [] 1 rfl ?_
    refine GS.iret rfl rfl (rfl) ?_
    exact ⟨rfl, rfl⟩
theorem c_store (d : Nat) (σ : am_S) (r : Rw) (k i : Nat) (v : Int32) (hr : rowsV 2 3 4 σ r) (hwf : wfR r) (hk : k < 8) (hi : i < r.2.1 k) (hl : ¬ (r.1 k).toInt < 0) : CallS mX4_store (d + 1) [.ref 1, .int (nI k), .int (nI i), .int v] σ (am_det (some (.int (low (r.1 k) v))) (am_s1 σ 4 (upd (σ 4) (40 * k + i) (low (r.1 k) v)))) := by
  refine CallS.of kX4_store pX4_store [.ref 1, .int (nI k), .int (nI i), .int v, .retAddr 0] rfl (Nat.le_of_ble_eq_true rfl) ?_
  have h1 := (hwf k hk).2
  refine GS.run [] 3 rfl ?_
  refine GS.cS oX11_at ((c_at d σ 2 8 (nI k) rfl).eq (congrArg (fun z => some (Value.int z)) (v_lane hr hk)) rfl) rfl rfl rfl rfl (Nat.le_of_ble_eq_true rfl) (by omega) ?_
  refine GS.run [] 1 rfl ?_
  refine GS.cS oX4_lowestBits (c_low d σ (r.1 k) v ((hwf k hk).1.resolve_left (fun z => hl (by rw [z]; decide)))) rfl rfl rfl rfl (Nat.le_of_ble_eq_true rfl) (by omega) ?_
  refine GS.run [] 9 rfl ?_
  refine GS.cS oX11_put ((c_put d σ 4 320 (nI k * 40 + nI i) (low (r.1 k) v) rfl).eq rfl (by rw [he_it, am_put_nI (by omega) (by omega)])) rfl rfl rfl rfl (Nat.le_of_ble_eq_true rfl) (by omega) ?_
  refine GS.run [] 1 rfl ?_
  refine GS.iret rfl rfl (rfl) ?_
  exact ⟨rfl, rfl⟩
theorem c_take (d : Nat) (σ : am_S) (r : Rw) (k : Nat) (hr : rowsV 2 3 4 σ r) (hwf : wfR r) (hk : k < 8) : CallS mX4_takeAway (d + 1) [.ref 1, .int (nI k)] σ (am_det (some (.int (nI (r.2.1 k)))) (am_s1 σ 2 (upd (σ 2) k (-1)))) := by
  refine CallS.of kX4_takeAway pX4_takeAway [.ref 1, .int (nI k)] rfl (Nat.le_of_ble_eq_true rfl) ?_
  refine GS.run [] 4 rfl ?_
  refine GS.cS oX11_put ((c_put d σ 2 8 (nI k) (-1) rfl).eq rfl (by rw [am_put_nI hk (by omega)])) rfl rfl rfl rfl (Nat.le_of_ble_eq_true rfl) (by omega) ?_
  refine GS.run [] 3 rfl ?_
  refine GS.cS oX11_at ((c_at d (am_s1 σ 2 (upd (σ 2) k (-1))) 3 8 (nI k) rfl).eq (congrArg (fun z => some (Value.int z)) (show am_get ((am_s1 σ 2 (upd (σ 2) k (-1))) 3) 8 (nI k) = nI (r.2.1 k) from v_size (σ := σ) hr hk)) rfl) rfl rfl rfl rfl (Nat.le_of_ble_eq_true rfl) (by omega) ?_
  refine GS.iret rfl rfl (rfl) ?_
  exact ⟨rfl, rfl⟩
theorem c_item0 (d : Nat) (σ : am_S) (k i : Nat) (h : 40 * k + i < 320) : CallS mX4_item (d + 1) [.ref 1, .int (nI k), .int (nI i)] σ (am_det (some (.int (σ 4 (40 * k + i)))) σ) := by
  refine CallS.of kX4_item pX4_item [.ref 1, .int (nI k), .int (nI i)] rfl (Nat.le_of_ble_eq_true rfl) ?_
  refine GS.run [] 7 rfl ?_
  refine GS.cS oX11_at ((c_at d σ 4 320 (nI k * 40 + nI i) rfl).eq (congrArg (fun z => some (Value.int z)) (show am_get (σ 4) 320 (nI k * 40 + nI i) = σ 4 (40 * k + i) by rw [he_it, am_get_nI h (by omega)])) rfl) rfl rfl rfl rfl (Nat.le_of_ble_eq_true rfl) (by omega) ?_
  refine GS.iret rfl rfl (rfl) ?_
  exact ⟨rfl, rfl⟩
theorem c_move (d : Nat) (σ : am_S) (a b i j n : Nat) (ha : a < 8) (hb : b < 8) (hi : i + n ≤ 40) (hj : j + n ≤ 40) : CallS mX4_move (d + 2) [.ref 1, .int (nI a), .int (nI i), .int (nI b), .int (nI j), .int (nI n)] σ (am_det none (am_s1 σ 4 (mvF true (σ 4) (40 * a + i) (40 * b + j) n n))) := by
  refine CallS.of kX4_move pX4_move [.ref 1, .int (nI a), .int (nI i), .int (nI b), .int (nI j), .int (nI n), .retAddr 0, .retAddr 0, .retAddr 0] rfl (Nat.le_of_ble_eq_true rfl) ?_
  have join11 : ∀ (up : Bool) (hup : (up = true ↔ j ≤ i)), GS none mX4_move (d + 2) (am_det none (am_s1 σ 4 (mvF true (σ 4) (40 * a + i) (40 * b + j) n n))) 11 [.ref 1, .int (nI a), .int (nI i), .int (nI b), .int (nI j), .int (nI n), .retAddr 0, .retAddr 0, .retAddr 0] [.int (bI (!up))] σ := by
    intro up hup
    rcases up with _ | _
    · have hji : ¬ j ≤ i := fun z => by cases hup.mpr z
      have hd : 40 * a + i ≤ 40 * b + j ∨ 40 * b + j + n ≤ 40 * a + i := by rcases Nat.lt_trichotomy a b with h | h | h <;> omega
      refine GS.run [] 3 rfl ?_
      have loop16 : ∀ (fu : Nat) (s : Nat) (hs : s ≤ n), n - s = fu → GS none mX4_move (d + 2) (am_det none (am_s1 σ 4 (mvF true (σ 4) (40 * a + i) (40 * b + j) n n))) 16 [.ref 1, .int (nI a), .int (nI i), .int (nI b), .int (nI j), .int (nI n), .int (bI (!false)), .int (nI s), .retAddr 0] [] (am_s1 σ 4 (mvF false (σ 4) (40 * a + i) (40 * b + j) n s)) := by
        intro fu
        induction fu using Nat.strongRecOn with
        | ind fu ih16 =>
          intro s hs hfu
          refine GS.run [] 2 rfl ?_
          refine GS.icmp_ge rfl (fun c20 => ?_) (fun c20 => ?_)
          · have e : n = s := by have := (nI_leI (by omega) (by omega)).mp c20; omega
            refine GS.vret rfl rfl ?_
            subst e
            exact ⟨rfl, by rw [mvF_n]⟩
          · have hlt : s < n := (nI_gtI (by omega) (by omega)).mp c20
            refine GS.run [] 2 rfl ?_
            refine GS.icmp_ge rfl (fun q => absurd q (fun z => absurd ((nI_leI (a := 40) (by omega) (by omega)).mp z) (by omega))) (fun c27 => ?_)
            refine GS.run [] 1 rfl ?_
            refine GS.if_eq rfl (fun q => absurd q (by decide)) (fun c32 => ?_)
            refine GS.run [] 21 rfl ?_
            rw [show nI n - 1 - nI s = nI (mvK false n s) by rw [il_1, pk_sub (by omega), pk_sub (by omega)]; rfl]
            rw [nI_add i (mvK false n s)]
            refine GS.cV oX4_item (c_item0 d (am_s1 σ 4 (mvF false (σ 4) (40 * a + i) (40 * b + j) n s)) a (i + mvK false n s) (by simp only [mvK]; omega)) rfl rfl rfl rfl rfl rfl rfl (Nat.le_of_ble_eq_true rfl) (by omega) ?_
            rw [show nI b * 40 + nI j + nI (mvK false n s) = nI (40 * b + j + mvK false n s) by rw [he_it, nI_add] <;> rfl]
            refine GS.cS oX11_put ((c_put (d + 1) (am_s1 σ 4 (mvF false (σ 4) (40 * a + i) (40 * b + j) n s)) 4 320 (nI (40 * b + j + mvK false n s)) (mvF false (σ 4) (40 * a + i) (40 * b + j) n s (40 * a + (i + mvK false n s))) rfl).eq rfl (show _ = (am_s1 σ 4 (mvF false (σ 4) (40 * a + i) (40 * b + j) n (s + 1))) by rw [am_put_nI (by simp only [mvK]; omega) (by omega), am_s1_eq, am_s1_s1, show 40 * a + (i + mvK false n s) = 40 * a + i + mvK false n s by omega, mvF_s hlt (fun z => by cases z) (fun _ => hd)])) rfl rfl rfl rfl (Nat.le_of_ble_eq_true rfl) (by omega) ?_
            refine GS.run [] 2 rfl ?_
            rw [nI_1]
            exact GS.weak (by exact ⟨Or.inr rfl, Or.inr rfl, Or.inr rfl, Or.inr rfl, Or.inr rfl, Or.inr rfl, Or.inr rfl, Or.inr rfl, Or.inl rfl, trivial⟩) (ih16 _ (by omega) (s + 1) (by omega) rfl)
      have e0 := loop16 _ 0 (Nat.zero_le _) rfl
      rw [mvF_0, am_s1_self] at e0
      exact e0
    · have hji : j ≤ i := hup.mp rfl
      have hd : 40 * b + j ≤ 40 * a + i ∨ 40 * a + i + n ≤ 40 * b + j := by rcases Nat.lt_trichotomy a b with h | h | h <;> omega
      refine GS.run [] 3 rfl ?_
      have loop16 : ∀ (fu : Nat) (s : Nat) (hs : s ≤ n), n - s = fu → GS none mX4_move (d + 2) (am_det none (am_s1 σ 4 (mvF true (σ 4) (40 * a + i) (40 * b + j) n n))) 16 [.ref 1, .int (nI a), .int (nI i), .int (nI b), .int (nI j), .int (nI n), .int (bI (!true)), .int (nI s), .retAddr 0] [] (am_s1 σ 4 (mvF true (σ 4) (40 * a + i) (40 * b + j) n s)) := by
        intro fu
        induction fu using Nat.strongRecOn with
        | ind fu ih16 =>
          intro s hs hfu
          refine GS.run [] 2 rfl ?_
          refine GS.icmp_ge rfl (fun c20 => ?_) (fun c20 => ?_)
          · have e : n = s := by have := (nI_leI (by omega) (by omega)).mp c20; omega
            refine GS.vret rfl rfl ?_
            subst e
            exact ⟨rfl, by rw [mvF_n]⟩
          · have hlt : s < n := (nI_gtI (by omega) (by omega)).mp c20
            refine GS.run [] 2 rfl ?_
            refine GS.icmp_ge rfl (fun q => absurd q (fun z => absurd ((nI_leI (a := 40) (by omega) (by omega)).mp z) (by omega))) (fun c27 => ?_)
            refine GS.run [] 1 rfl ?_
            refine GS.if_eq rfl (fun c32 => ?_) (fun q => absurd (rfl) q)
            refine GS.run [] 16 rfl ?_
            rw [show nI i + nI s = nI (i + mvK true n s) from nI_add _ _]
            refine GS.cV oX4_item (c_item0 d (am_s1 σ 4 (mvF true (σ 4) (40 * a + i) (40 * b + j) n s)) a (i + mvK true n s) (by simp only [mvK]; omega)) rfl rfl rfl rfl rfl rfl rfl (Nat.le_of_ble_eq_true rfl) (by omega) ?_
            rw [show nI b * 40 + nI j + nI s = nI (40 * b + j + mvK true n s) by rw [he_it, nI_add] <;> rfl]
            refine GS.cS oX11_put ((c_put (d + 1) (am_s1 σ 4 (mvF true (σ 4) (40 * a + i) (40 * b + j) n s)) 4 320 (nI (40 * b + j + mvK true n s)) (mvF true (σ 4) (40 * a + i) (40 * b + j) n s (40 * a + (i + mvK true n s))) rfl).eq rfl (show _ = (am_s1 σ 4 (mvF true (σ 4) (40 * a + i) (40 * b + j) n (s + 1))) by rw [am_put_nI (by simp only [mvK]; omega) (by omega), am_s1_eq, am_s1_s1, show 40 * a + (i + mvK true n s) = 40 * a + i + mvK true n s by omega, mvF_s hlt (fun _ => hd) (fun z => by cases z)])) rfl rfl rfl rfl (Nat.le_of_ble_eq_true rfl) (by omega) ?_
            refine GS.run [] 2 rfl ?_
            rw [nI_1]
            exact GS.weak (by exact ⟨Or.inr rfl, Or.inr rfl, Or.inr rfl, Or.inr rfl, Or.inr rfl, Or.inr rfl, Or.inr rfl, Or.inr rfl, Or.inl rfl, trivial⟩) (ih16 _ (by omega) (s + 1) (by omega) rfl)
      have e0 := loop16 _ 0 (Nat.zero_le _) rfl
      rw [mvF_0, am_s1_self] at e0
      exact e0
  refine GS.run [] 2 rfl ?_
  refine GS.icmp_ge rfl (fun c3 => ?_) (fun c3 => ?_)
  · refine GS.run [] 1 rfl ?_
    exact join11 true ⟨fun _ => (nI_leI (by omega) (by omega)).mp c3, fun _ => rfl⟩
  · refine GS.run [] 2 rfl ?_
    exact join11 false ⟨fun z => (by cases z), fun z => absurd ((nI_leI (by omega) (by omega)).mpr z) c3⟩
