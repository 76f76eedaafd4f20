theorem c_at (d : Nat) (σ : am_S) (k len : Nat) (i : Int32) (hs : am_sh k = some (.inl (0, len))) : CallS mX11_at (d) [.ref k, .int i] σ (am_det (some (.int (am_get (σ k) len i))) σ) := by
  refine CallS.of kX11_at pX11_at [.ref k, .int i] rfl (Nat.le_of_ble_eq_true rfl) ?_
  refine GS.run [] 1 rfl ?_
  refine GS.if_lt rfl (fun c1 => ?_) (fun c1 => ?_)
  · refine GS.run [] 1 rfl ?_
    refine GS.iret rfl rfl (rfl) ?_
    have h1 := am_shl hs
    refine ⟨?_, rfl⟩
    first
      | (rw [am_get_out (Or.inl (by rw [tI_lt, tI_0] at c1; exact c1))])
      | (rw [am_get_out (Or.inr (by rw [tI_le, tI_n (by omega)] at c7; exact c7))])
      | (unfold am_get; rw [if_pos (by rw [tI_lt, tI_0] at c1; rw [tI_le, tI_n (by omega)] at c7; omega)])
  · refine GS.run [] 2 rfl ?_
    refine GS.alen rfl hs ?_
    refine GS.icmp_ge rfl (fun c7 => ?_) (fun c7 => ?_)
    · refine GS.run [] 1 rfl ?_
      refine GS.iret rfl rfl (rfl) ?_
      have h1 := am_shl hs
      refine ⟨?_, rfl⟩
      first
        | (rw [am_get_out (Or.inl (by rw [tI_lt, tI_0] at c1; exact c1))])
        | (rw [am_get_out (Or.inr (by rw [tI_le, tI_n (by omega)] at c7; exact c7))])
        | (unfold am_get; rw [if_pos (by rw [tI_lt, tI_0] at c1; rw [tI_le, tI_n (by omega)] at c7; omega)])
    · refine GS.run [] 2 rfl ?_
      refine GS.iaload rfl hs (by rw [am_in]; have h1 := am_shl hs; rw [tI_lt, tI_0] at c1; rw [tI_le, tI_n (by omega)] at c7; omega) ?_
      refine GS.run [] 1 rfl ?_
      refine GS.iret rfl rfl (rfl) ?_
      have h1 := am_shl hs
      refine ⟨?_, rfl⟩
      first
        | (rw [am_get_out (Or.inl (by rw [tI_lt, tI_0] at c1; exact c1))])
        | (rw [am_get_out (Or.inr (by rw [tI_le, tI_n (by omega)] at c7; exact c7))])
        | (unfold am_get; rw [if_pos (by rw [tI_lt, tI_0] at c1; rw [tI_le, tI_n (by omega)] at c7; omega)])
def am_put (f : Nat → Int32) (n : Nat) (i v : Int32) : Nat → Int32 := if 0 ≤ i.toInt ∧ i.toInt < n then upd f i.toNatClampNeg v else f
theorem am_put_nI {f : Nat → Int32} {n k : Nat} {v : Int32} (h : k < n) (hn : n < 2 ^ 31) : am_put f n (nI k) v = upd f k v := by
  unfold am_put
  rw [nI_toInt (by omega), if_pos ⟨by omega, by omega⟩, nI_clamp (by omega)]
theorem am_put_out {f : Nat → Int32} {n : Nat} {i v : Int32} (h : i.toInt < 0 ∨ (n : Int) ≤ i.toInt) : am_put f n i v = f := by
  unfold am_put
  rw [if_neg (by omega)]
theorem am_s1_self (σ : am_S) (q : Nat) : am_s1 σ q (σ q) = σ := by
  funext a
  unfold am_s1
  split
  · rename_i h; rw [h]
  · rfl
theorem am_s1_s1 (σ : am_S) (q : Nat) (f g : Nat → Int32) : am_s1 (am_s1 σ q f) q g = am_s1 σ q g := by
  funext a
  unfold am_s1
  split <;> rfl
theorem c_put (d : Nat) (σ : am_S) (k len : Nat) (i v : Int32) (hs : am_sh k = some (.inl (0, len))) : CallS mX11_put (d) [.ref k, .int i, .int v] σ (am_det none (am_s1 σ k (am_put (σ k) len i v))) := by
  refine CallS.of kX11_put pX11_put [.ref k, .int i, .int v] rfl (Nat.le_of_ble_eq_true rfl) ?_
  refine GS.run [] 1 rfl ?_
  refine GS.if_lt rfl (fun c1 => ?_) (fun c1 => ?_)
  · refine GS.vret rfl rfl ?_
    have h1 := am_shl hs
    refine ⟨rfl, ?_⟩
    first
      | (rw [am_put_out (Or.inl (by rw [tI_lt, tI_0] at c1; exact c1)), am_s1_self])
      | (rw [am_put_out (Or.inr (by rw [tI_le, tI_n (by omega)] at c7; exact c7)), am_s1_self])
      | (unfold am_put; rw [if_pos (by rw [tI_lt, tI_0] at c1; rw [tI_le, tI_n (by omega)] at c7; omega)])
  · refine GS.run [] 2 rfl ?_
    refine GS.alen rfl hs ?_
    refine GS.icmp_ge rfl (fun c7 => ?_) (fun c7 => ?_)
    · refine GS.vret rfl rfl ?_
      have h1 := am_shl hs
      refine ⟨rfl, ?_⟩
      first
        | (rw [am_put_out (Or.inl (by rw [tI_lt, tI_0] at c1; exact c1)), am_s1_self])
        | (rw [am_put_out (Or.inr (by rw [tI_le, tI_n (by omega)] at c7; exact c7)), am_s1_self])
        | (unfold am_put; rw [if_pos (by rw [tI_lt, tI_0] at c1; rw [tI_le, tI_n (by omega)] at c7; omega)])
    · refine GS.run [] 3 rfl ?_
      refine GS.iastore rfl hs (by rw [am_in]; have h1 := am_shl hs; rw [tI_lt, tI_0] at c1; rw [tI_le, tI_n (by omega)] at c7; omega) ?_
      refine GS.vret rfl rfl ?_
      have h1 := am_shl hs
      refine ⟨rfl, ?_⟩
      first
        | (rw [am_put_out (Or.inl (by rw [tI_lt, tI_0] at c1; exact c1)), am_s1_self])
        | (rw [am_put_out (Or.inr (by rw [tI_le, tI_n (by omega)] at c7; exact c7)), am_s1_self])
        | (unfold am_put; rw [if_pos (by rw [tI_lt, tI_0] at c1; rw [tI_le, tI_n (by omega)] at c7; omega)])
def am_fill (f : Nat → Int32) (j : Nat) (v : Int32) : Nat → Int32 := fun i => if i < j then v else f i
theorem am_fill_0 (f : Nat → Int32) (v : Int32) : am_fill f 0 v = f := by funext i; unfold am_fill; rw [if_neg (by omega)]
theorem am_fill_s (f : Nat → Int32) (j : Nat) (v : Int32) : upd (am_fill f j v) j v = am_fill f (j + 1) v := by
  funext i
  unfold upd am_fill
  by_cases h : i = j
  · rw [if_pos h, if_pos (by omega)]
  · rw [if_neg h]
    by_cases h2 : i < j
    · rw [if_pos h2, if_pos (by omega)]
    · rw [if_neg h2, if_neg (by omega)]
theorem c_fill (d : Nat) (σ : am_S) (k len : Nat) (v : Int32) (hs : am_sh k = some (.inl (0, len))) : CallS mX11_fill (d) [.ref k, .int v] σ (am_det none (am_s1 σ k (am_fill (σ k) len v))) := by
  refine CallS.of kX11_fill pX11_fill [.ref k, .int v, .retAddr 0] rfl (Nat.le_of_ble_eq_true rfl) ?_
  refine GS.run [] 2 rfl ?_
  have loop2 : ∀ (fu : Nat) (j : Nat) (hj : j ≤ len), len - j = fu → GS none mX11_fill (d) (am_det none (am_s1 σ k (am_fill (σ k) len v))) 2 [.ref k, .int v, .int (nI j)] [] (am_s1 σ k (am_fill (σ k) j v)) := by
    intro fu
    induction fu using Nat.strongRecOn with
    | ind fu ih2 =>
      intro j hj hfu
      have h1 := am_shl hs
      refine GS.run [] 2 rfl ?_
      refine GS.alen rfl hs ?_
      refine GS.icmp_ge rfl (fun c5 => ?_) (fun c5 => ?_)
      · have e : len = j := by have := (nI_leI (by omega) (by omega)).mp c5; omega
        refine GS.vret rfl rfl ?_
        subst e
        exact ⟨rfl, rfl⟩
      · have hlt : j < len := (nI_gtI (by omega) (by omega)).mp c5
        refine GS.run [] 3 rfl ?_
        refine GS.ast (j) rfl hs (by rfl) (hlt) ?_
        refine GS.run [] 2 rfl ?_
        rw [nI_1, am_s1_eq, am_s1_s1, am_fill_s]
        exact ih2 _ (by omega) (j + 1) (by omega) rfl
  have e0 := loop2 _ 0 (Nat.zero_le _) rfl
  rw [am_fill_0, am_s1_self] at e0
  exact e0
def am_cop (f g : Nat → Int32) (j : Nat) : Nat → Int32 := fun i => if i < j then g i else f i
theorem am_cop_0 (f g : Nat → Int32) : am_cop f g 0 = f := by funext i; unfold am_cop; rw [if_neg (by omega)]
theorem am_cop_s (f g : Nat → Int32) (j : Nat) : upd (am_cop f g j) j (g j) = am_cop f g (j + 1) := by
  funext i
  unfold upd am_cop
  by_cases h : i = j
  · rw [if_pos h, if_pos (by omega), h]
  · rw [if_neg h]
    by_cases h2 : i < j
    · rw [if_pos h2, if_pos (by omega)]
    · rw [if_neg h2, if_neg (by omega)]
theorem c_putAll (d : Nat) (σ : am_S) (k k2 len : Nat) (hs : am_sh k = some (.inl (0, len))) (hs2 : am_sh k2 = some (.inl (0, len))) (hne : k2 ≠ k) : CallS mX11_putAll (d) [.ref k, .ref k2] σ (am_det none (am_s1 σ k (am_cop (σ k) (σ k2) len))) := by
  refine CallS.of kX11_putAll pX11_putAll [.ref k, .ref k2, .retAddr 0] rfl (Nat.le_of_ble_eq_true rfl) ?_
  refine GS.run [] 2 rfl ?_
  have loop2 : ∀ (fu : Nat) (j : Nat) (hj : j ≤ len), len - j = fu → GS none mX11_putAll (d) (am_det none (am_s1 σ k (am_cop (σ k) (σ k2) len))) 2 [.ref k, .ref k2, .int (nI j)] [] (am_s1 σ k (am_cop (σ k) (σ k2) j)) := by
    intro fu
    induction fu using Nat.strongRecOn with
    | ind fu ih2 =>
      intro j hj hfu
      have h1 := am_shl hs
      refine GS.run [] 2 rfl ?_
      refine GS.alen rfl hs ?_
      refine GS.icmp_ge rfl (fun c5 => ?_) (fun c5 => ?_)
      · have e : len = j := by have := (nI_leI (by omega) (by omega)).mp c5; omega
        refine GS.vret rfl rfl ?_
        subst e
        exact ⟨rfl, rfl⟩
      · have hlt : j < len := (nI_gtI (by omega) (by omega)).mp c5
        refine GS.run [] 2 rfl ?_
        refine GS.alen rfl hs2 ?_
        refine GS.icmp_ge rfl (fun c11 => ?_) (fun c11 => ?_)
        · exact absurd ((nI_leI (by omega) (by omega)).mp c11) (by omega) -- end
        · refine GS.run [] 4 rfl ?_
          refine GS.ald (j) rfl hs2 (by rfl) (hlt) ?_
          refine GS.ast (j) rfl hs (by rfl) (hlt) ?_
          refine GS.run [] 2 rfl ?_
          rw [nI_1, am_s1_eq, am_s1_s1, am_s1_ne _ _ hne, am_cop_s]
          exact ih2 _ (by omega) (j + 1) (by omega) rfl
  have e0 := loop2 _ 0 (Nat.zero_le _) rfl
  rw [am_cop_0, am_s1_self] at e0
  exact e0
theorem c_within (d : Nat) (σ : am_S) (v m : Int32) : CallS mX11_within (d) [.int v, .int m] σ (am_det (some (.int (am_b (0 ≤ v.toInt ∧ v.toInt < m.toInt)))) σ) := by
  refine CallS.of kX11_within pX11_within [.int v, .int m] rfl (Nat.le_of_ble_eq_true rfl) ?_
  refine GS.run [] 1 rfl ?_
  refine GS.if_lt rfl (fun c1 => ?_) (fun c1 => ?_)
  · refine GS.run [] 1 rfl ?_
    refine GS.iret rfl rfl (rfl) ?_
    refine ⟨?_, rfl⟩
    unfold am_b
    first
      | (rw [if_pos (by rw [tI_lt, tI_0] at c1; rw [tI_le] at c6; omega)])
      | (rw [if_neg (by rw [tI_lt, tI_0] at c1; omega)])
      | (rw [if_neg (by rw [tI_le] at c6; omega)])
  · refine GS.run [] 2 rfl ?_
    refine GS.icmp_ge rfl (fun c6 => ?_) (fun c6 => ?_)
    · refine GS.run [] 1 rfl ?_
      refine GS.iret rfl rfl (rfl) ?_
      refine ⟨?_, rfl⟩
      unfold am_b
      first
        | (rw [if_pos (by rw [tI_lt, tI_0] at c1; rw [tI_le] at c6; omega)])
        | (rw [if_neg (by rw [tI_lt, tI_0] at c1; omega)])
        | (rw [if_neg (by rw [tI_le] at c6; omega)])
    · refine GS.run [] 2 rfl ?_
      refine GS.iret rfl rfl (rfl) ?_
      refine ⟨?_, rfl⟩
      unfold am_b
      first
        | (rw [if_pos (by rw [tI_lt, tI_0] at c1; rw [tI_le] at c6; omega)])
        | (rw [if_neg (by rw [tI_lt, tI_0] at c1; omega)])
        | (rw [if_neg (by rw [tI_le] at c6; omega)])
theorem c_withinN (d : Nat) (σ : am_S) (v : Int32) (m : Nat) (hm : m < 2 ^ 31) : CallS mX11_within d [.int v, .int (nI m)] σ (am_det (some (.int (am_b (0 ≤ v.toInt ∧ v.toInt < (m : Int))))) σ) := by
  have h := c_within d σ v (nI m)
  rw [nI_toInt hm] at h
  exact h
theorem c_bit (d : Nat) (σ : am_S) (v : Int32) : CallS mX11_bit (d) [.int v] σ (am_det (some (.int (am_b (v = 0 ∨ v = 1)))) σ) := by
  refine CallS.of kX11_bit pX11_bit [.int v] rfl (Nat.le_of_ble_eq_true rfl) ?_
  refine GS.run [] 1 rfl ?_
  refine GS.if_eq rfl (fun c1 => ?_) (fun c1 => ?_)
  · refine GS.run [] 2 rfl ?_
    refine GS.iret rfl rfl (rfl) ?_
    refine ⟨?_, rfl⟩
    unfold am_b
    first
      | (rw [if_pos (Or.inl c1)])
      | (rw [if_pos (Or.inr c6)])
      | (rw [if_neg (by rintro (h | h) <;> contradiction)])
  · refine GS.run [] 2 rfl ?_
    refine GS.icmp_ne rfl (fun c6 => ?_) (fun c6 => ?_)
    · refine GS.run [] 1 rfl ?_
      refine GS.iret rfl rfl (rfl) ?_
      refine ⟨?_, rfl⟩
      unfold am_b
      first
        | (rw [if_pos (Or.inl c1)])
        | (rw [if_pos (Or.inr c6)])
        | (rw [if_neg (by rintro (h | h) <;> contradiction)])
    · refine GS.run [] 2 rfl ?_
      refine GS.iret rfl rfl (rfl) ?_
      refine ⟨?_, rfl⟩
      unfold am_b
      first
        | (rw [if_pos (Or.inl c1)])
        | (rw [if_pos (Or.inr c6)])
        | (rw [if_neg (by rintro (h | h) <;> contradiction)])
theorem c_found (d : Nat) (σ : am_S) (v : Int32) : CallS mX11_found (d) [.ref 0, .int v] σ (am_det (some (.int (-1000010 - v))) (am_s1 σ 0 (upd (σ 0) 13 v))) := by
  refine CallS.of kX11_found pX11_found [.ref 0, .int v] rfl (Nat.le_of_ble_eq_true rfl) ?_
  refine GS.run [] 6 rfl ?_
  refine GS.iret rfl rfl (rfl) ?_
  exact ⟨rfl, rfl⟩
theorem c_fine (d : Nat) (σ : am_S) (v : Int32) : CallS mX11_fine (d) [.ref 0, .int v] σ (am_det (some (.int v)) (am_s1 σ 0 (upd (σ 0) 13 0))) := by
  refine CallS.of kX11_fine pX11_fine [.ref 0, .int v] rfl (Nat.le_of_ble_eq_true rfl) ?_
  refine GS.run [] 4 rfl ?_
  refine GS.iret rfl rfl (rfl) ?_
  exact ⟨rfl, rfl⟩
