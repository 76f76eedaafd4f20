def bet (up : Bool) (a b : Nat) : Bool := match up with
  | true => decide (a < b)
  | false => decide (b < a)
/-- best height and street behind j streets -/
def slF (t : Tn) (c : Nat) (up : Bool) : Nat → Nat × Option Nat
  | 0 => (tH t c, none)
  | j + 1 => if bet up (slF t c up j).1 (tH t (tB t c j)) = true then (tH t (tB t c j), some j) else if tH t (tB t c j) = (slF t c up j).1 then ((slF t c up j).1, none) else slF t c up j
def slope (t : Tn) (c : Nat) (up : Bool) : Option Nat := (slF t c up (tD t c)).2
def mkF (t : Tn) (c m : Nat) : Nat → Nat × Nat
  | 0 => (0, 0)
  | j + 1 => if tM t (tB t c j) = m then (j, (mkF t c m j).2 + 1) else mkF t c m j
def markedK (t : Tn) (c m : Nat) : Option Nat := if (mkF t c m (tD t c)).2 = 1 then some (mkF t c m (tD t c)).1 else none
theorem slF_lt {t : Tn} {c : Nat} {up : Bool} : ∀ {j k : Nat}, (slF t c up j).2 = some k → k < j
  | 0, k, h => by cases h
  | j + 1, k, h => by
    unfold slF at h
    generalize hq : (slF t c up j) = q at h
    split at h
    · cases h; omega
    · split at h
      · cases h
      · have := slF_lt (j := j) (k := k) (by rw [hq]; exact h); omega
theorem slope_lt {t : Tn} {c : Nat} {up : Bool} {k : Nat} (h : slope t c up = some k) : k < tD t c := slF_lt h
theorem mkF_lt {t : Tn} {c m : Nat} : ∀ {j : Nat}, 0 < (mkF t c m j).2 → (mkF t c m j).1 < j
  | 0, h => by cases h
  | j + 1, h => by
    unfold mkF at h ⊢
    split
    · exact Nat.lt_succ_self j
    · rename_i hn
      rw [if_neg hn] at h
      have := mkF_lt (j := j) h; omega
theorem mkF_le {t : Tn} {c m : Nat} : ∀ {j : Nat}, (mkF t c m j).2 ≤ j
  | 0 => Nat.le_refl 0
  | j + 1 => by
    unfold mkF
    split
    · exact Nat.succ_le_succ (mkF_le (j := j))
    · exact Nat.le_succ_of_le (mkF_le (j := j))
theorem markedK_lt {t : Tn} {c m k : Nat} (h : markedK t c m = some k) : k < tD t c := by
  unfold markedK at h
  split at h
  · rename_i h1
    cases h
    exact mkF_lt (by omega)
  · cases h
theorem slF_h {t : Tn} {c : Nat} {up : Bool} (hw : wfT t) (hc : c < tN t) : ∀ {j : Nat}, j ≤ tD t c → (slF t c up j).1 ≤ 99
  | 0, _ => (hw.2.2 c hc).1
  | j + 1, h => by
    unfold slF
    have h1 := ((hw.2.2 c hc).2.2.2.2.1 j (by omega)).1
    have h2 := (hw.2.2 _ h1).1
    have ih := slF_h (up := up) hw hc (j := j) (by omega)
    generalize (slF t c up j) = q at ih ⊢
    split
    · exact h2
    · split
      · exact ih
      · exact ih
/-- a street's corner as the class tells it -/
def stG (t : Tn) (c : Nat) (o : Option Nat) : Int32 := match o with
  | none => -1000000
  | some k => nI (tB t c k)
section VT
variable {σ : am_S} {t : Tn}
theorem v_get {f : Nat → Int32} {n k : Nat} {v : Int32} (h : k < n) (hn : n < 2 ^ 31) (hv : f k = v) : am_get f n (nI k) = v := (am_get_nI h hn).trans hv
theorem v_order {c i : Nat} (h : townC 10 σ t) (hw : wfT t) (hc : c < tN t) (hi : i < tD t c) : am_get (σ 15) 48 (nI c * 6 + nI i) = nI (tB t c i) := by
  have h1 := (hw.2.2 c hc).2.2.2.1
  have h2 := hw.1
  rw [il_6, pk_mul, nI_add]
  refine v_get (by omega) (by omega) ?_
  rw [(h.2.2 c hc).2.2.2.2.1 i (by omega), if_pos hi]
theorem v_nbr {c i : Nat} (h : townC 10 σ t) (hw : wfT t) (hc : c < tN t) (hi0 : i < 1000) : am_nb (σ 15) (nI c) (nI i) = if i < tD t c then nI (tB t c i) else -1000000 := by
  have h1 := (hw.2.2 c hc).2.2.2.1
  have h2 := hw.1
  unfold am_nb
  by_cases hi : i < 6
  · rw [nI_toInt (by omega), if_pos ⟨by omega, by omega⟩, il_6, pk_mul, nI_add]
    refine v_get (by omega) (by omega) ?_
    exact (h.2.2 c hc).2.2.2.2.1 i hi
  · rw [if_neg (by omega : ¬ i < tD t c), if_neg]
    intro hz
    rw [nI_toInt (by omega)] at hz; omega
theorem v_dg {c : Nat} (h : townC 10 σ t) (hw : wfT t) (hc : c < tN t) : am_get (σ 14) 8 (nI c) = nI (tD t c) := v_get (Nat.lt_of_lt_of_le hc hw.1) (by omega) (h.2.2 c hc).2.2.2.1
theorem v_ht {c : Nat} (h : townC 10 σ t) (hw : wfT t) (hc : c < tN t) : am_get (σ 11) 8 (nI c) = nI (tH t c) := v_get (Nat.lt_of_lt_of_le hc hw.1) (by omega) (h.2.2 c hc).1
theorem v_mk {c : Nat} (h : townC 10 σ t) (hw : wfT t) (hc : c < tN t) : am_get (σ 12) 8 (nI c) = nI (tM t c) := v_get (Nat.lt_of_lt_of_le hc hw.1) (by omega) (h.2.2 c hc).2.1
theorem v_wl {c : Nat} (h : townC 10 σ t) (hw : wfT t) (hc : c < tN t) : am_get (σ 13) 8 (nI c) = nI (tW t c) := v_get (Nat.lt_of_lt_of_le hc hw.1) (by omega) (h.2.2 c hc).2.2.1
theorem v_place {c i : Nat} (h : townC 10 σ t) (hw : wfT t) (hc : c < tN t) (hi : i < tD t c) : am_get (σ 16) 64 (nI c * 8 + nI (tB t c i)) = nI i := by
  have h2 := hw.1
  have h3 := ((hw.2.2 c hc).2.2.2.2.1 i hi).1
  rw [il_8, pk_mul, nI_add]
  exact v_get (by omega) (by omega) ((h.2.2 c hc).2.2.2.2.2.1 i hi)
theorem v_place0 {c b : Nat} (h : townC 10 σ t) (hw : wfT t) (hc : c < tN t) (hb : b < 8) (hn : ∀ i, i < tD t c → tB t c i ≠ b) : am_get (σ 16) 64 (nI c * 8 + nI b) = -1000000 := by
  have h2 := hw.1
  rw [il_8, pk_mul, nI_add]
  exact v_get (by omega) (by omega) ((h.2.2 c hc).2.2.2.2.2.2 b hb hn)
theorem v_placeN {c : Nat} (h : townC 10 σ t) (hw : wfT t) (hc : c < tN t) : am_get (σ 16) 64 (nI c * 8 + -1000000) = -1000000 := by
  have h2 := hw.1
  apply am_get_out
  left
  rw [il_8, pk_mul, zI_n, show (-1000000 : Int32) = zI (-1000000) from rfl, zI_add, zI_t (by omega) (by omega)]
  omega
/-- round from a street -/
theorem v_rf {c i : Nat} {s : Int} (h : townC 10 σ t) (hw : wfT t) (hc : c < tN t) (hi : i < tD t c) (h1 : -10 ≤ s) (h2 : s ≤ 10) : am_rf (σ 14) (σ 16) (σ 15) (nI c) (nI (tB t c i)) (zI s) = nI (tB t c ((((i : Int) + s) % (tD t c : Int)).toNat)) := by
  have h6 := (hw.2.2 c hc).2.2.2.1
  have h8 := hw.1
  unfold am_rf
  rw [v_place h hw hc hi, v_dg h hw hc, if_neg]
  · have e : ((i : Int) + s) % (tD t c : Int) < (tD t c : Int) := Int.emod_lt_of_pos _ (by omega)
    have e2 : 0 ≤ ((i : Int) + s) % (tD t c : Int) := Int.emod_nonneg _ (by omega)
    rw [zI_n i, zI_add, am_fm_z (by omega) (by omega) (by omega) (by omega)]
    exact v_order h hw hc (by omega)
  · rintro (h | h)
    · exact nI_ne_none (by omega) h
    · have := (nI_ltI (by omega) (by omega)).mp (show nI (tD t c) < nI 1 from h)
      omega
theorem v_rfN {c : Nat} {s : Int32} (h : townC 10 σ t) (hw : wfT t) (hc : c < tN t) : am_rf (σ 14) (σ 16) (σ 15) (nI c) (-1000000) s = -1000000 := by
  unfold am_rf
  rw [v_placeN h hw hc, if_pos (Or.inl rfl)]
theorem stG_le {c : Nat} {o : Option Nat} : stG t c o = -1000000 ∨ ∃ k, o = some k ∧ stG t c o = nI (tB t c k) := by
  cases o with
  | none => exact Or.inl rfl
  | some k => exact Or.inr ⟨k, rfl, rfl⟩
end VT
def way (up : Bool) : Int := match up with
  | true => 1
  | false => -1
theorem way_c {up : Bool} : way up = 1 ∨ way up = -1 := by cases up <;> simp [way]
theorem way_mul {up : Bool} {a : Nat} (h : a ≤ 99) : -2147483648 ≤ way up * (a : Int) ∧ way up * (a : Int) < 2147483648 := by
  rcases way_c (up := up) with h1 | h1 <;> rw [h1] <;> omega
theorem way_le {up : Bool} {a b : Nat} (ha : a ≤ 99) (hb : b ≤ 99) : zI (way up) * nI a ≤ zI (way up) * nI b ↔ ¬ bet up b a = true := by
  rw [zI_n, zI_n, zI_mul, zI_mul, zI_leI (way_mul ha).1 (way_mul ha).2 (way_mul hb).1 (way_mul hb).2]
  cases up <;> simp [way, bet] <;> omega
theorem way_eq {up : Bool} {a b : Nat} (ha : a ≤ 99) (hb : b ≤ 99) : zI (way up) * nI a = zI (way up) * nI b ↔ a = b := by
  rw [zI_n, zI_n, zI_mul, zI_mul, zI_eqI (way_mul ha).1 (way_mul ha).2 (way_mul hb).1 (way_mul hb).2]
  cases up <;> simp [way] <;> omega

