theorem kd1_iff {b : Nat} : kdB b = 1 ↔ 97 ≤ b ∧ b ≤ 122 := by
  refine ⟨kd_1, fun h => ?_⟩
  unfold kdB
  rw [if_neg (by omega), if_pos h]
theorem kd2_iff {b : Nat} : kdB b = 2 ↔ 48 ≤ b ∧ b ≤ 57 := by
  refine ⟨kd_2, fun h => ?_⟩
  unfold kdB
  rw [if_neg (by omega), if_neg (by omega), if_pos h]
theorem kd5_iff {b : Nat} : kdB b = 5 ↔ b = 32 ∨ b = 10 := by
  unfold kdB
  by_cases h : b = 32 ∨ b = 10
  · rw [if_pos h]; exact ⟨fun _ => h, fun _ => rfl⟩
  · rw [if_neg h]
    refine ⟨fun q => ?_, fun q => absurd q h⟩
    split at q
    · omega
    · split at q
      · omega
      · split at q <;> omega
theorem kd3_iff {b : Nat} : kdB b = 3 ↔ b = 59 := by
  unfold kdB
  by_cases h : b = 59
  · rw [if_neg (by omega), if_neg (by omega), if_neg (by omega), if_pos h]; exact ⟨fun _ => h, fun _ => rfl⟩
  · refine ⟨fun q => ?_, fun q => absurd q h⟩
    split at q
    · omega
    · split at q
      · omega
      · split at q
        · omega
        · omega
def mTk (c : Nat) : Nat := if c = 4 then 0 else c + 1
def btI (p : Tp) (k : Nat) : Int32 := if k < p.1 then nI (p.2 k) else -1000000
def tpM (σ : am_S) (p : Tp) : Prop := σ 69 13 = nI p.1 ∧ ∀ i, i < p.1 → σ 77 i = nI (p.2 i)
/-- the reference looks at the j-th token -/
def pcM (σ : am_S) (p : Tp) (j : Nat) : Prop := tpM σ p ∧ σ 69 14 = nI (cP p (j + 1)) ∧ σ 69 15 = nI (mTk (tkC p j)) ∧ σ 69 16 = nI (tkS p j) ∧ σ 69 17 = nI (cP p (j + 1)) ∧ live p j
def ftM (σ : am_S) (fo : Option (Nat × Nat)) : Prop := match fo with
  | none => σ 69 18 = 0
  | some e => σ 69 18 = nI e.1 ∧ σ 69 19 = nI e.2 ∧ 0 < e.1 ∧ e.1 < 1000
theorem c_byteAt (d : Nat) (σ : am_S) (p : Tp) (hp : wfP p) (ht : tpM σ p) (k : Nat) (hk : k ≤ p.1) : CallS mX12_byteAt (d) [.ref 69, .int (nI k)] σ (am_det (some (.int (btI p k))) σ) := by
  refine CallS.of kX12_byteAt pX12_byteAt [.ref 69, .int (nI k)] rfl (Nat.le_of_ble_eq_true rfl) ?_
  have h400 := hp.1
  refine GS.run [] 3 rfl ?_
  rw [ht.1]
  refine GS.run [] 0 rfl ?_
  refine GS.icmp_ge rfl (fun c5 => ?_) (fun c5 => ?_)
  · have k1 : ¬ k < p.1 := by have := (nI_leI (by omega) (by omega)).mp c5; omega
    refine GS.run [] 1 rfl ?_
    refine GS.iret rfl rfl (rfl) ?_
    unfold btI
    first
      | (rw [if_pos k1]; exact ⟨rfl, rfl⟩)
      | (rw [if_neg k1]; exact ⟨rfl, rfl⟩)
  · have k1 : k < p.1 := (nI_gtI (by omega) (by omega)).mp c5
    refine GS.run [] 3 rfl ?_
    refine GS.ald (k) rfl rfl (rfl) (by omega) ?_
    rw [ht.2 k k1]
    refine GS.run [] 1 rfl ?_
    refine GS.iret rfl rfl (rfl) ?_
    unfold btI
    first
      | (rw [if_pos k1]; exact ⟨rfl, rfl⟩)
      | (rw [if_neg k1]; exact ⟨rfl, rfl⟩)
theorem c_isLetter (d : Nat) (σ : am_S) (v : Int32) : CallS mX12_isLetter (d) [.int v] σ (am_det (some (.int (am_b (97 ≤ v.toInt ∧ v.toInt ≤ 122)))) σ) := by
  refine CallS.of kX12_isLetter pX12_isLetter [.int v] rfl (Nat.le_of_ble_eq_true rfl) ?_
  refine GS.run [] 2 rfl ?_
  refine GS.icmp_lt rfl (fun c3 => ?_) (fun c3 => ?_)
  · have k1 : ¬ (97 ≤ v.toInt ∧ v.toInt ≤ 122) := fun q => by have := tI_lt.mp c3; rw [show (97 : Int32).toInt = 97 from rfl] at this; omega
    refine GS.run [] 1 rfl ?_
    refine GS.iret rfl rfl (rfl) ?_
    first
      | (rw [am_b_1 k1]; exact ⟨rfl, rfl⟩)
      | (rw [am_b_0 k1]; exact ⟨rfl, rfl⟩)
  · have k0 : 97 ≤ v.toInt := by
      have := Int.not_lt.mp (fun q => c3 (tI_lt.mpr q))
      rw [show (97 : Int32).toInt = 97 from rfl] at this; omega
    refine GS.run [] 2 rfl ?_
    refine GS.icmp_gt rfl (fun c9 => ?_) (fun c9 => ?_)
    · have k1 : ¬ (97 ≤ v.toInt ∧ v.toInt ≤ 122) := fun q => by have := tI_lt.mp c9; rw [show (122 : Int32).toInt = 122 from rfl] at this; omega
      refine GS.run [] 1 rfl ?_
      refine GS.iret rfl rfl (rfl) ?_
      first
        | (rw [am_b_1 k1]; exact ⟨rfl, rfl⟩)
        | (rw [am_b_0 k1]; exact ⟨rfl, rfl⟩)
    · have k1 : 97 ≤ v.toInt ∧ v.toInt ≤ 122 := ⟨k0, by
        have := Int.not_lt.mp (fun q => c9 (tI_lt.mpr q))
        rw [show (122 : Int32).toInt = 122 from rfl] at this; omega⟩
      refine GS.run [] 2 rfl ?_
      refine GS.iret rfl rfl (rfl) ?_
      first
        | (rw [am_b_1 k1]; exact ⟨rfl, rfl⟩)
        | (rw [am_b_0 k1]; exact ⟨rfl, rfl⟩)
theorem c_isFigure (d : Nat) (σ : am_S) (v : Int32) : CallS mX12_isFigure (d) [.int v] σ (am_det (some (.int (am_b (48 ≤ v.toInt ∧ v.toInt ≤ 57)))) σ) := by
  refine CallS.of kX12_isFigure pX12_isFigure [.int v] rfl (Nat.le_of_ble_eq_true rfl) ?_
  refine GS.run [] 2 rfl ?_
  refine GS.icmp_lt rfl (fun c3 => ?_) (fun c3 => ?_)
  · have k1 : ¬ (48 ≤ v.toInt ∧ v.toInt ≤ 57) := fun q => by have := tI_lt.mp c3; rw [show (48 : Int32).toInt = 48 from rfl] at this; omega
    refine GS.run [] 1 rfl ?_
    refine GS.iret rfl rfl (rfl) ?_
    first
      | (rw [am_b_1 k1]; exact ⟨rfl, rfl⟩)
      | (rw [am_b_0 k1]; exact ⟨rfl, rfl⟩)
  · have k0 : 48 ≤ v.toInt := by
      have := Int.not_lt.mp (fun q => c3 (tI_lt.mpr q))
      rw [show (48 : Int32).toInt = 48 from rfl] at this; omega
    refine GS.run [] 2 rfl ?_
    refine GS.icmp_gt rfl (fun c9 => ?_) (fun c9 => ?_)
    · have k1 : ¬ (48 ≤ v.toInt ∧ v.toInt ≤ 57) := fun q => by have := tI_lt.mp c9; rw [show (57 : Int32).toInt = 57 from rfl] at this; omega
      refine GS.run [] 1 rfl ?_
      refine GS.iret rfl rfl (rfl) ?_
      first
        | (rw [am_b_1 k1]; exact ⟨rfl, rfl⟩)
        | (rw [am_b_0 k1]; exact ⟨rfl, rfl⟩)
    · have k1 : 48 ≤ v.toInt ∧ v.toInt ≤ 57 := ⟨k0, by
        have := Int.not_lt.mp (fun q => c9 (tI_lt.mpr q))
        rw [show (57 : Int32).toInt = 57 from rfl] at this; omega⟩
      refine GS.run [] 2 rfl ?_
      refine GS.iret rfl rfl (rfl) ?_
      first
        | (rw [am_b_1 k1]; exact ⟨rfl, rfl⟩)
        | (rw [am_b_0 k1]; exact ⟨rfl, rfl⟩)
theorem bt_in {p : Tp} {k lo hi s : Nat} (hp : wfP p) (h : ∀ b, kdB b = s ↔ lo ≤ b ∧ b ≤ hi) : am_b ((lo : Int) ≤ (btI p k).toInt ∧ (btI p k).toInt ≤ (hi : Int)) = bI (decide (k < p.1) && isK s (p.2 k)) := by
  unfold btI
  by_cases q : k < p.1
  · rw [if_pos q, decide_eq_true q, Bool.true_and]
    have hb := hp.2 k q
    rw [nI_toInt (by omega)]
    by_cases z : kdB (p.2 k) = s
    · rw [isK_t.mpr z]
      have := (h _).mp z
      exact am_b_1 (by omega)
    · rw [isK_f.mpr z]
      refine am_b_0 (fun y => z ((h _).mpr ?_))
      omega
  · rw [if_neg q, decide_eq_false q, Bool.false_and]
    exact am_b_0 (fun y => by
      have h1 := y.1
      rw [show (-1000000 : Int32).toInt = -1000000 from rfl] at h1
      omega)
