theorem kd1_iff {b : Nat} : kdB b = 1 ↔ 97 ≤ b ∧ b ≤ 122 := by
  refine ⟨kd_1, fun h => ?_⟩
  unfold kdB
  rw [if_neg (by omega), if_pos h]
theorem kd2_iff {b : Nat} : kdB b = 2 ↔ 48 ≤ b ∧ b ≤ 57 := by
  refine ⟨kd_2, fun h => ?_⟩
  unfold kdB
  rw [if_neg (by omega), if_neg (by omega), if_pos h]
theorem kd5_iff {b : Nat} : kdB b = 5 ↔ b = 32 ∨ b = 10 := by
  unfold kdB
  by_cases h : b = 32 ∨ b = 10
  · rw [if_pos h]; exact ⟨fun _ => h, fun _ => rfl⟩
  · rw [if_neg h]
    refine ⟨fun q => ?_, fun q => absurd q h⟩
    split at q
    · omega
    · split at q
      · omega
      · split at q <;> omega
theorem kd3_iff {b : Nat} : kdB b = 3 ↔ b = 59 := by
  unfold kdB
  by_cases h : b = 59
  · rw [if_neg (by omega), if_neg (by omega), if_neg (by omega), if_pos h]; exact ⟨fun _ => h, fun _ => rfl⟩
  · refine ⟨fun q => ?_, fun q => absurd q h⟩
    split at q
    · omega
    · split at q
      · omega
      · split at q
        · omega
        · omega
def mTk (c : Nat) : Nat := if c = 4 then 0 else c + 1
def btI (p : Tp) (k : Nat) : Int32 := if k < p.1 then nI (p.2 k) else -1000000
def tpM (σ : am_S) (p : Tp) : Prop := (σ 69 13 = nI p.1 ∧ p.1 ≤ 400) ∧ ∀ i, i < p.1 → σ 77 i = nI (p.2 i)
/-- the reference looks at the j-th token -/
def pcM (σ : am_S) (p : Tp) (j : Nat) : Prop := tpM σ p ∧ σ 69 14 = nI (cP p (j + 1)) ∧ σ 69 15 = nI (mTk (tkC p j)) ∧ σ 69 16 = nI (tkS p j) ∧ σ 69 17 = nI (cP p (j + 1)) ∧ live p j
def ftM (σ : am_S) (fo : Option (Nat × Nat)) : Prop := match fo with
  | none => σ 69 18 = 0
  | some e => σ 69 18 = nI e.1 ∧ σ 69 19 = nI e.2 ∧ 0 < e.1 ∧ e.1 < 1000 ∧ e.2 ≤ 400
theorem c_byteAt (d : Nat) (σ : am_S) (p : Tp) (hp : wfP p) (ht : tpM σ p) (k : Nat) (hk : k ≤ p.1) : CallS mX12_byteAt (d) [.ref 69, .int (nI k)] σ (am_det (some (.int (btI p k))) σ) := by
  refine CallS.of kX12_byteAt pX12_byteAt [.ref 69, .int (nI k)] rfl (Nat.le_of_ble_eq_true rfl) ?_
  have h400 := hp.1
  refine GS.run [] 3 rfl ?_
  rw [ht.1.1]
  refine GS.run [] 0 rfl ?_
  refine GS.icmp_ge rfl (fun c5 => ?_) (fun c5 => ?_)
  · have k1 : ¬ k < p.1 := by have := (nI_leI (by omega) (by omega)).mp c5; omega
    refine GS.run [] 1 rfl ?_
    refine GS.iret rfl rfl (rfl) ?_
    unfold btI
    first
      | (rw [if_pos k1]; exact ⟨rfl, rfl⟩)
      | (rw [if_neg k1]; exact ⟨rfl, rfl⟩)
  · have k1 : k < p.1 := (nI_gtI (by omega) (by omega)).mp c5
    refine GS.run [] 3 rfl ?_
    refine GS.ald (k) rfl rfl (rfl) (by omega) ?_
    rw [ht.2 k k1]
    refine GS.run [] 1 rfl ?_
    refine GS.iret rfl rfl (rfl) ?_
    unfold btI
    first
      | (rw [if_pos k1]; exact ⟨rfl, rfl⟩)
      | (rw [if_neg k1]; exact ⟨rfl, rfl⟩)
theorem c_isLetter (d : Nat) (σ : am_S) (v : Int32) : CallS mX12_isLetter (d) [.int v] σ (am_det (some (.int (am_b (97 ≤ v.toInt ∧ v.toInt ≤ 122)))) σ) := by
  refine CallS.of kX12_isLetter pX12_isLetter [.int v] rfl (Nat.le_of_ble_eq_true rfl) ?_
  refine GS.run [] 2 rfl ?_
  refine GS.icmp_lt rfl (fun c3 => ?_) (fun c3 => ?_)
  · have k1 : ¬ (97 ≤ v.toInt ∧ v.toInt ≤ 122) := fun q => by have := tI_lt.mp c3; rw [show (97 : Int32).toInt = 97 from rfl] at this; omega
    refine GS.run [] 1 rfl ?_
    refine GS.iret rfl rfl (rfl) ?_
    first
      | (rw [am_b_1 k1]; exact ⟨rfl, rfl⟩)
      | (rw [am_b_0 k1]; exact ⟨rfl, rfl⟩)
  · have k0 : 97 ≤ v.toInt := by
      have := Int.not_lt.mp (fun q => c3 (tI_lt.mpr q))
      rw [show (97 : Int32).toInt = 97 from rfl] at this; omega
    refine GS.run [] 2 rfl ?_
    refine GS.icmp_gt rfl (fun c9 => ?_) (fun c9 => ?_)
    · have k1 : ¬ (97 ≤ v.toInt ∧ v.toInt ≤ 122) := fun q => by have := tI_lt.mp c9; rw [show (122 : Int32).toInt = 122 from rfl] at this; omega
      refine GS.run [] 1 rfl ?_
      refine GS.iret rfl rfl (rfl) ?_
      first
        | (rw [am_b_1 k1]; exact ⟨rfl, rfl⟩)
        | (rw [am_b_0 k1]; exact ⟨rfl, rfl⟩)
    · have k1 : 97 ≤ v.toInt ∧ v.toInt ≤ 122 := ⟨k0, by
        have := Int.not_lt.mp (fun q => c9 (tI_lt.mpr q))
        rw [show (122 : Int32).toInt = 122 from rfl] at this; omega⟩
      refine GS.run [] 2 rfl ?_
      refine GS.iret rfl rfl (rfl) ?_
      first
        | (rw [am_b_1 k1]; exact ⟨rfl, rfl⟩)
        | (rw [am_b_0 k1]; exact ⟨rfl, rfl⟩)
theorem c_isFigure (d : Nat) (σ : am_S) (v : Int32) : CallS mX12_isFigure (d) [.int v] σ (am_det (some (.int (am_b (48 ≤ v.toInt ∧ v.toInt ≤ 57)))) σ) := by
  refine CallS.of kX12_isFigure pX12_isFigure [.int v] rfl (Nat.le_of_ble_eq_true rfl) ?_
  refine GS.run [] 2 rfl ?_
  refine GS.icmp_lt rfl (fun c3 => ?_) (fun c3 => ?_)
  · have k1 : ¬ (48 ≤ v.toInt ∧ v.toInt ≤ 57) := fun q => by have := tI_lt.mp c3; rw [show (48 : Int32).toInt = 48 from rfl] at this; omega
    refine GS.run [] 1 rfl ?_
    refine GS.iret rfl rfl (rfl) ?_
    first
      | (rw [am_b_1 k1]; exact ⟨rfl, rfl⟩)
      | (rw [am_b_0 k1]; exact ⟨rfl, rfl⟩)
  · have k0 : 48 ≤ v.toInt := by
      have := Int.not_lt.mp (fun q => c3 (tI_lt.mpr q))
      rw [show (48 : Int32).toInt = 48 from rfl] at this; omega
    refine GS.run [] 2 rfl ?_
    refine GS.icmp_gt rfl (fun c9 => ?_) (fun c9 => ?_)
    · have k1 : ¬ (48 ≤ v.toInt ∧ v.toInt ≤ 57) := fun q => by have := tI_lt.mp c9; rw [show (57 : Int32).toInt = 57 from rfl] at this; omega
      refine GS.run [] 1 rfl ?_
      refine GS.iret rfl rfl (rfl) ?_
      first
        | (rw [am_b_1 k1]; exact ⟨rfl, rfl⟩)
        | (rw [am_b_0 k1]; exact ⟨rfl, rfl⟩)
    · have k1 : 48 ≤ v.toInt ∧ v.toInt ≤ 57 := ⟨k0, by
        have := Int.not_lt.mp (fun q => c9 (tI_lt.mpr q))
        rw [show (57 : Int32).toInt = 57 from rfl] at this; omega⟩
      refine GS.run [] 2 rfl ?_
      refine GS.iret rfl rfl (rfl) ?_
      first
        | (rw [am_b_1 k1]; exact ⟨rfl, rfl⟩)
        | (rw [am_b_0 k1]; exact ⟨rfl, rfl⟩)
theorem bt_in {p : Tp} {k lo hi s : Nat} (hp : wfP p) (h : ∀ b, kdB b = s ↔ lo ≤ b ∧ b ≤ hi) : am_b ((lo : Int) ≤ (btI p k).toInt ∧ (btI p k).toInt ≤ (hi : Int)) = bI (decide (k < p.1) && isK s (p.2 k)) := by
  unfold btI
  by_cases q : k < p.1
  · rw [if_pos q, decide_eq_true q, Bool.true_and]
    have hb := hp.2 k q
    rw [nI_toInt (by omega)]
    by_cases z : kdB (p.2 k) = s
    · rw [isK_t.mpr z]
      have := (h _).mp z
      exact am_b_1 (by omega)
    · rw [isK_f.mpr z]
      refine am_b_0 (fun y => z ((h _).mpr ?_))
      omega
  · rw [if_neg q, decide_eq_false q, Bool.false_and]
    exact am_b_0 (fun y => by
      have h1 := y.1
      rw [show (-1000000 : Int32).toInt = -1000000 from rfl] at h1
      omega)
theorem tpM.kept {σ σ' : am_S} {p : Tp} {L F : List Nat} (h : tpM σ p) (hs : sameM L F σ σ') (h1 : 77 ∉ L) (h2 : 13 ∉ F) : tpM σ' p := by
  unfold tpM
  rw [hs.1 77 (by decide) h1, hs.2 13 h2]
  exact h
theorem sM_f {σ : am_S} {i j : Nat} {v : Int32} : am_s1 σ 69 (upd (σ 69) i v) 69 j = if j = i then v else σ 69 j := by
  rw [am_s1_eq]
  rfl
theorem bt_1 {p : Tp} {k : Nat} (hp : wfP p) : am_b (97 ≤ (btI p k).toInt ∧ (btI p k).toInt ≤ 122) = bI (decide (k < p.1) && isK 1 (p.2 k)) := bt_in hp (lo := 97) (hi := 122) (fun b => kd1_iff)
theorem bt_2 {p : Tp} {k : Nat} (hp : wfP p) : am_b (48 ≤ (btI p k).toInt ∧ (btI p k).toInt ≤ 57) = bI (decide (k < p.1) && isK 2 (p.2 k)) := bt_in hp (lo := 48) (hi := 57) (fun b => kd2_iff)
theorem tkE_run1 {p : Tp} {c x s : Nat} (hk : kdB (p.2 c) = s) (hs : s = 1 ∨ s = 2) (h1 : c + 1 ≤ x) (h2 : x ≤ p.1) (hr : ∀ y, c ≤ y → y < x → kdB (p.2 y) = s) (hn : x < p.1 → ¬ kdB (p.2 x) = s) : tkE p c = x := by
  unfold tkE
  rw [hk, if_pos hs]
  exact stp_is h1 h2 (fun y a b => isK_t.mpr (hr y (by omega) b)) (fun q => isK_f.mpr (hn q))
theorem kd_4 {b : Nat} (h1 : ¬ kdB b = 1) (h2 : ¬ kdB b = 2) (h3 : ¬ kdB b = 3) (h5 : ¬ kdB b = 5) : kdB b = 4 := by
  have := kdB_le (b := b)
  omega
theorem c_next (d : Nat) (σ : am_S) (p : Tp) (hp : wfP p) (j : Nat) (ht : tpM σ p) (h14 : σ 69 14 = nI (cP p j)) (hlv : live p j) : CallS mX12_next (d + 1) [.ref 69] σ (fun r σ' => r = none ∧ pcM σ' p j ∧ sameM [] [14, 15, 16, 17] σ σ') := by
  refine CallS.of kX12_next pX12_next [.ref 69, .retAddr 0] rfl (Nat.le_of_ble_eq_true rfl) ?_
  have h400 := hp.1
  have loop0 : ∀ (fu : Nat) (c : Nat) (σi : am_S) (v1 : Value) (hc0 : cP p j ≤ c) (hcl : c ≤ p.1) (hbk : ∀ x, cP p j ≤ x → x < c → kdB (p.2 x) = 5) (hti : tpM σi p) (h14i : σi 69 14 = nI c) (hsi : sameM [] [14, 15, 16, 17] σ σi), p.1 - c = fu → GS none mX12_next (d + 1) (fun r σ' => r = none ∧ pcM σ' p j ∧ sameM [] [14, 15, 16, 17] σ σ') 0 [.ref 69, .retAddr 0] [] σi := by
    intro fu
    induction fu using Nat.strongRecOn with
    | ind fu ih0 =>
      intro c σi v1 hc0 hcl hbk hti h14i hsi hfu
      have join196 : ∀ (v1 : Value) (σj : am_S) (htj : tpM σj p) (h14j : σj 69 14 = nI (cP p (j + 1))) (h15j : σj 69 15 = nI (mTk (tkC p j))) (h16j : σj 69 16 = nI (tkS p j)) (hsj : sameM [] [14, 15, 16, 17] σ σj), GS none mX12_next (d + 1) (fun r σ' => r = none ∧ pcM σ' p j ∧ sameM [] [14, 15, 16, 17] σ σ') 196 [.ref 69, v1] [] σj := by
        intro v1 σj htj h14j h15j h16j hsj
        refine GS.run [] 4 rfl ?_
        refine GS.vret rfl rfl ?_
        exact ⟨rfl, ⟨htj.kept (sameM.fld (l := []) (f := [17]) sameM.rf (by decide)) (by decide) (by decide), (by rw [sM_f]; exact h14j), (by rw [sM_f]; exact h15j), (by rw [sM_f]; exact h16j), (by rw [sM_f]; exact h14j), hlv⟩, hsj.fld (by decide)⟩
      refine GS.run [] 3 rfl ?_
      rw [h14i]
      refine GS.run [] 0 rfl ?_
      refine GS.cV oX12_byteAt (c_byteAt d σi p hp hti c hcl) rfl rfl rfl rfl rfl rfl rfl (Nat.le_of_ble_eq_true rfl) (by omega) ?_
      rcases Nat.lt_or_ge c p.1 with hc | hc
      · have hb := hp.2 c hc
        have hbt : btI p c = nI (p.2 c) := if_pos hc
        rw [hbt]
        refine GS.run [] 1 rfl ?_
        refine GS.icmp_eq rfl (fun c10 => ?_) (fun c10 => ?_)
        · have hbl : kdB (p.2 c) = 5 := kd5_iff.mpr (Or.inl ((nI_eq (b := 32) (by omega) (by omega)).mp c10))
          refine GS.run [] 3 rfl ?_
          rw [h14i]
          refine GS.run [] 0 rfl ?_
          refine GS.run [] 4 rfl ?_
          rw [nI_1]
          exact GS.weak (by exact ⟨Or.inr rfl, Or.inl rfl, trivial⟩) (ih0 _ (by omega) (c + 1) _ Value.null (by omega) hc (fun x a b => by
            by_cases e : x = c
            · rw [e]; exact hbl
            · exact hbk x a (by omega)) (hti.kept (sameM.fld (l := []) (f := [14]) sameM.rf (by decide)) (by decide) (by decide)) (by rw [sM_f]; rfl) (hsi.fld (by decide)) rfl)
        · have k32 : ¬ p.2 c = 32 := fun q => c10 (by rw [q]; rfl)
          refine GS.run [] 3 rfl ?_
          rw [h14i]
          refine GS.run [] 0 rfl ?_
          refine GS.cV oX12_byteAt ((c_byteAt d σi p hp hti c hcl).eq (congrArg (fun z => some (Value.int z)) hbt) rfl) rfl rfl rfl rfl rfl rfl rfl (Nat.le_of_ble_eq_true rfl) (by omega) ?_
          refine GS.run [] 1 rfl ?_
          refine GS.icmp_ne rfl (fun c23 => ?_) (fun c23 => ?_)
          · have k5 : ¬ kdB (p.2 c) = 5 := fun q => (kd5_iff.mp q).elim k32 (fun q => c23 (by rw [q]; rfl))
            have hS : tkS p j = c := tkS_is hc0 hcl hbk (fun _ => k5)
            refine GS.run [] 3 rfl ?_
            rw [h14i]
            refine GS.run [] 0 rfl ?_
            refine GS.run [] 1 rfl ?_
            have hts : tpM (am_s1 σi 69 (upd (σi 69) 16 (nI c))) p := hti.kept (sameM.fld (l := []) (f := [16]) sameM.rf (by decide)) (by decide) (by decide)
            have h14s : am_s1 σi 69 (upd (σi 69) 16 (nI c)) 69 14 = nI c := by rw [sM_f]; exact h14i
            have h16s : am_s1 σi 69 (upd (σi 69) 16 (nI c)) 69 16 = nI c := by rw [sM_f]; rfl
            have hss : sameM [] [14, 15, 16, 17] σ (am_s1 σi 69 (upd (σi 69) 16 (nI c))) := hsi.fld (by decide)
            generalize am_s1 σi 69 (upd (σi 69) 16 (nI c)) = σs at hts h14s h16s hss ⊢
            refine GS.run [] 0 rfl ?_
            refine GS.run [] 3 rfl ?_
            rw [h14s]
            refine GS.run [] 0 rfl ?_
            refine GS.cV oX12_byteAt ((c_byteAt d σs p hp hts c hcl).eq (congrArg (fun z => some (Value.int z)) hbt) rfl) rfl rfl rfl rfl rfl rfl rfl (Nat.le_of_ble_eq_true rfl) (by omega) ?_
            refine GS.run [] 3 rfl ?_
            refine GS.icmp_ne rfl (fun c59 => ?_) (fun q => absurd q (nI_ne_none (by omega)))
            refine GS.run [] 1 rfl ?_
            refine GS.cS oX12_isLetter ((c_isLetter d σs (nI (p.2 c))).eq (congrArg (fun z => some (Value.int z)) (show am_b (97 ≤ (nI (p.2 c)).toInt ∧ (nI (p.2 c)).toInt ≤ 122) = bI (isK 1 (p.2 c)) by have := bt_1 (k := c) hp; rw [hbt, decide_eq_true hc, Bool.true_and] at this; exact this)) rfl) rfl rfl rfl rfl (Nat.le_of_ble_eq_true rfl) (by omega) ?_
            refine GS.if_eq rfl (fun c74 => ?_) (fun c74 => ?_)
            · have k1 := isK_f.mp (bI0.mp c74)
              refine GS.run [] 1 rfl ?_
              refine GS.cS oX12_isFigure ((c_isFigure d σs (nI (p.2 c))).eq (congrArg (fun z => some (Value.int z)) (show am_b (48 ≤ (nI (p.2 c)).toInt ∧ (nI (p.2 c)).toInt ≤ 57) = bI (isK 2 (p.2 c)) by have := bt_2 (k := c) hp; rw [hbt, decide_eq_true hc, Bool.true_and] at this; exact this)) rfl) rfl rfl rfl rfl (Nat.le_of_ble_eq_true rfl) (by omega) ?_
              refine GS.if_eq rfl (fun c116 => ?_) (fun c116 => ?_)
              · have k2 := isK_f.mp (bI0.mp c116)
                refine GS.run [] 3 rfl ?_
                rw [h14s]
                refine GS.run [] 0 rfl ?_
                refine GS.run [] 6 rfl ?_
                refine GS.icmp_ne rfl (fun c185 => ?_) (fun c185 => ?_)
                · have k9 : ¬ p.2 c = 59 := fun q => c185 (by rw [q]; rfl)
                  refine GS.run [] 2 rfl ?_
                  have hkE : tkE p c = c + 1 := by unfold tkE; rw [if_neg (fun q => q.elim k1 k2)]
                  have hcp : cP p (j + 1) = c + 1 := by rw [cP_s (by rw [hS]; exact hc), hS, hkE]
                  have hC := (tkC_v hS hc rfl).1
                  rw [if_neg (fun q => k2 q.1)] at hC
                  have hsC : sameM [] [14, 15, 16, 17] σ (am_s1 σs 69 (upd (σs 69) 14 (nI c + 1))) := hss.fld (by decide)
                  have htC : tpM (am_s1 σs 69 (upd (σs 69) 14 (nI c + 1))) p := hts.kept (sameM.fld (l := []) (f := [14]) sameM.rf (by decide)) (by decide) (by decide)
                  refine join196 _ _ ?_ ?_ ?_ ?_ ?_
                  · exact (htC.kept (sameM.fld (l := []) (f := [15]) sameM.rf (by decide)) (by decide) (by decide))
                  · rw [sM_f, hcp, if_neg (by decide), sM_f, if_pos rfl]; exact nI_1 c
                  · rw [sM_f, hC, if_pos rfl]
                    first
                      | (rw [kd3_iff.mpr k9]; rfl)
                      | (rw [kd_4 k1 k2 (fun q => k9 (kd3_iff.mp q)) k5]; rfl)
                  · rw [sM_f, hS, if_neg (by decide), sM_f, if_neg (by decide)]; exact h16s
                  · exact hsC.fld (by decide)
                · have k9 : p.2 c = 59 := (nI_eq (b := 59) (by omega) (by omega)).mp c185
                  refine GS.run [] 3 rfl ?_
                  have hkE : tkE p c = c + 1 := by unfold tkE; rw [if_neg (fun q => q.elim k1 k2)]
                  have hcp : cP p (j + 1) = c + 1 := by rw [cP_s (by rw [hS]; exact hc), hS, hkE]
                  have hC := (tkC_v hS hc rfl).1
                  rw [if_neg (fun q => k2 q.1)] at hC
                  have hsC : sameM [] [14, 15, 16, 17] σ (am_s1 σs 69 (upd (σs 69) 14 (nI c + 1))) := hss.fld (by decide)
                  have htC : tpM (am_s1 σs 69 (upd (σs 69) 14 (nI c + 1))) p := hts.kept (sameM.fld (l := []) (f := [14]) sameM.rf (by decide)) (by decide) (by decide)
                  refine join196 _ _ ?_ ?_ ?_ ?_ ?_
                  · exact (htC.kept (sameM.fld (l := []) (f := [15]) sameM.rf (by decide)) (by decide) (by decide))
                  · rw [sM_f, hcp, if_neg (by decide), sM_f, if_pos rfl]; exact nI_1 c
                  · rw [sM_f, hC, if_pos rfl]
                    first
                      | (rw [kd3_iff.mpr k9]; rfl)
                      | (rw [kd_4 k1 k2 (fun q => k9 (kd3_iff.mp q)) k5]; rfl)
                  · rw [sM_f, hS, if_neg (by decide), sM_f, if_neg (by decide)]; exact h16s
                  · exact hsC.fld (by decide)
              · have hk := isK_t.mp (bI1.mp c116)
                have loop119 : ∀ (fu : Nat) (x : Nat) (σx : am_S) (hcx : c ≤ x) (hxl : x ≤ p.1) (hr : ∀ y, c ≤ y → y < x → kdB (p.2 y) = 2) (htx : tpM σx p) (h14x : σx 69 14 = nI x) (h16x : σx 69 16 = nI c) (hsx : sameM [] [14, 15, 16, 17] σ σx), p.1 - x = fu → GS none mX12_next (d + 1) (fun r σ' => r = none ∧ pcM σ' p j ∧ sameM [] [14, 15, 16, 17] σ σ') 119 [.ref 69, .int (nI (p.2 c))] [] σx := by
                  intro fu
                  induction fu using Nat.strongRecOn with
                  | ind fu ih119 =>
                    intro x σx hcx hxl hr htx h14x h16x hsx hfu
                    refine GS.run [] 3 rfl ?_
                    rw [show σx 69 14 = nI x from h14x]
                    refine GS.run [] 0 rfl ?_
                    refine GS.cV oX12_byteAt (c_byteAt d σx p hp htx x hxl) rfl rfl rfl rfl rfl rfl rfl (Nat.le_of_ble_eq_true rfl) (by omega) ?_
                    refine GS.cS oX12_isFigure ((c_isFigure d σx (btI p x)).eq (congrArg (fun z => some (Value.int z)) (bt_2 hp)) rfl) rfl rfl rfl rfl (Nat.le_of_ble_eq_true rfl) (by omega) ?_
                    refine GS.if_eq rfl (fun c130 => ?_) (fun c130 => ?_)
                    · have hx0 := bI0.mp c130
                      have hx1 : c + 1 ≤ x := by
                        by_cases e : x = c
                        · rw [e, decide_eq_true hc, isK_t.mpr hk] at hx0; cases hx0
                        · omega
                      have hE : tkE p c = x := tkE_run1 hk (by decide) hx1 hxl hr (fun q => by
                        rw [decide_eq_true q, Bool.true_and] at hx0
                        exact isK_f.mp hx0)
                      have hC := (tkC_v hS hc rfl).1
                      rw [hk, hE] at hC
                      refine GS.run [] 7 rfl ?_
                      rw [show σx 69 14 = nI x from h14x, show σx 69 16 = nI c from h16x, show nI x - nI c = nI (x - c) from pk_sub (by omega)]
                      refine GS.run [] 0 rfl ?_
                      refine GS.icmp_le rfl (fun c157 => ?_) (fun c157 => ?_)
                      · have k3 : ¬ 3 < x - c := by have := (nI_leI (b := 3) (by omega) (by omega)).mp c157; omega
                        rw [if_neg (fun q => k3 q.2)] at hC
                        refine GS.run [] 3 rfl ?_
                        have hcp : cP p (j + 1) = x := by rw [cP_s (by rw [hS]; exact hc), hS, hE]
                        refine join196 _ _ ?_ ?_ ?_ ?_ ?_
                        · exact (htx.kept (sameM.fld (l := []) (f := [15]) sameM.rf (by decide)) (by decide) (by decide))
                        · rw [sM_f, hcp]; exact h14x
                        · rw [sM_f, hC]; rfl
                        · rw [sM_f, hS]; exact h16x
                        · exact hsx.fld (by decide)
                      · have k3 : 3 < x - c := (nI_gtI (b := 3) (by omega) (by omega)).mp c157
                        rw [if_pos ⟨rfl, k3⟩] at hC
                        refine GS.run [] 4 rfl ?_
                        have hcp : cP p (j + 1) = x := by rw [cP_s (by rw [hS]; exact hc), hS, hE]
                        refine join196 _ _ ?_ ?_ ?_ ?_ ?_
                        · exact (htx.kept (sameM.fld (l := []) (f := [15]) sameM.rf (by decide)) (by decide) (by decide))
                        · rw [sM_f, hcp]; exact h14x
                        · rw [sM_f, hC]; rfl
                        · rw [sM_f, hS]; exact h16x
                        · exact hsx.fld (by decide)
                    · have hx0 := bI1.mp c130
                      rw [Bool.and_eq_true] at hx0
                      have hxk : kdB (p.2 x) = 2 := isK_t.mp hx0.2
                      have hxl2 : x < p.1 := of_decide_eq_true hx0.1
                      refine GS.run [] 5 rfl ?_
                      rw [show σx 69 14 = nI x from h14x, nI_1]
                      refine GS.run [] 0 rfl ?_
                      refine GS.run [] 2 rfl ?_
                      exact ih119 _ (by omega) (x + 1) _ (by omega) hxl2 (fun y a b => by
                        by_cases e : y = x
                        · rw [e]; exact hxk
                        · exact hr y a (by omega)) (htx.kept (sameM.fld (l := []) (f := [14]) sameM.rf (by decide)) (by decide) (by decide)) (by rw [sM_f]; rfl) (by rw [sM_f]; exact h16x) (hsx.fld (by decide)) rfl
                exact loop119 _ c σs (Nat.le_refl _) (by omega) (fun y a b => by omega) hts h14s h16s hss rfl
            · have hk := isK_t.mp (bI1.mp c74)
              have loop77 : ∀ (fu : Nat) (x : Nat) (σx : am_S) (hcx : c ≤ x) (hxl : x ≤ p.1) (hr : ∀ y, c ≤ y → y < x → kdB (p.2 y) = 1) (htx : tpM σx p) (h14x : σx 69 14 = nI x) (h16x : σx 69 16 = nI c) (hsx : sameM [] [14, 15, 16, 17] σ σx), p.1 - x = fu → GS none mX12_next (d + 1) (fun r σ' => r = none ∧ pcM σ' p j ∧ sameM [] [14, 15, 16, 17] σ σ') 77 [.ref 69, .int (nI (p.2 c))] [] σx := by
                intro fu
                induction fu using Nat.strongRecOn with
                | ind fu ih77 =>
                  intro x σx hcx hxl hr htx h14x h16x hsx hfu
                  refine GS.run [] 3 rfl ?_
                  rw [show σx 69 14 = nI x from h14x]
                  refine GS.run [] 0 rfl ?_
                  refine GS.cV oX12_byteAt (c_byteAt d σx p hp htx x hxl) rfl rfl rfl rfl rfl rfl rfl (Nat.le_of_ble_eq_true rfl) (by omega) ?_
                  refine GS.cS oX12_isLetter ((c_isLetter d σx (btI p x)).eq (congrArg (fun z => some (Value.int z)) (bt_1 hp)) rfl) rfl rfl rfl rfl (Nat.le_of_ble_eq_true rfl) (by omega) ?_
                  refine GS.if_eq rfl (fun c88 => ?_) (fun c88 => ?_)
                  · have hx0 := bI0.mp c88
                    have hx1 : c + 1 ≤ x := by
                      by_cases e : x = c
                      · rw [e, decide_eq_true hc, isK_t.mpr hk] at hx0; cases hx0
                      · omega
                    have hE : tkE p c = x := tkE_run1 hk (by decide) hx1 hxl hr (fun q => by
                      rw [decide_eq_true q, Bool.true_and] at hx0
                      exact isK_f.mp hx0)
                    have hC := (tkC_v hS hc rfl).1
                    rw [hk, hE] at hC
                    refine GS.run [] 4 rfl ?_
                    have hcp : cP p (j + 1) = x := by rw [cP_s (by rw [hS]; exact hc), hS, hE]
                    rw [if_neg (by omega)] at hC
                    refine join196 _ _ ?_ ?_ ?_ ?_ ?_
                    · exact (htx.kept (sameM.fld (l := []) (f := [15]) sameM.rf (by decide)) (by decide) (by decide))
                    · rw [sM_f, hcp]; exact h14x
                    · rw [sM_f, hC]; rfl
                    · rw [sM_f, hS]; exact h16x
                    · exact hsx.fld (by decide)
                  · have hx0 := bI1.mp c88
                    rw [Bool.and_eq_true] at hx0
                    have hxk : kdB (p.2 x) = 1 := isK_t.mp hx0.2
                    have hxl2 : x < p.1 := of_decide_eq_true hx0.1
                    refine GS.run [] 5 rfl ?_
                    rw [show σx 69 14 = nI x from h14x, nI_1]
                    refine GS.run [] 0 rfl ?_
                    refine GS.run [] 2 rfl ?_
                    exact ih77 _ (by omega) (x + 1) _ (by omega) hxl2 (fun y a b => by
                      by_cases e : y = x
                      · rw [e]; exact hxk
                      · exact hr y a (by omega)) (htx.kept (sameM.fld (l := []) (f := [14]) sameM.rf (by decide)) (by decide) (by decide)) (by rw [sM_f]; rfl) (by rw [sM_f]; exact h16x) (hsx.fld (by decide)) rfl
              exact loop77 _ c σs (Nat.le_refl _) (by omega) (fun y a b => by omega) hts h14s h16s hss rfl
          · have hbl : kdB (p.2 c) = 5 := kd5_iff.mpr (Or.inr ((nI_eq (b := 10) (by omega) (by omega)).mp c23))
            refine GS.run [] 3 rfl ?_
            rw [h14i]
            refine GS.run [] 0 rfl ?_
            refine GS.run [] 4 rfl ?_
            rw [nI_1]
            exact GS.weak (by exact ⟨Or.inr rfl, Or.inl rfl, trivial⟩) (ih0 _ (by omega) (c + 1) _ Value.null (by omega) hc (fun x a b => by
              by_cases e : x = c
              · rw [e]; exact hbl
              · exact hbk x a (by omega)) (hti.kept (sameM.fld (l := []) (f := [14]) sameM.rf (by decide)) (by decide) (by decide)) (by rw [sM_f]; rfl) (hsi.fld (by decide)) rfl)
      · have ec : c = p.1 := by omega
        have hbt : btI p c = -1000000 := if_neg (by omega)
        rw [hbt]
        refine GS.run [] 1 rfl ?_
        refine GS.icmp_eq rfl (fun q => absurd q (by decide)) (fun c10 => ?_)
        refine GS.run [] 3 rfl ?_
        rw [h14i]
        refine GS.run [] 0 rfl ?_
        refine GS.cV oX12_byteAt ((c_byteAt d σi p hp hti c hcl).eq (congrArg (fun z => some (Value.int z)) hbt) rfl) rfl rfl rfl rfl rfl rfl rfl (Nat.le_of_ble_eq_true rfl) (by omega) ?_
        refine GS.run [] 1 rfl ?_
        refine GS.icmp_ne rfl (fun c23 => ?_) (fun q => absurd q (by decide))
        have hS : tkS p j = c := tkS_is hc0 hcl hbk (fun q => absurd q (by omega))
        refine GS.run [] 0 rfl ?_
        refine GS.run [] 3 rfl ?_
        rw [h14i]
        refine GS.run [] 0 rfl ?_
        refine GS.run [] 1 rfl ?_
        have hts : tpM (am_s1 σi 69 (upd (σi 69) 16 (nI c))) p := hti.kept (sameM.fld (l := []) (f := [16]) sameM.rf (by decide)) (by decide) (by decide)
        have h14s : am_s1 σi 69 (upd (σi 69) 16 (nI c)) 69 14 = nI c := by rw [sM_f]; exact h14i
        have h16s : am_s1 σi 69 (upd (σi 69) 16 (nI c)) 69 16 = nI c := by rw [sM_f]; rfl
        have hss : sameM [] [14, 15, 16, 17] σ (am_s1 σi 69 (upd (σi 69) 16 (nI c))) := hsi.fld (by decide)
        generalize am_s1 σi 69 (upd (σi 69) 16 (nI c)) = σs at hts h14s h16s hss ⊢
        refine GS.run [] 0 rfl ?_
        refine GS.run [] 3 rfl ?_
        rw [h14s]
        refine GS.run [] 0 rfl ?_
        refine GS.cV oX12_byteAt ((c_byteAt d σs p hp hts c hcl).eq (congrArg (fun z => some (Value.int z)) hbt) rfl) rfl rfl rfl rfl rfl rfl rfl (Nat.le_of_ble_eq_true rfl) (by omega) ?_
        refine GS.run [] 3 rfl ?_
        refine GS.icmp_ne rfl (fun q => absurd (rfl) q) (fun c59 => ?_)
        refine GS.run [] 4 rfl ?_
        have hcp : cP p (j + 1) = c := by rw [cP, show stp p (isK 5) (cP p j) = c from hS, if_neg (by omega)]
        refine join196 _ _ ?_ ?_ ?_ ?_ ?_
        · exact (hts.kept (sameM.fld (l := []) (f := [15]) sameM.rf (by decide)) (by decide) (by decide))
        · rw [sM_f, hcp]; exact h14s
        · rw [sM_f, show tkC p j = 0 from tkC_0.mpr (by omega)]; rfl
        · rw [sM_f, hS]; exact h16s
        · exact hss.fld (by decide)
  exact loop0 _ (cP p j) σ Value.null (Nat.le_refl _) cP_le (fun x a b => by omega) ht h14 sameM.rf rfl
