theorem okr_iff {k : Int32} : (0 : Int64).toInt ≤ k.toInt ∧ k.toInt ≤ (7 : Int64).toInt ↔ okr k := by
  rw [show (0 : Int64).toInt = 0 from rfl, show (7 : Int64).toInt = 7 from rfl]
  unfold okr; omega
theorem he_i {k i : Nat} : 40 * nI k + nI i = nI (40 * k + i) := by rw [il_40, pk_mul, nI_add]
theorem he_ii {k i j : Nat} : 40 * nI k + nI i + nI j = nI (40 * k + i + j) := by rw [he_i, nI_add]
theorem l_add {a b : Int32} : (a.toInt64 + b.toInt64).toInt = a.toInt + b.toInt := by
  have h1 := a.le_toInt
  have h2 := a.toInt_lt
  have h3 := b.le_toInt
  have h4 := b.toInt_lt
  rw [Int64.toInt_add, Int32.toInt_toInt64, Int32.toInt_toInt64]
  exact Int.bmod_eq_of_le (by omega) (by omega)
section VRM
variable {σ : am_S} {r : Rw} {k : Nat}
theorem m_lane (h : rowsV 70 71 72 σ r) (hk : k < 8) : σ 70 k = r.1 k := (h k hk).1
theorem m_size (h : rowsV 70 71 72 σ r) (hk : k < 8) : σ 71 k = nI (r.2.1 k) := (h k hk).2.1
theorem m_item {i : Nat} (h : rowsV 70 71 72 σ r) (hk : k < 8) (hi : i < r.2.1 k) : σ 72 (40 * k + i) = r.2.2 (40 * k + i) := (h k hk).2.2 i hi
end VRM
theorem c_isRow (d : Nat) (σ : am_S) (k : Int32) : CallS mX12_isRow (d + 1) [.int k] σ (am_det (some (.int (am_b (okr k)))) σ) := by
  refine CallS.of kX12_isRow pX12_isRow [.int k] rfl (Nat.le_of_ble_eq_true rfl) ?_
  refine GS.run [] 4 rfl ?_
  refine GS.cS oX12_in (c_inI d σ k 0 7 (okr k) okr_iff) rfl rfl rfl rfl (Nat.le_of_ble_eq_true rfl) (by omega) ?_
  refine GS.iret rfl rfl (nar_b _) ?_
  exact ⟨rfl, rfl⟩
theorem c_finding (d : Nat) (σ : am_S) (v : Int32) : CallS mX12_finding (d) [.ref 69, .int v] σ (am_det (some (.int (-1000010 - v))) (am_s1 σ 69 (upd (σ 69) 1 v))) := by
  refine CallS.of kX12_finding pX12_finding [.ref 69, .int v] rfl (Nat.le_of_ble_eq_true rfl) ?_
  refine GS.run [] 6 rfl ?_
  refine GS.iret rfl rfl (rfl) ?_
  exact ⟨rfl, rfl⟩
theorem p_row_m (d : Nat) (σ : am_S) (r : Rw) (f : Int32) (k l n : Int32) (hr : rowsV 70 71 72 σ r) (hwf : wfR r) (hf : σ 69 1 = f) : CallS mX12_row (d + 3) [.ref 69, .int k, .int l, .int n] σ (fun x σ' => x = some (.int (qRow r f k l n).1) ∧ rowsV 70 71 72 σ' (qRow r f k l n).2.1 ∧ σ' 69 1 = (qRow r f k l n).2.2 ∧ sameM [70, 71, 72] [0, 1] σ σ') := by
  refine CallS.of kX12_row pX12_row [.ref 69, .int k, .int l, .int n, .retAddr 0] rfl (Nat.le_of_ble_eq_true rfl) ?_
  refine GS.run [] 4 rfl ?_
  refine GS.cS oX12_isRow (c_isRow (d + 1) (am_s1 σ 69 (upd (σ 69) 0 0)) k) rfl rfl rfl rfl (Nat.le_of_ble_eq_true rfl) (by omega) ?_
  refine GS.if_eq rfl (fun c9 => ?_) (fun c9 => ?_)
  · have hbad : ¬ (okr k ∧ (0 ≤ l.toInt ∧ l.toInt < 3) ∧ n.toInt ≤ 40) := fun h => am_b0.mp c9 h.1
    refine GS.run [] 1 rfl ?_
    refine GS.iret rfl rfl (rfl) ?_
    rw [show qRow r f k l n = (-1000001, r, f) from if_neg hbad]
    exact ⟨rfl, hr.kept rfl rfl rfl, hf, sameM.rf.fld (by decide)⟩
  · have g1 := am_bT c9
    refine GS.run [] 4 rfl ?_
    refine GS.cS oX12_in (c_inI (d + 2) (am_s1 σ 69 (upd (σ 69) 0 0)) l 0 2 (0 ≤ l.toInt ∧ l.toInt < 3) (by rw [show (0 : Int64).toInt = 0 from rfl, show (2 : Int64).toInt = 2 from rfl]; omega)) rfl rfl rfl rfl (Nat.le_of_ble_eq_true rfl) (by omega) ?_
    refine GS.if_eq rfl (fun c21 => ?_) (fun c21 => ?_)
    · have hbad : ¬ (okr k ∧ (0 ≤ l.toInt ∧ l.toInt < 3) ∧ n.toInt ≤ 40) := fun h => am_b0.mp c21 h.2.1
      refine GS.run [] 1 rfl ?_
      refine GS.iret rfl rfl (rfl) ?_
      rw [show qRow r f k l n = (-1000001, r, f) from if_neg hbad]
      exact ⟨rfl, hr.kept rfl rfl rfl, hf, sameM.rf.fld (by decide)⟩
    · have g2 := am_bT c21
      refine GS.run [] 2 rfl ?_
      refine GS.icmp_le rfl (fun c27 => ?_) (fun c27 => ?_)
      · have g3 : n.toInt ≤ 40 := by rw [tI_le] at c27; exact c27
        have hgood : (okr k ∧ (0 ≤ l.toInt ∧ l.toInt < 3) ∧ n.toInt ≤ 40) := ⟨g1, g2, g3⟩
        refine GS.run [] 4 rfl ?_
        refine GS.if_ge rfl (fun c39 => ?_) (fun c39 => ?_)
        · have g4 : ¬ n.toInt < 0 := by rw [tI_le, tI_0] at c39; omega
          obtain ⟨a, ha, rfl⟩ := okr_nat g1
          obtain ⟨m, hm, rfl⟩ := nat_of (m := 40) (by omega) g3
          refine GS.run [] 4 rfl ?_
          refine GS.ast (a) rfl rfl (rfl) (by omega) ?_
          refine GS.run [] 4 rfl ?_
          refine GS.ast (a) rfl rfl (rfl) (by omega) ?_
          refine GS.run [] 2 rfl ?_
          have loop65 : ∀ (fu : Nat) (j : Nat) (hj : j ≤ 40), 40 - j = fu → GS none mX12_row (d + 3) (fun x σ' => x = some (.int (nI m)) ∧ rowsV 70 71 72 σ' (rMake r a l m) ∧ σ' 69 1 = 0 ∧ sameM [70, 71, 72] [0, 1] σ σ') 65 [.ref 69, .int (nI a), .int l, .int (nI m), .int (nI j)] [] (am_s1 (am_s1 (am_s1 (am_s1 (am_s1 σ 69 (upd (σ 69) 0 0)) 69 (upd (am_s1 σ 69 (upd (σ 69) 0 0) 69) 1 0)) 70 (upd (σ 70) a l)) 71 (upd (σ 71) a (nI m))) 72 (zF (σ 72) a j)) := by
            intro fu
            induction fu using Nat.strongRecOn with
            | ind fu ih65 =>
              intro j hj hfu
              refine GS.run [] 2 rfl ?_
              refine GS.icmp_ge rfl (fun c69 => ?_) (fun c69 => ?_)
              · have e : 40 = j := by have := (nI_leI (a := 40) (by omega) (by omega)).mp c69; omega
                refine GS.run [] 1 rfl ?_
                refine GS.iret rfl rfl (rfl) ?_
                subst e
                refine ⟨rfl, rows_make hr rfl rfl (fun j i hj hjk hi => ?_) (fun i hi => ?_) hm hwf, rfl, ((((sameM.rf.fld (by decide)).fld (by decide)).cell (by decide) (by decide)).cell (by decide) (by decide)).cell (by decide) (by decide)⟩
                · show zF (σ 72) a 40 (40 * j + i) = σ 72 (40 * j + i)
                  have := (hwf j hj).2
                  unfold zF
                  rw [if_neg (by rcases Nat.lt_trichotomy j a with q | q | q <;> omega)]
                · show zF (σ 72) a 40 (40 * a + i) = 0
                  unfold zF
                  rw [if_pos (by omega)]
              · have hlt : j < 40 := (nI_gtI (a := 40) (by omega) (by omega)).mp c69
                refine GS.run [] 8 rfl ?_
                refine GS.ast (40 * a + j) rfl rfl (he_i) (by omega) ?_
                refine GS.run [] 2 rfl ?_
                rw [nI_1, am_s1_s1, am_s1_eq _ 72, zF_s]
                exact ih65 _ (by omega) (j + 1) (by omega) rfl
          rw [show qRow r f (nI a) l (nI m) = (nI m, rMake r a l m, 0) by unfold qRow; rw [if_pos hgood, if_neg g4, cn_nI (by omega), cn_nI (by omega)]]
          have e0 := loop65 _ 0 (Nat.zero_le _) rfl
          rw [zF_0] at e0
          have e1 : am_s1 (am_s1 (am_s1 (am_s1 (am_s1 σ 69 (upd (σ 69) 0 0)) 69 (upd (am_s1 σ 69 (upd (σ 69) 0 0) 69) 1 0)) 70 (upd (σ 70) a l)) 71 (upd (σ 71) a (nI m))) 72 (σ 72) = am_s1 (am_s1 (am_s1 (am_s1 σ 69 (upd (σ 69) 0 0)) 69 (upd (am_s1 σ 69 (upd (σ 69) 0 0) 69) 1 0)) 70 (upd (σ 70) a l)) 71 (upd (σ 71) a (nI m)) := am_s1_self _ 72
          rw [e1] at e0
          exact e0
        · have g4 : n.toInt < 0 := by rw [tI_le, tI_0] at c39; omega
          refine GS.run [] 2 rfl ?_
          refine GS.cV oX12_finding (c_finding (d + 2) (am_s1 (am_s1 σ 69 (upd (σ 69) 0 0)) 69 (upd (am_s1 σ 69 (upd (σ 69) 0 0) 69) 1 0)) 4) rfl rfl rfl rfl rfl rfl rfl (Nat.le_of_ble_eq_true rfl) (by omega) ?_
          refine GS.iret rfl rfl (rfl) ?_
          rw [show qRow r f k l n = (-1000014, r, 4) by (unfold qRow; rw [if_pos hgood, if_pos g4])]
          exact ⟨rfl, hr.kept rfl rfl rfl, rfl, (((sameM.rf.fld (by decide)).fld (by decide)).fld (by decide))⟩
      · have hbad : ¬ (okr k ∧ (0 ≤ l.toInt ∧ l.toInt < 3) ∧ n.toInt ≤ 40) := fun h => c27 (by rw [tI_le]; exact h.2.2)
        refine GS.run [] 1 rfl ?_
        refine GS.iret rfl rfl (rfl) ?_
        rw [show qRow r f k l n = (-1000001, r, f) from if_neg hbad]
        exact ⟨rfl, hr.kept rfl rfl rfl, hf, sameM.rf.fld (by decide)⟩
theorem p_set_m (d : Nat) (σ : am_S) (r : Rw) (f : Int32) (k i v : Int32) (hr : rowsV 70 71 72 σ r) (hwf : wfR r) (hf : σ 69 1 = f) : CallS mX12_set (d + 3) [.ref 69, .int k, .int i, .int v] σ (fun x σ' => x = some (.int (qSet r f k i v).1) ∧ rowsV 70 71 72 σ' (qSet r f k i v).2.1 ∧ σ' 69 1 = (qSet r f k i v).2.2 ∧ sameM [70, 71, 72] [0, 1] σ σ') := by
  refine CallS.of kX12_set pX12_set [.ref 69, .int k, .int i, .int v] rfl (Nat.le_of_ble_eq_true rfl) ?_
  refine GS.run [] 4 rfl ?_
  refine GS.cS oX12_isRow (c_isRow (d + 1) (am_s1 σ 69 (upd (σ 69) 0 0)) k) rfl rfl rfl rfl (Nat.le_of_ble_eq_true rfl) (by omega) ?_
  refine GS.if_ne rfl (fun c9 => ?_) (fun c9 => ?_)
  · have g1 := am_bT c9
    obtain ⟨a, ha, rfl⟩ := okr_nat g1
    have ec : cn (nI a) = a := cn_nI (by omega)
    have h4 := (hwf a ha).2
    refine GS.run [] 6 rfl ?_
    refine GS.ald (a) rfl rfl (rfl) (by omega) ?_
    rw [show ((am_s1 (am_s1 σ 69 (upd (σ 69) 0 0)) 69 (upd (am_s1 σ 69 (upd (σ 69) 0 0) 69) 1 0)) : am_S) 70 a = r.1 a from m_lane (σ := σ) hr ha]
    refine GS.if_ge rfl (fun c26 => ?_) (fun c26 => ?_)
    · have h1 : ¬ (r.1 a).toInt < 0 := by rw [tI_le, tI_0] at c26; omega
      refine GS.run [] 6 rfl ?_
      refine GS.ald (a) rfl rfl (rfl) (by omega) ?_
      rw [show ((am_s1 (am_s1 σ 69 (upd (σ 69) 0 0)) 69 (upd (am_s1 σ 69 (upd (σ 69) 0 0) 69) 1 0)) : am_S) 71 a = nI (r.2.1 a) from m_size (σ := σ) hr ha]
      refine GS.run [] 3 rfl ?_
      refine GS.cS oX12_in (c_inI (d + 2) (am_s1 (am_s1 σ 69 (upd (σ 69) 0 0)) 69 (upd (am_s1 σ 69 (upd (σ 69) 0 0) 69) 1 0)) i 0 (nI (r.2.1 a) - 1).toInt64 (¬ beyR (r.2.1 a) i 1) (by rw [l_m1 (by omega), show (0 : Int64).toInt = 0 from rfl]; unfold beyR; rw [show (1 : Int32).toInt = 1 from rfl]; omega)) rfl rfl rfl rfl (Nat.le_of_ble_eq_true rfl) (by omega) ?_
      refine GS.if_ne rfl (fun c50 => ?_) (fun c50 => ?_)
      · have h2 := am_bT c50
        have h3 : (1 : Int32).toInt = 1 := rfl
        obtain ⟨m, hm, rfl⟩ := nat_of (i := i) (m := 40) (by unfold beyR at h2; omega) (by unfold beyR at h2; omega)
        have em : (nI m).toInt = m := nI_toInt (by omega)
        have hm2 : m < r.2.1 a := by unfold beyR at h2; omega
        refine GS.run [] 10 rfl ?_
        refine GS.ald (a) rfl rfl (rfl) (by omega) ?_
        rw [show ((am_s1 (am_s1 σ 69 (upd (σ 69) 0 0)) 69 (upd (am_s1 σ 69 (upd (σ 69) 0 0) 69) 1 0)) : am_S) 70 a = r.1 a from m_lane (σ := σ) hr ha]
        refine GS.if_ne rfl (fun c75 => ?_) (fun c75 => ?_)
        · refine GS.run [] 3 rfl ?_
          refine GS.ald (a) rfl rfl (rfl) (by omega) ?_
          rw [show ((am_s1 (am_s1 σ 69 (upd (σ 69) 0 0)) 69 (upd (am_s1 σ 69 (upd (σ 69) 0 0) 69) 1 0)) : am_S) 70 a = r.1 a from m_lane (σ := σ) hr ha]
          refine GS.run [] 1 rfl ?_
          refine GS.icmp_ne rfl (fun c90 => ?_) (fun c90 => ?_)
          · refine GS.run [] 1 rfl ?_
            refine GS.ast (40 * a + m) rfl rfl (he_i) (by omega) ?_
            refine GS.run [] 7 rfl ?_
            refine GS.ald (40 * a + m) rfl rfl (he_i) (by omega) ?_
            refine GS.iret rfl rfl (rfl) ?_
            first
              | (have hl : low (r.1 a) v = v.toInt8.toInt32 := by unfold low; rw [if_pos c75])
              | (have hl : low (r.1 a) v = v.toInt16.toInt32 := by unfold low; rw [if_neg c75, if_pos c90])
              | (have hl : low (r.1 a) v = v := by unfold low; rw [if_neg c75, if_neg c90])
            rw [show qSet r f (nI a) (nI m) v = (low (r.1 a) v, rStore r a m (low (r.1 a) v), 0) by unfold qSet; rw [if_pos g1, ec, if_neg h1, if_neg h2, cn_nI (by omega)], hl]
            exact ⟨congrArg (fun z => some (Value.int z)) (upd_eq _ _ _), rows_store hr rfl rfl rfl, rfl, ((sameM.rf.fld (by decide)).fld (by decide)).cell (by decide) (by decide)⟩
          · refine GS.run [] 3 rfl ?_
            refine GS.ast (40 * a + m) rfl rfl (he_i) (by omega) ?_
            refine GS.run [] 7 rfl ?_
            refine GS.ald (40 * a + m) rfl rfl (he_i) (by omega) ?_
            refine GS.iret rfl rfl (rfl) ?_
            first
              | (have hl : low (r.1 a) v = v.toInt8.toInt32 := by unfold low; rw [if_pos c75])
              | (have hl : low (r.1 a) v = v.toInt16.toInt32 := by unfold low; rw [if_neg c75, if_pos c90])
              | (have hl : low (r.1 a) v = v := by unfold low; rw [if_neg c75, if_neg c90])
            rw [show qSet r f (nI a) (nI m) v = (low (r.1 a) v, rStore r a m (low (r.1 a) v), 0) by unfold qSet; rw [if_pos g1, ec, if_neg h1, if_neg h2, cn_nI (by omega)], hl]
            exact ⟨congrArg (fun z => some (Value.int z)) (upd_eq _ _ _), rows_store hr rfl rfl rfl, rfl, ((sameM.rf.fld (by decide)).fld (by decide)).cell (by decide) (by decide)⟩
        · refine GS.run [] 3 rfl ?_
          refine GS.ast (40 * a + m) rfl rfl (he_i) (by omega) ?_
          refine GS.run [] 7 rfl ?_
          refine GS.ald (40 * a + m) rfl rfl (he_i) (by omega) ?_
          refine GS.iret rfl rfl (rfl) ?_
          first
            | (have hl : low (r.1 a) v = v.toInt8.toInt32 := by unfold low; rw [if_pos c75])
            | (have hl : low (r.1 a) v = v.toInt16.toInt32 := by unfold low; rw [if_neg c75, if_pos c90])
            | (have hl : low (r.1 a) v = v := by unfold low; rw [if_neg c75, if_neg c90])
          rw [show qSet r f (nI a) (nI m) v = (low (r.1 a) v, rStore r a m (low (r.1 a) v), 0) by unfold qSet; rw [if_pos g1, ec, if_neg h1, if_neg h2, cn_nI (by omega)], hl]
          exact ⟨congrArg (fun z => some (Value.int z)) (upd_eq _ _ _), rows_store hr rfl rfl rfl, rfl, ((sameM.rf.fld (by decide)).fld (by decide)).cell (by decide) (by decide)⟩
      · have h2 : beyR (r.2.1 a) i 1 := Decidable.not_not.mp (am_b0.mp c50)
        refine GS.run [] 2 rfl ?_
        refine GS.cV oX12_finding (c_finding (d + 2) (am_s1 (am_s1 σ 69 (upd (σ 69) 0 0)) 69 (upd (am_s1 σ 69 (upd (σ 69) 0 0) 69) 1 0)) 2) rfl rfl rfl rfl rfl rfl rfl (Nat.le_of_ble_eq_true rfl) (by omega) ?_
        refine GS.iret rfl rfl (rfl) ?_
        rw [show qSet r f (nI a) i v = (-1000012, r, 2) by (unfold qSet; rw [if_pos g1, ec, if_neg h1, if_pos h2])]
        exact ⟨rfl, hr.kept rfl rfl rfl, rfl, (((sameM.rf.fld (by decide)).fld (by decide)).fld (by decide))⟩
    · have h1 : (r.1 a).toInt < 0 := by rw [tI_le, tI_0] at c26; omega
      refine GS.run [] 2 rfl ?_
      refine GS.cV oX12_finding (c_finding (d + 2) (am_s1 (am_s1 σ 69 (upd (σ 69) 0 0)) 69 (upd (am_s1 σ 69 (upd (σ 69) 0 0) 69) 1 0)) 1) rfl rfl rfl rfl rfl rfl rfl (Nat.le_of_ble_eq_true rfl) (by omega) ?_
      refine GS.iret rfl rfl (rfl) ?_
      rw [show qSet r f (nI a) i v = (-1000011, r, 1) by (unfold qSet; rw [if_pos g1, ec, if_pos h1])]
      exact ⟨rfl, hr.kept rfl rfl rfl, rfl, (((sameM.rf.fld (by decide)).fld (by decide)).fld (by decide))⟩
  · have hbad : ¬ okr k := am_b0.mp c9
    refine GS.run [] 1 rfl ?_
    refine GS.iret rfl rfl (rfl) ?_
    rw [show qSet r f k i v = (-1000001, r, f) from if_neg hbad]
    exact ⟨rfl, hr.kept rfl rfl rfl, hf, sameM.rf.fld (by decide)⟩
theorem p_drop_m (d : Nat) (σ : am_S) (r : Rw) (f : Int32) (k : Int32) (hr : rowsV 70 71 72 σ r) (hwf : wfR r) (hf : σ 69 1 = f) : CallS mX12_drop (d + 3) [.ref 69, .int k] σ (fun x σ' => x = some (.int (qDrop r f k).1) ∧ rowsV 70 71 72 σ' (qDrop r f k).2.1 ∧ σ' 69 1 = (qDrop r f k).2.2 ∧ sameM [70, 71, 72] [0, 1] σ σ') := by
  refine CallS.of kX12_drop pX12_drop [.ref 69, .int k] rfl (Nat.le_of_ble_eq_true rfl) ?_
  refine GS.run [] 4 rfl ?_
  refine GS.cS oX12_isRow (c_isRow (d + 1) (am_s1 σ 69 (upd (σ 69) 0 0)) k) rfl rfl rfl rfl (Nat.le_of_ble_eq_true rfl) (by omega) ?_
  refine GS.if_ne rfl (fun c9 => ?_) (fun c9 => ?_)
  · have g1 := am_bT c9
    obtain ⟨a, ha, rfl⟩ := okr_nat g1
    have ec : cn (nI a) = a := cn_nI (by omega)
    refine GS.run [] 6 rfl ?_
    refine GS.ald (a) rfl rfl (rfl) (by omega) ?_
    rw [show ((am_s1 (am_s1 σ 69 (upd (σ 69) 0 0)) 69 (upd (am_s1 σ 69 (upd (σ 69) 0 0) 69) 1 0)) : am_S) 70 a = r.1 a from m_lane (σ := σ) hr ha]
    refine GS.if_ge rfl (fun c26 => ?_) (fun c26 => ?_)
    · have h1 : ¬ (r.1 a).toInt < 0 := by rw [tI_le, tI_0] at c26; omega
      refine GS.run [] 4 rfl ?_
      refine GS.ast (a) rfl rfl (rfl) (by omega) ?_
      refine GS.run [] 3 rfl ?_
      refine GS.ald (a) rfl rfl (rfl) (by omega) ?_
      rw [show (am_s1 (am_s1 (am_s1 σ 69 (upd (σ 69) 0 0)) 69 (upd (am_s1 σ 69 (upd (σ 69) 0 0) 69) 1 0)) 70 (upd ((am_s1 (am_s1 σ 69 (upd (σ 69) 0 0)) 69 (upd (am_s1 σ 69 (upd (σ 69) 0 0) 69) 1 0)) 70) a (-1)) : am_S) 71 a = nI (r.2.1 a) from m_size (σ := σ) hr ha]
      refine GS.iret rfl rfl (rfl) ?_
      rw [show qDrop r f (nI a) = (nI (r.2.1 a), rDrop r a, 0) by unfold qDrop; rw [if_pos g1, ec, if_neg h1]]
      exact ⟨rfl, rows_drop hr rfl rfl rfl, rfl, ((sameM.rf.fld (by decide)).fld (by decide)).cell (by decide) (by decide)⟩
    · have h1 : (r.1 a).toInt < 0 := by rw [tI_le, tI_0] at c26; omega
      refine GS.run [] 2 rfl ?_
      refine GS.cV oX12_finding (c_finding (d + 2) (am_s1 (am_s1 σ 69 (upd (σ 69) 0 0)) 69 (upd (am_s1 σ 69 (upd (σ 69) 0 0) 69) 1 0)) 1) rfl rfl rfl rfl rfl rfl rfl (Nat.le_of_ble_eq_true rfl) (by omega) ?_
      refine GS.iret rfl rfl (rfl) ?_
      rw [show qDrop r f (nI a) = (-1000011, r, 1) by (unfold qDrop; rw [if_pos g1, ec, if_pos h1])]
      exact ⟨rfl, hr.kept rfl rfl rfl, rfl, (((sameM.rf.fld (by decide)).fld (by decide)).fld (by decide))⟩
  · have hbad : ¬ okr k := am_b0.mp c9
    refine GS.run [] 1 rfl ?_
    refine GS.iret rfl rfl (rfl) ?_
    rw [show qDrop r f k = (-1000001, r, f) from if_neg hbad]
    exact ⟨rfl, hr.kept rfl rfl rfl, hf, sameM.rf.fld (by decide)⟩
theorem p_copy_m (d : Nat) (σ : am_S) (r : Rw) (f : Int32) (a i b j n : Int32) (hr : rowsV 70 71 72 σ r) (hwf : wfR r) (hf : σ 69 1 = f) : CallS mX12_copy (d + 3) [.ref 69, .int a, .int i, .int b, .int j, .int n] σ (fun x σ' => x = some (.int (qCopy r f a i b j n).1) ∧ rowsV 70 71 72 σ' (qCopy r f a i b j n).2.1 ∧ σ' 69 1 = (qCopy r f a i b j n).2.2 ∧ sameM [70, 71, 72] [0, 1] σ σ') := by
  refine CallS.of kX12_copy pX12_copy [.ref 69, .int a, .int i, .int b, .int j, .int n, .retAddr 0, .retAddr 0, .retAddr 0] rfl (Nat.le_of_ble_eq_true rfl) ?_
  refine GS.run [] 4 rfl ?_
  refine GS.cS oX12_isRow (c_isRow (d + 1) (am_s1 σ 69 (upd (σ 69) 0 0)) a) rfl rfl rfl rfl (Nat.le_of_ble_eq_true rfl) (by omega) ?_
  refine GS.if_eq rfl (fun c9 => ?_) (fun c9 => ?_)
  · have hbad : ¬ (okr a ∧ okr b) := fun h => am_b0.mp c9 h.1
    refine GS.run [] 1 rfl ?_
    refine GS.iret rfl rfl (rfl) ?_
    rw [show qCopy r f a i b j n = (-1000001, r, f) from if_neg hbad]
    exact ⟨rfl, hr.kept rfl rfl rfl, hf, sameM.rf.fld (by decide)⟩
  · have g1 := am_bT c9
    refine GS.run [] 1 rfl ?_
    refine GS.cS oX12_isRow (c_isRow (d + 1) (am_s1 σ 69 (upd (σ 69) 0 0)) b) rfl rfl rfl rfl (Nat.le_of_ble_eq_true rfl) (by omega) ?_
    refine GS.if_ne rfl (fun c16 => ?_) (fun c16 => ?_)
    · have g2 := am_bT c16
      obtain ⟨x, hx, rfl⟩ := okr_nat g1
      obtain ⟨y, hy, rfl⟩ := okr_nat g2
      have ex : cn (nI x) = x := cn_nI (by omega)
      have ey : cn (nI y) = y := cn_nI (by omega)
      have s1 := (hwf x hx).2
      have s2 := (hwf y hy).2
      refine GS.run [] 6 rfl ?_
      refine GS.ald (x) rfl rfl (rfl) (by omega) ?_
      rw [show ((am_s1 (am_s1 σ 69 (upd (σ 69) 0 0)) 69 (upd (am_s1 σ 69 (upd (σ 69) 0 0) 69) 1 0)) : am_S) 70 x = r.1 x from m_lane (σ := σ) hr hx]
      refine GS.if_lt rfl (fun c33 => ?_) (fun c33 => ?_)
      · have h1 : (r.1 x).toInt < 0 ∨ (r.1 y).toInt < 0 := Or.inl (by rw [tI_lt, tI_0] at c33; omega)
        refine GS.run [] 2 rfl ?_
        refine GS.cV oX12_finding (c_finding (d + 2) (am_s1 (am_s1 σ 69 (upd (σ 69) 0 0)) 69 (upd (am_s1 σ 69 (upd (σ 69) 0 0) 69) 1 0)) 1) rfl rfl rfl rfl rfl rfl rfl (Nat.le_of_ble_eq_true rfl) (by omega) ?_
        refine GS.iret rfl rfl (rfl) ?_
        rw [show qCopy r f (nI x) i (nI y) j n = (-1000011, r, 1) by (unfold qCopy; rw [if_pos ⟨g1, g2⟩, ex, ey, if_pos h1])]
        exact ⟨rfl, hr.kept rfl rfl rfl, rfl, (((sameM.rf.fld (by decide)).fld (by decide)).fld (by decide))⟩
      · have h1a : ¬ (r.1 x).toInt < 0 := by rw [tI_lt, tI_0] at c33; omega
        refine GS.run [] 3 rfl ?_
        refine GS.ald (y) rfl rfl (rfl) (by omega) ?_
        rw [show ((am_s1 (am_s1 σ 69 (upd (σ 69) 0 0)) 69 (upd (am_s1 σ 69 (upd (σ 69) 0 0) 69) 1 0)) : am_S) 70 y = r.1 y from m_lane (σ := σ) hr hy]
        refine GS.if_ge rfl (fun c42 => ?_) (fun c42 => ?_)
        · have h1 : ¬ ((r.1 x).toInt < 0 ∨ (r.1 y).toInt < 0) := by rw [tI_le, tI_0] at c42; omega
          refine GS.run [] 3 rfl ?_
          refine GS.ald (x) rfl rfl (rfl) (by omega) ?_
          rw [show ((am_s1 (am_s1 σ 69 (upd (σ 69) 0 0)) 69 (upd (am_s1 σ 69 (upd (σ 69) 0 0) 69) 1 0)) : am_S) 70 x = r.1 x from m_lane (σ := σ) hr hx]
          refine GS.run [] 3 rfl ?_
          refine GS.ald (y) rfl rfl (rfl) (by omega) ?_
          rw [show ((am_s1 (am_s1 σ 69 (upd (σ 69) 0 0)) 69 (upd (am_s1 σ 69 (upd (σ 69) 0 0) 69) 1 0)) : am_S) 70 y = r.1 y from m_lane (σ := σ) hr hy]
          refine GS.icmp_eq rfl (fun c63 => ?_) (fun c63 => ?_)
          · have h2 : ¬ r.1 x ≠ r.1 y := fun z => z c63
            refine GS.run [] 1 rfl ?_
            refine GS.if_lt rfl (fun c73 => ?_) (fun c73 => ?_)
            · have h3 : beyR (r.2.1 x) i n ∨ beyR (r.2.1 y) j n := Or.inl (Or.inl (by rw [tI_lt, tI_0] at c73; exact c73))
              refine GS.run [] 2 rfl ?_
              refine GS.cV oX12_finding (c_finding (d + 2) (am_s1 (am_s1 σ 69 (upd (σ 69) 0 0)) 69 (upd (am_s1 σ 69 (upd (σ 69) 0 0) 69) 1 0)) 2) rfl rfl rfl rfl rfl rfl rfl (Nat.le_of_ble_eq_true rfl) (by omega) ?_
              refine GS.iret rfl rfl (rfl) ?_
              rw [show qCopy r f (nI x) i (nI y) j n = (-1000012, r, 2) by (unfold qCopy; rw [if_pos ⟨g1, g2⟩, ex, ey, if_neg h1, if_neg h2, if_pos h3])]
              exact ⟨rfl, hr.kept rfl rfl rfl, rfl, (((sameM.rf.fld (by decide)).fld (by decide)).fld (by decide))⟩
            · have k1 : ¬ i.toInt < 0 := by rw [tI_lt, tI_0] at c73; exact c73
              refine GS.run [] 1 rfl ?_
              refine GS.if_lt rfl (fun c78 => ?_) (fun c78 => ?_)
              · have h3 : beyR (r.2.1 x) i n ∨ beyR (r.2.1 y) j n := Or.inr (Or.inl (by rw [tI_lt, tI_0] at c78; exact c78))
                refine GS.run [] 2 rfl ?_
                refine GS.cV oX12_finding (c_finding (d + 2) (am_s1 (am_s1 σ 69 (upd (σ 69) 0 0)) 69 (upd (am_s1 σ 69 (upd (σ 69) 0 0) 69) 1 0)) 2) rfl rfl rfl rfl rfl rfl rfl (Nat.le_of_ble_eq_true rfl) (by omega) ?_
                refine GS.iret rfl rfl (rfl) ?_
                rw [show qCopy r f (nI x) i (nI y) j n = (-1000012, r, 2) by (unfold qCopy; rw [if_pos ⟨g1, g2⟩, ex, ey, if_neg h1, if_neg h2, if_pos h3])]
                exact ⟨rfl, hr.kept rfl rfl rfl, rfl, (((sameM.rf.fld (by decide)).fld (by decide)).fld (by decide))⟩
              · have k2 : ¬ j.toInt < 0 := by rw [tI_lt, tI_0] at c78; exact c78
                refine GS.run [] 1 rfl ?_
                refine GS.if_lt rfl (fun c83 => ?_) (fun c83 => ?_)
                · have h3 : beyR (r.2.1 x) i n ∨ beyR (r.2.1 y) j n := Or.inl (Or.inr (Or.inl (by rw [tI_lt, tI_0] at c83; exact c83)))
                  refine GS.run [] 2 rfl ?_
                  refine GS.cV oX12_finding (c_finding (d + 2) (am_s1 (am_s1 σ 69 (upd (σ 69) 0 0)) 69 (upd (am_s1 σ 69 (upd (σ 69) 0 0) 69) 1 0)) 2) rfl rfl rfl rfl rfl rfl rfl (Nat.le_of_ble_eq_true rfl) (by omega) ?_
                  refine GS.iret rfl rfl (rfl) ?_
                  rw [show qCopy r f (nI x) i (nI y) j n = (-1000012, r, 2) by (unfold qCopy; rw [if_pos ⟨g1, g2⟩, ex, ey, if_neg h1, if_neg h2, if_pos h3])]
                  exact ⟨rfl, hr.kept rfl rfl rfl, rfl, (((sameM.rf.fld (by decide)).fld (by decide)).fld (by decide))⟩
                · have k3 : ¬ n.toInt < 0 := by rw [tI_lt, tI_0] at c83; exact c83
                  refine GS.run [] 8 rfl ?_
                  refine GS.ald (x) rfl rfl (rfl) (by omega) ?_
                  rw [show ((am_s1 (am_s1 σ 69 (upd (σ 69) 0 0)) 69 (upd (am_s1 σ 69 (upd (σ 69) 0 0) 69) 1 0)) : am_S) 71 x = nI (r.2.1 x) from m_size (σ := σ) hr hx]
                  refine GS.run [] 2 rfl ?_
                  refine GS.if_gt rfl (fun c100 => ?_) (fun c100 => ?_)
                  · have k4 : ¬ (i.toInt64 + n.toInt64 ≤ (nI (r.2.1 x)).toInt64) := fun z => absurd ((lg_cmp_le _ _).mpr z) (Int32.not_le.mpr c100)
                    rw [Int64.le_iff_toInt_le, l_add, Int32.toInt_toInt64, nI_toInt (by omega)] at k4
                    have h3 : beyR (r.2.1 x) i n ∨ beyR (r.2.1 y) j n := Or.inl (Or.inr (Or.inr (by omega)))
                    refine GS.run [] 2 rfl ?_
                    refine GS.cV oX12_finding (c_finding (d + 2) (am_s1 (am_s1 σ 69 (upd (σ 69) 0 0)) 69 (upd (am_s1 σ 69 (upd (σ 69) 0 0) 69) 1 0)) 2) rfl rfl rfl rfl rfl rfl rfl (Nat.le_of_ble_eq_true rfl) (by omega) ?_
                    refine GS.iret rfl rfl (rfl) ?_
                    rw [show qCopy r f (nI x) i (nI y) j n = (-1000012, r, 2) by (unfold qCopy; rw [if_pos ⟨g1, g2⟩, ex, ey, if_neg h1, if_neg h2, if_pos h3])]
                    exact ⟨rfl, hr.kept rfl rfl rfl, rfl, (((sameM.rf.fld (by decide)).fld (by decide)).fld (by decide))⟩
                  · have k4 := (lg_cmp_le _ _).mp (Int32.not_lt.mp c100)
                    rw [Int64.le_iff_toInt_le, l_add, Int32.toInt_toInt64, nI_toInt (by omega)] at k4
                    refine GS.run [] 8 rfl ?_
                    refine GS.ald (y) rfl rfl (rfl) (by omega) ?_
                    rw [show ((am_s1 (am_s1 σ 69 (upd (σ 69) 0 0)) 69 (upd (am_s1 σ 69 (upd (σ 69) 0 0) 69) 1 0)) : am_S) 71 y = nI (r.2.1 y) from m_size (σ := σ) hr hy]
                    refine GS.run [] 2 rfl ?_
                    refine GS.if_le rfl (fun c118 => ?_) (fun c118 => ?_)
                    · have k5 := (lg_cmp_le _ _).mp c118
                      rw [Int64.le_iff_toInt_le, l_add, Int32.toInt_toInt64, nI_toInt (by omega)] at k5
                      have h3 : ¬ (beyR (r.2.1 x) i n ∨ beyR (r.2.1 y) j n) := by unfold beyR; omega
                      obtain ⟨i0, hi0, rfl⟩ := nat_of (i := i) (m := 40) (by omega) (by omega)
                      obtain ⟨j0, hj0, rfl⟩ := nat_of (i := j) (m := 40) (by omega) (by omega)
                      obtain ⟨n0, hn0, rfl⟩ := nat_of (i := n) (m := 40) (by omega) (by omega)
                      rw [nI_toInt (by omega), nI_toInt (by omega)] at k4 k5
                      rw [show qCopy r f (nI x) (nI i0) (nI y) (nI j0) (nI n0) = (nI n0, rCopy r x i0 y j0 n0, 0) by unfold qCopy; rw [if_pos ⟨g1, g2⟩, ex, ey, if_neg h1, if_neg h2, if_neg h3, cn_nI (by omega), cn_nI (by omega), cn_nI (by omega)]]
                      refine GS.run [] 2 rfl ?_
                      refine GS.icmp_lt rfl (fun c130 => ?_) (fun c130 => ?_)
                      · have hji : ¬ j0 ≤ i0 := fun z => absurd ((nI_leI (by omega) (by omega)).mpr z) (Int32.not_le.mpr c130)
                        have hd : 40 * x + i0 ≤ 40 * y + j0 ∨ 40 * y + j0 + n0 ≤ 40 * x + i0 := by rcases Nat.lt_trichotomy x y with h | h | h <;> omega
                        refine GS.run [] 4 rfl ?_
                        have loop143 : ∀ (fu : Nat) (s : Nat) (hs : s ≤ n0), n0 - s = fu → GS none mX12_copy (d + 3) (fun x_1 σ' => x_1 = some (.int (nI n0)) ∧ rowsV 70 71 72 σ' (rCopy r x i0 y j0 n0) ∧ σ' 69 1 = 0 ∧ sameM [70, 71, 72] [0, 1] σ σ') 143 [.ref 69, .int (nI x), .int (nI i0), .int (nI y), .int (nI j0), .int (nI n0), .int (bI false), .int (nI s), .retAddr 0] [] (am_s1 (am_s1 (am_s1 σ 69 (upd (σ 69) 0 0)) 69 (upd (am_s1 σ 69 (upd (σ 69) 0 0) 69) 1 0)) 72 (mvF false (σ 72) (40 * x + i0) (40 * y + j0) n0 s)) := by
                          intro fu
                          induction fu using Nat.strongRecOn with
                          | ind fu ih143 =>
                            intro s hs hfu
                            refine GS.run [] 2 rfl ?_
                            refine GS.icmp_ge rfl (fun c147 => ?_) (fun c147 => ?_)
                            · have e : n0 = s := by have := (nI_leI (by omega) (by omega)).mp c147; omega
                              refine GS.run [] 1 rfl ?_
                              refine GS.iret rfl rfl (rfl) ?_
                              subst e
                              exact ⟨rfl, rows_copy hr hwf rfl rfl (mvF_n (up := false)) hx hy (by omega) (by omega), rfl, ((sameM.rf.fld (by decide)).fld (by decide)).cell (by decide) (by decide)⟩
                            · have hlt : s < n0 := (nI_gtI (by omega) (by omega)).mp c147
                              refine GS.run [] 1 rfl ?_
                              refine GS.if_eq rfl (fun c152 => ?_) (fun q => absurd (rfl) q)
                              refine GS.run [] 24 rfl ?_
                              rw [show nI n0 - 1 - nI s = nI (mvK false n0 s) by rw [il_1, pk_sub (by omega), pk_sub (by omega)]; rfl]
                              refine GS.ald (40 * x + i0 + mvK false n0 s) rfl rfl (he_ii) (by simp only [mvK]; omega) ?_
                              refine GS.ast (40 * y + j0 + mvK false n0 s) rfl rfl (he_ii) (by simp only [mvK]; omega) ?_
                              refine GS.run [] 2 rfl ?_
                              rw [nI_1, am_s1_s1, am_s1_eq _ 72, mvF_s (up := false) hlt (fun z => by cases z) (fun _ => hd)]
                              exact GS.weak (by exact ⟨Or.inr rfl, Or.inr rfl, Or.inr rfl, Or.inr rfl, Or.inr rfl, Or.inr rfl, Or.inr rfl, Or.inr rfl, Or.inl rfl, trivial⟩) (ih143 _ (by omega) (s + 1) (by omega) rfl)
                        have e0 := loop143 _ 0 (Nat.zero_le _) rfl
                        rw [mvF_0] at e0
                        have e1 : am_s1 (am_s1 (am_s1 σ 69 (upd (σ 69) 0 0)) 69 (upd (am_s1 σ 69 (upd (σ 69) 0 0) 69) 1 0)) 72 (σ 72) = (am_s1 (am_s1 σ 69 (upd (σ 69) 0 0)) 69 (upd (am_s1 σ 69 (upd (σ 69) 0 0) 69) 1 0)) := am_s1_self _ 72
                        rw [e1] at e0
                        exact e0
                      · have hji : j0 ≤ i0 := (nI_leI (by omega) (by omega)).mp (Int32.not_lt.mp c130)
                        have hd : 40 * y + j0 ≤ 40 * x + i0 ∨ 40 * x + i0 + n0 ≤ 40 * y + j0 := by rcases Nat.lt_trichotomy x y with h | h | h <;> omega
                        refine GS.run [] 5 rfl ?_
                        have loop143 : ∀ (fu : Nat) (s : Nat) (hs : s ≤ n0), n0 - s = fu → GS none mX12_copy (d + 3) (fun x_1 σ' => x_1 = some (.int (nI n0)) ∧ rowsV 70 71 72 σ' (rCopy r x i0 y j0 n0) ∧ σ' 69 1 = 0 ∧ sameM [70, 71, 72] [0, 1] σ σ') 143 [.ref 69, .int (nI x), .int (nI i0), .int (nI y), .int (nI j0), .int (nI n0), .int (bI true), .int (nI s), .retAddr 0] [] (am_s1 (am_s1 (am_s1 σ 69 (upd (σ 69) 0 0)) 69 (upd (am_s1 σ 69 (upd (σ 69) 0 0) 69) 1 0)) 72 (mvF true (σ 72) (40 * x + i0) (40 * y + j0) n0 s)) := by
                          intro fu
                          induction fu using Nat.strongRecOn with
                          | ind fu ih143 =>
                            intro s hs hfu
                            refine GS.run [] 2 rfl ?_
                            refine GS.icmp_ge rfl (fun c147 => ?_) (fun c147 => ?_)
                            · have e : n0 = s := by have := (nI_leI (by omega) (by omega)).mp c147; omega
                              refine GS.run [] 1 rfl ?_
                              refine GS.iret rfl rfl (rfl) ?_
                              subst e
                              exact ⟨rfl, rows_copy hr hwf rfl rfl (mvF_n (up := true)) hx hy (by omega) (by omega), rfl, ((sameM.rf.fld (by decide)).fld (by decide)).cell (by decide) (by decide)⟩
                            · have hlt : s < n0 := (nI_gtI (by omega) (by omega)).mp c147
                              refine GS.run [] 1 rfl ?_
                              refine GS.if_eq rfl (fun q => absurd q (by decide)) (fun c152 => ?_)
                              refine GS.run [] 21 rfl ?_
                              skip
                              refine GS.ald (40 * x + i0 + mvK true n0 s) rfl rfl (he_ii) (by simp only [mvK]; omega) ?_
                              refine GS.ast (40 * y + j0 + mvK true n0 s) rfl rfl (he_ii) (by simp only [mvK]; omega) ?_
                              refine GS.run [] 2 rfl ?_
                              rw [nI_1, am_s1_s1, am_s1_eq _ 72, mvF_s (up := true) hlt (fun _ => hd) (fun z => by cases z)]
                              exact GS.weak (by exact ⟨Or.inr rfl, Or.inr rfl, Or.inr rfl, Or.inr rfl, Or.inr rfl, Or.inr rfl, Or.inr rfl, Or.inr rfl, Or.inl rfl, trivial⟩) (ih143 _ (by omega) (s + 1) (by omega) rfl)
                        have e0 := loop143 _ 0 (Nat.zero_le _) rfl
                        rw [mvF_0] at e0
                        have e1 : am_s1 (am_s1 (am_s1 σ 69 (upd (σ 69) 0 0)) 69 (upd (am_s1 σ 69 (upd (σ 69) 0 0) 69) 1 0)) 72 (σ 72) = (am_s1 (am_s1 σ 69 (upd (σ 69) 0 0)) 69 (upd (am_s1 σ 69 (upd (σ 69) 0 0) 69) 1 0)) := am_s1_self _ 72
                        rw [e1] at e0
                        exact e0
                    · have k5 : ¬ (j.toInt64 + n.toInt64 ≤ (nI (r.2.1 y)).toInt64) := fun z => c118 ((lg_cmp_le _ _).mpr z)
                      rw [Int64.le_iff_toInt_le, l_add, Int32.toInt_toInt64, nI_toInt (by omega)] at k5
                      have h3 : beyR (r.2.1 x) i n ∨ beyR (r.2.1 y) j n := Or.inr (Or.inr (Or.inr (by omega)))
                      refine GS.run [] 2 rfl ?_
                      refine GS.cV oX12_finding (c_finding (d + 2) (am_s1 (am_s1 σ 69 (upd (σ 69) 0 0)) 69 (upd (am_s1 σ 69 (upd (σ 69) 0 0) 69) 1 0)) 2) rfl rfl rfl rfl rfl rfl rfl (Nat.le_of_ble_eq_true rfl) (by omega) ?_
                      refine GS.iret rfl rfl (rfl) ?_
                      rw [show qCopy r f (nI x) i (nI y) j n = (-1000012, r, 2) by (unfold qCopy; rw [if_pos ⟨g1, g2⟩, ex, ey, if_neg h1, if_neg h2, if_pos h3])]
                      exact ⟨rfl, hr.kept rfl rfl rfl, rfl, (((sameM.rf.fld (by decide)).fld (by decide)).fld (by decide))⟩
          · have h2 : r.1 x ≠ r.1 y := c63
            refine GS.run [] 2 rfl ?_
            refine GS.cV oX12_finding (c_finding (d + 2) (am_s1 (am_s1 σ 69 (upd (σ 69) 0 0)) 69 (upd (am_s1 σ 69 (upd (σ 69) 0 0) 69) 1 0)) 5) rfl rfl rfl rfl rfl rfl rfl (Nat.le_of_ble_eq_true rfl) (by omega) ?_
            refine GS.iret rfl rfl (rfl) ?_
            rw [show qCopy r f (nI x) i (nI y) j n = (-1000015, r, 5) by (unfold qCopy; rw [if_pos ⟨g1, g2⟩, ex, ey, if_neg h1, if_pos h2])]
            exact ⟨rfl, hr.kept rfl rfl rfl, rfl, (((sameM.rf.fld (by decide)).fld (by decide)).fld (by decide))⟩
        · have h1 : (r.1 x).toInt < 0 ∨ (r.1 y).toInt < 0 := Or.inr (by rw [tI_le, tI_0] at c42; omega)
          refine GS.run [] 2 rfl ?_
          refine GS.cV oX12_finding (c_finding (d + 2) (am_s1 (am_s1 σ 69 (upd (σ 69) 0 0)) 69 (upd (am_s1 σ 69 (upd (σ 69) 0 0) 69) 1 0)) 1) rfl rfl rfl rfl rfl rfl rfl (Nat.le_of_ble_eq_true rfl) (by omega) ?_
          refine GS.iret rfl rfl (rfl) ?_
          rw [show qCopy r f (nI x) i (nI y) j n = (-1000011, r, 1) by (unfold qCopy; rw [if_pos ⟨g1, g2⟩, ex, ey, if_pos h1])]
          exact ⟨rfl, hr.kept rfl rfl rfl, rfl, (((sameM.rf.fld (by decide)).fld (by decide)).fld (by decide))⟩
    · have hbad : ¬ (okr a ∧ okr b) := fun h => am_b0.mp c16 h.2
      refine GS.run [] 1 rfl ?_
      refine GS.iret rfl rfl (rfl) ?_
      rw [show qCopy r f a i b j n = (-1000001, r, f) from if_neg hbad]
      exact ⟨rfl, hr.kept rfl rfl rfl, hf, sameM.rf.fld (by decide)⟩
