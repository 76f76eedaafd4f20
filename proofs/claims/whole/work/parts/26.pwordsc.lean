theorem wf_ySet {r : Rw} {k i n : Nat} (h : allW r k i n) (hn : n ≤ 12) : wfS (ySet r k i n) := ⟨hn, fun j hj => (isWI_n (h j hj)).1⟩
theorem p_words_c (d : Nat) (σ : am_S) (r : Rw) (s : Sy) (f k i n : Int32) (hr : rowsV 2 3 4 σ r) (hwf : wfR r) (hy : sayC 24 σ s) (hys : wfS s) (hf : σ 0 13 = f) : CallS mX11_words (d + 5) [.ref 0, .int k, .int i, .int n] σ (fun x σ' => x = some (.int (qWords r s f k i n).1) ∧ sayC 24 σ' (qWords r s f k i n).2.1 ∧ σ' 0 13 = (qWords r s f k i n).2.2 ∧ same [0, 24, 25, 26, 27] σ σ') := by
  refine CallS.of kX11_words pX11_words [.ref 0, .int k, .int i, .int n, .retAddr 0, .retAddr 0] rfl (Nat.le_of_ble_eq_true rfl) ?_
  refine GS.run [] 3 rfl ?_
  refine GS.cV oX4_has (c_rhas (d + 3) σ k) rfl rfl rfl rfl rfl rfl rfl (Nat.le_of_ble_eq_true rfl) (by omega) ?_
  refine GS.if_eq rfl (fun c8 => ?_) (fun c8 => ?_)
  · have hbad : ¬ (okr k ∧ okn n 13) := fun h => am_b0.mp c8 h.1
    refine GS.run [] 1 rfl ?_
    refine GS.iret rfl rfl (rfl) ?_
    have hq : qWords r s f k i n = (-1000001, s, f) := by unfold qWords; rw [if_neg hbad]
    rw [hq]
    exact ⟨rfl, hy, hf, same.rf⟩
  · have g1 : okr k := am_bT c8
    refine GS.run [] 1 rfl ?_
    refine GS.if_lt rfl (fun c12 => ?_) (fun c12 => ?_)
    · have hbad : ¬ (okr k ∧ okn n 13) := fun h => by have := h.2.1; rw [tI_lt, tI_0] at c12; omega
      refine GS.run [] 1 rfl ?_
      refine GS.iret rfl rfl (rfl) ?_
      have hq : qWords r s f k i n = (-1000001, s, f) := by unfold qWords; rw [if_neg hbad]
      rw [hq]
      exact ⟨rfl, hy, hf, same.rf⟩
    · have g2 : 0 ≤ n.toInt := by rw [tI_lt, tI_0] at c12; omega
      refine GS.run [] 2 rfl ?_
      refine GS.icmp_le rfl (fun c18 => ?_) (fun c18 => ?_)
      · have g3 : okn n 13 := ⟨g2, by rw [tI_le, show (12 : Int32).toInt = 12 from rfl] at c18; omega⟩
        obtain ⟨a, ha, rfl⟩ := okr_nat g1
        obtain ⟨m, hm, rfl⟩ := okn_nat g3
        have ea : cn (nI a) = a := cn_nI (by omega)
        have em : cn (nI m) = m := cn_nI (by omega)
        have h40 := (hwf a ha).2
        refine GS.run [] 5 rfl ?_
        refine GS.cV oX4_findingAt (c_findAt (d + 1) σ r a i (nI m) hr hwf ha) rfl rfl rfl rfl rfl rfl rfl (Nat.le_of_ble_eq_true rfl) (by omega) ?_
        rcases (Decidable.em ((r.1 a).toInt < 0)).imp_right (fun h => And.intro h (Decidable.em (beyR (r.2.1 a) i (nI m)))) with k1 | ⟨k1, k2 | k2⟩
        · rw [if_pos k1]
          refine GS.run [] 2 rfl ?_
          refine GS.if_eq rfl (fun q => absurd q (by decide)) (fun c38 => ?_)
          refine GS.run [] 2 rfl ?_
          refine GS.cV oX11_found (c_found (d + 4) σ 1) rfl rfl rfl rfl rfl rfl rfl (Nat.le_of_ble_eq_true rfl) (by omega) ?_
          refine GS.iret rfl rfl (rfl) ?_
          have hq : qWords r s f (nI a) i (nI m) = (-1000011, s, 1) := by unfold qWords; rw [if_pos ⟨g1, g3⟩, ea, if_pos k1]
          rw [hq]
          exact ⟨rfl, hy.kept rfl rfl, rfl, same.rf.s1 (by decide)⟩
        · rw [if_neg k1, if_pos k2]
          refine GS.run [] 2 rfl ?_
          refine GS.if_eq rfl (fun q => absurd q (by decide)) (fun c38 => ?_)
          refine GS.run [] 2 rfl ?_
          refine GS.cV oX11_found (c_found (d + 4) σ 2) rfl rfl rfl rfl rfl rfl rfl (Nat.le_of_ble_eq_true rfl) (by omega) ?_
          refine GS.iret rfl rfl (rfl) ?_
          have hq : qWords r s f (nI a) i (nI m) = (-1000012, s, 2) := by unfold qWords; rw [if_pos ⟨g1, g3⟩, ea, if_neg k1, if_pos k2]
          rw [hq]
          exact ⟨rfl, hy.kept rfl rfl, rfl, same.rf.s1 (by decide)⟩
        · rw [if_neg k1, if_neg k2]
          refine GS.run [] 2 rfl ?_
          refine GS.if_eq rfl (fun c38 => ?_) (fun q => absurd (rfl) q)
          have h3 : (nI m).toInt = m := nI_toInt (by omega)
          obtain ⟨b, hb, rfl⟩ := nat_of (i := i) (m := 40) (by unfold beyR at k2; omega) (by unfold beyR at k2; omega)
          have eb : cn (nI b) = b := cn_nI (by omega)
          have hbm : b + m ≤ r.2.1 a := by unfold beyR at k2; rw [nI_toInt (by omega), nI_toInt (by omega)] at k2; omega
          have hq : qWords r s f (nI a) (nI b) (nI m) = if allW r a b m then (nI m, ySet r a b m, 0) else (-1000001, s, f) := by unfold qWords; rw [if_pos ⟨g1, g3⟩, ea, eb, em, if_neg k1, if_neg k2]
          refine GS.run [] 0 rfl ?_
          refine GS.run [] 2 rfl ?_
          refine GS.cV oX5_clear (c_sclear_26 (d + 4) σ) rfl rfl rfl rfl rfl rfl rfl (Nat.le_of_ble_eq_true rfl) (by omega) ?_
          refine GS.run [] 2 rfl ?_
          have loop58 : ∀ (fu : Nat) (j : Nat) (σ1 : am_S) (hj : j ≤ m) (e0 : σ1 26 0 = nI j) (e1 : ∀ x, x < j → isWI (r.2.2 (40 * a + (b + x))) ∧ σ1 27 x = r.2.2 (40 * a + (b + x))) (e2 : same [26, 27] σ σ1), m - j = fu → GS none mX11_words (d + 5) (fun x σ' => x = some (.int (qWords r s f (nI a) (nI b) (nI m)).1) ∧ sayC 24 σ' (qWords r s f (nI a) (nI b) (nI m)).2.1 ∧ σ' 0 13 = (qWords r s f (nI a) (nI b) (nI m)).2.2 ∧ same [0, 24, 25, 26, 27] σ σ') 58 [.ref 0, .int (nI a), .int (nI b), .int (nI m), .int 0, .int (nI j)] [] σ1 := by
            intro fu
            induction fu using Nat.strongRecOn with
            | ind fu ih58 =>
              intro j σ1 hj e0 e1 e2 hfu
              have hr1 : rowsV 2 3 4 σ1 r := hr.kept (e2 2 (by decide)) (e2 3 (by decide)) (e2 4 (by decide))
              refine GS.run [] 2 rfl ?_
              refine GS.icmp_ge rfl (fun c61 => ?_) (fun c61 => ?_)
              · have e : j = m := by have := (nI_leI (by omega) (by omega)).mp c61; omega
                subst e
                refine GS.run [] 4 rfl ?_
                refine GS.callV oX5_become (c_sbecome_24_26 (d + 3) σ1) rfl rfl rfl rfl rfl rfl rfl (Nat.le_of_ble_eq_true rfl) (by omega) (fun v103 σ103 hq103 => ?_)
                obtain ⟨rfl, s103, f0, f1⟩ := hq103
                refine GS.run [] 2 rfl ?_
                refine GS.cV oX11_fine (c_fine (d + 4) σ103 (nI j)) rfl rfl rfl rfl rfl rfl rfl (Nat.le_of_ble_eq_true rfl) (by omega) ?_
                refine GS.iret rfl rfl (rfl) ?_
                rw [hq, if_pos (fun x hx => (e1 x hx).1)]
                refine ⟨rfl, ⟨f0.trans e0, fun x hx => ?_⟩, rfl, ((e2.sub (by decide)).trans (s103.sub (by decide))).s1 (by decide)⟩
                have hx2 : x < j := hx
                exact (f1 x (by omega)).trans ((e1 x hx2).2.trans (isWI_n (e1 x hx2).1).2)
              · have hlt : j < m := (nI_gtI (by omega) (by omega)).mp c61
                refine GS.run [] 8 rfl ?_
                rw [nI_add]
                refine GS.cV oX4_item (c_item (d + 3) σ1 r a (b + j) hr1 hwf ha (by omega)) rfl rfl rfl rfl rfl rfl rfl (Nat.le_of_ble_eq_true rfl) (by omega) ?_
                refine GS.cV oX5_add (c_add (d + 3) σ1 j (r.2.2 (40 * a + (b + j))) e0 (by omega)) rfl rfl rfl rfl rfl rfl rfl (Nat.le_of_ble_eq_true rfl) (by omega) ?_
                refine GS.if_ne rfl (fun c83 => ?_) (fun c83 => ?_)
                · have g4 : isWI (r.2.2 (40 * a + (b + j))) := am_bT c83
                  refine GS.run [] 2 rfl ?_
                  rw [if_pos g4, nI_1]
                  refine ih58 _ (by omega) (j + 1) _ (by omega) rfl (fun x hx => ?_) ((e2.s1 (by decide)).s1 (by decide)) rfl
                  show _ ∧ upd (σ1 27) j _ x = _
                  by_cases h : x = j
                  · subst h; rw [upd_eq]; exact ⟨g4, rfl⟩
                  · rw [upd_ne _ _ h]; exact e1 x (by omega)
                · have g4 : ¬ isWI (r.2.2 (40 * a + (b + j))) := am_b0.mp c83
                  refine GS.run [] 1 rfl ?_
                  refine GS.iret rfl rfl (rfl) ?_
                  rw [if_neg g4, hq, if_neg (fun h : allW r a b m => g4 (h j hlt))]
                  exact ⟨rfl, hy.kept (e2 24 (by decide)) (e2 25 (by decide)), (congrFun (e2 0 (by decide)) 13).trans hf, e2.sub (by decide)⟩
          exact loop58 _ 0 _ (Nat.zero_le _) rfl (fun x hx => absurd hx (Nat.not_lt_zero _)) (same.rf.s1 (by decide)) rfl
      · have hbad : ¬ (okr k ∧ okn n 13) := fun h => by have := h.2.2; rw [tI_le, show (12 : Int32).toInt = 12 from rfl] at c18; omega
        refine GS.run [] 1 rfl ?_
        refine GS.iret rfl rfl (rfl) ?_
        have hq : qWords r s f k i n = (-1000001, s, f) := by unfold qWords; rw [if_neg hbad]
        rw [hq]
        exact ⟨rfl, hy, hf, same.rf⟩
