theorem c_steepest (d : Nat) (σ : am_S) (t : Tn) (c : Nat) (up : Bool) (ht : townC 10 σ t) (hw : wfT t) (hc : c < tN t) : CallS mX8_steepest (d + 2) [.ref 10, .int (nI c), .int (zI (way up))] σ (am_det (some (.int (stG t c (slope t c up)))) σ) := by
  refine CallS.of kX8_steepest pX8_steepest [.ref 10, .int (nI c), .int (zI (way up)), .retAddr 0, .retAddr 0, .retAddr 0, .retAddr 0, .retAddr 0] rfl (Nat.le_of_ble_eq_true rfl) ?_
  have h6 := (hw.2.2 c hc).2.2.2.1
  have h8 := hw.1
  refine GS.run [] 4 rfl ?_
  refine GS.cS oX11_at ((c_at (d + 1) σ 11 8 (nI (c)) rfl).eq (congrArg (fun z => some (Value.int z)) (v_ht ht hw (hc))) rfl) rfl rfl rfl rfl (Nat.le_of_ble_eq_true rfl) (by omega) ?_
  refine GS.run [] 6 rfl ?_
  have loop18 : ∀ (fu : Nat) (j : Nat) (hj : j ≤ tD t c), tD t c - j = fu → GS none mX8_steepest (d + 2) (am_det (some (.int (stG t c (slope t c up)))) σ) 18 [.ref 10, .int (nI c), .int (zI (way up)), .int (zI (way up) * nI (slF t c up j).1), .int (stG t c (slF t c up j).2), .int (nI j), .retAddr 0, .retAddr 0] [] σ := by
    intro fu
    induction fu using Nat.strongRecOn with
    | ind fu ih18 =>
      intro j hj hfu
      refine GS.run [] 4 rfl ?_
      refine GS.cS oX11_at ((c_at (d + 1) σ 14 8 (nI (c)) rfl).eq (congrArg (fun z => some (Value.int z)) (v_dg ht hw (hc))) rfl) rfl rfl rfl rfl (Nat.le_of_ble_eq_true rfl) (by omega) ?_
      refine GS.icmp_ge rfl (fun c28 => ?_) (fun c28 => ?_)
      · have e : tD t c = j := by have := (nI_leI (by omega) (by omega)).mp c28; omega
        refine GS.run [] 1 rfl ?_
        refine GS.iret rfl rfl (rfl) ?_
        subst e
        exact ⟨rfl, rfl⟩
      · have hlt : j < tD t c := (nI_gtI (by omega) (by omega)).mp c28
        have hn := (hw.2.2 c hc).2.2.2.2.1 j hlt
        have hb := slF_h (up := up) hw hc hj
        have hh := (hw.2.2 _ hn.1).1
        refine GS.run [] 7 rfl ?_
        refine GS.cS oX11_at ((c_at (d + 1) σ 15 48 (nI (c) * 6 + nI (j)) rfl).eq (congrArg (fun z => some (Value.int z)) (v_order ht hw (hc) (hlt))) rfl) rfl rfl rfl rfl (Nat.le_of_ble_eq_true rfl) (by omega) ?_
        refine GS.run [] 5 rfl ?_
        refine GS.cS oX11_at ((c_at (d + 1) σ 11 8 (nI (tB t c j)) rfl).eq (congrArg (fun z => some (Value.int z)) (v_ht ht hw (hn.1))) rfl) rfl rfl rfl rfl (Nat.le_of_ble_eq_true rfl) (by omega) ?_
        refine GS.run [] 4 rfl ?_
        refine GS.icmp_le rfl (fun c63 => ?_) (fun c63 => ?_)
        · have h1 := (way_le hh hb).mp c63
          refine GS.run [] 2 rfl ?_
          refine GS.icmp_ne rfl (fun c79 => ?_) (fun c79 => ?_)
          · have hs : slF t c up (j + 1) = slF t c up j := by
              have h2 : ¬ tH t (tB t c j) = (slF t c up j).1 := fun z => c79 ((way_eq hh hb).mpr z)
              rw [slF, if_neg h1, if_neg h2]
            refine GS.run [] 2 rfl ?_
            have ih := ih18 _ (by omega) (j + 1) (by omega) rfl
            rw [hs] at ih
            rw [nI_1]
            exact GS.weak (by exact ⟨Or.inr rfl, Or.inr rfl, Or.inr rfl, Or.inr rfl, Or.inr rfl, Or.inr rfl, Or.inl rfl, Or.inl rfl, trivial⟩) ih
          · have hs : slF t c up (j + 1) = ((slF t c up j).1, none) := by
              have h2 := (way_eq hh hb).mp c79
              rw [slF, if_neg h1, if_pos h2]
            refine GS.run [] 4 rfl ?_
            have ih := ih18 _ (by omega) (j + 1) (by omega) rfl
            rw [hs] at ih
            rw [nI_1]
            exact GS.weak (by exact ⟨Or.inr rfl, Or.inr rfl, Or.inr rfl, Or.inr rfl, Or.inr rfl, Or.inr rfl, Or.inl rfl, Or.inl rfl, trivial⟩) ih
        · have hs : slF t c up (j + 1) = (tH t (tB t c j), some j) := by
            have h1 := Decidable.not_not.mp (fun z => c63 ((way_le hh hb).mpr z))
            rw [slF, if_pos h1]
          refine GS.run [] 7 rfl ?_
          have ih := ih18 _ (by omega) (j + 1) (by omega) rfl
          rw [hs] at ih
          rw [nI_1]
          exact GS.weak (by exact ⟨Or.inr rfl, Or.inr rfl, Or.inr rfl, Or.inr rfl, Or.inr rfl, Or.inr rfl, Or.inl rfl, Or.inl rfl, trivial⟩) ih
  exact loop18 _ 0 (Nat.zero_le _) rfl
def mkG (t : Tn) (c : Nat) (q : Nat × Nat) : Int32 := if q.2 = 0 then -1000000 else nI (tB t c q.1)
theorem c_marked (d : Nat) (σ : am_S) (t : Tn) (c : Nat) (m : Nat) (ht : townC 10 σ t) (hw : wfT t) (hc : c < tN t) (hm : m < 1000) : CallS mX8_marked (d + 2) [.ref 10, .int (nI c), .int (nI m)] σ (am_det (some (.int (stG t c (markedK t c m)))) σ) := by
  refine CallS.of kX8_marked pX8_marked [.ref 10, .int (nI c), .int (nI m), .retAddr 0, .retAddr 0, .retAddr 0, .retAddr 0] rfl (Nat.le_of_ble_eq_true rfl) ?_
  have h6 := (hw.2.2 c hc).2.2.2.1
  have h8 := hw.1
  refine GS.run [] 6 rfl ?_
  have loop9 : ∀ (fu : Nat) (j : Nat) (hj : j ≤ tD t c), tD t c - j = fu → GS none mX8_marked (d + 2) (am_det (some (.int (stG t c (markedK t c m)))) σ) 9 [.ref 10, .int (nI c), .int (nI m), .int (mkG t c (mkF t c m j)), .int (nI (mkF t c m j).2), .int (nI j), .retAddr 0] [] σ := by
    intro fu
    induction fu using Nat.strongRecOn with
    | ind fu ih9 =>
      intro j hj hfu
      refine GS.run [] 4 rfl ?_
      refine GS.cS oX11_at ((c_at (d + 1) σ 14 8 (nI (c)) rfl).eq (congrArg (fun z => some (Value.int z)) (v_dg ht hw (hc))) rfl) rfl rfl rfl rfl (Nat.le_of_ble_eq_true rfl) (by omega) ?_
      refine GS.icmp_ge rfl (fun c19 => ?_) (fun c19 => ?_)
      · have e : tD t c = j := by have := (nI_leI (by omega) (by omega)).mp c19; omega
        refine GS.run [] 2 rfl ?_
        refine GS.icmp_ne rfl (fun c66 => ?_) (fun c66 => ?_)
        · refine GS.run [] 1 rfl ?_
          refine GS.iret rfl rfl (rfl) ?_
          have hcl := mkF_le (t := t) (c := c) (m := m) (j := j)
          subst e
          refine ⟨?_, rfl⟩
          unfold markedK
          first
            | (rw [if_pos ((nI_eq (b := 1) (by omega) (by omega)).mp c66)]; simp only [stG, mkG]; rw [if_neg (by have := (nI_eq (b := 1) (by omega) (by omega)).mp c66; omega)]; done)
            | (rw [if_neg (fun z => c66 (by rw [z]; rfl))]; rfl)
        · refine GS.run [] 2 rfl ?_
          refine GS.iret rfl rfl (rfl) ?_
          have hcl := mkF_le (t := t) (c := c) (m := m) (j := j)
          subst e
          refine ⟨?_, rfl⟩
          unfold markedK
          first
            | (rw [if_pos ((nI_eq (b := 1) (by omega) (by omega)).mp c66)]; simp only [stG, mkG]; rw [if_neg (by have := (nI_eq (b := 1) (by omega) (by omega)).mp c66; omega)]; done)
            | (rw [if_neg (fun z => c66 (by rw [z]; rfl))]; rfl)
      · have hlt : j < tD t c := (nI_gtI (by omega) (by omega)).mp c19
        have hn := (hw.2.2 c hc).2.2.2.2.1 j hlt
        have hh := (hw.2.2 _ hn.1).2.1
        refine GS.run [] 7 rfl ?_
        refine GS.cS oX11_at ((c_at (d + 1) σ 15 48 (nI (c) * 6 + nI (j)) rfl).eq (congrArg (fun z => some (Value.int z)) (v_order ht hw (hc) (hlt))) rfl) rfl rfl rfl rfl (Nat.le_of_ble_eq_true rfl) (by omega) ?_
        refine GS.run [] 4 rfl ?_
        refine GS.cS oX11_at ((c_at (d + 1) σ 12 8 (nI (tB t c j)) rfl).eq (congrArg (fun z => some (Value.int z)) (v_mk ht hw (hn.1))) rfl) rfl rfl rfl rfl (Nat.le_of_ble_eq_true rfl) (by omega) ?_
        refine GS.run [] 1 rfl ?_
        refine GS.icmp_ne rfl (fun c48 => ?_) (fun c48 => ?_)
        · have hs : mkF t c m (j + 1) = mkF t c m j := by
            have h1 : ¬ tM t (tB t c j) = m := fun z => c48 (by rw [z])
            simp only [mkF, h1, if_false]
          refine GS.run [] 2 rfl ?_
          have ih := ih9 _ (by omega) (j + 1) (by omega) rfl
          rw [hs] at ih
          simp only [nI_1]
          exact GS.weak (by exact ⟨Or.inr rfl, Or.inr rfl, Or.inr rfl, Or.inr rfl, Or.inr rfl, Or.inr rfl, Or.inl rfl, trivial⟩) ih
        · have hs : mkF t c m (j + 1) = (j, (mkF t c m j).2 + 1) := by
            have h1 := (nI_eq (by omega) (by omega)).mp c48
            simp only [mkF, h1, if_true]
          refine GS.run [] 5 rfl ?_
          have ih := ih9 _ (by omega) (j + 1) (by omega) rfl
          rw [hs] at ih
          simp only [nI_1]
          exact GS.weak (by exact ⟨Or.inr rfl, Or.inr rfl, Or.inr rfl, Or.inr rfl, Or.inr rfl, Or.inr rfl, Or.inl rfl, trivial⟩) ih
  exact loop9 _ 0 (Nat.zero_le _) rfl
theorem c_well (d : Nat) (σ : am_S) (t : Tn) (c : Nat) (ht : townC 10 σ t) (hw : wfT t) (hc : c < tN t) : CallS mX8_hasWell (d + 1) [.ref 10, .int (nI c)] σ (am_det (some (.int (am_b (tW t c = 1)))) σ) := by
  refine CallS.of kX8_hasWell pX8_hasWell [.ref 10, .int (nI c)] rfl (Nat.le_of_ble_eq_true rfl) ?_
  refine GS.run [] 3 rfl ?_
  refine GS.cS oX11_at ((c_at d σ 13 8 (nI c) rfl).eq (congrArg (fun z => some (Value.int z)) (v_wl ht hw hc)) rfl) rfl rfl rfl rfl (Nat.le_of_ble_eq_true rfl) (by omega) ?_
  refine GS.run [] 1 rfl ?_
  refine GS.icmp_ne rfl (fun c9 => ?_) (fun c9 => ?_)
  · refine GS.run [] 1 rfl ?_
    refine GS.iret rfl rfl (rfl) ?_
    have h1 := (hw.2.2 c hc).2.2.1
    refine ⟨?_, rfl⟩
    unfold am_b
    first
      | (rw [if_pos ((nI_eq (b := 1) (by omega) (by omega)).mp c9)])
      | (rw [if_neg (fun z => c9 (by rw [z]; rfl))])
  · refine GS.run [] 2 rfl ?_
    refine GS.iret rfl rfl (rfl) ?_
    have h1 := (hw.2.2 c hc).2.2.1
    refine ⟨?_, rfl⟩
    unfold am_b
    first
      | (rw [if_pos ((nI_eq (b := 1) (by omega) (by omega)).mp c9)])
      | (rw [if_neg (fun z => c9 (by rw [z]; rfl))])
def wlF (t : Tn) : Nat → Nat
  | 0 => 0
  | j + 1 => if tW t j = 1 then wlF t j + 1 else wlF t j
theorem c_wells (d : Nat) (σ : am_S) (t : Tn) (ht : townC 10 σ t) (hw : wfT t) : CallS mX8_wells (d + 2) [.ref 10] σ (am_det (some (.int (nI (wlF t (tN t))))) σ) := by
  refine CallS.of kX8_wells pX8_wells [.ref 10, .retAddr 0, .retAddr 0] rfl (Nat.le_of_ble_eq_true rfl) ?_
  have h8 := hw.1
  refine GS.run [] 4 rfl ?_
  have loop4 : ∀ (fu : Nat) (j : Nat) (hj : j ≤ tN t), tN t - j = fu → GS none mX8_wells (d + 2) (am_det (some (.int (nI (wlF t (tN t))))) σ) 4 [.ref 10, .int (nI (wlF t j)), .int (nI j)] [] σ := by
    intro fu
    induction fu using Nat.strongRecOn with
    | ind fu ih4 =>
      intro j hj hfu
      refine GS.run [] 3 rfl ?_
      rw [ht.1]
      refine GS.icmp_ge rfl (fun c9 => ?_) (fun c9 => ?_)
      · have e : tN t = j := by have := (nI_leI (by omega) (by omega)).mp c9; omega
        refine GS.run [] 1 rfl ?_
        refine GS.iret rfl rfl (rfl) ?_
        subst e
        exact ⟨rfl, rfl⟩
      · have hlt : j < tN t := (nI_gtI (by omega) (by omega)).mp c9
        refine GS.run [] 3 rfl ?_
        refine GS.cV oX8_hasWell (c_well d σ t j ht hw hlt) rfl rfl rfl rfl rfl rfl rfl (Nat.le_of_ble_eq_true rfl) (by omega) ?_
        refine GS.if_eq rfl (fun c18 => ?_) (fun c18 => ?_)
        · have hs : wlF t (j + 1) = wlF t j := by
            have h1 := am_b0.mp c18
            simp only [wlF, h1, if_false]
          refine GS.run [] 5 rfl ?_
          have ih := ih4 _ (by omega) (j + 1) (by omega) rfl
          rw [hs] at ih
          simp only [nI_1]
          first
            | exact ih
            | (rw [show nI (wlF t j) + 0 = nI (wlF t j) from nI_add _ 0]; exact ih)
        · have hs : wlF t (j + 1) = wlF t j + 1 := by
            have h1 := Decidable.not_not.mp (fun h => c18 (am_b0.mpr h))
            simp only [wlF, h1, if_true]
          refine GS.run [] 6 rfl ?_
          have ih := ih4 _ (by omega) (j + 1) (by omega) rfl
          rw [hs] at ih
          simp only [nI_1]
          first
            | exact ih
            | (rw [show nI (wlF t j) + 0 = nI (wlF t j) from nI_add _ 0]; exact ih)
  exact loop4 _ 0 (Nat.zero_le _) rfl
