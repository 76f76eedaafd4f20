theorem goW_fail {t : Tn} {w : Wk} {img raw : Bool} {v : Nat} (h : (goW t w img raw v).1 = false) : (goW t w img raw v).2.1 = w.1 := by
  unfold goW at h ⊢
  split
  · rfl
  · rename_i h7
    rw [if_neg h7] at h
    split
    · rfl
    · rename_i k hk
      rw [hk] at h
      cases h
theorem p_parts_m (d : Nat) (σ : am_S) (t : Tn) (s : Sy) (c raw : Int32) (ht : townM 73 0 σ t) (hw : wfT t) (hy : sayM 75 0 σ s) (hys : wfS s) (hh : hM σ) : CallS mX12_parts (d + 3) [.ref 69, .int c, .int raw] σ (fun r σ' => r = some (.int (qParts t s c raw)) ∧ sameM [] [0, 20, 21, 22, 23, 24, 25] σ σ' ∧ hM σ') := by
  refine CallS.of kX12_parts pX12_parts [.ref 69, .int c, .int raw, .retAddr 0, .retAddr 0, .retAddr 0] rfl (Nat.le_of_ble_eq_true rfl) ?_
  have s0 : sameM [] [0, 20, 21, 22, 23, 24, 25] σ (am_s1 σ 69 (upd (σ 69) 0 0)) := sameM.rf.fld (by decide)
  have ht0 := sameM_town s0 (by decide) ht
  have hy0 := sameM_say s0 (by decide) hy
  have hh0 : hM (am_s1 σ 69 (upd (σ 69) 0 0)) := hh
  refine GS.run [] 5 rfl ?_
  refine GS.cV oX12_isCorner (c_isCorner (d + 1) (am_s1 σ 69 (upd (σ 69) 0 0)) t c ht0 hw) rfl rfl rfl rfl rfl rfl rfl (Nat.le_of_ble_eq_true rfl) (by omega) ?_
  refine GS.if_eq rfl (fun c10 => ?_) (fun c10 => ?_)
  · have hbad : ¬ (okc t c ∧ okb raw) := fun h => am_b0.mp c10 h.1
    refine GS.run [] 1 rfl ?_
    refine GS.iret rfl rfl (rfl) ?_
    exact ⟨by unfold qParts; rw [if_neg hbad], s0, hh0⟩
  · have g10 := am_bT c10
    refine GS.run [] 4 rfl ?_
    refine GS.cS oX12_in (c_inB (d + 2) (am_s1 σ 69 (upd (σ 69) 0 0)) raw) rfl rfl rfl rfl (Nat.le_of_ble_eq_true rfl) (by omega) ?_
    refine GS.if_ne rfl (fun c20 => ?_) (fun c20 => ?_)
    · have g20 := am_bT c20
      have h8 := hw.1
      have h12 := hys.1
      obtain ⟨k, hk, rfl⟩ := okc_nat g10
      rcases g20 with rfl | rfl
      · obtain ⟨R, hR⟩ : ∃ R, R = partR t s false s.1 0 (stW k) (stW k) := ⟨_, rfl⟩
        rw [show qParts t s (nI k) 0 = fkI R by unfold qParts; rw [if_pos ⟨g10, by decide⟩, cn_nI (by omega), hR]; rfl]
        refine GS.run [] 3 rfl ?_
        refine GS.callV oX12_startTwo (c_startTwo (d + 1) (am_s1 σ 69 (upd (σ 69) 0 0)) k k hh0) rfl rfl rfl rfl rfl rfl rfl (Nat.le_of_ble_eq_true rfl) (by omega) (fun v29 σ29 hq29 => ?_)
        obtain ⟨rfl, s29, k29, u29⟩ := hq29
        have s30 := s0.trans (s29.sub (by simp) (by simp))
        refine GS.run [] 2 rfl ?_
        have loop34 : ∀ (fu : Nat) (j : Nat) (w1 u1 : Wk) (σ1 : am_S) (hj : j ≤ s.1) (hs : sameM [] [0, 20, 21, 22, 23, 24, 25] σ σ1) (hk1 : wkM σ1 w1) (hW1 : wfW t w1) (hu1 : wkO σ1 u1) (hU1 : wfW t u1) (hwu : w1.1 = u1.1) (hr : R = partR t s false (s.1 - j) j w1 u1), s.1 - j = fu → GS none mX12_parts (d + 3) (fun r σ' => r = some (.int (fkI R)) ∧ sameM [] [0, 20, 21, 22, 23, 24, 25] σ σ' ∧ hM σ') 34 [.ref 69, .int (nI k), .int 0, .int (nI j), .retAddr 0, .retAddr 0] [] σ1 := by
          intro fu
          induction fu using Nat.strongRecOn with
          | ind fu ih34 =>
            intro j w1 u1 σ1 hj hs hk1 hW1 hu1 hU1 hwu hr hfu
            have hy1 := sameM_say hs (by decide) hy
            have ht1 := sameM_town hs (by decide) ht
            have h12 := hys.1
            refine GS.run [] 4 rfl ?_
            refine GS.ald (0) rfl rfl (rfl) (by omega) ?_
            rw [m_len hy1]
            refine GS.icmp_ge rfl (fun c41 => ?_) (fun c41 => ?_)
            · have e : s.1 = j := by have := (nI_leI (by omega) (by omega)).mp c41; omega
              rw [show s.1 - j = 0 by omega, partR] at hr
              refine GS.run [] 1 rfl ?_
              refine GS.iret rfl rfl (rfl) ?_
              exact ⟨by rw [hr]; rfl, hs, hk1.hand hu1⟩
            · have hlt : j < s.1 := (nI_gtI (by omega) (by omega)).mp c41
              rw [show s.1 - j = (s.1 - (j + 1)) + 1 by omega, partR] at hr
              refine GS.run [] 6 rfl ?_
              refine GS.ald (1 + j) rfl rfl (he_1) (by omega) ?_
              rw [m_word hy1 hlt]
              refine GS.run [] 3 rfl ?_
              refine GS.icmp_ne rfl (fun c56 => ?_) (fun q => absurd q (by decide))
              refine GS.run [] 1 rfl ?_
              refine GS.callV oX12_goes (c_goes (d) σ1 t w1 false false (s.2 j) (hys.2 j hlt) ht1 hw hW1 hk1) rfl rfl rfl rfl rfl rfl rfl (Nat.le_of_ble_eq_true rfl) (by omega) (fun v64 σ64 hq64 => ?_)
              obtain ⟨rfl, s64, k64⟩ := hq64
              have hW3 := goW_wf (img := false) (raw := false) (v := s.2 j) hw hW1
              have hs2 := hs.trans (s64.sub (by simp) (by simp))
              have hu2 := hu1.kept s64 (by decide)
              refine GS.run [] 2 rfl ?_
              refine GS.callV oX12_change (c_changeW (d + 2) σ64 _ _ k64 hu2) rfl rfl rfl rfl rfl rfl rfl (Nat.le_of_ble_eq_true rfl) (by omega) (fun v70 σ70 hq70 => ?_)
              obtain ⟨rfl, s70, k70, u70⟩ := hq70
              have hs3 := hs2.trans (s70.sub (by simp) (by simp))
              have hy2 := sameM_say hs3 (by decide) hy
              have ht2 := sameM_town hs3 (by decide) ht
              refine GS.run [] 6 rfl ?_
              refine GS.ald (1 + j) rfl rfl (he_1) (by omega) ?_
              rw [m_word hy2 hlt]
              refine GS.run [] 3 rfl ?_
              refine GS.icmp_ne rfl (fun c85 => ?_) (fun q => absurd q (by decide))
              refine GS.run [] 1 rfl ?_
              refine GS.callV oX12_goes (c_goes (d) σ70 t u1 true false (s.2 j) (hys.2 j hlt) ht2 hw hU1 k70) rfl rfl rfl rfl rfl rfl rfl (Nat.le_of_ble_eq_true rfl) (by omega) (fun v93 σ93 hq93 => ?_)
              obtain ⟨rfl, s93, k93⟩ := hq93
              have hU3 := goW_wf (img := true) (raw := false) (v := s.2 j) hw hU1
              have hs4 := hs3.trans (s93.sub (by simp) (by simp))
              have u93 := u70.kept s93 (by decide)
              refine GS.run [] 2 rfl ?_
              refine GS.callV oX12_change (c_changeW (d + 2) σ93 _ _ k93 u93) rfl rfl rfl rfl rfl rfl rfl (Nat.le_of_ble_eq_true rfl) (by omega) (fun v99 σ99 hq99 => ?_)
              obtain ⟨rfl, s99, k99, u99⟩ := hq99
              have hs5 := hs4.trans (s99.sub (by simp) (by simp))
              refine GS.run [] 2 rfl ?_
              refine GS.icmp_ne rfl (fun c106 => ?_) (fun c106 => ?_)
              · rw [if_pos (Or.inl (fun z => c106 (by rw [z])))] at hr
                refine GS.run [] 1 rfl ?_
                refine GS.iret rfl rfl (rfl) ?_
                exact ⟨by rw [hr]; rfl, hs5, k99.hand u99⟩
              · have hb := bI_eq.mp c106
                refine GS.run [] 1 rfl ?_
                refine GS.if_eq rfl (fun c111 => ?_) (fun c111 => ?_)
                · have hb3 := bI0.mp c111
                  have e1 := goW_fail hb3
                  have e2 := goW_fail (hb.symm.trans hb3)
                  rw [if_neg (by rintro (z | z); exact z hb; exact z (by rw [e1, e2]; exact hwu)), if_pos hb3] at hr
                  skip
                  refine GS.run [] 1 rfl ?_
                  refine GS.if_ne rfl (fun q => absurd (c111) q) (fun c129 => ?_)
                  refine GS.run [] 1 rfl ?_
                  refine GS.iret rfl rfl (rfl) ?_
                  exact ⟨by rw [hr]; rfl, hs5, k99.hand u99⟩
                · have hb3 := bI1.mp c111
                  refine GS.run [] 4 rfl ?_
                  rw [k99.1, u99.1]
                  refine GS.icmp_eq rfl (fun c122 => ?_) (fun c122 => ?_)
                  · have hp := (nI_eq (by have := hW3.1; have := hw.1; omega) (by have := hU3.1; have := hw.1; omega)).mp c122
                    rw [if_neg (by rintro (z | z) <;> contradiction), if_neg (by rw [hb3]; decide)] at hr
                    skip
                    refine GS.run [] 1 rfl ?_
                    refine GS.if_ne rfl (fun c129 => ?_) (fun q => absurd q (c111))
                    refine GS.run [] 2 rfl ?_
                    rw [nI_1]
                    exact GS.weak (by exact ⟨Or.inr rfl, Or.inr rfl, Or.inr rfl, Or.inr rfl, Or.inl rfl, Or.inl rfl, trivial⟩) (ih34 _ (by omega) (j + 1) _ _ _ hlt hs5 k99 hW3 u99 hU3 hp hr rfl)
                  · rw [if_pos (Or.inr (fun z => c122 (by rw [z])))] at hr
                    refine GS.run [] 1 rfl ?_
                    refine GS.iret rfl rfl (rfl) ?_
                    exact ⟨by rw [hr]; rfl, hs5, k99.hand u99⟩
        exact loop34 _ 0 _ _ _ (Nat.zero_le _) s30 k29 (stW_wf hk) u29 (stW_wf hk) rfl hR rfl
      · obtain ⟨R, hR⟩ : ∃ R, R = partR t s true s.1 0 (stW k) (stW k) := ⟨_, rfl⟩
        rw [show qParts t s (nI k) 1 = fkI R by unfold qParts; rw [if_pos ⟨g10, by decide⟩, cn_nI (by omega), hR]; rfl]
        refine GS.run [] 3 rfl ?_
        refine GS.callV oX12_startTwo (c_startTwo (d + 1) (am_s1 σ 69 (upd (σ 69) 0 0)) k k hh0) rfl rfl rfl rfl rfl rfl rfl (Nat.le_of_ble_eq_true rfl) (by omega) (fun v29 σ29 hq29 => ?_)
        obtain ⟨rfl, s29, k29, u29⟩ := hq29
        have s30 := s0.trans (s29.sub (by simp) (by simp))
        refine GS.run [] 2 rfl ?_
        have loop34 : ∀ (fu : Nat) (j : Nat) (w1 u1 : Wk) (σ1 : am_S) (hj : j ≤ s.1) (hs : sameM [] [0, 20, 21, 22, 23, 24, 25] σ σ1) (hk1 : wkM σ1 w1) (hW1 : wfW t w1) (hu1 : wkO σ1 u1) (hU1 : wfW t u1) (hwu : w1.1 = u1.1) (hr : R = partR t s true (s.1 - j) j w1 u1), s.1 - j = fu → GS none mX12_parts (d + 3) (fun r σ' => r = some (.int (fkI R)) ∧ sameM [] [0, 20, 21, 22, 23, 24, 25] σ σ' ∧ hM σ') 34 [.ref 69, .int (nI k), .int 1, .int (nI j), .retAddr 0, .retAddr 0] [] σ1 := by
          intro fu
          induction fu using Nat.strongRecOn with
          | ind fu ih34 =>
            intro j w1 u1 σ1 hj hs hk1 hW1 hu1 hU1 hwu hr hfu
            have hy1 := sameM_say hs (by decide) hy
            have ht1 := sameM_town hs (by decide) ht
            have h12 := hys.1
            refine GS.run [] 4 rfl ?_
            refine GS.ald (0) rfl rfl (rfl) (by omega) ?_
            rw [m_len hy1]
            refine GS.icmp_ge rfl (fun c41 => ?_) (fun c41 => ?_)
            · have e : s.1 = j := by have := (nI_leI (by omega) (by omega)).mp c41; omega
              rw [show s.1 - j = 0 by omega, partR] at hr
              refine GS.run [] 1 rfl ?_
              refine GS.iret rfl rfl (rfl) ?_
              exact ⟨by rw [hr]; rfl, hs, hk1.hand hu1⟩
            · have hlt : j < s.1 := (nI_gtI (by omega) (by omega)).mp c41
              rw [show s.1 - j = (s.1 - (j + 1)) + 1 by omega, partR] at hr
              refine GS.run [] 6 rfl ?_
              refine GS.ald (1 + j) rfl rfl (he_1) (by omega) ?_
              rw [m_word hy1 hlt]
              refine GS.run [] 3 rfl ?_
              refine GS.icmp_ne rfl (fun q => absurd (rfl) q) (fun c56 => ?_)
              refine GS.run [] 2 rfl ?_
              refine GS.callV oX12_goes (c_goes (d) σ1 t w1 false true (s.2 j) (hys.2 j hlt) ht1 hw hW1 hk1) rfl rfl rfl rfl rfl rfl rfl (Nat.le_of_ble_eq_true rfl) (by omega) (fun v64 σ64 hq64 => ?_)
              obtain ⟨rfl, s64, k64⟩ := hq64
              have hW3 := goW_wf (img := false) (raw := true) (v := s.2 j) hw hW1
              have hs2 := hs.trans (s64.sub (by simp) (by simp))
              have hu2 := hu1.kept s64 (by decide)
              refine GS.run [] 2 rfl ?_
              refine GS.callV oX12_change (c_changeW (d + 2) σ64 _ _ k64 hu2) rfl rfl rfl rfl rfl rfl rfl (Nat.le_of_ble_eq_true rfl) (by omega) (fun v70 σ70 hq70 => ?_)
              obtain ⟨rfl, s70, k70, u70⟩ := hq70
              have hs3 := hs2.trans (s70.sub (by simp) (by simp))
              have hy2 := sameM_say hs3 (by decide) hy
              have ht2 := sameM_town hs3 (by decide) ht
              refine GS.run [] 6 rfl ?_
              refine GS.ald (1 + j) rfl rfl (he_1) (by omega) ?_
              rw [m_word hy2 hlt]
              refine GS.run [] 3 rfl ?_
              refine GS.icmp_ne rfl (fun q => absurd (rfl) q) (fun c85 => ?_)
              refine GS.run [] 2 rfl ?_
              refine GS.callV oX12_goes (c_goes (d) σ70 t u1 true true (s.2 j) (hys.2 j hlt) ht2 hw hU1 k70) rfl rfl rfl rfl rfl rfl rfl (Nat.le_of_ble_eq_true rfl) (by omega) (fun v93 σ93 hq93 => ?_)
              obtain ⟨rfl, s93, k93⟩ := hq93
              have hU3 := goW_wf (img := true) (raw := true) (v := s.2 j) hw hU1
              have hs4 := hs3.trans (s93.sub (by simp) (by simp))
              have u93 := u70.kept s93 (by decide)
              refine GS.run [] 2 rfl ?_
              refine GS.callV oX12_change (c_changeW (d + 2) σ93 _ _ k93 u93) rfl rfl rfl rfl rfl rfl rfl (Nat.le_of_ble_eq_true rfl) (by omega) (fun v99 σ99 hq99 => ?_)
              obtain ⟨rfl, s99, k99, u99⟩ := hq99
              have hs5 := hs4.trans (s99.sub (by simp) (by simp))
              refine GS.run [] 2 rfl ?_
              refine GS.icmp_ne rfl (fun c106 => ?_) (fun c106 => ?_)
              · rw [if_pos (Or.inl (fun z => c106 (by rw [z])))] at hr
                refine GS.run [] 1 rfl ?_
                refine GS.iret rfl rfl (rfl) ?_
                exact ⟨by rw [hr]; rfl, hs5, k99.hand u99⟩
              · have hb := bI_eq.mp c106
                refine GS.run [] 1 rfl ?_
                refine GS.if_eq rfl (fun c111 => ?_) (fun c111 => ?_)
                · have hb3 := bI0.mp c111
                  have e1 := goW_fail hb3
                  have e2 := goW_fail (hb.symm.trans hb3)
                  rw [if_neg (by rintro (z | z); exact z hb; exact z (by rw [e1, e2]; exact hwu)), if_pos hb3] at hr
                  skip
                  refine GS.run [] 1 rfl ?_
                  refine GS.if_ne rfl (fun q => absurd (c111) q) (fun c129 => ?_)
                  refine GS.run [] 1 rfl ?_
                  refine GS.iret rfl rfl (rfl) ?_
                  exact ⟨by rw [hr]; rfl, hs5, k99.hand u99⟩
                · have hb3 := bI1.mp c111
                  refine GS.run [] 4 rfl ?_
                  rw [k99.1, u99.1]
                  refine GS.icmp_eq rfl (fun c122 => ?_) (fun c122 => ?_)
                  · have hp := (nI_eq (by have := hW3.1; have := hw.1; omega) (by have := hU3.1; have := hw.1; omega)).mp c122
                    rw [if_neg (by rintro (z | z) <;> contradiction), if_neg (by rw [hb3]; decide)] at hr
                    skip
                    refine GS.run [] 1 rfl ?_
                    refine GS.if_ne rfl (fun c129 => ?_) (fun q => absurd q (c111))
                    refine GS.run [] 2 rfl ?_
                    rw [nI_1]
                    exact GS.weak (by exact ⟨Or.inr rfl, Or.inr rfl, Or.inr rfl, Or.inr rfl, Or.inl rfl, Or.inl rfl, trivial⟩) (ih34 _ (by omega) (j + 1) _ _ _ hlt hs5 k99 hW3 u99 hU3 hp hr rfl)
                  · rw [if_pos (Or.inr (fun z => c122 (by rw [z])))] at hr
                    refine GS.run [] 1 rfl ?_
                    refine GS.iret rfl rfl (rfl) ?_
                    exact ⟨by rw [hr]; rfl, hs5, k99.hand u99⟩
        exact loop34 _ 0 _ _ _ (Nat.zero_le _) s30 k29 (stW_wf hk) u29 (stW_wf hk) rfl hR rfl
    · have hbad : ¬ (okc t c ∧ okb raw) := fun h => am_b0.mp c20 h.2
      refine GS.run [] 1 rfl ?_
      refine GS.iret rfl rfl (rfl) ?_
      exact ⟨by unfold qParts; rw [if_neg hbad], s0, hh0⟩
theorem p_lost_m (d : Nat) (σ : am_S) (t : Tn) (s : Sy) (c : Int32) (ht : townM 73 0 σ t) (hw : wfT t) (hy : sayM 75 0 σ s) (hys : wfS s) (hh : hM σ) : CallS mX12_lost (d + 5) [.ref 69, .int c] σ (fun r σ' => r = some (.int (qLost t s c)) ∧ sameM [] [0, 20, 21, 22, 23, 24, 25] σ σ' ∧ hM σ') := by
  refine CallS.of kX12_lost pX12_lost [.ref 69, .int c, .retAddr 0, .retAddr 0] rfl (Nat.le_of_ble_eq_true rfl) ?_
  have s0 : sameM [] [0, 20, 21, 22, 23, 24, 25] σ (am_s1 σ 69 (upd (σ 69) 0 0)) := sameM.rf.fld (by decide)
  have ht0 := sameM_town s0 (by decide) ht
  have hy0 := sameM_say s0 (by decide) hy
  have hh0 : hM (am_s1 σ 69 (upd (σ 69) 0 0)) := hh
  refine GS.run [] 5 rfl ?_
  refine GS.cV oX12_isCorner (c_isCorner (d + 3) (am_s1 σ 69 (upd (σ 69) 0 0)) t c ht0 hw) rfl rfl rfl rfl rfl rfl rfl (Nat.le_of_ble_eq_true rfl) (by omega) ?_
  refine GS.if_ne rfl (fun c10 => ?_) (fun c10 => ?_)
  · have g1 := am_bT c10
    have h8 := hw.1
    have h12 := hys.1
    obtain ⟨k, hk, rfl⟩ := okc_nat g1
    rw [show qLost t s (nI k) = lostF t s k s.1 by unfold qLost; rw [if_pos g1, cn_nI (by omega)]]
    refine GS.run [] 4 rfl ?_
    have loop20 : ∀ (fu : Nat) (j : Nat) (σ1 : am_S) (hj : j ≤ s.1) (hs : sameM [] [0, 20, 21, 22, 23, 24, 25] σ σ1) (hh1 : hM σ1), s.1 - j = fu → GS none mX12_lost (d + 5) (fun r σ' => r = some (.int (lostF t s k s.1)) ∧ sameM [] [0, 20, 21, 22, 23, 24, 25] σ σ' ∧ hM σ') 20 [.ref 69, .int (nI k), .int (lostF t s k j), .int (nI j)] [] σ1 := by
      intro fu
      induction fu using Nat.strongRecOn with
      | ind fu ih20 =>
        intro j σ1 hj hs hh1 hfu
        have hy1 := sameM_say hs (by decide) hy
        have ht1 := sameM_town hs (by decide) ht
        have h12 := hys.1
        refine GS.run [] 4 rfl ?_
        refine GS.ald (0) rfl rfl (rfl) (by omega) ?_
        rw [m_len hy1]
        refine GS.icmp_ge rfl (fun c27 => ?_) (fun c27 => ?_)
        · have e : s.1 = j := by have := (nI_leI (by omega) (by omega)).mp c27; omega
          refine GS.run [] 1 rfl ?_
          refine GS.iret rfl rfl (rfl) ?_
          subst e
          exact ⟨rfl, hs, hh1⟩
        · have hlt : j < s.1 := (nI_gtI (by omega) (by omega)).mp c27
          refine GS.run [] 6 rfl ?_
          refine GS.callV oX12_walks (c_mwalks d σ1 t s k false false j (nI j) ht1 hw hy1 hys hk (fun k hk => nI_eq (by omega) (by omega))) rfl rfl rfl rfl rfl rfl rfl (Nat.le_of_ble_eq_true rfl) (by omega) (fun v36 σ36 hq36 => ?_)
          obtain ⟨rfl, s36, k36⟩ := hq36
          have hs2 := hs.trans (s36.sub (by simp) (by simp))
          have hh2 := hh1.wk s36 (by decide) k36
          have hF : ∀ i, (runR t s false false j s.1 0 (stW k)).1 = some i → i < 2 ^ 31 := fun i hi => by have := runR_k hi; omega
          refine GS.if_ge rfl (fun c39 => ?_) (fun c39 => ?_)
          · have hn : ¬ (runR t s false false j s.1 0 (stW k)).1 = none := fun z => by rw [z] at c39; exact absurd c39 (by decide)
            have hs3 : lostF t s k (j + 1) = lostF t s k j := by rw [lostF, if_neg hn]
            refine GS.run [] 5 rfl ?_
            have ih := ih20 _ (by omega) (j + 1) _ hlt hs2 hh2 rfl
            rw [hs3] at ih
            rw [nI_1]
            first
              | (rw [k36.1]; exact ih; done)
              | (rw [show lostF t s k j ||| 0 = lostF t s k j from Int32.or_zero]; exact ih)
          · have hn : (runR t s false false j s.1 0 (stW k)).1 = none := by
              cases he : (runR t s false false j s.1 0 (stW k)).1 with
              | none => rfl
              | some i => rw [he] at c39; exact absurd (nI_pos' (hF i he)) c39
            have hs3 : lostF t s k (j + 1) = lostF t s k j ||| ((1 : Int32) <<< (nI (runR t s false false j s.1 0 (stW k)).2.1 &&& 31)) := by rw [lostF, if_pos hn]
            refine GS.run [] 9 rfl ?_
            have ih := ih20 _ (by omega) (j + 1) _ hlt hs2 hh2 rfl
            rw [hs3] at ih
            rw [nI_1]
            first
              | (rw [k36.1]; exact ih; done)
              | (rw [show lostF t s k j ||| 0 = lostF t s k j from Int32.or_zero]; exact ih)
    exact loop20 _ 0 _ (Nat.zero_le _) s0 hh0 rfl
  · have hbad : ¬ okc t c := am_b0.mp c10
    refine GS.run [] 1 rfl ?_
    refine GS.iret rfl rfl (rfl) ?_
    exact ⟨by unfold qLost; rw [if_neg hbad], s0, hh0⟩
