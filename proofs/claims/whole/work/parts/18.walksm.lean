theorem ixT_uq {t : Tn} {a b i : Nat} (hw : wfT t) (ha : a < tN t) (hi : i < tD t a) (hb : tB t a i = b) : i = ixT t a b := by
  have h := ixT_spec hi hb
  exact (hw.2.2 a ha).2.2.2.2.2.1 _ _ hi h.1 (hb.trans h.2.symm)
theorem m_len {σ : am_S} {s : Sy} (h : sayM 75 0 σ s) : σ 75 0 = nI s.1 := h.1
theorem m_word {σ : am_S} {s : Sy} {j : Nat} (h : sayM 75 0 σ s) (hj : j < s.1) : σ 75 (1 + j) = nI (s.2 j) := by have := h.2 j hj; rwa [Nat.zero_add] at this
theorem he_1 {c : Nat} : (1 : Int32) + nI c = nI (1 + c) := nI_add 1 c
theorem c_goes (d : Nat) (σ : am_S) (t : Tn) (w : Wk) (img raw : Bool) (v : Nat) (hv : isW v) (ht : townM 73 0 σ t) (hw : wfT t) (hW : wfW t w) (hk : wkM σ w) : CallS mX12_goes (d + 2) [.ref 69, .int (nI v), .int (bI img), .int (bI raw)] σ (fun r σ' => r = some (.int (bI (goW t w img raw v).1)) ∧ sameM [] [20, 21, 22] σ σ' ∧ wkM σ' (goW t w img raw v).2) := by
  refine CallS.of kX12_goes pX12_goes [.ref 69, .int (nI v), .int (bI img), .int (bI raw), .retAddr 0, .retAddr 0] rfl (Nat.le_of_ble_eq_true rfl) ?_
  obtain ⟨h1, h2, h3⟩ := id hk
  have h8 := hw.1
  have hWl := hW.1
  have h6 := (hw.2.2 _ hW.1).2.2.2.1
  have hv2 : v < 30 := by unfold isW at hv; omega
  have hts : ∀ f, townM 73 0 (am_s1 σ 69 f) t := fun f => ht.kept (am_s1_ne _ _ (by decide))
  have hwl := (hw.2.2 _ hW.1).2.2.1
  refine GS.run [] 2 rfl ?_
  refine GS.icmp_ne rfl (fun c3 => ?_) (fun c3 => ?_)
  · have h7 : v ≠ 7 := fun z => c3 (by rw [z]; rfl)
    refine GS.run [] 4 rfl ?_
    refine GS.cV oX12_streetBy (c_streetBy d σ t w img raw v (isW_7 hv h7) ht hw hW hk) rfl rfl rfl rfl rfl rfl rfl (Nat.le_of_ble_eq_true rfl) (by omega) ?_
    cases hs : strBy t w img raw v
    · rw [goW_n h7 hs]
      refine GS.run [] 2 rfl ?_
      refine GS.if_ge rfl (fun q => absurd q (by decide)) (fun c71 => ?_)
      refine GS.run [] 1 rfl ?_
      refine GS.iret rfl rfl (rfl) ?_
      exact ⟨rfl, sameM.rf, h1, h2, h3⟩
    · rename_i k
      have hlt := strBy_lt hW hs
      obtain ⟨hn1, hn2⟩ := (hw.2.2 _ hW.1).2.2.2.2.1 k hlt
      obtain ⟨i0, hi1, hi2⟩ := (hw.2.2 _ hW.1).2.2.2.2.2.2 k hlt
      obtain ⟨hx1, hx2⟩ := ixT_spec hi1 hi2
      have hd6 := (hw.2.2 _ hn1).2.2.2.1
      rw [goW_s h7 hs]
      refine GS.run [] 2 rfl ?_
      refine GS.if_ge rfl (fun c71 => ?_) (fun q => absurd (nI_pos' (by omega)) q)
      refine GS.run [] 13 rfl ?_
      refine GS.ald (50 + 6 * w.1 + k) rfl rfl (by rw [h1]; exact he_to) (by omega) ?_
      rw [m_to ht hW.1 hlt, h1]
      refine GS.run [] 4 rfl ?_
      have loop107 : ∀ (fu : Nat) (i : Nat) (hi0 : i ≤ ixT t (tB t w.1 k) w.1), ixT t (tB t w.1 k) w.1 - i = fu → GS none mX12_goes (d + 2) (fun r σ' => r = some (.int 1) ∧ sameM [] [20, 21, 22] σ σ' ∧ wkM σ' (tB t w.1 k, some (ixT t (tB t w.1 k) w.1), w.2.2)) 107 [.ref 69, .int (nI v), .int (bI img), .int (bI raw), .int (nI k), .int (nI w.1)] [] (am_s1 σ 69 (upd (upd (σ 69) 20 (nI (tB t w.1 k))) 21 (nI i))) := by
        intro fu
        induction fu using Nat.strongRecOn with
        | ind fu ih107 =>
          intro i hi0 hfu
          refine GS.run [] 11 rfl ?_
          refine GS.ald (50 + 6 * tB t w.1 k + i) rfl rfl (he_to (c := tB t w.1 k) (i := i)) (by omega) ?_
          rw [m_to (hts _) hn1 (by omega)]
          refine GS.run [] 1 rfl ?_
          refine GS.icmp_eq rfl (fun c129 => ?_) (fun c129 => ?_)
          · have hi : i = ixT t (tB t w.1 k) w.1 := ixT_uq hw hn1 (by omega) ((nI_eq (by have := ((hw.2.2 _ hn1).2.2.2.2.1 i (by omega)).1; omega) (by omega)).mp c129)
            subst hi
            refine GS.run [] 1 rfl ?_
            refine GS.iret rfl rfl (rfl) ?_
            refine ⟨rfl, ⟨fun q hq _ => am_s1_ne _ _ hq, fun j hj => ?_⟩, rfl, rfl, h3⟩
            simp only [List.mem_cons, List.not_mem_nil, or_false, not_or] at hj
            rw [am_s1_eq, upd_ne _ _ hj.2.1, upd_ne _ _ hj.1]
          · have hi : i ≠ ixT t (tB t w.1 k) w.1 := fun z => c129 (by rw [z, hx2])
            refine GS.run [] 7 rfl ?_
            rw [am_s1_s1, am_s1_eq, upd_upd, upd_eq, nI_1]
            exact ih107 _ (by omega) (i + 1) (by omega) rfl
      rw [am_s1_s1, am_s1_eq]
      exact loop107 _ 0 (Nat.zero_le _) rfl
  · have h7 : v = 7 := (nI_eq (b := 7) (by omega) (by omega)).mp c3
    subst h7
    rw [goW_7]
    refine GS.run [] 3 rfl ?_
    rw [h3]
    refine GS.if_ne rfl (fun c11 => ?_) (fun c11 => ?_)
    · refine GS.run [] 2 rfl ?_
      refine GS.putZ rfl rfl rfl (rfl) (rfl) rfl ?_
      refine GS.run [] 6 rfl ?_
      refine GS.ald (26 + w.1) rfl rfl (by show (26 : Int32) + σ 69 20 = _; rw [h1]; exact he_26) (by omega) ?_
      rw [m_wl (hts _) hW.1]
      refine GS.run [] 1 rfl ?_
      refine GS.icmp_ne rfl (fun c51 => ?_) (fun c51 => ?_)
      · refine GS.run [] 1 rfl ?_
        refine GS.iret rfl rfl (rfl) ?_
        refine ⟨?_, sameM.rf.fld (by decide), ?_, ?_, ?_⟩
        · first
            | (rw [decide_eq_true ((nI_eq (b := 1) (by omega) (by omega)).mp c51)]; rfl)
            | (rw [decide_eq_false (fun z => c51 (by rw [z]; rfl))]; rfl)
        · exact h1
        · exact h2
        · first
            | (rw [bI1.mp c11]; rfl)
            | (rw [decide_eq_true ((nI_eq (b := 1) (by omega) (by omega)).mp c27), Bool.or_true]; rfl)
            | (rw [bI0.mp c11, decide_eq_false (fun z => c27 (by rw [z]; rfl))]; rfl)
      · refine GS.run [] 2 rfl ?_
        refine GS.iret rfl rfl (rfl) ?_
        refine ⟨?_, sameM.rf.fld (by decide), ?_, ?_, ?_⟩
        · first
            | (rw [decide_eq_true ((nI_eq (b := 1) (by omega) (by omega)).mp c51)]; rfl)
            | (rw [decide_eq_false (fun z => c51 (by rw [z]; rfl))]; rfl)
        · exact h1
        · exact h2
        · first
            | (rw [bI1.mp c11]; rfl)
            | (rw [decide_eq_true ((nI_eq (b := 1) (by omega) (by omega)).mp c27), Bool.or_true]; rfl)
            | (rw [bI0.mp c11, decide_eq_false (fun z => c27 (by rw [z]; rfl))]; rfl)
    · refine GS.run [] 6 rfl ?_
      refine GS.ald (26 + w.1) rfl rfl (by rw [h1]; exact he_26) (by omega) ?_
      rw [m_wl ht (hW.1)]
      refine GS.run [] 1 rfl ?_
      refine GS.icmp_ne rfl (fun c27 => ?_) (fun c27 => ?_)
      · refine GS.run [] 1 rfl ?_
        refine GS.putZ rfl rfl rfl (rfl) (rfl) rfl ?_
        refine GS.run [] 6 rfl ?_
        refine GS.ald (26 + w.1) rfl rfl (by show (26 : Int32) + σ 69 20 = _; rw [h1]; exact he_26) (by omega) ?_
        rw [m_wl (hts _) hW.1]
        refine GS.run [] 1 rfl ?_
        refine GS.icmp_ne rfl (fun c51 => ?_) (fun c51 => ?_)
        · refine GS.run [] 1 rfl ?_
          refine GS.iret rfl rfl (rfl) ?_
          refine ⟨?_, sameM.rf.fld (by decide), ?_, ?_, ?_⟩
          · first
              | (rw [decide_eq_true ((nI_eq (b := 1) (by omega) (by omega)).mp c51)]; rfl)
              | (rw [decide_eq_false (fun z => c51 (by rw [z]; rfl))]; rfl)
          · exact h1
          · exact h2
          · first
              | (rw [bI1.mp c11]; rfl)
              | (rw [decide_eq_true ((nI_eq (b := 1) (by omega) (by omega)).mp c27), Bool.or_true]; rfl)
              | (rw [bI0.mp c11, decide_eq_false (fun z => c27 (by rw [z]; rfl))]; rfl)
        · refine GS.run [] 2 rfl ?_
          refine GS.iret rfl rfl (rfl) ?_
          refine ⟨?_, sameM.rf.fld (by decide), ?_, ?_, ?_⟩
          · first
              | (rw [decide_eq_true ((nI_eq (b := 1) (by omega) (by omega)).mp c51)]; rfl)
              | (rw [decide_eq_false (fun z => c51 (by rw [z]; rfl))]; rfl)
          · exact h1
          · exact h2
          · first
              | (rw [bI1.mp c11]; rfl)
              | (rw [decide_eq_true ((nI_eq (b := 1) (by omega) (by omega)).mp c27), Bool.or_true]; rfl)
              | (rw [bI0.mp c11, decide_eq_false (fun z => c27 (by rw [z]; rfl))]; rfl)
      · refine GS.run [] 2 rfl ?_
        refine GS.putZ rfl rfl rfl (rfl) (rfl) rfl ?_
        refine GS.run [] 6 rfl ?_
        refine GS.ald (26 + w.1) rfl rfl (by show (26 : Int32) + σ 69 20 = _; rw [h1]; exact he_26) (by omega) ?_
        rw [m_wl (hts _) hW.1]
        refine GS.run [] 1 rfl ?_
        refine GS.icmp_ne rfl (fun c51 => ?_) (fun c51 => ?_)
        · refine GS.run [] 1 rfl ?_
          refine GS.iret rfl rfl (rfl) ?_
          refine ⟨?_, sameM.rf.fld (by decide), ?_, ?_, ?_⟩
          · first
              | (rw [decide_eq_true ((nI_eq (b := 1) (by omega) (by omega)).mp c51)]; rfl)
              | (rw [decide_eq_false (fun z => c51 (by rw [z]; rfl))]; rfl)
          · exact h1
          · exact h2
          · first
              | (rw [bI1.mp c11]; rfl)
              | (rw [decide_eq_true ((nI_eq (b := 1) (by omega) (by omega)).mp c27), Bool.or_true]; rfl)
              | (rw [bI0.mp c11, decide_eq_false (fun z => c27 (by rw [z]; rfl))]; rfl)
        · refine GS.run [] 2 rfl ?_
          refine GS.iret rfl rfl (rfl) ?_
          refine ⟨?_, sameM.rf.fld (by decide), ?_, ?_, ?_⟩
          · first
              | (rw [decide_eq_true ((nI_eq (b := 1) (by omega) (by omega)).mp c51)]; rfl)
              | (rw [decide_eq_false (fun z => c51 (by rw [z]; rfl))]; rfl)
          · exact h1
          · exact h2
          · first
              | (rw [bI1.mp c11]; rfl)
              | (rw [decide_eq_true ((nI_eq (b := 1) (by omega) (by omega)).mp c27), Bool.or_true]; rfl)
              | (rw [bI0.mp c11, decide_eq_false (fun z => c27 (by rw [z]; rfl))]; rfl)
theorem c_mwalks (d : Nat) (σ : am_S) (t : Tn) (s : Sy) (c : Nat) (img raw : Bool) (but : Nat) (lo : Int32) (ht : townM 73 0 σ t) (hw : wfT t) (hy : sayM 75 0 σ s) (hys : wfS s) (hc : c < tN t) (hlo : ∀ k, k < 12 → (nI k = lo ↔ k = but)) : CallS mX12_walks (d + 3) [.ref 69, .int (nI c), .int (bI img), .int (bI raw), .int lo] σ (fun r σ' => r = some (.int (kI (runR t s img raw but s.1 0 (stW c)).1)) ∧ sameM [] [20, 21, 22] σ σ' ∧ wkM σ' (runR t s img raw but s.1 0 (stW c)).2) := by
  refine CallS.of kX12_walks pX12_walks [.ref 69, .int (nI c), .int (bI img), .int (bI raw), .int lo, .retAddr 0] rfl (Nat.le_of_ble_eq_true rfl) ?_
  have h12 := hys.1
  obtain ⟨R, hR⟩ : ∃ R, R = runR t s img raw but s.1 0 (stW c) := ⟨_, rfl⟩
  rw [← hR]
  refine GS.run [] 2 rfl ?_
  refine GS.callV oX12_starts (c_mstarts (d + 2) σ c) rfl rfl rfl rfl rfl rfl rfl (Nat.le_of_ble_eq_true rfl) (by omega) (fun v2 σ2 hq2 => ?_)
  obtain ⟨rfl, s2, k2⟩ := hq2
  refine GS.run [] 2 rfl ?_
  have loop8 : ∀ (fu : Nat) (j : Nat) (w1 : Wk) (σ1 : am_S) (hj : j ≤ s.1) (hs : sameM [] [20, 21, 22] σ σ1) (hk1 : wkM σ1 w1) (hW1 : wfW t w1) (hr : R = runR t s img raw but (s.1 - j) j w1), s.1 - j = fu → GS none mX12_walks (d + 3) (fun r σ' => r = some (.int (kI R.1)) ∧ sameM [] [20, 21, 22] σ σ' ∧ wkM σ' R.2) 8 [.ref 69, .int (nI c), .int (bI img), .int (bI raw), .int lo, .int (nI j)] [] σ1 := by
    intro fu
    induction fu using Nat.strongRecOn with
    | ind fu ih8 =>
      intro j w1 σ1 hj hs hk1 hW1 hr hfu
      have hy1 := sameM_say hs (by decide) hy
      have ht1 := sameM_town hs (by decide) ht
      have h12 := hys.1
      refine GS.run [] 4 rfl ?_
      refine GS.ald (0) rfl rfl (rfl) (by omega) ?_
      rw [m_len hy1]
      refine GS.icmp_ge rfl (fun c16 => ?_) (fun c16 => ?_)
      · have e : s.1 = j := by have := (nI_leI (by omega) (by omega)).mp c16; omega
        refine GS.run [] 1 rfl ?_
        refine GS.iret rfl rfl (rfl) ?_
        rw [e, Nat.sub_self, runR] at hr
        exact ⟨by rw [hr]; rfl, hs, by rw [hr]; exact hk1⟩
      · have hlt : j < s.1 := (nI_gtI (by omega) (by omega)).mp c16
        rw [show s.1 - j = (s.1 - (j + 1)) + 1 by omega, runR] at hr
        refine GS.run [] 2 rfl ?_
        refine GS.icmp_eq rfl (fun c23 => ?_) (fun c23 => ?_)
        · have hb : j = but := (hlo j (by omega)).mp c23
          rw [if_pos hb] at hr
          refine GS.run [] 2 rfl ?_
          rw [nI_1]
          first
            | exact ih8 _ (by omega) (j + 1) w2 _ hlt hs2 k38 hW2 hr rfl
            | exact ih8 _ (by omega) (j + 1) w1 σ1 hlt hs hk1 hW1 hr rfl
        · have hb : j ≠ but := fun z => c23 ((hlo j (by omega)).mpr z)
          rw [if_neg hb] at hr
          refine GS.run [] 6 rfl ?_
          refine GS.ald (1 + j) rfl rfl (he_1) (by omega) ?_
          rw [m_word hy1 hlt]
          refine GS.run [] 2 rfl ?_
          refine GS.callV oX12_goes (c_goes d σ1 t w1 img raw (s.2 j) (hys.2 j hlt) ht1 hw hW1 hk1) rfl rfl rfl rfl rfl rfl rfl (Nat.le_of_ble_eq_true rfl) (by omega) (fun v38 σ38 hq38 => ?_)
          obtain ⟨rfl, s38, k38⟩ := hq38
          have hW2 := goW_wf (img := img) (raw := raw) (v := s.2 j) hw hW1
          have hs2 := hs.trans s38
          generalize hg : goW t w1 img raw (s.2 j) = g at k38 hW2 ⊢
          obtain ⟨b, w2⟩ := g
          refine GS.if_ne rfl (fun c41 => ?_) (fun c41 => ?_)
          · have hb2 : b = true := bI1.mp c41
            subst hb2
            rw [hg] at hr
            dsimp only at hr
            refine GS.run [] 2 rfl ?_
            rw [nI_1]
            first
              | exact ih8 _ (by omega) (j + 1) w2 _ hlt hs2 k38 hW2 hr rfl
              | exact ih8 _ (by omega) (j + 1) w1 σ1 hlt hs hk1 hW1 hr rfl
          · have hb2 : b = false := bI0.mp c41
            subst hb2
            rw [hg] at hr
            dsimp only at hr
            refine GS.run [] 1 rfl ?_
            refine GS.iret rfl rfl (rfl) ?_
            exact ⟨by rw [hr]; rfl, hs2, by rw [hr]; exact k38⟩
  exact loop8 _ 0 _ _ (Nat.zero_le _) s2 k2 (stW_wf hc) hR rfl
theorem c_change (d : Nat) (σ : am_S) (z z' : Bool) (h22 : σ 69 22 = bI z) (h25 : σ 69 25 = bI z') : CallS mX12_change (d) [.ref 69] σ (fun r σ' => r = none ∧ sameM [] [20, 21, 22, 23, 24, 25] σ σ' ∧ σ' 69 20 = σ 69 23 ∧ σ' 69 21 = σ 69 24 ∧ σ' 69 22 = σ 69 25 ∧ σ' 69 23 = σ 69 20 ∧ σ' 69 24 = σ 69 21 ∧ σ' 69 25 = σ 69 22) := by
  refine CallS.of kX12_change pX12_change [.ref 69, .retAddr 0, .retAddr 0, .retAddr 0] rfl (Nat.le_of_ble_eq_true rfl) ?_
  refine GS.run [] 20 rfl ?_
  refine GS.putZ rfl rfl rfl (by show narrow .boolean (.int (σ 69 25)) = .int (σ 69 25); rw [h25]; exact nar_bI _) (by show fits .boolean (.int (σ 69 25)) = true; rw [h25]; exact fit_bI _) rfl ?_
  refine GS.run [] 8 rfl ?_
  refine GS.putZ rfl rfl rfl (by show narrow .boolean (.int (σ 69 22)) = .int (σ 69 22); rw [h22]; exact nar_bI _) (by show fits .boolean (.int (σ 69 22)) = true; rw [h22]; exact fit_bI _) rfl ?_
  refine GS.vret rfl rfl ?_
  refine ⟨rfl, (((((sameM.rf.fld (by decide)).fld (by decide)).fld (by decide)).fld (by decide)).fld (by decide)).fld (by decide), ?_, ?_, ?_, ?_, ?_, ?_⟩ <;> rfl
/-- both walkers' hands are told by 0 and 1 -/
def hM (σ : am_S) : Prop := (∃ z, σ 69 22 = bI z) ∧ ∃ z, σ 69 25 = bI z
theorem c_changeW (d : Nat) (σ : am_S) (w u : Wk) (h : wkM σ w) (h' : wkO σ u) : CallS mX12_change d [.ref 69] σ (fun r σ' => r = none ∧ sameM [] [20, 21, 22, 23, 24, 25] σ σ' ∧ wkM σ' u ∧ wkO σ' w) :=
  (c_change d σ _ _ h.2.2 h'.2.2).mono fun v σ' q => by
    obtain ⟨q1, q2, q3, q4, q5, q6, q7, q8⟩ := q
    exact ⟨q1, q2, ⟨q3.trans h'.1, q4.trans h'.2.1, q5.trans h'.2.2⟩, q6.trans h.1, q7.trans h.2.1, q8.trans h.2.2⟩
theorem wkM.hand {σ : am_S} {w u : Wk} (h : wkM σ w) (h' : wkO σ u) : hM σ := ⟨⟨_, h.2.2⟩, ⟨_, h'.2.2⟩⟩
theorem wkO.kept {σ σ' : am_S} {l f : List Nat} {u : Wk} (h : wkO σ u) (hs : sameM l f σ σ') (hf : 23 ∉ f ∧ 24 ∉ f ∧ 25 ∉ f) : wkO σ' u := ⟨(hs.2 _ hf.1).trans h.1, (hs.2 _ hf.2.1).trans h.2.1, (hs.2 _ hf.2.2).trans h.2.2⟩
theorem c_startTwo (d : Nat) (σ : am_S) (a b : Nat) (hh : hM σ) : CallS mX12_startTwo (d + 1) [.ref 69, .int (nI a), .int (nI b)] σ (fun r σ' => r = none ∧ sameM [] [20, 21, 22, 23, 24, 25] σ σ' ∧ wkM σ' (stW a) ∧ wkO σ' (stW b)) := by
  refine CallS.of kX12_startTwo pX12_startTwo [.ref 69, .int (nI a), .int (nI b)] rfl (Nat.le_of_ble_eq_true rfl) ?_
  refine GS.run [] 2 rfl ?_
  refine GS.callV oX12_starts (c_mstarts d σ b) rfl rfl rfl rfl rfl rfl rfl (Nat.le_of_ble_eq_true rfl) (by omega) (fun v2 σ2 hq2 => ?_)
  obtain ⟨rfl, s2, k2⟩ := hq2
  obtain ⟨⟨z1, hz1⟩, z2, hz2⟩ := hh
  have hz3 := (s2.2 25 (by decide)).trans hz2
  refine GS.run [] 1 rfl ?_
  refine GS.callV oX12_change (c_change d σ2 _ z2 k2.2.2 hz3) rfl rfl rfl rfl rfl rfl rfl (Nat.le_of_ble_eq_true rfl) (by omega) (fun v6 σ6 hq6 => ?_)
  obtain ⟨rfl, s6, e1, e2, e3, e4, e5, e6⟩ := hq6
  refine GS.run [] 2 rfl ?_
  refine GS.callV oX12_starts (c_mstarts d σ6 a) rfl rfl rfl rfl rfl rfl rfl (Nat.le_of_ble_eq_true rfl) (by omega) (fun v11 σ11 hq11 => ?_)
  obtain ⟨rfl, s11, k11⟩ := hq11
  refine GS.vret rfl rfl ?_
  have s12 : sameM [] [20, 21, 22, 23, 24, 25] σ σ11 := ((s2.sub (by simp) (by simp)).trans s6).trans (s11.sub (by simp) (by simp))
  have ko : wkO σ6 (stW b) := ⟨e4.trans k2.1, e5.trans k2.2.1, e6.trans k2.2.2⟩
  exact ⟨rfl, s12, k11, ko.kept s11 (by decide)⟩
theorem c_meets (d : Nat) (σ : am_S) (t : Tn) (s : Sy) (a b : Nat) (ht : townM 73 0 σ t) (hw : wfT t) (hy : sayM 75 0 σ s) (hys : wfS s) (ha : a < tN t) (hb : b < tN t) (hh : hM σ) : CallS mX12_meets (d + 3) [.ref 69, .int (nI a), .int (nI b)] σ (fun r σ' => r = some (.int (fkI (meetR t s s.1 0 (stW a) (stW b)))) ∧ sameM [] [20, 21, 22, 23, 24, 25] σ σ' ∧ hM σ') := by
  refine CallS.of kX12_meets pX12_meets [.ref 69, .int (nI a), .int (nI b), .retAddr 0, .retAddr 0, .retAddr 0] rfl (Nat.le_of_ble_eq_true rfl) ?_
  have h12 := hys.1
  have h8 := hw.1
  obtain ⟨R, hR⟩ : ∃ R, R = meetR t s s.1 0 (stW a) (stW b) := ⟨_, rfl⟩
  rw [← hR]
  refine GS.run [] 3 rfl ?_
  refine GS.callV oX12_startTwo (c_startTwo (d + 1) σ a b hh) rfl rfl rfl rfl rfl rfl rfl (Nat.le_of_ble_eq_true rfl) (by omega) (fun v3 σ3 hq3 => ?_)
  obtain ⟨rfl, s3, k3, u3⟩ := hq3
  refine GS.run [] 2 rfl ?_
  have loop8 : ∀ (fu : Nat) (j : Nat) (w1 u1 : Wk) (σ1 : am_S) (hj : j ≤ s.1) (hs : sameM [] [20, 21, 22, 23, 24, 25] σ σ1) (hk1 : wkM σ1 w1) (hW1 : wfW t w1) (hu1 : wkO σ1 u1) (hU1 : wfW t u1) (hr : R = meetR t s (s.1 - j) j w1 u1), s.1 - j = fu → GS none mX12_meets (d + 3) (fun r σ' => r = some (.int (fkI R)) ∧ sameM [] [20, 21, 22, 23, 24, 25] σ σ' ∧ hM σ') 8 [.ref 69, .int (nI a), .int (nI b), .int (nI j), .retAddr 0, .retAddr 0] [] σ1 := by
    intro fu
    induction fu using Nat.strongRecOn with
    | ind fu ih8 =>
      intro j w1 u1 σ1 hj hs hk1 hW1 hu1 hU1 hr hfu
      have hy1 := sameM_say hs (by decide) hy
      have ht1 := sameM_town hs (by decide) ht
      have h12 := hys.1
      refine GS.run [] 4 rfl ?_
      refine GS.ald (0) rfl rfl (rfl) (by omega) ?_
      rw [m_len hy1]
      refine GS.icmp_ge rfl (fun c15 => ?_) (fun c15 => ?_)
      · have e : s.1 = j := by have := (nI_leI (by omega) (by omega)).mp c15; omega
        rw [show s.1 - j = 0 by omega, meetR] at hr
        refine GS.run [] 4 rfl ?_
        rw [hk1.1, hu1.1]
        refine GS.icmp_ne rfl (fun c98 => ?_) (fun c98 => ?_)
        · have hne : ¬ w1.1 = u1.1 := fun z => c98 (by rw [z])
          rw [if_neg hne] at hr
          refine GS.run [] 1 rfl ?_
          refine GS.iret rfl rfl (rfl) ?_
          subst e
          exact ⟨by rw [hr]; rfl, hs, hk1.hand hu1⟩
        · rw [if_pos ((nI_eq (by have := hW1.1; have := hw.1; omega) (by have := hU1.1; have := hw.1; omega)).mp c98)] at hr
          refine GS.run [] 3 rfl ?_
          refine GS.ald (0) rfl rfl (rfl) (by omega) ?_
          rw [m_len hy1]
          refine GS.run [] 1 rfl ?_
          refine GS.iret rfl rfl (rfl) ?_
          subst e
          exact ⟨by rw [hr]; rfl, hs, hk1.hand hu1⟩
      · have hlt : j < s.1 := (nI_gtI (by omega) (by omega)).mp c15
        rw [show s.1 - j = (s.1 - (j + 1)) + 1 by omega, meetR] at hr
        refine GS.run [] 4 rfl ?_
        rw [hk1.1, hu1.1]
        refine GS.icmp_ne rfl (fun c26 => ?_) (fun c26 => ?_)
        · have hne : ¬ w1.1 = u1.1 := fun z => c26 (by rw [z])
          rw [if_neg hne] at hr
          refine GS.run [] 6 rfl ?_
          refine GS.ald (1 + j) rfl rfl (he_1) (by omega) ?_
          rw [m_word hy1 hlt]
          refine GS.run [] 2 rfl ?_
          refine GS.callV oX12_goes (c_goes d σ1 t w1 false false (s.2 j) (hys.2 j hlt) ht1 hw hW1 hk1) rfl rfl rfl rfl rfl rfl rfl (Nat.le_of_ble_eq_true rfl) (by omega) (fun v42 σ42 hq42 => ?_)
          obtain ⟨rfl, s42, k42⟩ := hq42
          have hW3 := goW_wf (img := false) (raw := false) (v := s.2 j) hw hW1
          have hs2 := hs.trans (s42.sub (by simp) (by simp))
          have hu2 := hu1.kept s42 (by decide)
          refine GS.run [] 2 rfl ?_
          refine GS.callV oX12_change (c_changeW (d + 2) σ42 _ _ k42 hu2) rfl rfl rfl rfl rfl rfl rfl (Nat.le_of_ble_eq_true rfl) (by omega) (fun v48 σ48 hq48 => ?_)
          obtain ⟨rfl, s48, k48, u48⟩ := hq48
          have hs3 := hs2.trans s48
          have hy2 := sameM_say hs3 (by decide) hy
          have ht2 := sameM_town hs3 (by decide) ht
          refine GS.run [] 6 rfl ?_
          refine GS.ald (1 + j) rfl rfl (he_1) (by omega) ?_
          rw [m_word hy2 hlt]
          refine GS.run [] 2 rfl ?_
          refine GS.callV oX12_goes (c_goes d σ48 t u1 false false (s.2 j) (hys.2 j hlt) ht2 hw hU1 k48) rfl rfl rfl rfl rfl rfl rfl (Nat.le_of_ble_eq_true rfl) (by omega) (fun v62 σ62 hq62 => ?_)
          obtain ⟨rfl, s62, k62⟩ := hq62
          have hU3 := goW_wf (img := false) (raw := false) (v := s.2 j) hw hU1
          have hs4 := hs3.trans (s62.sub (by simp) (by simp))
          have u62 := u48.kept s62 (by decide)
          refine GS.run [] 2 rfl ?_
          refine GS.callV oX12_change (c_changeW (d + 2) σ62 _ _ k62 u62) rfl rfl rfl rfl rfl rfl rfl (Nat.le_of_ble_eq_true rfl) (by omega) (fun v68 σ68 hq68 => ?_)
          obtain ⟨rfl, s68, k68, u68⟩ := hq68
          have hs5 := hs4.trans s68
          refine GS.run [] 1 rfl ?_
          refine GS.if_eq rfl (fun c73 => ?_) (fun c73 => ?_)
          · rw [if_neg (by rw [bI0.mp c73]; rintro ⟨z, _⟩; cases z)] at hr
            refine GS.run [] 1 rfl ?_
            refine GS.iret rfl rfl (rfl) ?_
            exact ⟨by rw [hr]; rfl, hs5, k68.hand u68⟩
          · have hb1 := bI1.mp c73
            refine GS.run [] 1 rfl ?_
            refine GS.if_ne rfl (fun c78 => ?_) (fun c78 => ?_)
            · rw [if_pos ⟨hb1, bI1.mp c78⟩] at hr
              refine GS.run [] 2 rfl ?_
              rw [nI_1]
              exact GS.weak (by exact ⟨Or.inr rfl, Or.inr rfl, Or.inr rfl, Or.inr rfl, Or.inl rfl, Or.inl rfl, trivial⟩) (ih8 _ (by omega) (j + 1) _ _ _ hlt hs5 k68 hW3 u68 hU3 hr rfl)
            · rw [if_neg (by rw [bI0.mp c78]; rintro ⟨_, z⟩; cases z)] at hr
              refine GS.run [] 1 rfl ?_
              refine GS.iret rfl rfl (rfl) ?_
              exact ⟨by rw [hr]; rfl, hs5, k68.hand u68⟩
        · rw [if_pos ((nI_eq (by have := hW1.1; have := hw.1; omega) (by have := hU1.1; have := hw.1; omega)).mp c26)] at hr
          refine GS.run [] 1 rfl ?_
          refine GS.iret rfl rfl (rfl) ?_
          exact ⟨by rw [hr]; rfl, hs, hk1.hand hu1⟩
  exact loop8 _ 0 _ _ _ (Nat.zero_le _) s3 k3 (stW_wf ha) u3 (stW_wf hb) hR rfl
