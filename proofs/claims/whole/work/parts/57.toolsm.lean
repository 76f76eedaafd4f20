theorem pcM.kept {σ σ' : am_S} {p : Tp} {j : Nat} {L F : List Nat} (h : pcM σ p j) (hs : sameM L F σ σ') (h1 : 77 ∉ L) (h2 : 13 ∉ F ∧ 14 ∉ F ∧ 15 ∉ F ∧ 16 ∉ F ∧ 17 ∉ F) : pcM σ' p j := ⟨h.1.kept hs h1 h2.1, (hs.2 14 h2.2.1).trans h.2.1, (hs.2 15 h2.2.2.1).trans h.2.2.1, (hs.2 16 h2.2.2.2.1).trans h.2.2.2.1, (hs.2 17 h2.2.2.2.2).trans h.2.2.2.2.1, h.2.2.2.2.2⟩
theorem ftM.kept {σ σ' : am_S} {fo : Option (Nat × Nat)} {L F : List Nat} (h : ftM σ fo) (hs : sameM L F σ σ') (h1 : 18 ∉ F ∧ 19 ∉ F) : ftM σ' fo := by
  cases fo with
  | none => exact (hs.2 18 h1.1).trans h
  | some e => exact ⟨(hs.2 18 h1.1).trans h.1, (hs.2 19 h1.2).trans h.2.1, h.2.2⟩
theorem ftM.ne {σ : am_S} {e : Nat × Nat} (h : ftM σ (some e)) : ¬ σ 69 18 = 0 := by
  rw [h.1]
  intro q
  have := (nI_eq (b := 0) (by have := h.2.2.2.1; omega) (by omega)).mp q
  have := h.2.2.1
  omega
theorem ftM.gt {σ : am_S} {e : Nat × Nat} (h : ftM σ (some e)) : ¬ σ 69 18 ≤ 0 := by
  rw [h.1]
  intro q
  have := (nI_leI (b := 0) (by have := h.2.2.2.1; omega) (by omega)).mp q
  have := h.2.2.1
  omega
theorem pcM.b {σ : am_S} {p : Tp} {j : Nat} (h : pcM σ p j) : tkS p j ≤ p.1 ∧ cP p (j + 1) ≤ p.1 ∧ tkS p j ≤ cP p (j + 1) := by
  have h1 := (tkS_sp (p := p) (j := j)).2
  refine ⟨h1, cP_le, ?_⟩
  by_cases q : tkS p j < p.1
  · rw [cP_s q]; have := (tkE_lt q).1; omega
  · have : cP p (j + 1) = tkS p j := if_neg q
    omega
theorem mTk_i {p : Tp} {j : Nat} : mTk (tkC p j) ≤ 4 ∧ (mTk (tkC p j) = 1 ↔ tkC p j = 0) ∧ (mTk (tkC p j) = 2 ↔ tkC p j = 1) ∧ (mTk (tkC p j) = 3 ↔ tkC p j = 2) ∧ (mTk (tkC p j) = 4 ↔ tkC p j = 3) := by
  have h := tkC_le (p := p) (j := j)
  unfold mTk
  by_cases e : tkC p j = 4
  · rw [if_pos e]; omega
  · rw [if_neg e]; omega
theorem c_mbegin (d : Nat) (σ : am_S) (p : Tp) (hp : wfP p) (ht : tapeV 69 11 77 σ p) : CallS mX12_begin (d + 2) [.ref 69] σ (fun r σ' => r = none ∧ pcM σ' p 0 ∧ ftM σ' none ∧ σ' 69 11 = 0 ∧ sameM [] [11, 13, 14, 15, 16, 17, 18] σ σ') := by
  refine CallS.of kX12_begin pX12_begin [.ref 69] rfl (Nat.le_of_ble_eq_true rfl) ?_
  refine GS.run [] 3 rfl ?_
  rw [ht.1]
  refine GS.run [] 0 rfl ?_
  refine GS.run [] 10 rfl ?_
  generalize hS : am_s1 (am_s1 (am_s1 (am_s1 σ 69 (upd (σ 69) 13 (nI p.1))) 69 _) 69 _) 69 _ = σs
  have f13 : σs 69 13 = nI p.1 := by rw [← hS]; rfl
  have f14 : σs 69 14 = nI (cP p 0) := by rw [← hS]; rfl
  have f18 : σs 69 18 = 0 := by rw [← hS]; rfl
  have f11 : σs 69 11 = 0 := by rw [← hS]; rfl
  have hs : sameM [] [11, 13, 14, 15, 16, 17, 18] σ σs := by rw [← hS]; exact (((sameM.rf.fld (by decide)).fld (by decide)).fld (by decide)).fld (by decide)
  clear hS
  have htp : tpM σs p := ⟨⟨f13, hp.1⟩, fun i hi => by rw [hs.1 77 (by decide) (by decide)]; exact ht.2 i hi⟩
  refine GS.run [] 0 rfl ?_
  refine GS.run [] 1 rfl ?_
  refine GS.callV oX12_next (c_next d σs p hp 0 htp f14 (fun i hi => absurd hi (Nat.not_lt_zero _))) rfl rfl rfl rfl rfl rfl rfl (Nat.le_of_ble_eq_true rfl) (by omega) (fun v24 σ24 hq24 => ?_)
  obtain ⟨rfl, p24, s24⟩ := hq24
  refine GS.vret rfl rfl ?_
  exact ⟨rfl, p24, (s24.2 18 (by decide)).trans f18, (s24.2 11 (by decide)).trans f11, hs.trans (s24.sub (by decide) (by decide))⟩
theorem c_badN (d : Nat) (σ : am_S) (p : Tp) (j k : Nat) (h : pcM σ p j) (hf : ftM σ none) (hk : 0 < k ∧ k < 1000) : CallS mX12_bad (d) [.ref 69, .int (nI k)] σ (fun r σ' => r = none ∧ ftM σ' (some (k, tkS p j)) ∧ sameM [] [18, 19] σ σ') := by
  refine CallS.of kX12_bad pX12_bad [.ref 69, .int (nI k)] rfl (Nat.le_of_ble_eq_true rfl) ?_
  refine GS.run [] 2 rfl ?_
  rw [show σ 69 18 = 0 from hf]
  refine GS.run [] 0 rfl ?_
  refine GS.if_ne rfl (fun q => absurd (rfl) q) (fun c4 => ?_)
  refine GS.run [] 6 rfl ?_
  rw [show (am_s1 σ 69 (upd (σ 69) 18 (nI k))) 69 16 = nI (tkS p j) from h.2.2.2.1]
  refine GS.run [] 0 rfl ?_
  refine GS.run [] 1 rfl ?_
  refine GS.vret rfl rfl ?_
  exact ⟨rfl, ⟨by rw [sM_f, if_neg (by decide), sM_f, if_pos rfl], by rw [sM_f, if_pos rfl], hk.1, hk.2, Nat.le_trans h.b.1 h.1.1.2⟩, (sameM.rf.fld (by decide)).fld (by decide)⟩
theorem c_badF (d : Nat) (σ : am_S) (e : Nat × Nat) (v : Int32) (hf : ftM σ (some e)) : CallS mX12_bad (d) [.ref 69, .int v] σ (am_det none σ) := by
  refine CallS.of kX12_bad pX12_bad [.ref 69, .int v] rfl (Nat.le_of_ble_eq_true rfl) ?_
  refine GS.run [] 2 rfl ?_
  refine GS.if_ne rfl (fun c4 => ?_) (fun q => absurd q (hf.ne))
  refine GS.vret rfl rfl ?_
  exact ⟨rfl, rfl⟩
theorem c_mustF (d : Nat) (σ : am_S) (e : Nat × Nat) (b : Bool) (hf : ftM σ (some e)) : CallS mX12_must (d + 1) [.ref 69, .int (bI b)] σ (am_det none σ) := by
  refine CallS.of kX12_must pX12_must [.ref 69, .int (bI b)] rfl (Nat.le_of_ble_eq_true rfl) ?_
  refine GS.run [] 1 rfl ?_
  refine GS.if_ne rfl (fun c1 => ?_) (fun c1 => ?_)
  · refine GS.run [] 2 rfl ?_
    refine GS.if_ne rfl (fun c13 => ?_) (fun q => absurd q (hf.ne))
    refine GS.vret rfl rfl ?_
    exact ⟨rfl, rfl⟩
  · refine GS.run [] 2 rfl ?_
    refine GS.cV oX12_bad (c_badF d σ e 1 hf) rfl rfl rfl rfl rfl rfl rfl (Nat.le_of_ble_eq_true rfl) (by omega) ?_
    refine GS.run [] 2 rfl ?_
    refine GS.if_ne rfl (fun c13 => ?_) (fun q => absurd q (hf.ne))
    refine GS.vret rfl rfl ?_
    exact ⟨rfl, rfl⟩
theorem c_mustT (d : Nat) (σ : am_S) (p : Tp) (hp : wfP p) (j : Nat) (h : pcM σ p j) (hf : ftM σ none) (hc : tkC p j ≠ 0) : CallS mX12_must (d + 2) [.ref 69, .int 1] σ (fun r σ' => r = none ∧ ftM σ' none ∧ pcM σ' p (j + 1) ∧ sameM [] [14, 15, 16, 17, 18, 19] σ σ') := by
  refine CallS.of kX12_must pX12_must [.ref 69, .int 1] rfl (Nat.le_of_ble_eq_true rfl) ?_
  refine GS.run [] 1 rfl ?_
  refine GS.if_ne rfl (fun c1 => ?_) (fun q => absurd q (by decide))
  refine GS.run [] 2 rfl ?_
  rw [show σ 69 18 = 0 from hf]
  refine GS.run [] 0 rfl ?_
  refine GS.if_ne rfl (fun q => absurd (rfl) q) (fun c13 => ?_)
  refine GS.run [] 1 rfl ?_
  refine GS.callV oX12_next (c_next d σ p hp (j + 1) h.1 h.2.1 (live_c h.2.2.2.2.2 hc)) rfl rfl rfl rfl rfl rfl rfl (Nat.le_of_ble_eq_true rfl) (by omega) (fun v17 σ17 hq17 => ?_)
  obtain ⟨rfl, p17, s17⟩ := hq17
  refine GS.vret rfl rfl ?_
  exact ⟨rfl, hf.kept s17 (by decide), p17, s17.sub (by decide) (by decide)⟩
theorem c_mustN (d : Nat) (σ : am_S) (p : Tp) (hp : wfP p) (j : Nat) (h : pcM σ p j) (hf : ftM σ none) : CallS mX12_must (d + 2) [.ref 69, .int 0] σ (fun r σ' => r = none ∧ ftM σ' (some (1, tkS p j)) ∧ pcM σ' p j ∧ sameM [] [14, 15, 16, 17, 18, 19] σ σ') := by
  refine CallS.of kX12_must pX12_must [.ref 69, .int 0] rfl (Nat.le_of_ble_eq_true rfl) ?_
  refine GS.run [] 1 rfl ?_
  refine GS.if_ne rfl (fun q => absurd (rfl) q) (fun c1 => ?_)
  refine GS.run [] 2 rfl ?_
  refine GS.callV oX12_bad (c_badN d σ p j 1 h hf (by decide)) rfl rfl rfl rfl rfl rfl rfl (Nat.le_of_ble_eq_true rfl) (by omega) (fun v6 σ6 hq6 => ?_)
  obtain ⟨rfl, f6, s6⟩ := hq6
  refine GS.run [] 2 rfl ?_
  refine GS.if_ne rfl (fun c13 => ?_) (fun q => absurd q (f6.ne))
  refine GS.vret rfl rfl ?_
  exact ⟨rfl, f6, h.kept s6 (by decide) (by decide), s6.sub (by decide) (by decide)⟩
theorem c_figures (d : Nat) (σ : am_S) (p : Tp) (hp : wfP p) (j : Nat) (h : pcM σ p j) : CallS mX12_figures (d) [.ref 69] σ (am_det (some (.int (nI (if tkC p j = 2 then numV p j else 0)))) σ) := by
  refine CallS.of kX12_figures pX12_figures [.ref 69, .retAddr 0, .retAddr 0] rfl (Nat.le_of_ble_eq_true rfl) ?_
  have h400 := hp.1
  obtain ⟨b1, b2, b3⟩ := h.b
  obtain ⟨-, -, h3, h4, h5, -⟩ := id h
  obtain ⟨m0, m2, m3, m4, m5⟩ := mTk_i (p := p) (j := j)
  refine GS.run [] 4 rfl ?_
  rw [h4]
  refine GS.run [] 0 rfl ?_
  refine GS.run [] 1 rfl ?_
  have loop7 : ∀ (fu : Nat) (k : Nat) (hk : tkS p j + k ≤ cP p (j + 1)) (hno : ¬ tkC p j = 2 → k = 0), cP p (j + 1) - k = fu → GS none mX12_figures (d) (am_det (some (.int (nI (if tkC p j = 2 then numV p j else 0)))) σ) 7 [.ref 69, .int (nI (dgV p (tkS p j) k)), .int (nI (tkS p j + k))] [] σ := by
    intro fu
    induction fu using Nat.strongRecOn with
    | ind fu ih7 =>
      intro k hk hno hfu
      refine GS.run [] 3 rfl ?_
      rw [h5]
      refine GS.run [] 0 rfl ?_
      refine GS.icmp_ge rfl (fun c12 => ?_) (fun c12 => ?_)
      · have e0 : tkS p j + k = cP p (j + 1) := by have := (nI_leI (by omega) (by omega)).mp c12; omega
        have hE : dgV p (tkS p j) k = (if tkC p j = 2 then numV p j else 0) := by
          by_cases q : tkC p j = 2
          · rw [if_pos q]
            unfold numV tkL
            rw [cP_s (tkC_2 q).1] at e0
            rw [← e0, Nat.add_sub_cancel_left]
          · rw [if_neg q, hno q]; rfl
        refine GS.run [] 1 rfl ?_
        refine GS.iret rfl rfl (rfl) ?_
        rw [hE]
        exact ⟨rfl, rfl⟩
      · have hl : tkS p j + k < cP p (j + 1) := (nI_gtI (by omega) (by omega)).mp c12
        refine GS.run [] 3 rfl ?_
        rw [h3]
        refine GS.run [] 0 rfl ?_
        refine GS.icmp_ne rfl (fun c20 => ?_) (fun c20 => ?_)
        · have k1 : ¬ tkC p j = 2 := fun q => c20 (by rw [m4.mpr q]; rfl)
          have hE : dgV p (tkS p j) k = (if tkC p j = 2 then numV p j else 0) := by rw [if_neg k1, hno k1]; rfl
          refine GS.run [] 1 rfl ?_
          refine GS.iret rfl rfl (rfl) ?_
          rw [hE]
          exact ⟨rfl, rfl⟩
        · have k1 : tkC p j = 2 := m4.mp ((nI_eq (b := 3) (by omega) (by omega)).mp c20)
          obtain ⟨t1, t2, t3, -⟩ := tkC_2 k1
          have hlt : tkS p j + k < p.1 := by omega
          have hkd := kd_2 ((tkE_run (x := tkS p j + k) t1 (by omega) (by rw [← cP_s t1]; exact hl)).trans t2)
          refine GS.run [] 6 rfl ?_
          refine GS.ald (tkS p j + k) rfl rfl (rfl) (by omega) ?_
          rw [h.1.2 (tkS p j + k) (by omega)]
          refine GS.run [] 6 rfl ?_
          rw [show nI (tkS p j + k) + 1 = nI (tkS p j + (k + 1)) from nI_1 _, show 10 * nI (dgV p (tkS p j) k) = nI (dgV p (tkS p j) k) * 10 from Int32.mul_comm _ _, dg_nI hkd.1]
          exact ih7 (cP p (j + 1) - (k + 1)) (by omega) (k + 1) (by omega) (fun q => absurd k1 q) rfl
  exact loop7 _ 0 b3 (fun _ => rfl) rfl
