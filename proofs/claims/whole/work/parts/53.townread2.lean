theorem pcC.next {σ σ' : am_S} {p : Tp} {j k : Nat} {L : List Nat} (h : pcC σ p j) (hs : same L σ σ') (hL : 7 ∉ L ∧ 8 ∉ L ∧ 9 ∉ L) (h6 : σ' 5 6 = nI k) (hl : live p k) : pcC σ' p k := ⟨h.1.kept hs hL, h6, hl⟩
theorem v_jnD {σ : am_S} {D : Tn} {a b : Nat} (hd : dftC σ D) (h6 : ∀ c, c < 8 → tD D c ≤ 6) (ha : a < 8) (hb : b < 8) : am_b (¬ am_get (σ 23) 64 (nI a * 8 + nI b) = -1000000) = bI (adB D a b) := by
  have e8 : nI a * 8 + nI b = nI (a * 8 + b) := by rw [show (8 : Int32) = nI 8 from rfl, pk_mul, nI_add]
  rw [e8]
  obtain ⟨-, -, g3, g4⟩ := hd.2.2.2 a ha
  cases e : adB D a b with
  | true =>
    obtain ⟨i, h1, h2⟩ := adB_iff.mp e
    have := h6 a ha
    have hv := g3 i h1
    rw [h2] at hv
    rw [v_get (by omega) (by omega) hv]
    exact am_b_1 (nI_ne_none (by omega))
  | false =>
    rw [v_get (by omega) (by omega) (g4 b hb (adB_no e))]
    exact am_b_0 (fun h => h rfl)
theorem v_jnN {σ : am_S} {b : Nat} (hb : b < 1000) : am_b (¬ am_get (σ 23) 64 (-1000000 * 8 + nI b) = -1000000) = 0 := by
  rw [am_get_out, am_b_0 (fun h => h rfl)]
  left
  rw [show (8 : Int32) = zI 8 from rfl, show (-1000000 : Int32) = zI (-1000000) from rfl, zI_mul, zI_n, zI_add, zI_t (by omega) (by omega)]
  omega
theorem wfD_6 {D : Tn} (h : wfD D) : ∀ c, c < 8 → tD D c ≤ 6 := fun c hc => by
  by_cases e : c < tN D
  · exact (h.1.2.2 c e).2.2.2.1
  · rw [h.2 c (by omega)]; omega
theorem c_readCorner (d : Nat) (σ : am_S) (p : Tp) (j : Nat) (hp : wfP p) (h : pcC σ p j) (D : Tn) (hd : dftC σ D) (h8 : tN D < 8) : CallS mX7_readCorner (d + 5) [.ref 5, .ref 17] σ (rdQ (rCor p j) [5, 17, 18, 19, 20, 21, 22, 23] (fun q σ' => σ' 5 6 = nI q.2 ∧ dftC σ' (tAddC D q.1.1 q.1.2.1 q.1.2.2)) σ) := by
  refine CallS.of kX7_readCorner pX7_readCorner [.ref 5, .ref 17, .retAddr 0, .retAddr 0] rfl (Nat.le_of_ble_eq_true rfl) ?_
  refine GS.run [] 2 rfl ?_
  refine GS.callV oX7_readNumber (c_readNumber (d + 2) σ p j hp h 99 (by omega)) rfl rfl rfl rfl rfl rfl rfl (Nat.le_of_ble_eq_true rfl) (by omega) (fun v3 σ3 hq3 => ?_)
  skip
  rcases e3 : rNum p 99 j with e | hh
  · rw [e3] at hq3
    obtain ⟨rfl, f3⟩ := hq3
    have hE : rCor p j = .error e := by unfold rCor; rw [e3]
    refine GS.if_ne rfl (fun q => absurd (rfl) q) (fun c6 => ?_)
    refine GS.run [] 1 rfl ?_
    refine GS.iret rfl rfl (rfl) ?_
    rw [hE]
    exact ⟨rfl, f3.sub (by decide)⟩
  · rw [e3] at hq3
    obtain ⟨rfl, f3, g3⟩ := hq3
    obtain ⟨n3, -, -⟩ := rNum_ok e3
    have h3 : pcC σ3 p (j + 1) := h.next f3.1 (by decide) g3.1 (live_c h.2.2 (by omega))
    refine GS.if_ne rfl (fun c6 => ?_) (fun q => absurd q (by decide))
    refine GS.run [] 2 rfl ?_
    rw [g3.2]
    refine GS.run [] 0 rfl ?_
    refine GS.run [] 3 rfl ?_
    refine GS.callV oX7_readNumber (c_readNumber (d + 2) σ3 p (j + 1) hp h3 9 (by omega)) rfl rfl rfl rfl rfl rfl rfl (Nat.le_of_ble_eq_true rfl) (by omega) (fun v19 σ19 hq19 => ?_)
    skip
    rcases e19 : rNum p 9 (j + 1) with e | m
    · rw [e19] at hq19
      obtain ⟨rfl, f19⟩ := hq19
      have hE : rCor p j = .error e := by unfold rCor; simp only [e3, e19]
      refine GS.if_ne rfl (fun q => absurd (rfl) q) (fun c22 => ?_)
      refine GS.run [] 1 rfl ?_
      refine GS.iret rfl rfl (rfl) ?_
      rw [hE]
      exact ⟨rfl, (f3.er f19).sub (by decide)⟩
    · rw [e19] at hq19
      obtain ⟨rfl, f19, g19⟩ := hq19
      obtain ⟨n19, -, -⟩ := rNum_ok e19
      have h19 : pcC σ19 p (j + 2) := h3.next f19.1 (by decide) g19.1 (live_c h3.2.2 (by omega))
      have hd19 : dftC σ19 D := (hd.kept f3.1 (by decide)).kept f19.1 (by decide)
      have f9 : okF [5, 17, 18, 19, 20, 21, 22, 23] σ σ19 := (f3.trans f19).sub (by decide)
      refine GS.if_ne rfl (fun c22 => ?_) (fun q => absurd q (by decide))
      refine GS.run [] 2 rfl ?_
      refine GS.cV oX7_isName (c_isName (d + 2) σ19 p (j + 2) hp h19 10) rfl rfl rfl rfl rfl rfl rfl (Nat.le_of_ble_eq_true rfl) (by omega) ?_
      refine GS.run [] 5 rfl ?_
      rw [show σ19 5 6 = nI (j + 2) from h19.2.1]
      refine GS.run [] 0 rfl ?_
      refine GS.if_eq rfl (fun c40 => ?_) (fun c40 => ?_)
      · have hnw : ¬ isNm p 10 (j + 2) := fun q => by rw [decide_eq_true q] at c40; exact absurd c40 (by decide)
        have hw : wlN p (j + 2) = 0 := if_neg hnw
        have hw1 : nI (j + 2) + 0 = nI (j + 2 + wlN p (j + 2)) := by rw [hw]; exact Int32.add_zero _
        have hl2 : live p (j + 2 + wlN p (j + 2)) := by rw [hw]; exact h19.2.2
        refine GS.run [] 2 rfl ?_
        rw [hw1]
        refine GS.run [] 0 rfl ?_
        refine GS.run [] 1 rfl ?_
        have fA : okF [5, 17, 18, 19, 20, 21, 22, 23] σ (am_s1 σ19 5 (upd (σ19 5) 6 (nI (j + 2 + wlN p (j + 2))))) := f9.f (by decide) (Or.inl rfl)
        have e6 : am_s1 σ19 5 (upd (σ19 5) 6 (nI (j + 2 + wlN p (j + 2)))) 5 6 = nI (j + 2 + wlN p (j + 2)) := by rw [am_s1_eq, upd_eq]
        have e7 : am_s1 σ19 5 (upd (σ19 5) 6 (nI (j + 2 + wlN p (j + 2)))) 5 7 = nI m := by rw [am_s1_eq, upd_ne _ _ (by decide)]; exact g19.2
        have sA : same [5] σ19 (am_s1 σ19 5 (upd (σ19 5) 6 (nI (j + 2 + wlN p (j + 2))))) := same.rf.s1 (by decide)
        generalize am_s1 σ19 5 (upd (σ19 5) 6 (nI (j + 2 + wlN p (j + 2)))) = σA at fA e6 e7 sA ⊢
        have hA : pcC σA p (j + 2 + wlN p (j + 2)) := h19.next sA (by decide) e6 hl2
        have hdA := hd19.kept sA (by decide)
        refine GS.run [] 0 rfl ?_
        refine GS.run [] 4 rfl ?_
        rw [e7]
        refine GS.run [] 0 rfl ?_
        refine GS.run [] 1 rfl ?_
        refine GS.callV oX8_addCorner (c_addCorner (d + 3) σA D hh m (decide (isNm p 10 (j + 2))) hdA h8) rfl rfl rfl rfl rfl rfl rfl (Nat.le_of_ble_eq_true rfl) (by omega) (fun v59 σ59 hq59 => ?_)
        obtain ⟨rfl, d59, s59⟩ := hq59
        have h59 : pcC σ59 p (j + 2 + wlN p (j + 2)) := hA.next s59 (by decide) ((congrFun (s59 5 (by decide)) 6).trans e6) hl2
        have f59 : okF [5, 17, 18, 19, 20, 21, 22, 23] σ σ59 := fA.d s59 (by decide) (by decide)
        have hwn : (if decide (isNm p 10 (j + 2)) = true then 1 else 0) = wlN p (j + 2) := by
          unfold wlN
          by_cases q : isNm p 10 (j + 2)
          · rw [if_pos q, if_pos (decide_eq_true q)]
          · rw [if_neg q, if_neg (by rw [decide_eq_false q]; exact Bool.false_ne_true)]
        rw [hwn] at d59
        refine GS.run [] 1 rfl ?_
        refine GS.callV oX7_readSign (c_readSign (d + 2) σ59 p (j + 2 + wlN p (j + 2)) hp h59) rfl rfl rfl rfl rfl rfl rfl (Nat.le_of_ble_eq_true rfl) (by omega) (fun v63 σ63 hq63 => ?_)
        skip
        rcases e63 : rSig p (j + 2 + wlN p (j + 2)) with e | u
        · rw [e63] at hq63
          obtain ⟨rfl, f63⟩ := hq63
          have hE : rCor p j = .error e := by unfold rCor; simp only [e3, e19, e63]
          refine GS.iret rfl rfl rfl ?_
          rw [hE]
          exact ⟨rfl, f59.er (f63.sub (by decide))⟩
        rw [e63] at hq63
        obtain ⟨rfl, f63, g63⟩ := hq63
        have hE : rCor p j = .ok ((hh, m, wlN p (j + 2)), j + 3 + wlN p (j + 2)) := by unfold rCor; simp only [e3, e19, e63]
        refine GS.run [] 0 rfl ?_
        refine GS.iret rfl rfl (rfl) ?_
        rw [hE]
        exact ⟨rfl, f59.trans (f63.sub (by decide)), g63.trans (congrArg nI (by omega)), d59.kept f63.1 (by decide)⟩
      · have hnw : isNm p 10 (j + 2) := by
          by_cases q : isNm p 10 (j + 2)
          · exact q
          · rw [decide_eq_false q] at c40; exact absurd rfl c40
        have hw : wlN p (j + 2) = 1 := if_pos hnw
        have hw1 : nI (j + 2) + 1 = nI (j + 2 + wlN p (j + 2)) := by rw [hw]; exact nI_1 _
        have hl2 : live p (j + 2 + wlN p (j + 2)) := by rw [hw]; exact live_c h19.2.2 (by rw [hnw.1]; decide)
        refine GS.run [] 3 rfl ?_
        rw [hw1]
        refine GS.run [] 0 rfl ?_
        refine GS.run [] 1 rfl ?_
        have fA : okF [5, 17, 18, 19, 20, 21, 22, 23] σ (am_s1 σ19 5 (upd (σ19 5) 6 (nI (j + 2 + wlN p (j + 2))))) := f9.f (by decide) (Or.inl rfl)
        have e6 : am_s1 σ19 5 (upd (σ19 5) 6 (nI (j + 2 + wlN p (j + 2)))) 5 6 = nI (j + 2 + wlN p (j + 2)) := by rw [am_s1_eq, upd_eq]
        have e7 : am_s1 σ19 5 (upd (σ19 5) 6 (nI (j + 2 + wlN p (j + 2)))) 5 7 = nI m := by rw [am_s1_eq, upd_ne _ _ (by decide)]; exact g19.2
        have sA : same [5] σ19 (am_s1 σ19 5 (upd (σ19 5) 6 (nI (j + 2 + wlN p (j + 2))))) := same.rf.s1 (by decide)
        generalize am_s1 σ19 5 (upd (σ19 5) 6 (nI (j + 2 + wlN p (j + 2)))) = σA at fA e6 e7 sA ⊢
        have hA : pcC σA p (j + 2 + wlN p (j + 2)) := h19.next sA (by decide) e6 hl2
        have hdA := hd19.kept sA (by decide)
        refine GS.run [] 0 rfl ?_
        refine GS.run [] 4 rfl ?_
        rw [e7]
        refine GS.run [] 0 rfl ?_
        refine GS.run [] 1 rfl ?_
        refine GS.callV oX8_addCorner (c_addCorner (d + 3) σA D hh m (decide (isNm p 10 (j + 2))) hdA h8) rfl rfl rfl rfl rfl rfl rfl (Nat.le_of_ble_eq_true rfl) (by omega) (fun v59 σ59 hq59 => ?_)
        obtain ⟨rfl, d59, s59⟩ := hq59
        have h59 : pcC σ59 p (j + 2 + wlN p (j + 2)) := hA.next s59 (by decide) ((congrFun (s59 5 (by decide)) 6).trans e6) hl2
        have f59 : okF [5, 17, 18, 19, 20, 21, 22, 23] σ σ59 := fA.d s59 (by decide) (by decide)
        have hwn : (if decide (isNm p 10 (j + 2)) = true then 1 else 0) = wlN p (j + 2) := by
          unfold wlN
          by_cases q : isNm p 10 (j + 2)
          · rw [if_pos q, if_pos (decide_eq_true q)]
          · rw [if_neg q, if_neg (by rw [decide_eq_false q]; exact Bool.false_ne_true)]
        rw [hwn] at d59
        refine GS.run [] 1 rfl ?_
        refine GS.callV oX7_readSign (c_readSign (d + 2) σ59 p (j + 2 + wlN p (j + 2)) hp h59) rfl rfl rfl rfl rfl rfl rfl (Nat.le_of_ble_eq_true rfl) (by omega) (fun v63 σ63 hq63 => ?_)
        skip
        rcases e63 : rSig p (j + 2 + wlN p (j + 2)) with e | u
        · rw [e63] at hq63
          obtain ⟨rfl, f63⟩ := hq63
          have hE : rCor p j = .error e := by unfold rCor; simp only [e3, e19, e63]
          refine GS.iret rfl rfl rfl ?_
          rw [hE]
          exact ⟨rfl, f59.er (f63.sub (by decide))⟩
        rw [e63] at hq63
        obtain ⟨rfl, f63, g63⟩ := hq63
        have hE : rCor p j = .ok ((hh, m, wlN p (j + 2)), j + 3 + wlN p (j + 2)) := by unfold rCor; simp only [e3, e19, e63]
        refine GS.run [] 0 rfl ?_
        refine GS.iret rfl rfl (rfl) ?_
        rw [hE]
        exact ⟨rfl, f59.trans (f63.sub (by decide)), g63.trans (congrArg nI (by omega)), d59.kept f63.1 (by decide)⟩
