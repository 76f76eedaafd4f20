theorem pcC.next {σ σ' : am_S} {p : Tp} {j k : Nat} {L : List Nat} (h : pcC σ p j) (hs : same L σ σ') (hL : 7 ∉ L ∧ 8 ∉ L ∧ 9 ∉ L) (h6 : σ' 5 6 = nI k) (hl : live p k) : pcC σ' p k := ⟨h.1.kept hs hL, h6, hl⟩
theorem v_jnD {σ : am_S} {D : Tn} {a b : Nat} (hd : dftC σ D) (h6 : ∀ c, c < 8 → tD D c ≤ 6) (ha : a < 8) (hb : b < 8) : am_b (¬ am_get (σ 23) 64 (nI a * 8 + nI b) = -1000000) = bI (adB D a b) := by
  have e8 : nI a * 8 + nI b = nI (a * 8 + b) := by rw [show (8 : Int32) = nI 8 from rfl, pk_mul, nI_add]
  rw [e8]
  obtain ⟨-, -, g3, g4⟩ := hd.2.2.2 a ha
  cases e : adB D a b with
  | true =>
    obtain ⟨i, h1, h2⟩ := adB_iff.mp e
    have := h6 a ha
    have hv := g3 i h1
    rw [h2] at hv
    rw [v_get (by omega) (by omega) hv]
    exact am_b_1 (nI_ne_none (by omega))
  | false =>
    rw [v_get (by omega) (by omega) (g4 b hb (adB_no e))]
    exact am_b_0 (fun h => h rfl)
theorem v_jnN {σ : am_S} {b : Nat} (hb : b < 1000) : am_b (¬ am_get (σ 23) 64 (-1000000 * 8 + nI b) = -1000000) = 0 := by
  rw [am_get_out, am_b_0 (fun h => h rfl)]
  left
  rw [show (8 : Int32) = zI 8 from rfl, show (-1000000 : Int32) = zI (-1000000) from rfl, zI_mul, zI_n, zI_add, zI_t (by omega) (by omega)]
  omega
theorem wfD_6 {D : Tn} (h : wfD D) : ∀ c, c < 8 → tD D c ≤ 6 := fun c hc => by
  by_cases e : c < tN D
  · exact (h.1.2.2 c e).2.2.2.1
  · rw [h.2 c (by omega)]; omega
theorem c_readCorner (d : Nat) (σ : am_S) (p : Tp) (j : Nat) (hp : wfP p) (h : pcC σ p j) (D : Tn) (hd : dftC σ D) (h8 : tN D < 8) : CallS mX7_readCorner (d + 5) [.ref 5, .ref 17] σ (rdQ (rCor p j) [5, 17, 18, 19, 20, 21, 22, 23] (fun q σ' => σ' 5 6 = nI q.2 ∧ dftC σ' (tAddC D q.1.1 q.1.2.1 q.1.2.2)) σ) := by
  refine CallS.of kX7_readCorner pX7_readCorner [.ref 5, .ref 17, .retAddr 0, .retAddr 0] rfl (Nat.le_of_ble_eq_true rfl) ?_
  refine GS.run [] 2 rfl ?_
  refine GS.callV oX7_readNumber (c_readNumber (d + 2) σ p j hp h 99 (by omega)) rfl rfl rfl rfl rfl rfl rfl (Nat.le_of_ble_eq_true rfl) (by omega) (fun v3 σ3 hq3 => ?_)
  skip
  rcases e3 : rNum p 99 j with e | hh
  · rw [e3] at hq3
    obtain ⟨rfl, f3⟩ := hq3
    have hE : rCor p j = .error e := by unfold rCor; rw [e3]
    refine GS.if_ne rfl (fun q => absurd (rfl) q) (fun c6 => ?_)
    refine GS.run [] 1 rfl ?_
    refine GS.iret rfl rfl (rfl) ?_
    rw [hE]
    exact ⟨rfl, f3.sub (by decide)⟩
  · rw [e3] at hq3
    obtain ⟨rfl, f3, g3⟩ := hq3
    obtain ⟨n3, -, -⟩ := rNum_ok e3
    have h3 : pcC σ3 p (j + 1) := h.next f3.1 (by decide) g3.1 (live_c h.2.2 (by omega))
    refine GS.if_ne rfl (fun c6 => ?_) (fun q => absurd q (by decide))
    refine GS.run [] 2 rfl ?_
    rw [g3.2]
    refine GS.run [] 0 rfl ?_
    refine GS.run [] 3 rfl ?_
    refine GS.callV oX7_readNumber (c_readNumber (d + 2) σ3 p (j + 1) hp h3 9 (by omega)) rfl rfl rfl rfl rfl rfl rfl (Nat.le_of_ble_eq_true rfl) (by omega) (fun v19 σ19 hq19 => ?_)
    skip
    rcases e19 : rNum p 9 (j + 1) with e | m
    · rw [e19] at hq19
      obtain ⟨rfl, f19⟩ := hq19
      have hE : rCor p j = .error e := by unfold rCor; simp only [e3, e19]
      refine GS.if_ne rfl (fun q => absurd (rfl) q) (fun c22 => ?_)
      refine GS.run [] 1 rfl ?_
      refine GS.iret rfl rfl (rfl) ?_
      rw [hE]
      exact ⟨rfl, (f3.er f19).sub (by decide)⟩
    · rw [e19] at hq19
      obtain ⟨rfl, f19, g19⟩ := hq19
      obtain ⟨n19, -, -⟩ := rNum_ok e19
      have h19 : pcC σ19 p (j + 2) := h3.next f19.1 (by decide) g19.1 (live_c h3.2.2 (by omega))
      have hd19 : dftC σ19 D := (hd.kept f3.1 (by decide)).kept f19.1 (by decide)
      have f9 : okF [5, 17, 18, 19, 20, 21, 22, 23] σ σ19 := (f3.trans f19).sub (by decide)
      refine GS.if_ne rfl (fun c22 => ?_) (fun q => absurd q (by decide))
      refine GS.run [] 2 rfl ?_
      refine GS.cV oX7_isName (c_isName (d + 2) σ19 p (j + 2) hp h19 10) rfl rfl rfl rfl rfl rfl rfl (Nat.le_of_ble_eq_true rfl) (by omega) ?_
      refine GS.run [] 5 rfl ?_
      rw [show σ19 5 6 = nI (j + 2) from h19.2.1]
      refine GS.run [] 0 rfl ?_
      refine GS.if_eq rfl (fun c40 => ?_) (fun c40 => ?_)
      · have hnw : ¬ isNm p 10 (j + 2) := fun q => by rw [decide_eq_true q] at c40; exact absurd c40 (by decide)
        have hw : wlN p (j + 2) = 0 := if_neg hnw
        have hw1 : nI (j + 2) + 0 = nI (j + 2 + wlN p (j + 2)) := by rw [hw]; exact Int32.add_zero _
        have hl2 : live p (j + 2 + wlN p (j + 2)) := by rw [hw]; exact h19.2.2
        refine GS.run [] 2 rfl ?_
        rw [hw1]
        refine GS.run [] 0 rfl ?_
        refine GS.run [] 1 rfl ?_
        have fA : okF [5, 17, 18, 19, 20, 21, 22, 23] σ (am_s1 σ19 5 (upd (σ19 5) 6 (nI (j + 2 + wlN p (j + 2))))) := f9.f (by decide) (Or.inl rfl)
        have e6 : am_s1 σ19 5 (upd (σ19 5) 6 (nI (j + 2 + wlN p (j + 2)))) 5 6 = nI (j + 2 + wlN p (j + 2)) := by rw [am_s1_eq, upd_eq]
        have e7 : am_s1 σ19 5 (upd (σ19 5) 6 (nI (j + 2 + wlN p (j + 2)))) 5 7 = nI m := by rw [am_s1_eq, upd_ne _ _ (by decide)]; exact g19.2
        have sA : same [5] σ19 (am_s1 σ19 5 (upd (σ19 5) 6 (nI (j + 2 + wlN p (j + 2))))) := same.rf.s1 (by decide)
        generalize am_s1 σ19 5 (upd (σ19 5) 6 (nI (j + 2 + wlN p (j + 2)))) = σA at fA e6 e7 sA ⊢
        have hA : pcC σA p (j + 2 + wlN p (j + 2)) := h19.next sA (by decide) e6 hl2
        have hdA := hd19.kept sA (by decide)
        refine GS.run [] 0 rfl ?_
        refine GS.run [] 4 rfl ?_
        rw [e7]
        refine GS.run [] 0 rfl ?_
        refine GS.run [] 1 rfl ?_
        refine GS.callV oX8_addCorner (c_addCorner (d + 3) σA D hh m (decide (isNm p 10 (j + 2))) hdA h8) rfl rfl rfl rfl rfl rfl rfl (Nat.le_of_ble_eq_true rfl) (by omega) (fun v59 σ59 hq59 => ?_)
        obtain ⟨rfl, d59, s59⟩ := hq59
        have h59 : pcC σ59 p (j + 2 + wlN p (j + 2)) := hA.next s59 (by decide) ((congrFun (s59 5 (by decide)) 6).trans e6) hl2
        have f59 : okF [5, 17, 18, 19, 20, 21, 22, 23] σ σ59 := fA.d s59 (by decide) (by decide)
        have hwn : (if decide (isNm p 10 (j + 2)) = true then 1 else 0) = wlN p (j + 2) := by
          unfold wlN
          by_cases q : isNm p 10 (j + 2)
          · rw [if_pos q, if_pos (decide_eq_true q)]
          · rw [if_neg q, if_neg (by rw [decide_eq_false q]; exact Bool.false_ne_true)]
        rw [hwn] at d59
        refine GS.run [] 1 rfl ?_
        refine GS.callV oX7_readSign (c_readSign (d + 2) σ59 p (j + 2 + wlN p (j + 2)) hp h59) rfl rfl rfl rfl rfl rfl rfl (Nat.le_of_ble_eq_true rfl) (by omega) (fun v63 σ63 hq63 => ?_)
        skip
        rcases e63 : rSig p (j + 2 + wlN p (j + 2)) with e | u
        · rw [e63] at hq63
          obtain ⟨rfl, f63⟩ := hq63
          have hE : rCor p j = .error e := by unfold rCor; simp only [e3, e19, e63]
          refine GS.iret rfl rfl rfl ?_
          rw [hE]
          exact ⟨rfl, f59.er (f63.sub (by decide))⟩
        rw [e63] at hq63
        obtain ⟨rfl, f63, g63⟩ := hq63
        have hE : rCor p j = .ok ((hh, m, wlN p (j + 2)), j + 3 + wlN p (j + 2)) := by unfold rCor; simp only [e3, e19, e63]
        refine GS.run [] 0 rfl ?_
        refine GS.iret rfl rfl (rfl) ?_
        rw [hE]
        exact ⟨rfl, f59.trans (f63.sub (by decide)), g63.trans (congrArg nI (by omega)), d59.kept f63.1 (by decide)⟩
      · have hnw : isNm p 10 (j + 2) := by
          by_cases q : isNm p 10 (j + 2)
          · exact q
          · rw [decide_eq_false q] at c40; exact absurd rfl c40
        have hw : wlN p (j + 2) = 1 := if_pos hnw
        have hw1 : nI (j + 2) + 1 = nI (j + 2 + wlN p (j + 2)) := by rw [hw]; exact nI_1 _
        have hl2 : live p (j + 2 + wlN p (j + 2)) := by rw [hw]; exact live_c h19.2.2 (by rw [hnw.1]; decide)
        refine GS.run [] 3 rfl ?_
        rw [hw1]
        refine GS.run [] 0 rfl ?_
        refine GS.run [] 1 rfl ?_
        have fA : okF [5, 17, 18, 19, 20, 21, 22, 23] σ (am_s1 σ19 5 (upd (σ19 5) 6 (nI (j + 2 + wlN p (j + 2))))) := f9.f (by decide) (Or.inl rfl)
        have e6 : am_s1 σ19 5 (upd (σ19 5) 6 (nI (j + 2 + wlN p (j + 2)))) 5 6 = nI (j + 2 + wlN p (j + 2)) := by rw [am_s1_eq, upd_eq]
        have e7 : am_s1 σ19 5 (upd (σ19 5) 6 (nI (j + 2 + wlN p (j + 2)))) 5 7 = nI m := by rw [am_s1_eq, upd_ne _ _ (by decide)]; exact g19.2
        have sA : same [5] σ19 (am_s1 σ19 5 (upd (σ19 5) 6 (nI (j + 2 + wlN p (j + 2))))) := same.rf.s1 (by decide)
        generalize am_s1 σ19 5 (upd (σ19 5) 6 (nI (j + 2 + wlN p (j + 2)))) = σA at fA e6 e7 sA ⊢
        have hA : pcC σA p (j + 2 + wlN p (j + 2)) := h19.next sA (by decide) e6 hl2
        have hdA := hd19.kept sA (by decide)
        refine GS.run [] 0 rfl ?_
        refine GS.run [] 4 rfl ?_
        rw [e7]
        refine GS.run [] 0 rfl ?_
        refine GS.run [] 1 rfl ?_
        refine GS.callV oX8_addCorner (c_addCorner (d + 3) σA D hh m (decide (isNm p 10 (j + 2))) hdA h8) rfl rfl rfl rfl rfl rfl rfl (Nat.le_of_ble_eq_true rfl) (by omega) (fun v59 σ59 hq59 => ?_)
        obtain ⟨rfl, d59, s59⟩ := hq59
        have h59 : pcC σ59 p (j + 2 + wlN p (j + 2)) := hA.next s59 (by decide) ((congrFun (s59 5 (by decide)) 6).trans e6) hl2
        have f59 : okF [5, 17, 18, 19, 20, 21, 22, 23] σ σ59 := fA.d s59 (by decide) (by decide)
        have hwn : (if decide (isNm p 10 (j + 2)) = true then 1 else 0) = wlN p (j + 2) := by
          unfold wlN
          by_cases q : isNm p 10 (j + 2)
          · rw [if_pos q, if_pos (decide_eq_true q)]
          · rw [if_neg q, if_neg (by rw [decide_eq_false q]; exact Bool.false_ne_true)]
        rw [hwn] at d59
        refine GS.run [] 1 rfl ?_
        refine GS.callV oX7_readSign (c_readSign (d + 2) σ59 p (j + 2 + wlN p (j + 2)) hp h59) rfl rfl rfl rfl rfl rfl rfl (Nat.le_of_ble_eq_true rfl) (by omega) (fun v63 σ63 hq63 => ?_)
        skip
        rcases e63 : rSig p (j + 2 + wlN p (j + 2)) with e | u
        · rw [e63] at hq63
          obtain ⟨rfl, f63⟩ := hq63
          have hE : rCor p j = .error e := by unfold rCor; simp only [e3, e19, e63]
          refine GS.iret rfl rfl rfl ?_
          rw [hE]
          exact ⟨rfl, f59.er (f63.sub (by decide))⟩
        rw [e63] at hq63
        obtain ⟨rfl, f63, g63⟩ := hq63
        have hE : rCor p j = .ok ((hh, m, wlN p (j + 2)), j + 3 + wlN p (j + 2)) := by unfold rCor; simp only [e3, e19, e63]
        refine GS.run [] 0 rfl ?_
        refine GS.iret rfl rfl (rfl) ?_
        rw [hE]
        exact ⟨rfl, f59.trans (f63.sub (by decide)), g63.trans (congrArg nI (by omega)), d59.kept f63.1 (by decide)⟩
theorem c_readStreetEnd (d : Nat) (σ : am_S) (p : Tp) (j : Nat) (hp : wfP p) (h : pcC σ p j) (D : Tn) (o : Option Nat) (hd : dftC σ D) (hw : wfD D) (ho : ∀ a, o = some a → a < tN D) : CallS mX7_readStreetEnd (d + 3) [.ref 5, .ref 17, .int (fkI o)] σ (rdQ (rEnd p D o j) [5] (fun v σ' => σ' 5 6 = nI (j + 1) ∧ σ' 5 7 = nI v) σ) := by
  refine CallS.of kX7_readStreetEnd pX7_readStreetEnd [.ref 5, .ref 17, .int (fkI o), .retAddr 0] rfl (Nat.le_of_ble_eq_true rfl) ?_
  have hc4 := tkC_le (p := p) (j := j)
  have h8 := hw.1.1
  refine GS.run [] 1 rfl ?_
  refine GS.cV oX7_sort (c_sort7 (d + 1) σ p j hp h) rfl rfl rfl rfl rfl rfl rfl (Nat.le_of_ble_eq_true rfl) (by omega) ?_
  refine GS.run [] 1 rfl ?_
  refine GS.icmp_eq rfl (fun c5 => ?_) (fun c5 => ?_)
  · have k1 : tkC p j = 2 := (nI_eq (b := 2) (by omega) (by omega)).mp c5
    obtain ⟨-, -, -, -, hv9, hV⟩ := tkC_2 k1
    refine GS.run [] 1 rfl ?_
    refine GS.cV oX7_value ((c_value7 (d + 1) σ p j hp h).eq (congrArg (fun z => some (Value.int z)) (hV)) rfl) rfl rfl rfl rfl rfl rfl rfl (Nat.le_of_ble_eq_true rfl) (by omega) ?_
    refine GS.run [] 3 rfl ?_
    refine GS.cV oX8_has (c_has_17 (d + 1) σ (nI (numV p j))) rfl rfl rfl rfl rfl rfl rfl (Nat.le_of_ble_eq_true rfl) (by omega) ?_
    have hin : (0 ≤ (nI (numV p j)).toInt ∧ (nI (numV p j)).toInt < (σ 17 0).toInt) ↔ numV p j < tN D := by rw [hd.1, nI_toInt (by omega), nI_toInt (by omega)]; omega
    refine GS.run [] 0 rfl ?_
    refine GS.if_eq rfl (fun c24 => ?_) (fun c24 => ?_)
    · have kn : ¬ numV p j < tN D := fun q => am_b0.mp c24 (hin.mpr q)
      have hE : rEnd p D o j = .error (2, tkS p j) := by unfold rEnd; rw [if_pos k1, if_neg (fun q => kn q.1)]
      refine GS.run [] 2 rfl ?_
      refine GS.callV oX7_fail (c_fail7 (d + 1) σ p (j) hp h 2) rfl rfl rfl rfl rfl rfl rfl (Nat.le_of_ble_eq_true rfl) (by omega) (fun v43 σ43 hq43 => ?_)
      obtain ⟨rfl, f43⟩ := hq43
      refine GS.iret rfl rfl (rfl) ?_
      rw [hE]
      exact ⟨rfl, f43⟩
    · have kn : numV p j < tN D := hin.mp (am_bT c24)
      have ERR : jnB D o (numV p j) = true → rEnd p D o j = .error (2, tkS p j) := fun q => by unfold rEnd; rw [if_pos k1, if_neg (fun z => by rw [q] at z; exact absurd z.2 (by decide))]
      have OK1 : jnB D o (numV p j) = false → ¬ 6 ≤ tD D (numV p j) → rEnd p D o j = .ok (numV p j) := fun q k3 => by unfold rEnd; rw [if_pos k1, if_pos ⟨kn, q⟩, if_neg k3]
      have OK3 : jnB D o (numV p j) = false → 6 ≤ tD D (numV p j) → rEnd p D o j = .error (3, tkS p j) := fun q k3 => by unfold rEnd; rw [if_pos k1, if_pos ⟨kn, q⟩, if_pos k3]
      refine GS.run [] 2 rfl ?_
      rcases o with _ | a
      · refine GS.icmp_eq rfl (fun q => absurd q (nI_ne_none (by omega))) (fun c29 => ?_)
        refine GS.run [] 3 rfl ?_
        refine GS.cV oX8_joined ((c_joined_17 (d + 1) σ (fkI none) (nI (numV p j))).eq (congrArg (fun z => some (Value.int z)) (v_jnN (by omega))) rfl) rfl rfl rfl rfl rfl rfl rfl (Nat.le_of_ble_eq_true rfl) (by omega) ?_
        refine GS.if_eq rfl (fun c38 => ?_) (fun q => absurd (rfl) q)
        have hJ : jnB D none (numV p j) = false := rfl
        refine GS.run [] 0 rfl ?_
        refine GS.run [] 2 rfl ?_
        refine GS.cV oX8_streetsAt ((c_streetsAt_17 (d + 1) σ (nI (numV p j))).eq (congrArg (fun z => some (Value.int z)) (v_get (by omega) (by omega) (hd.2.2.2 (numV p j) (by omega)).1)) rfl) rfl rfl rfl rfl rfl rfl rfl (Nat.le_of_ble_eq_true rfl) (by omega) ?_
        refine GS.run [] 1 rfl ?_
        have h6v := wfD_6 hw (numV p j) (by omega)
        refine GS.run [] 0 rfl ?_
        refine GS.icmp_lt rfl (fun c54 => ?_) (fun c54 => ?_)
        · have k3 : ¬ 6 ≤ tD D (numV p j) := by have := (nI_ltI (b := 6) (by omega) (by omega)).mp c54; omega
          have hE := OK1 hJ k3
          refine GS.run [] 6 rfl ?_
          rw [show (am_s1 σ 5 (upd (σ 5) 7 (nI (numV p j)))) 5 6 = nI j from h.2.1]
          refine GS.run [] 0 rfl ?_
          refine GS.run [] 4 rfl ?_
          refine GS.iret rfl rfl (rfl) ?_
          rw [hE]
          refine ⟨rfl, (okF.rf.f (by decide) (Or.inr rfl)).f (by decide) (Or.inl rfl), ?_, ?_⟩
          · rw [am_s1_eq, upd_eq]; exact nI_1 j
          · rw [am_s1_eq, upd_ne _ _ (by decide), am_s1_eq, upd_eq]
        · have k3 : 6 ≤ tD D (numV p j) := (nI_geI (b := 6) (by omega) (by omega)).mp c54
          have hE := OK3 hJ k3
          refine GS.run [] 2 rfl ?_
          refine GS.callV oX7_fail (c_fail7 (d + 1) σ p (j) hp h 3) rfl rfl rfl rfl rfl rfl rfl (Nat.le_of_ble_eq_true rfl) (by omega) (fun v59 σ59 hq59 => ?_)
          obtain ⟨rfl, f59⟩ := hq59
          refine GS.iret rfl rfl (rfl) ?_
          rw [hE]
          exact ⟨rfl, f59⟩
      · have haN := ho a rfl
        refine GS.icmp_eq rfl (fun c29 => ?_) (fun c29 => ?_)
        · have hE : rEnd p D (some a) j = .error (2, tkS p j) := ERR (by
            have : a = numV p j := ((nI_eq (by omega) (by omega)).mp c29).symm
            show (decide (a = numV p j) || adB D a (numV p j)) = true
            rw [decide_eq_true this]; rfl)
          refine GS.run [] 2 rfl ?_
          refine GS.callV oX7_fail (c_fail7 (d + 1) σ p (j) hp h 2) rfl rfl rfl rfl rfl rfl rfl (Nat.le_of_ble_eq_true rfl) (by omega) (fun v43 σ43 hq43 => ?_)
          obtain ⟨rfl, f43⟩ := hq43
          refine GS.iret rfl rfl (rfl) ?_
          rw [hE]
          exact ⟨rfl, f43⟩
        · have hne : ¬ a = numV p j := fun q => c29 (by rw [← q]; rfl)
          refine GS.run [] 3 rfl ?_
          refine GS.cV oX8_joined ((c_joined_17 (d + 1) σ (fkI (some a)) (nI (numV p j))).eq (congrArg (fun z => some (Value.int z)) (v_jnD hd (wfD_6 hw) (by omega) (by omega))) rfl) rfl rfl rfl rfl rfl rfl rfl (Nat.le_of_ble_eq_true rfl) (by omega) ?_
          refine GS.if_eq rfl (fun c38 => ?_) (fun c38 => ?_)
          · have hJ : jnB D (some a) (numV p j) = false := by
              show (decide (a = numV p j) || adB D a (numV p j)) = false
              rw [decide_eq_false hne, bI0.mp c38]; rfl
            refine GS.run [] 2 rfl ?_
            refine GS.cV oX8_streetsAt ((c_streetsAt_17 (d + 1) σ (nI (numV p j))).eq (congrArg (fun z => some (Value.int z)) (v_get (by omega) (by omega) (hd.2.2.2 (numV p j) (by omega)).1)) rfl) rfl rfl rfl rfl rfl rfl rfl (Nat.le_of_ble_eq_true rfl) (by omega) ?_
            refine GS.run [] 1 rfl ?_
            have h6v := wfD_6 hw (numV p j) (by omega)
            refine GS.run [] 0 rfl ?_
            refine GS.icmp_lt rfl (fun c54 => ?_) (fun c54 => ?_)
            · have k3 : ¬ 6 ≤ tD D (numV p j) := by have := (nI_ltI (b := 6) (by omega) (by omega)).mp c54; omega
              have hE := OK1 hJ k3
              refine GS.run [] 6 rfl ?_
              rw [show (am_s1 σ 5 (upd (σ 5) 7 (nI (numV p j)))) 5 6 = nI j from h.2.1]
              refine GS.run [] 0 rfl ?_
              refine GS.run [] 4 rfl ?_
              refine GS.iret rfl rfl (rfl) ?_
              rw [hE]
              refine ⟨rfl, (okF.rf.f (by decide) (Or.inr rfl)).f (by decide) (Or.inl rfl), ?_, ?_⟩
              · rw [am_s1_eq, upd_eq]; exact nI_1 j
              · rw [am_s1_eq, upd_ne _ _ (by decide), am_s1_eq, upd_eq]
            · have k3 : 6 ≤ tD D (numV p j) := (nI_geI (b := 6) (by omega) (by omega)).mp c54
              have hE := OK3 hJ k3
              refine GS.run [] 2 rfl ?_
              refine GS.callV oX7_fail (c_fail7 (d + 1) σ p (j) hp h 3) rfl rfl rfl rfl rfl rfl rfl (Nat.le_of_ble_eq_true rfl) (by omega) (fun v59 σ59 hq59 => ?_)
              obtain ⟨rfl, f59⟩ := hq59
              refine GS.iret rfl rfl (rfl) ?_
              rw [hE]
              exact ⟨rfl, f59⟩
          · have hE : rEnd p D (some a) j = .error (2, tkS p j) := ERR (by
              show (decide (a = numV p j) || adB D a (numV p j)) = true
              rw [bI1.mp c38, Bool.or_true])
            refine GS.run [] 2 rfl ?_
            refine GS.callV oX7_fail (c_fail7 (d + 1) σ p (j) hp h 2) rfl rfl rfl rfl rfl rfl rfl (Nat.le_of_ble_eq_true rfl) (by omega) (fun v43 σ43 hq43 => ?_)
            obtain ⟨rfl, f43⟩ := hq43
            refine GS.iret rfl rfl (rfl) ?_
            rw [hE]
            exact ⟨rfl, f43⟩
  · have hE : rEnd p D o j = .error (1, tkS p j) := if_neg (fun q => c5 (by rw [q]; rfl))
    refine GS.run [] 2 rfl ?_
    refine GS.callV oX7_fail (c_fail7 (d + 1) σ p (j) hp h 1) rfl rfl rfl rfl rfl rfl rfl (Nat.le_of_ble_eq_true rfl) (by omega) (fun v10 σ10 hq10 => ?_)
    obtain ⟨rfl, f10⟩ := hq10
    refine GS.iret rfl rfl (rfl) ?_
    rw [hE]
    exact ⟨rfl, f10⟩
theorem c_readStreet (d : Nat) (σ : am_S) (p : Tp) (j : Nat) (hp : wfP p) (h : pcC σ p j) (D : Tn) (hd : dftC σ D) (hw : wfD D) (h12 : tS D < 12) : CallS mX7_readStreet (d + 4) [.ref 5, .ref 17] σ (rdQ (rStr p D j) [5, 17, 18, 19, 20, 21, 22, 23] (fun q σ' => σ' 5 6 = nI q.2 ∧ live p q.2 ∧ dftC σ' q.1 ∧ wfD q.1 ∧ tN q.1 = tN D ∧ tS q.1 = tS D + 1) σ) := by
  refine CallS.of kX7_readStreet pX7_readStreet [.ref 5, .ref 17, .retAddr 0] rfl (Nat.le_of_ble_eq_true rfl) ?_
  refine GS.run [] 3 rfl ?_
  refine GS.callV oX7_readStreetEnd (c_readStreetEnd d σ p j hp h D none hd hw (fun a q => by cases q)) rfl rfl rfl rfl rfl rfl rfl (Nat.le_of_ble_eq_true rfl) (by omega) (fun v4 σ4 hq4 => ?_)
  skip
  rcases e4 : rEnd p D none j with e | a
  · rw [e4] at hq4
    obtain ⟨rfl, f4⟩ := hq4
    have hE : rStr p D j = .error e := by unfold rStr; simp only [e4]
    refine GS.if_ne rfl (fun q => absurd (rfl) q) (fun c7 => ?_)
    refine GS.run [] 1 rfl ?_
    refine GS.iret rfl rfl (rfl) ?_
    rw [hE]
    exact ⟨rfl, f4.sub (by decide)⟩
  · rw [e4] at hq4
    obtain ⟨rfl, f4, g4⟩ := hq4
    obtain ⟨n4, -, ha, -, ha6⟩ := rEnd_ok e4
    have h4 : pcC σ4 p (j + 1) := h.next f4.1 (by decide) g4.1 (live_c h.2.2 (by omega))
    have hd4 := hd.kept f4.1 (by decide)
    refine GS.if_ne rfl (fun c7 => ?_) (fun q => absurd q (by decide))
    refine GS.run [] 2 rfl ?_
    rw [g4.2]
    refine GS.run [] 0 rfl ?_
    refine GS.run [] 4 rfl ?_
    refine GS.callV oX7_readStreetEnd (c_readStreetEnd d σ4 p (j + 1) hp h4 D (some a) hd4 hw (fun x q => by cases q; exact ha)) rfl rfl rfl rfl rfl rfl rfl (Nat.le_of_ble_eq_true rfl) (by omega) (fun v20 σ20 hq20 => ?_)
    skip
    rcases e20 : rEnd p D (some a) (j + 1) with e | b
    · rw [e20] at hq20
      obtain ⟨rfl, f20⟩ := hq20
      have hE : rStr p D j = .error e := by unfold rStr; simp only [e4, e20]
      refine GS.if_ne rfl (fun q => absurd (rfl) q) (fun c23 => ?_)
      refine GS.run [] 1 rfl ?_
      refine GS.iret rfl rfl (rfl) ?_
      rw [hE]
      exact ⟨rfl, (f4.er f20).sub (by decide)⟩
    · rw [e20] at hq20
      obtain ⟨rfl, f20, g20⟩ := hq20
      obtain ⟨n20, -, hb, hjn, hb6⟩ := rEnd_ok e20
      have hjn : (decide (a = b) || adB D a b) = false := hjn
      rw [Bool.or_eq_false_iff] at hjn
      have hab : a ≠ b := of_decide_eq_false hjn.1
      have h20 : pcC σ20 p (j + 2) := h4.next f20.1 (by decide) g20.1 (live_c h4.2.2 (by omega))
      have hd20 := hd4.kept f20.1 (by decide)
      have f2 : okF [5, 17, 18, 19, 20, 21, 22, 23] σ σ20 := (f4.trans f20).sub (by decide)
      refine GS.if_ne rfl (fun c23 => ?_) (fun q => absurd q (by decide))
      refine GS.run [] 4 rfl ?_
      rw [g20.2]
      refine GS.run [] 0 rfl ?_
      refine GS.callV oX8_addStreet (c_addStreet (d + 1) σ20 D a b hd20 hw ha hb hab hjn.2 ha6 hb6) rfl rfl rfl rfl rfl rfl rfl (Nat.le_of_ble_eq_true rfl) (by omega) (fun v34 σ34 hq34 => ?_)
      obtain ⟨rfl, d34, s34⟩ := hq34
      have h34 : pcC σ34 p (j + 2) := h20.next s34 (by decide) ((congrFun (s34 5 (by decide)) 6).trans h20.2.1) h20.2.2
      have f34 : okF [5, 17, 18, 19, 20, 21, 22, 23] σ σ34 := f2.d s34 (by decide) (by decide)
      refine GS.run [] 1 rfl ?_
      refine GS.callV oX7_readSign (c_readSign (d + 1) σ34 p (j + 2) hp h34) rfl rfl rfl rfl rfl rfl rfl (Nat.le_of_ble_eq_true rfl) (by omega) (fun v38 σ38 hq38 => ?_)
      skip
      rcases e38 : rSig p (j + 2) with e | u
      · rw [e38] at hq38
        obtain ⟨rfl, f38⟩ := hq38
        have hE : rStr p D j = .error e := by unfold rStr; simp only [e4, e20, e38]
        refine GS.iret rfl rfl rfl ?_
        rw [hE]
        exact ⟨rfl, f34.er (f38.sub (by decide))⟩
      rw [e38] at hq38
      obtain ⟨rfl, f38, g38⟩ := hq38
      have hE : rStr p D j = .ok (tAddS D a b, j + 3) := by unfold rStr; simp only [e4, e20, e38]
      refine GS.run [] 0 rfl ?_
      refine GS.iret rfl rfl (rfl) ?_
      rw [hE]
      exact ⟨rfl, f34.trans (f38.sub (by decide)), g38, live_c h34.2.2 (by rw [rSig_ok e38]; decide), d34.kept f38.1 (by decide), wfD_S hw h12 ha hb hab hjn.2 ha6 hb6, rfl, rfl⟩
