theorem pcC.next {σ σ' : am_S} {p : Tp} {j k : Nat} {L : List Nat} (h : pcC σ p j) (hs : same L σ σ') (hL : 7 ∉ L ∧ 8 ∉ L ∧ 9 ∉ L) (h6 : σ' 5 6 = nI k) (hl : live p k) : pcC σ' p k := ⟨h.1.kept hs hL, h6, hl⟩
theorem v_jnD {σ : am_S} {D : Tn} {a b : Nat} (hd : dftC σ D) (h6 : ∀ c, c < 8 → tD D c ≤ 6) (ha : a < 8) (hb : b < 8) : am_b (¬ am_get (σ 23) 64 (nI a * 8 + nI b) = -1000000) = bI (adB D a b) := by
  have e8 : nI a * 8 + nI b = nI (a * 8 + b) := by rw [show (8 : Int32) = nI 8 from rfl, pk_mul, nI_add]
  rw [e8]
  obtain ⟨-, -, g3, g4⟩ := hd.2.2.2 a ha
  cases e : adB D a b with
  | true =>
    obtain ⟨i, h1, h2⟩ := adB_iff.mp e
    have := h6 a ha
    have hv := g3 i h1
    rw [h2] at hv
    rw [v_get (by omega) (by omega) hv]
    exact am_b_1 (nI_ne_none (by omega))
  | false =>
    rw [v_get (by omega) (by omega) (g4 b hb (adB_no e))]
    exact am_b_0 (fun h => h rfl)
theorem v_jnN {σ : am_S} {b : Nat} (hb : b < 1000) : am_b (¬ am_get (σ 23) 64 (-1000000 * 8 + nI b) = -1000000) = 0 := by
  rw [am_get_out, am_b_0 (fun h => h rfl)]
  left
  rw [show (8 : Int32) = zI 8 from rfl, show (-1000000 : Int32) = zI (-1000000) from rfl, zI_mul, zI_n, zI_add, zI_t (by omega) (by omega)]
  omega
theorem wfD_6 {D : Tn} (h : wfD D) : ∀ c, c < 8 → tD D c ≤ 6 := fun c hc => by
  by_cases e : c < tN D
  · exact (h.1.2.2 c e).2.2.2.1
  · rw [h.2 c (by omega)]; omega
theorem c_readCorner (d : Nat) (σ : am_S) (p : Tp) (j : Nat) (hp : wfP p) (h : pcC σ p j) (D : Tn) (hd : dftC σ D) (h8 : tN D < 8) : CallS mX7_readCorner (d + 5) [.ref 5, .ref 17] σ (rdQ (rCor p j) [5, 17, 18, 19, 20, 21, 22, 23] (fun q σ' => σ' 5 6 = nI q.2 ∧ dftC σ' (tAddC D q.1.1 q.1.2.1 q.1.2.2)) σ) := by
  refine CallS.of kX7_readCorner pX7_readCorner [.ref 5, .ref 17, .retAddr 0, .retAddr 0] rfl (Nat.le_of_ble_eq_true rfl) ?_
  refine GS.run [] 2 rfl ?_
  refine GS.callV oX7_readNumber (c_readNumber (d + 2) σ p j hp h 99 (by omega)) rfl rfl rfl rfl rfl rfl rfl (Nat.le_of_ble_eq_true rfl) (by omega) (fun v3 σ3 hq3 => ?_)
  skip
  rcases e3 : rNum p 99 j with e | hh
  · rw [e3] at hq3
    obtain ⟨rfl, f3⟩ := hq3
    have hE : rCor p j = .error e := by unfold rCor; rw [e3]
    refine GS.if_ne rfl (fun q => absurd (rfl) q) (fun c6 => ?_)
    refine GS.run [] 1 rfl ?_
    refine GS.iret rfl rfl (rfl) ?_
    rw [hE]
    exact ⟨rfl, f3.sub (by decide)⟩
  · rw [e3] at hq3
    obtain ⟨rfl, f3, g3⟩ := hq3
    obtain ⟨n3, -, -⟩ := rNum_ok e3
    have h3 : pcC σ3 p (j + 1) := h.next f3.1 (by decide) g3.1 (live_c h.2.2 (by omega))
    refine GS.if_ne rfl (fun c6 => ?_) (fun q => absurd q (by decide))
    refine GS.run [] 2 rfl ?_
    rw [g3.2]
    refine GS.run [] 0 rfl ?_
    refine GS.run [] 3 rfl ?_
    refine GS.callV oX7_readNumber (c_readNumber (d + 2) σ3 p (j + 1) hp h3 9 (by omega)) rfl rfl rfl rfl rfl rfl rfl (Nat.le_of_ble_eq_true rfl) (by omega) (fun v19 σ19 hq19 => ?_)
    skip
    rcases e19 : rNum p 9 (j + 1) with e | m
    · rw [e19] at hq19
      obtain ⟨rfl, f19⟩ := hq19
      have hE : rCor p j = .error e := by unfold rCor; simp only [e3, e19]
      refine GS.if_ne rfl (fun q => absurd (rfl) q) (fun c22 => ?_)
      refine GS.run [] 1 rfl ?_
      refine GS.iret rfl rfl (rfl) ?_
      rw [hE]
      exact ⟨rfl, (f3.er f19).sub (by decide)⟩
    · rw [e19] at hq19
      obtain ⟨rfl, f19, g19⟩ := hq19
      obtain ⟨n19, -, -⟩ := rNum_ok e19
      have h19 : pcC σ19 p (j + 2) := h3.next f19.1 (by decide) g19.1 (live_c h3.2.2 (by omega))
      have hd19 : dftC σ19 D := (hd.kept f3.1 (by decide)).kept f19.1 (by decide)
      have f9 : okF [5, 17, 18, 19, 20, 21, 22, 23] σ σ19 := (f3.trans f19).sub (by decide)
      refine GS.if_ne rfl (fun c22 => ?_) (fun q => absurd q (by decide))
      refine GS.run [] 2 rfl ?_
      refine GS.cV oX7_isName (c_isName (d + 2) σ19 p (j + 2) hp h19 10) rfl rfl rfl rfl rfl rfl rfl (Nat.le_of_ble_eq_true rfl) (by omega) ?_
      refine GS.run [] 5 rfl ?_
      rw [show σ19 5 6 = nI (j + 2) from h19.2.1]
      refine GS.run [] 0 rfl ?_
      refine GS.if_eq rfl (fun c40 => ?_) (fun c40 => ?_)
      · have hnw : ¬ isNm p 10 (j + 2) := fun q => by rw [decide_eq_true q] at c40; exact absurd c40 (by decide)
        have hw : wlN p (j + 2) = 0 := if_neg hnw
        have hw1 : nI (j + 2) + 0 = nI (j + 2 + wlN p (j + 2)) := by rw [hw]; exact Int32.add_zero _
        have hl2 : live p (j + 2 + wlN p (j + 2)) := by rw [hw]; exact h19.2.2
        refine GS.run [] 2 rfl ?_
        rw [hw1]
        refine GS.run [] 0 rfl ?_
        refine GS.run [] 1 rfl ?_
        have fA : okF [5, 17, 18, 19, 20, 21, 22, 23] σ (am_s1 σ19 5 (upd (σ19 5) 6 (nI (j + 2 + wlN p (j + 2))))) := f9.f (by decide) (Or.inl rfl)
        have e6 : am_s1 σ19 5 (upd (σ19 5) 6 (nI (j + 2 + wlN p (j + 2)))) 5 6 = nI (j + 2 + wlN p (j + 2)) := by rw [am_s1_eq, upd_eq]
        have e7 : am_s1 σ19 5 (upd (σ19 5) 6 (nI (j + 2 + wlN p (j + 2)))) 5 7 = nI m := by rw [am_s1_eq, upd_ne _ _ (by decide)]; exact g19.2
        have sA : same [5] σ19 (am_s1 σ19 5 (upd (σ19 5) 6 (nI (j + 2 + wlN p (j + 2))))) := same.rf.s1 (by decide)
        generalize am_s1 σ19 5 (upd (σ19 5) 6 (nI (j + 2 + wlN p (j + 2)))) = σA at fA e6 e7 sA ⊢
        have hA : pcC σA p (j + 2 + wlN p (j + 2)) := h19.next sA (by decide) e6 hl2
        have hdA := hd19.kept sA (by decide)
        refine GS.run [] 0 rfl ?_
        refine GS.run [] 4 rfl ?_
        rw [e7]
        refine GS.run [] 0 rfl ?_
        refine GS.run [] 1 rfl ?_
        refine GS.callV oX8_addCorner (c_addCorner (d + 3) σA D hh m (decide (isNm p 10 (j + 2))) hdA h8) rfl rfl rfl rfl rfl rfl rfl (Nat.le_of_ble_eq_true rfl) (by omega) (fun v59 σ59 hq59 => ?_)
        obtain ⟨rfl, d59, s59⟩ := hq59
        have h59 : pcC σ59 p (j + 2 + wlN p (j + 2)) := hA.next s59 (by decide) ((congrFun (s59 5 (by decide)) 6).trans e6) hl2
        have f59 : okF [5, 17, 18, 19, 20, 21, 22, 23] σ σ59 := fA.d s59 (by decide) (by decide)
        have hwn : (if decide (isNm p 10 (j + 2)) = true then 1 else 0) = wlN p (j + 2) := by
          unfold wlN
          by_cases q : isNm p 10 (j + 2)
          · rw [if_pos q, if_pos (decide_eq_true q)]
          · rw [if_neg q, if_neg (by rw [decide_eq_false q]; exact Bool.false_ne_true)]
        rw [hwn] at d59
        refine GS.run [] 1 rfl ?_
        refine GS.callV oX7_readSign (c_readSign (d + 2) σ59 p (j + 2 + wlN p (j + 2)) hp h59) rfl rfl rfl rfl rfl rfl rfl (Nat.le_of_ble_eq_true rfl) (by omega) (fun v63 σ63 hq63 => ?_)
        skip
        rcases e63 : rSig p (j + 2 + wlN p (j + 2)) with e | u
        · rw [e63] at hq63
          obtain ⟨rfl, f63⟩ := hq63
          have hE : rCor p j = .error e := by unfold rCor; simp only [e3, e19, e63]
          refine GS.iret rfl rfl rfl ?_
          rw [hE]
          exact ⟨rfl, f59.er (f63.sub (by decide))⟩
        rw [e63] at hq63
        obtain ⟨rfl, f63, g63⟩ := hq63
        have hE : rCor p j = .ok ((hh, m, wlN p (j + 2)), j + 3 + wlN p (j + 2)) := by unfold rCor; simp only [e3, e19, e63]
        refine GS.run [] 0 rfl ?_
        refine GS.iret rfl rfl (rfl) ?_
        rw [hE]
        exact ⟨rfl, f59.trans (f63.sub (by decide)), g63.trans (congrArg nI (by omega)), d59.kept f63.1 (by decide)⟩
      · have hnw : isNm p 10 (j + 2) := by
          by_cases q : isNm p 10 (j + 2)
          · exact q
          · rw [decide_eq_false q] at c40; exact absurd rfl c40
        have hw : wlN p (j + 2) = 1 := if_pos hnw
        have hw1 : nI (j + 2) + 1 = nI (j + 2 + wlN p (j + 2)) := by rw [hw]; exact nI_1 _
        have hl2 : live p (j + 2 + wlN p (j + 2)) := by rw [hw]; exact live_c h19.2.2 (by rw [hnw.1]; decide)
        refine GS.run [] 3 rfl ?_
        rw [hw1]
        refine GS.run [] 0 rfl ?_
        refine GS.run [] 1 rfl ?_
        have fA : okF [5, 17, 18, 19, 20, 21, 22, 23] σ (am_s1 σ19 5 (upd (σ19 5) 6 (nI (j + 2 + wlN p (j + 2))))) := f9.f (by decide) (Or.inl rfl)
        have e6 : am_s1 σ19 5 (upd (σ19 5) 6 (nI (j + 2 + wlN p (j + 2)))) 5 6 = nI (j + 2 + wlN p (j + 2)) := by rw [am_s1_eq, upd_eq]
        have e7 : am_s1 σ19 5 (upd (σ19 5) 6 (nI (j + 2 + wlN p (j + 2)))) 5 7 = nI m := by rw [am_s1_eq, upd_ne _ _ (by decide)]; exact g19.2
        have sA : same [5] σ19 (am_s1 σ19 5 (upd (σ19 5) 6 (nI (j + 2 + wlN p (j + 2))))) := same.rf.s1 (by decide)
        generalize am_s1 σ19 5 (upd (σ19 5) 6 (nI (j + 2 + wlN p (j + 2)))) = σA at fA e6 e7 sA ⊢
        have hA : pcC σA p (j + 2 + wlN p (j + 2)) := h19.next sA (by decide) e6 hl2
        have hdA := hd19.kept sA (by decide)
        refine GS.run [] 0 rfl ?_
        refine GS.run [] 4 rfl ?_
        rw [e7]
        refine GS.run [] 0 rfl ?_
        refine GS.run [] 1 rfl ?_
        refine GS.callV oX8_addCorner (c_addCorner (d + 3) σA D hh m (decide (isNm p 10 (j + 2))) hdA h8) rfl rfl rfl rfl rfl rfl rfl (Nat.le_of_ble_eq_true rfl) (by omega) (fun v59 σ59 hq59 => ?_)
        obtain ⟨rfl, d59, s59⟩ := hq59
        have h59 : pcC σ59 p (j + 2 + wlN p (j + 2)) := hA.next s59 (by decide) ((congrFun (s59 5 (by decide)) 6).trans e6) hl2
        have f59 : okF [5, 17, 18, 19, 20, 21, 22, 23] σ σ59 := fA.d s59 (by decide) (by decide)
        have hwn : (if decide (isNm p 10 (j + 2)) = true then 1 else 0) = wlN p (j + 2) := by
          unfold wlN
          by_cases q : isNm p 10 (j + 2)
          · rw [if_pos q, if_pos (decide_eq_true q)]
          · rw [if_neg q, if_neg (by rw [decide_eq_false q]; exact Bool.false_ne_true)]
        rw [hwn] at d59
        refine GS.run [] 1 rfl ?_
        refine GS.callV oX7_readSign (c_readSign (d + 2) σ59 p (j + 2 + wlN p (j + 2)) hp h59) rfl rfl rfl rfl rfl rfl rfl (Nat.le_of_ble_eq_true rfl) (by omega) (fun v63 σ63 hq63 => ?_)
        skip
        rcases e63 : rSig p (j + 2 + wlN p (j + 2)) with e | u
        · rw [e63] at hq63
          obtain ⟨rfl, f63⟩ := hq63
          have hE : rCor p j = .error e := by unfold rCor; simp only [e3, e19, e63]
          refine GS.iret rfl rfl rfl ?_
          rw [hE]
          exact ⟨rfl, f59.er (f63.sub (by decide))⟩
        rw [e63] at hq63
        obtain ⟨rfl, f63, g63⟩ := hq63
        have hE : rCor p j = .ok ((hh, m, wlN p (j + 2)), j + 3 + wlN p (j + 2)) := by unfold rCor; simp only [e3, e19, e63]
        refine GS.run [] 0 rfl ?_
        refine GS.iret rfl rfl (rfl) ?_
        rw [hE]
        exact ⟨rfl, f59.trans (f63.sub (by decide)), g63.trans (congrArg nI (by omega)), d59.kept f63.1 (by decide)⟩
theorem c_readStreetEnd (d : Nat) (σ : am_S) (p : Tp) (j : Nat) (hp : wfP p) (h : pcC σ p j) (D : Tn) (o : Option Nat) (hd : dftC σ D) (hw : wfD D) (ho : ∀ a, o = some a → a < tN D) : CallS mX7_readStreetEnd (d + 3) [.ref 5, .ref 17, .int (fkI o)] σ (rdQ (rEnd p D o j) [5] (fun v σ' => σ' 5 6 = nI (j + 1) ∧ σ' 5 7 = nI v) σ) := by
  refine CallS.of kX7_readStreetEnd pX7_readStreetEnd [.ref 5, .ref 17, .int (fkI o), .retAddr 0] rfl (Nat.le_of_ble_eq_true rfl) ?_
  have hc4 := tkC_le (p := p) (j := j)
  have h8 := hw.1.1
  refine GS.run [] 1 rfl ?_
  refine GS.cV oX7_sort (c_sort7 (d + 1) σ p j hp h) rfl rfl rfl rfl rfl rfl rfl (Nat.le_of_ble_eq_true rfl) (by omega) ?_
  refine GS.run [] 1 rfl ?_
  refine GS.icmp_eq rfl (fun c5 => ?_) (fun c5 => ?_)
  · have k1 : tkC p j = 2 := (nI_eq (b := 2) (by omega) (by omega)).mp c5
    obtain ⟨-, -, -, -, hv9, hV⟩ := tkC_2 k1
    refine GS.run [] 1 rfl ?_
    refine GS.cV oX7_value ((c_value7 (d + 1) σ p j hp h).eq (congrArg (fun z => some (Value.int z)) (hV)) rfl) rfl rfl rfl rfl rfl rfl rfl (Nat.le_of_ble_eq_true rfl) (by omega) ?_
    refine GS.run [] 3 rfl ?_
    refine GS.cV oX8_has (c_has_17 (d + 1) σ (nI (numV p j))) rfl rfl rfl rfl rfl rfl rfl (Nat.le_of_ble_eq_true rfl) (by omega) ?_
    have hin : (0 ≤ (nI (numV p j)).toInt ∧ (nI (numV p j)).toInt < (σ 17 0).toInt) ↔ numV p j < tN D := by rw [hd.1, nI_toInt (by omega), nI_toInt (by omega)]; omega
    refine GS.run [] 0 rfl ?_
    refine GS.if_eq rfl (fun c24 => ?_) (fun c24 => ?_)
    · have kn : ¬ numV p j < tN D := fun q => am_b0.mp c24 (hin.mpr q)
      have hE : rEnd p D o j = .error (2, tkS p j) := by unfold rEnd; rw [if_pos k1, if_neg (fun q => kn q.1)]
      refine GS.run [] 2 rfl ?_
      refine GS.callV oX7_fail (c_fail7 (d + 1) σ p (j) hp h 2) rfl rfl rfl rfl rfl rfl rfl (Nat.le_of_ble_eq_true rfl) (by omega) (fun v43 σ43 hq43 => ?_)
      obtain ⟨rfl, f43⟩ := hq43
      refine GS.iret rfl rfl (rfl) ?_
      rw [hE]
      exact ⟨rfl, f43⟩
    · have kn : numV p j < tN D := hin.mp (am_bT c24)
      have ERR : jnB D o (numV p j) = true → rEnd p D o j = .error (2, tkS p j) := fun q => by unfold rEnd; rw [if_pos k1, if_neg (fun z => by rw [q] at z; exact absurd z.2 (by decide))]
      have OK1 : jnB D o (numV p j) = false → ¬ 6 ≤ tD D (numV p j) → rEnd p D o j = .ok (numV p j) := fun q k3 => by unfold rEnd; rw [if_pos k1, if_pos ⟨kn, q⟩, if_neg k3]
      have OK3 : jnB D o (numV p j) = false → 6 ≤ tD D (numV p j) → rEnd p D o j = .error (3, tkS p j) := fun q k3 => by unfold rEnd; rw [if_pos k1, if_pos ⟨kn, q⟩, if_pos k3]
      refine GS.run [] 2 rfl ?_
      rcases o with _ | a
      · refine GS.icmp_eq rfl (fun q => absurd q (nI_ne_none (by omega))) (fun c29 => ?_)
        refine GS.run [] 3 rfl ?_
        refine GS.cV oX8_joined ((c_joined_17 (d + 1) σ (fkI none) (nI (numV p j))).eq (congrArg (fun z => some (Value.int z)) (v_jnN (by omega))) rfl) rfl rfl rfl rfl rfl rfl rfl (Nat.le_of_ble_eq_true rfl) (by omega) ?_
        refine GS.if_eq rfl (fun c38 => ?_) (fun q => absurd (rfl) q)
        have hJ : jnB D none (numV p j) = false := rfl
        refine GS.run [] 0 rfl ?_
        refine GS.run [] 2 rfl ?_
        refine GS.cV oX8_streetsAt ((c_streetsAt_17 (d + 1) σ (nI (numV p j))).eq (congrArg (fun z => some (Value.int z)) (v_get (by omega) (by omega) (hd.2.2.2 (numV p j) (by omega)).1)) rfl) rfl rfl rfl rfl rfl rfl rfl (Nat.le_of_ble_eq_true rfl) (by omega) ?_
        refine GS.run [] 1 rfl ?_
        have h6v := wfD_6 hw (numV p j) (by omega)
        refine GS.run [] 0 rfl ?_
        refine GS.icmp_lt rfl (fun c54 => ?_) (fun c54 => ?_)
        · have k3 : ¬ 6 ≤ tD D (numV p j) := by have := (nI_ltI (b := 6) (by omega) (by omega)).mp c54; omega
          have hE := OK1 hJ k3
          refine GS.run [] 6 rfl ?_
          rw [show (am_s1 σ 5 (upd (σ 5) 7 (nI (numV p j)))) 5 6 = nI j from h.2.1]
          refine GS.run [] 0 rfl ?_
          refine GS.run [] 4 rfl ?_
          refine GS.iret rfl rfl (rfl) ?_
          rw [hE]
          refine ⟨rfl, (okF.rf.f (by decide) (Or.inr rfl)).f (by decide) (Or.inl rfl), ?_, ?_⟩
          · rw [am_s1_eq, upd_eq]; exact nI_1 j
          · rw [am_s1_eq, upd_ne _ _ (by decide), am_s1_eq, upd_eq]
        · have k3 : 6 ≤ tD D (numV p j) := (nI_geI (b := 6) (by omega) (by omega)).mp c54
          have hE := OK3 hJ k3
          refine GS.run [] 2 rfl ?_
          refine GS.callV oX7_fail (c_fail7 (d + 1) σ p (j) hp h 3) rfl rfl rfl rfl rfl rfl rfl (Nat.le_of_ble_eq_true rfl) (by omega) (fun v59 σ59 hq59 => ?_)
          obtain ⟨rfl, f59⟩ := hq59
          refine GS.iret rfl rfl (rfl) ?_
          rw [hE]
          exact ⟨rfl, f59⟩
      · have haN := ho a rfl
        refine GS.icmp_eq rfl (fun c29 => ?_) (fun c29 => ?_)
        · have hE : rEnd p D (some a) j = .error (2, tkS p j) := ERR (by
            have : a = numV p j := ((nI_eq (by omega) (by omega)).mp c29).symm
            show (decide (a = numV p j) || adB D a (numV p j)) = true
            rw [decide_eq_true this]; rfl)
          refine GS.run [] 2 rfl ?_
          refine GS.callV oX7_fail (c_fail7 (d + 1) σ p (j) hp h 2) rfl rfl rfl rfl rfl rfl rfl (Nat.le_of_ble_eq_true rfl) (by omega) (fun v43 σ43 hq43 => ?_)
          obtain ⟨rfl, f43⟩ := hq43
          refine GS.iret rfl rfl (rfl) ?_
          rw [hE]
          exact ⟨rfl, f43⟩
        · have hne : ¬ a = numV p j := fun q => c29 (by rw [← q]; rfl)
          refine GS.run [] 3 rfl ?_
          refine GS.cV oX8_joined ((c_joined_17 (d + 1) σ (fkI (some a)) (nI (numV p j))).eq (congrArg (fun z => some (Value.int z)) (v_jnD hd (wfD_6 hw) (by omega) (by omega))) rfl) rfl rfl rfl rfl rfl rfl rfl (Nat.le_of_ble_eq_true rfl) (by omega) ?_
          refine GS.if_eq rfl (fun c38 => ?_) (fun c38 => ?_)
          · have hJ : jnB D (some a) (numV p j) = false := by
              show (decide (a = numV p j) || adB D a (numV p j)) = false
              rw [decide_eq_false hne, bI0.mp c38]; rfl
            refine GS.run [] 2 rfl ?_
            refine GS.cV oX8_streetsAt ((c_streetsAt_17 (d + 1) σ (nI (numV p j))).eq (congrArg (fun z => some (Value.int z)) (v_get (by omega) (by omega) (hd.2.2.2 (numV p j) (by omega)).1)) rfl) rfl rfl rfl rfl rfl rfl rfl (Nat.le_of_ble_eq_true rfl) (by omega) ?_
            refine GS.run [] 1 rfl ?_
            have h6v := wfD_6 hw (numV p j) (by omega)
            refine GS.run [] 0 rfl ?_
            refine GS.icmp_lt rfl (fun c54 => ?_) (fun c54 => ?_)
            · have k3 : ¬ 6 ≤ tD D (numV p j) := by have := (nI_ltI (b := 6) (by omega) (by omega)).mp c54; omega
              have hE := OK1 hJ k3
              refine GS.run [] 6 rfl ?_
              rw [show (am_s1 σ 5 (upd (σ 5) 7 (nI (numV p j)))) 5 6 = nI j from h.2.1]
              refine GS.run [] 0 rfl ?_
              refine GS.run [] 4 rfl ?_
              refine GS.iret rfl rfl (rfl) ?_
              rw [hE]
              refine ⟨rfl, (okF.rf.f (by decide) (Or.inr rfl)).f (by decide) (Or.inl rfl), ?_, ?_⟩
              · rw [am_s1_eq, upd_eq]; exact nI_1 j
              · rw [am_s1_eq, upd_ne _ _ (by decide), am_s1_eq, upd_eq]
            · have k3 : 6 ≤ tD D (numV p j) := (nI_geI (b := 6) (by omega) (by omega)).mp c54
              have hE := OK3 hJ k3
              refine GS.run [] 2 rfl ?_
              refine GS.callV oX7_fail (c_fail7 (d + 1) σ p (j) hp h 3) rfl rfl rfl rfl rfl rfl rfl (Nat.le_of_ble_eq_true rfl) (by omega) (fun v59 σ59 hq59 => ?_)
              obtain ⟨rfl, f59⟩ := hq59
              refine GS.iret rfl rfl (rfl) ?_
              rw [hE]
              exact ⟨rfl, f59⟩
          · have hE : rEnd p D (some a) j = .error (2, tkS p j) := ERR (by
              show (decide (a = numV p j) || adB D a (numV p j)) = true
              rw [bI1.mp c38, Bool.or_true])
            refine GS.run [] 2 rfl ?_
            refine GS.callV oX7_fail (c_fail7 (d + 1) σ p (j) hp h 2) rfl rfl rfl rfl rfl rfl rfl (Nat.le_of_ble_eq_true rfl) (by omega) (fun v43 σ43 hq43 => ?_)
            obtain ⟨rfl, f43⟩ := hq43
            refine GS.iret rfl rfl (rfl) ?_
            rw [hE]
            exact ⟨rfl, f43⟩
  · have hE : rEnd p D o j = .error (1, tkS p j) := if_neg (fun q => c5 (by rw [q]; rfl))
    refine GS.run [] 2 rfl ?_
    refine GS.callV oX7_fail (c_fail7 (d + 1) σ p (j) hp h 1) rfl rfl rfl rfl rfl rfl rfl (Nat.le_of_ble_eq_true rfl) (by omega) (fun v10 σ10 hq10 => ?_)
    obtain ⟨rfl, f10⟩ := hq10
    refine GS.iret rfl rfl (rfl) ?_
    rw [hE]
    exact ⟨rfl, f10⟩
theorem c_readStreet (d : Nat) (σ : am_S) (p : Tp) (j : Nat) (hp : wfP p) (h : pcC σ p j) (D : Tn) (hd : dftC σ D) (hw : wfD D) (h12 : tS D < 12) : CallS mX7_readStreet (d + 4) [.ref 5, .ref 17] σ (rdQ (rStr p D j) [5, 17, 18, 19, 20, 21, 22, 23] (fun q σ' => σ' 5 6 = nI q.2 ∧ live p q.2 ∧ dftC σ' q.1 ∧ wfD q.1 ∧ tN q.1 = tN D ∧ tS q.1 = tS D + 1) σ) := by
  refine CallS.of kX7_readStreet pX7_readStreet [.ref 5, .ref 17, .retAddr 0] rfl (Nat.le_of_ble_eq_true rfl) ?_
  refine GS.run [] 3 rfl ?_
  refine GS.callV oX7_readStreetEnd (c_readStreetEnd d σ p j hp h D none hd hw (fun a q => by cases q)) rfl rfl rfl rfl rfl rfl rfl (Nat.le_of_ble_eq_true rfl) (by omega) (fun v4 σ4 hq4 => ?_)
  skip
  rcases e4 : rEnd p D none j with e | a
  · rw [e4] at hq4
    obtain ⟨rfl, f4⟩ := hq4
    have hE : rStr p D j = .error e := by unfold rStr; simp only [e4]
    refine GS.if_ne rfl (fun q => absurd (rfl) q) (fun c7 => ?_)
    refine GS.run [] 1 rfl ?_
    refine GS.iret rfl rfl (rfl) ?_
    rw [hE]
    exact ⟨rfl, f4.sub (by decide)⟩
  · rw [e4] at hq4
    obtain ⟨rfl, f4, g4⟩ := hq4
    obtain ⟨n4, -, ha, -, ha6⟩ := rEnd_ok e4
    have h4 : pcC σ4 p (j + 1) := h.next f4.1 (by decide) g4.1 (live_c h.2.2 (by omega))
    have hd4 := hd.kept f4.1 (by decide)
    refine GS.if_ne rfl (fun c7 => ?_) (fun q => absurd q (by decide))
    refine GS.run [] 2 rfl ?_
    rw [g4.2]
    refine GS.run [] 0 rfl ?_
    refine GS.run [] 4 rfl ?_
    refine GS.callV oX7_readStreetEnd (c_readStreetEnd d σ4 p (j + 1) hp h4 D (some a) hd4 hw (fun x q => by cases q; exact ha)) rfl rfl rfl rfl rfl rfl rfl (Nat.le_of_ble_eq_true rfl) (by omega) (fun v20 σ20 hq20 => ?_)
    skip
    rcases e20 : rEnd p D (some a) (j + 1) with e | b
    · rw [e20] at hq20
      obtain ⟨rfl, f20⟩ := hq20
      have hE : rStr p D j = .error e := by unfold rStr; simp only [e4, e20]
      refine GS.if_ne rfl (fun q => absurd (rfl) q) (fun c23 => ?_)
      refine GS.run [] 1 rfl ?_
      refine GS.iret rfl rfl (rfl) ?_
      rw [hE]
      exact ⟨rfl, (f4.er f20).sub (by decide)⟩
    · rw [e20] at hq20
      obtain ⟨rfl, f20, g20⟩ := hq20
      obtain ⟨n20, -, hb, hjn, hb6⟩ := rEnd_ok e20
      have hjn : (decide (a = b) || adB D a b) = false := hjn
      rw [Bool.or_eq_false_iff] at hjn
      have hab : a ≠ b := of_decide_eq_false hjn.1
      have h20 : pcC σ20 p (j + 2) := h4.next f20.1 (by decide) g20.1 (live_c h4.2.2 (by omega))
      have hd20 := hd4.kept f20.1 (by decide)
      have f2 : okF [5, 17, 18, 19, 20, 21, 22, 23] σ σ20 := (f4.trans f20).sub (by decide)
      refine GS.if_ne rfl (fun c23 => ?_) (fun q => absurd q (by decide))
      refine GS.run [] 4 rfl ?_
      rw [g20.2]
      refine GS.run [] 0 rfl ?_
      refine GS.callV oX8_addStreet (c_addStreet (d + 1) σ20 D a b hd20 hw ha hb hab hjn.2 ha6 hb6) rfl rfl rfl rfl rfl rfl rfl (Nat.le_of_ble_eq_true rfl) (by omega) (fun v34 σ34 hq34 => ?_)
      obtain ⟨rfl, d34, s34⟩ := hq34
      have h34 : pcC σ34 p (j + 2) := h20.next s34 (by decide) ((congrFun (s34 5 (by decide)) 6).trans h20.2.1) h20.2.2
      have f34 : okF [5, 17, 18, 19, 20, 21, 22, 23] σ σ34 := f2.d s34 (by decide) (by decide)
      refine GS.run [] 1 rfl ?_
      refine GS.callV oX7_readSign (c_readSign (d + 1) σ34 p (j + 2) hp h34) rfl rfl rfl rfl rfl rfl rfl (Nat.le_of_ble_eq_true rfl) (by omega) (fun v38 σ38 hq38 => ?_)
      skip
      rcases e38 : rSig p (j + 2) with e | u
      · rw [e38] at hq38
        obtain ⟨rfl, f38⟩ := hq38
        have hE : rStr p D j = .error e := by unfold rStr; simp only [e4, e20, e38]
        refine GS.iret rfl rfl rfl ?_
        rw [hE]
        exact ⟨rfl, f34.er (f38.sub (by decide))⟩
      rw [e38] at hq38
      obtain ⟨rfl, f38, g38⟩ := hq38
      have hE : rStr p D j = .ok (tAddS D a b, j + 3) := by unfold rStr; simp only [e4, e20, e38]
      refine GS.run [] 0 rfl ?_
      refine GS.iret rfl rfl (rfl) ?_
      rw [hE]
      exact ⟨rfl, f34.trans (f38.sub (by decide)), g38, live_c h34.2.2 (by rw [rSig_ok e38]; decide), d34.kept f38.1 (by decide), wfD_S hw h12 ha hb hab hjn.2 ha6 hb6, rfl, rfl⟩
theorem rCor_ok {p : Tp} {j : Nat} {q : (Nat × Nat × Nat) × Nat} (h : rCor p j = .ok q) (hl : live p j) : q.1.1 ≤ 99 ∧ q.1.2.1 ≤ 9 ∧ q.1.2.2 ≤ 1 ∧ live p q.2 := by
  unfold rCor at h
  cases e1 : rNum p 99 j with
  | error e => simp only [e1] at h; cases h
  | ok hh =>
    obtain ⟨a1, a2, a3⟩ := rNum_ok e1
    cases e2 : rNum p 9 (j + 1) with
    | error e => simp only [e1, e2] at h; cases h
    | ok m =>
      obtain ⟨b1, b2, b3⟩ := rNum_ok e2
      cases e3 : rSig p (j + 2 + wlN p (j + 2)) with
      | error e => simp only [e1, e2, e3] at h; cases h
      | ok u =>
        simp only [e1, e2, e3] at h
        cases h
        have l2 : live p (j + 2) := live_c (live_c hl (by omega)) (by omega)
        have l3 : live p (j + 2 + wlN p (j + 2)) := by
          unfold wlN
          by_cases q : isNm p 10 (j + 2)
          · rw [if_pos q]; exact live_c l2 (by rw [q.1]; decide)
          · rw [if_neg q]; exact l2
        have l4 := live_c l3 (by rw [rSig_ok e3]; decide)
        have hw : wlN p (j + 2) ≤ 1 := by unfold wlN; split <;> omega
        refine ⟨a3, b3, hw, ?_⟩
        rw [show j + 2 + wlN p (j + 2) + 1 = j + 3 + wlN p (j + 2) by omega] at l4
        exact l4
theorem rCs_s {p : Tp} {D : Tn} {j : Nat} (h : tN D < 8) : rCs p (8 - tN D) D j = if isNm p 8 j then (match rCor p (j + 1) with
    | .error e => .error e
    | .ok q => rCs p (8 - (tN D + 1)) (tAddC D q.1.1 q.1.2.1 q.1.2.2) q.2) else if 2 ≤ tN D then .ok (D, j) else .error (1, tkS p j) := by
  rw [show 8 - tN D = 8 - (tN D + 1) + 1 by omega]
  rfl
theorem rSs_s {p : Tp} {D : Tn} {j : Nat} (h : tS D < 12) : rSs p (12 - tS D) D j = if isNm p 9 j then (match rStr p D (j + 1) with
    | .error e => .error e
    | .ok q => rSs p (12 - (tS D + 1)) q.1 q.2) else if 0 < tS D ∧ tkC p j = 0 then .ok D else .error (1, tkS p j) := by
  rw [show 12 - tS D = 12 - (tS D + 1) + 1 by omega]
  rfl
theorem c_readCorners (d : Nat) (σ : am_S) (p : Tp) (hp : wfP p) (h0 : pcC σ p 0) (hd0 : dftC σ tn0) : CallS mX7_readCorners (d + 7) [.ref 5, .ref 17] σ (rdQ (rCs p 8 tn0 0) [5, 17, 18, 19, 20, 21, 22, 23] (fun q σ' => pcC σ' p q.2 ∧ dftC σ' q.1 ∧ wfD q.1 ∧ 2 ≤ tN q.1 ∧ tS q.1 = 0) σ) := by
  refine CallS.of kX7_readCorners pX7_readCorners [.ref 5, .ref 17, .retAddr 0] rfl (Nat.le_of_ble_eq_true rfl) ?_
  refine GS.run [] 2 rfl ?_
  have loop2 : ∀ (fu : Nat) (D : Tn) (j : Nat) (σi : am_S) (hsi : okF [5, 17, 18, 19, 20, 21, 22, 23] σ σi) (hi : pcC σi p j) (hd : dftC σi D) (hw : wfD D) (hts : tS D = 0) (hR : rCs p (8 - tN D) D j = rCs p 8 tn0 0), 8 - tN D = fu → GS none mX7_readCorners (d + 7) (rdQ (rCs p 8 tn0 0) [5, 17, 18, 19, 20, 21, 22, 23] (fun q σ' => pcC σ' p q.2 ∧ dftC σ' q.1 ∧ wfD q.1 ∧ 2 ≤ tN q.1 ∧ tS q.1 = 0) σ) 2 [.ref 5, .ref 17, .int (nI (tN D))] [] σi := by
    intro fu
    induction fu using Nat.strongRecOn with
    | ind fu ih2 =>
      intro D j σi hsi hi hd hw hts hR hfu
      have h8 := hw.1.1
      refine GS.run [] 2 rfl ?_
      refine GS.icmp_ge rfl (fun c5 => ?_) (fun c5 => ?_)
      · have e8 : tN D = 8 := by have := (nI_leI (a := 8) (by omega) (by omega)).mp c5; omega
        have hS : rCs p (8 - tN D) D j = if isNm p 8 j then .error (3, tkS p j) else .ok (D, j) := by rw [e8]; rfl
        refine GS.run [] 2 rfl ?_
        refine GS.cV oX7_isName (c_isName (d + 4) σi p j hp hi 8) rfl rfl rfl rfl rfl rfl rfl (Nat.le_of_ble_eq_true rfl) (by omega) ?_
        refine GS.if_eq rfl (fun c68 => ?_) (fun c68 => ?_)
        · have hn : ¬ isNm p 8 j := fun q => by rw [decide_eq_true q] at c68; exact absurd c68 (by decide)
          rw [if_neg hn] at hS
          refine GS.run [] 2 rfl ?_
          refine GS.iret rfl rfl (rfl) ?_
          rw [← hR, hS]
          first
            | exact ⟨rfl, hsi, hi, hd, hw, by show 2 ≤ tN D; omega, hts⟩
            | exact ⟨rfl, hsi.er (f73.sub (by decide))⟩
        · have hn : isNm p 8 j := by
            by_cases q : isNm p 8 j
            · exact q
            · rw [decide_eq_false q] at c68; exact absurd rfl c68
          rw [if_pos hn] at hS
          refine GS.run [] 2 rfl ?_
          refine GS.callV oX7_fail (c_fail7 (d + 5) σi p j hp hi 3) rfl rfl rfl rfl rfl rfl rfl (Nat.le_of_ble_eq_true rfl) (by omega) (fun v73 σ73 hq73 => ?_)
          obtain ⟨rfl, f73⟩ := hq73
          refine GS.if_eq rfl (fun c76 => ?_) (fun q => absurd (rfl) q)
          refine GS.run [] 1 rfl ?_
          refine GS.iret rfl rfl (rfl) ?_
          rw [← hR, hS]
          first
            | exact ⟨rfl, hsi, hi, hd, hw, by show 2 ≤ tN D; omega, hts⟩
            | exact ⟨rfl, hsi.er (f73.sub (by decide))⟩
      · have hl : tN D < 8 := (nI_gtI (b := tN D) (by omega) (by omega)).mp c5
        have hS := rCs_s (p := p) (j := j) hl
        refine GS.run [] 2 rfl ?_
        refine GS.cV oX7_isName (c_isName (d + 4) σi p j hp hi 8) rfl rfl rfl rfl rfl rfl rfl (Nat.le_of_ble_eq_true rfl) (by omega) ?_
        refine GS.if_ne rfl (fun c14 => ?_) (fun c14 => ?_)
        · have hn : isNm p 8 j := by
            by_cases q : isNm p 8 j
            · exact q
            · rw [decide_eq_false q] at c14; exact absurd rfl c14
          rw [if_pos hn] at hS
          refine GS.run [] 5 rfl ?_
          rw [show σi 5 6 + 1 = nI (j + 1) by rw [hi.2.1]; exact nI_1 j]
          refine GS.run [] 0 rfl ?_
          refine GS.run [] 1 rfl ?_
          have fA : okF [5, 17, 18, 19, 20, 21, 22, 23] σ (am_s1 σi 5 (upd (σi 5) 6 (nI (j + 1)))) := hsi.f (by decide) (Or.inl rfl)
          have e6 : am_s1 σi 5 (upd (σi 5) 6 (nI (j + 1))) 5 6 = nI (j + 1) := by rw [am_s1_eq, upd_eq]
          have sA : same [5] σi (am_s1 σi 5 (upd (σi 5) 6 (nI (j + 1)))) := same.rf.s1 (by decide)
          generalize am_s1 σi 5 (upd (σi 5) 6 (nI (j + 1))) = σA at fA e6 sA ⊢
          have hA : pcC σA p (j + 1) := hi.next sA (by decide) e6 (live_c hi.2.2 (by rw [hn.1]; decide))
          have hdA := hd.kept sA (by decide)
          refine GS.run [] 0 rfl ?_
          refine GS.run [] 2 rfl ?_
          refine GS.callV oX7_readCorner (c_readCorner (d + 1) σA p (j + 1) hp hA D hdA hl) rfl rfl rfl rfl rfl rfl rfl (Nat.le_of_ble_eq_true rfl) (by omega) (fun v48 σ48 hq48 => ?_)
          skip
          rcases e48 : rCor p (j + 1) with e | q
          · rw [e48] at hq48 hS
            obtain ⟨rfl, f48⟩ := hq48
            have hS : rCs p (8 - tN D) D j = .error e := hS
            refine GS.if_ne rfl (fun q => absurd (rfl) q) (fun c51 => ?_)
            refine GS.run [] 1 rfl ?_
            refine GS.iret rfl rfl (rfl) ?_
            rw [← hR, hS]
            exact ⟨rfl, fA.er (f48.sub (by decide))⟩
          · rw [e48] at hq48 hS
            obtain ⟨rfl, f48, g48, d48⟩ := hq48
            obtain ⟨q1, q2, q3, q4⟩ := rCor_ok e48 hA.2.2
            have hS : rCs p (8 - tN D) D j = rCs p (8 - (tN D + 1)) (tAddC D q.1.1 q.1.2.1 q.1.2.2) q.2 := hS
            refine GS.if_ne rfl (fun c51 => ?_) (fun q => absurd q (by decide))
            refine GS.run [] 2 rfl ?_
            rw [show nI (tN D) + 1 = nI (tN D + 1) from nI_1 _]
            exact ih2 (8 - (tN D + 1)) (by omega) (tAddC D q.1.1 q.1.2.1 q.1.2.2) q.2 σ48 (fA.trans f48) (hA.next f48.1 (by decide) g48 q4) d48 (wfD_C hw hl q1 q2 q3) hts (by rw [← hR, hS]; rfl) rfl
        · have hn : ¬ isNm p 8 j := fun q => by rw [decide_eq_true q] at c14; exact absurd c14 (by decide)
          rw [if_neg hn] at hS
          refine GS.run [] 2 rfl ?_
          refine GS.icmp_ge rfl (fun c19 => ?_) (fun c19 => ?_)
          · have k2 : 2 ≤ tN D := by have := (nI_leI (a := 2) (by omega) (by omega)).mp c19; omega
            rw [if_pos k2] at hS
            refine GS.run [] 2 rfl ?_
            refine GS.iret rfl rfl (rfl) ?_
            rw [← hR, hS]
            first
              | exact ⟨rfl, hsi, hi, hd, hw, k2, hts⟩
              | exact ⟨rfl, hsi.er (f24.sub (by decide))⟩
          · have k2 : ¬ 2 ≤ tN D := by have := (nI_gtI (a := 2) (by omega) (by omega)).mp c19; omega
            rw [if_neg k2] at hS
            refine GS.run [] 2 rfl ?_
            refine GS.callV oX7_fail (c_fail7 (d + 5) σi p j hp hi 1) rfl rfl rfl rfl rfl rfl rfl (Nat.le_of_ble_eq_true rfl) (by omega) (fun v24 σ24 hq24 => ?_)
            obtain ⟨rfl, f24⟩ := hq24
            refine GS.if_eq rfl (fun c27 => ?_) (fun q => absurd (rfl) q)
            refine GS.run [] 1 rfl ?_
            refine GS.iret rfl rfl (rfl) ?_
            rw [← hR, hS]
            first
              | exact ⟨rfl, hsi, hi, hd, hw, k2, hts⟩
              | exact ⟨rfl, hsi.er (f24.sub (by decide))⟩
  exact loop2 _ tn0 0 σ okF.rf h0 hd0 wfD_0 rfl rfl rfl
theorem c_readStreets (d : Nat) (σ : am_S) (p : Tp) (hp : wfP p) (D0 : Tn) (j0 : Nat) (h0 : pcC σ p j0) (hd0 : dftC σ D0) (hw0 : wfD D0) (ht0 : tS D0 = 0) : CallS mX7_readStreets (d + 7) [.ref 5, .ref 17] σ (rdQ (rSs p 12 D0 j0) [5, 17, 18, 19, 20, 21, 22, 23] (fun D σ' => dftC σ' D ∧ wfD D ∧ tN D = tN D0) σ) := by
  refine CallS.of kX7_readStreets pX7_readStreets [.ref 5, .ref 17, .retAddr 0] rfl (Nat.le_of_ble_eq_true rfl) ?_
  refine GS.run [] 2 rfl ?_
  have loop2 : ∀ (fu : Nat) (D : Tn) (j : Nat) (σi : am_S) (hsi : okF [5, 17, 18, 19, 20, 21, 22, 23] σ σi) (hi : pcC σi p j) (hd : dftC σi D) (hw : wfD D) (htn : tN D = tN D0) (hR : rSs p (12 - tS D) D j = rSs p 12 D0 j0), 12 - tS D = fu → GS none mX7_readStreets (d + 7) (rdQ (rSs p 12 D0 j0) [5, 17, 18, 19, 20, 21, 22, 23] (fun D σ' => dftC σ' D ∧ wfD D ∧ tN D = tN D0) σ) 2 [.ref 5, .ref 17, .int (nI (tS D))] [] σi := by
    intro fu
    induction fu using Nat.strongRecOn with
    | ind fu ih2 =>
      intro D j σi hsi hi hd hw htn hR hfu
      have h8 := hw.1.1
      have h12 := hw.1.2.1
      have hc4 := tkC_le (p := p) (j := j)
      refine GS.run [] 2 rfl ?_
      refine GS.icmp_ge rfl (fun c5 => ?_) (fun c5 => ?_)
      · have e12 : tS D = 12 := by have := (nI_leI (a := 12) (by omega) (by omega)).mp c5; omega
        have hS : rSs p (12 - tS D) D j = if tkC p j = 0 then .ok D else .error (if isNm p 9 j then 3 else 1, tkS p j) := by rw [e12]; rfl
        refine GS.run [] 1 rfl ?_
        refine GS.cV oX7_sort (c_sort7 (d + 5) σi p j hp hi) rfl rfl rfl rfl rfl rfl rfl (Nat.le_of_ble_eq_true rfl) (by omega) ?_
        refine GS.if_eq rfl (fun c72 => ?_) (fun c72 => ?_)
        · have k0 : tkC p j = 0 := (nI_eq (b := 0) (by omega) (by omega)).mp c72
          rw [if_pos k0] at hS
          refine GS.run [] 2 rfl ?_
          refine GS.iret rfl rfl (rfl) ?_
          rw [← hR, hS]
          first
            | exact ⟨rfl, hsi, hd, hw, htn⟩
            | exact ⟨rfl, hsi.er (f90.sub (by decide))⟩
        · have k0 : ¬ tkC p j = 0 := fun q => c72 (by rw [q]; rfl)
          rw [if_neg k0] at hS
          refine GS.run [] 3 rfl ?_
          refine GS.cV oX7_isName (c_isName (d + 4) σi p j hp hi 9) rfl rfl rfl rfl rfl rfl rfl (Nat.le_of_ble_eq_true rfl) (by omega) ?_
          refine GS.if_eq rfl (fun c82 => ?_) (fun c82 => ?_)
          · have hn : ¬ isNm p 9 j := fun q => by rw [decide_eq_true q] at c82; exact absurd c82 (by decide)
            rw [if_neg hn] at hS
            refine GS.run [] 1 rfl ?_
            refine GS.callV oX7_fail (c_fail7 (d + 5) σi p j hp hi 1) rfl rfl rfl rfl rfl rfl rfl (Nat.le_of_ble_eq_true rfl) (by omega) (fun v90 σ90 hq90 => ?_)
            obtain ⟨rfl, f90⟩ := hq90
            refine GS.if_eq rfl (fun c93 => ?_) (fun q => absurd (rfl) q)
            refine GS.run [] 1 rfl ?_
            refine GS.iret rfl rfl (rfl) ?_
            rw [← hR, hS]
            first
              | exact ⟨rfl, hsi, hd, hw, htn⟩
              | exact ⟨rfl, hsi.er (f90.sub (by decide))⟩
          · have hn : isNm p 9 j := by
              by_cases q : isNm p 9 j
              · exact q
              · rw [decide_eq_false q] at c82; exact absurd rfl c82
            rw [if_pos hn] at hS
            refine GS.run [] 2 rfl ?_
            refine GS.callV oX7_fail (c_fail7 (d + 5) σi p j hp hi 3) rfl rfl rfl rfl rfl rfl rfl (Nat.le_of_ble_eq_true rfl) (by omega) (fun v90 σ90 hq90 => ?_)
            obtain ⟨rfl, f90⟩ := hq90
            refine GS.if_eq rfl (fun c93 => ?_) (fun q => absurd (rfl) q)
            refine GS.run [] 1 rfl ?_
            refine GS.iret rfl rfl (rfl) ?_
            rw [← hR, hS]
            first
              | exact ⟨rfl, hsi, hd, hw, htn⟩
              | exact ⟨rfl, hsi.er (f90.sub (by decide))⟩
      · have hl : tS D < 12 := (nI_gtI (b := tS D) (by omega) (by omega)).mp c5
        have hS := rSs_s (p := p) (j := j) hl
        refine GS.run [] 2 rfl ?_
        refine GS.cV oX7_isName (c_isName (d + 4) σi p j hp hi 9) rfl rfl rfl rfl rfl rfl rfl (Nat.le_of_ble_eq_true rfl) (by omega) ?_
        refine GS.if_ne rfl (fun c14 => ?_) (fun c14 => ?_)
        · have hn : isNm p 9 j := by
            by_cases q : isNm p 9 j
            · exact q
            · rw [decide_eq_false q] at c14; exact absurd rfl c14
          rw [if_pos hn] at hS
          refine GS.run [] 5 rfl ?_
          rw [show σi 5 6 + 1 = nI (j + 1) by rw [hi.2.1]; exact nI_1 j]
          refine GS.run [] 0 rfl ?_
          refine GS.run [] 1 rfl ?_
          have fA : okF [5, 17, 18, 19, 20, 21, 22, 23] σ (am_s1 σi 5 (upd (σi 5) 6 (nI (j + 1)))) := hsi.f (by decide) (Or.inl rfl)
          have e6 : am_s1 σi 5 (upd (σi 5) 6 (nI (j + 1))) 5 6 = nI (j + 1) := by rw [am_s1_eq, upd_eq]
          have sA : same [5] σi (am_s1 σi 5 (upd (σi 5) 6 (nI (j + 1)))) := same.rf.s1 (by decide)
          generalize am_s1 σi 5 (upd (σi 5) 6 (nI (j + 1))) = σA at fA e6 sA ⊢
          have hA : pcC σA p (j + 1) := hi.next sA (by decide) e6 (live_c hi.2.2 (by rw [hn.1]; decide))
          have hdA := hd.kept sA (by decide)
          refine GS.run [] 0 rfl ?_
          refine GS.run [] 2 rfl ?_
          refine GS.callV oX7_readStreet (c_readStreet (d + 2) σA p (j + 1) hp hA D hdA hw hl) rfl rfl rfl rfl rfl rfl rfl (Nat.le_of_ble_eq_true rfl) (by omega) (fun v54 σ54 hq54 => ?_)
          skip
          rcases e54 : rStr p D (j + 1) with e | q
          · rw [e54] at hq54 hS
            obtain ⟨rfl, f54⟩ := hq54
            have hS : rSs p (12 - tS D) D j = .error e := hS
            refine GS.if_ne rfl (fun q => absurd (rfl) q) (fun c57 => ?_)
            refine GS.run [] 1 rfl ?_
            refine GS.iret rfl rfl (rfl) ?_
            rw [← hR, hS]
            exact ⟨rfl, fA.er (f54.sub (by decide))⟩
          · rw [e54] at hq54 hS
            obtain ⟨rfl, f54, g54, l54, d54, w54, n54, t54⟩ := hq54
            have hS : rSs p (12 - tS D) D j = rSs p (12 - (tS D + 1)) q.1 q.2 := hS
            refine GS.if_ne rfl (fun c57 => ?_) (fun q => absurd q (by decide))
            refine GS.run [] 2 rfl ?_
            rw [show nI (tS D) + 1 = nI (tS D + 1) from nI_1 _, ← t54]
            exact ih2 _ (by omega) q.1 q.2 σ54 (fA.trans f54) (hA.next f54.1 (by decide) g54 l54) d54 w54 (n54.trans htn) (by rw [← hR, hS, t54]) rfl
        · have hn : ¬ isNm p 9 j := fun q => by rw [decide_eq_true q] at c14; exact absurd c14 (by decide)
          rw [if_neg hn] at hS
          refine GS.run [] 1 rfl ?_
          refine GS.if_le rfl (fun c18 => ?_) (fun c18 => ?_)
          · have k0 : ¬ (0 < tS D ∧ tkC p j = 0) := fun q => by have := (nI_leI (b := 0) (by omega) (by omega)).mp c18; omega
            rw [if_neg k0] at hS
            refine GS.run [] 2 rfl ?_
            refine GS.callV oX7_fail (c_fail7 (d + 5) σi p j hp hi 1) rfl rfl rfl rfl rfl rfl rfl (Nat.le_of_ble_eq_true rfl) (by omega) (fun v30 σ30 hq30 => ?_)
            obtain ⟨rfl, f30⟩ := hq30
            refine GS.if_eq rfl (fun c33 => ?_) (fun q => absurd (rfl) q)
            refine GS.run [] 1 rfl ?_
            refine GS.iret rfl rfl (rfl) ?_
            rw [← hR, hS]
            first
              | exact ⟨rfl, hsi, hd, hw, htn⟩
              | exact ⟨rfl, hsi.er (f30.sub (by decide))⟩
          · have k00 : 0 < tS D := by
              rcases Nat.eq_zero_or_pos (tS D) with q | q
              · rw [q] at c18; exact absurd (by decide) c18
              · exact q
            refine GS.run [] 1 rfl ?_
            refine GS.cV oX7_sort (c_sort7 (d + 5) σi p j hp hi) rfl rfl rfl rfl rfl rfl rfl (Nat.le_of_ble_eq_true rfl) (by omega) ?_
            refine GS.if_eq rfl (fun c25 => ?_) (fun c25 => ?_)
            · have k0 : 0 < tS D ∧ tkC p j = 0 := ⟨k00, (nI_eq (b := 0) (by omega) (by omega)).mp c25⟩
              rw [if_pos k0] at hS
              refine GS.run [] 2 rfl ?_
              refine GS.iret rfl rfl (rfl) ?_
              rw [← hR, hS]
              first
                | exact ⟨rfl, hsi, hd, hw, htn⟩
                | exact ⟨rfl, hsi.er (f30.sub (by decide))⟩
            · have k0 : ¬ (0 < tS D ∧ tkC p j = 0) := fun q => c25 (by rw [q.2]; rfl)
              rw [if_neg k0] at hS
              refine GS.run [] 2 rfl ?_
              refine GS.callV oX7_fail (c_fail7 (d + 5) σi p j hp hi 1) rfl rfl rfl rfl rfl rfl rfl (Nat.le_of_ble_eq_true rfl) (by omega) (fun v30 σ30 hq30 => ?_)
              obtain ⟨rfl, f30⟩ := hq30
              refine GS.if_eq rfl (fun c33 => ?_) (fun q => absurd (rfl) q)
              refine GS.run [] 1 rfl ?_
              refine GS.iret rfl rfl (rfl) ?_
              rw [← hR, hS]
              first
                | exact ⟨rfl, hsi, hd, hw, htn⟩
                | exact ⟨rfl, hsi.er (f30.sub (by decide))⟩
  have hl2 := loop2 _ D0 j0 σ okF.rf h0 hd0 hw0 rfl (by rw [ht0]) rfl
  rw [ht0] at hl2
  exact hl2
