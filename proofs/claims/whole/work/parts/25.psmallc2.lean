theorem townC.moved {k k' : Nat} {σ σ' : am_S} {t : Tn} (h : townC k σ t) (hw : wfT t) (e0 : σ' k' 0 = σ k 0) (e1 : σ' k' 1 = σ k 1) (a1 : ∀ i, i < 8 → σ' (k' + 1) i = σ (k + 1) i) (a2 : ∀ i, i < 8 → σ' (k' + 2) i = σ (k + 2) i) (a3 : ∀ i, i < 8 → σ' (k' + 3) i = σ (k + 3) i) (a4 : ∀ i, i < 8 → σ' (k' + 4) i = σ (k + 4) i) (a5 : ∀ i, i < 48 → σ' (k' + 5) i = σ (k + 5) i) (a6 : ∀ i, i < 64 → σ' (k' + 6) i = σ (k + 6) i) : townC k' σ' t := by
  refine ⟨e0.trans h.1, e1.trans h.2.1, fun c hc => ?_⟩
  have h8 := hw.1
  obtain ⟨b1, b2, b3, b4, b5, b6, b7⟩ := h.2.2 c hc
  have hC := (hw.2.2 c hc).2.2.2.2.1
  refine ⟨(a1 c (by omega)).trans b1, (a2 c (by omega)).trans b2, (a3 c (by omega)).trans b3, (a4 c (by omega)).trans b4, fun i hi => (a5 _ (by omega)).trans (b5 i hi), fun i hi => (a6 _ ?_).trans (b6 i hi), fun b hb hn => (a6 _ (by omega)).trans (b7 b hb hn)⟩
  have := (hC i hi).1
  omega
theorem sayC.moved {k k' : Nat} {σ σ' : am_S} {s : Sy} (h : sayC k σ s) (hs : wfS s) (e0 : σ' k' 0 = σ k 0) (a : ∀ i, i < 12 → σ' (k' + 1) i = σ (k + 1) i) : sayC k' σ' s := by
  refine ⟨e0.trans h.1, fun j hj => (a j ?_).trans (h.2 j hj)⟩
  have := hs.1
  omega
theorem townC.mk {k : Nat} {σ σ' : am_S} {t : Tn} {c m : Nat} (h : townC k σ t) (h2 : σ' (k + 2) = upd (σ (k + 2)) c (nI m)) (e0 : σ' k = σ k) (e1 : σ' (k + 1) = σ (k + 1)) (e3 : σ' (k + 3) = σ (k + 3)) (e4 : σ' (k + 4) = σ (k + 4)) (e5 : σ' (k + 5) = σ (k + 5)) (e6 : σ' (k + 6) = σ (k + 6)) : townC k σ' (tMk t c m) := by
  unfold townC
  rw [e0, e1, e3, e4, e5, e6, h2]
  refine ⟨h.1, h.2.1, fun x hx => ?_⟩
  obtain ⟨b1, b2, b3, b4, b5, b6, b7⟩ := h.2.2 x hx
  refine ⟨b1, ?_, b3, b4, b5, b6, b7⟩
  show upd (σ (k + 2)) c (nI m) x = nI (va_up t.2.2.2.1 c m x)
  unfold upd va_up
  by_cases e : x = c
  · rw [if_pos e, if_pos e]
  · rw [if_neg e, if_neg e]; exact b2
theorem wf_mk {t : Tn} {c m : Nat} (h : wfT t) (hm : m ≤ 9) : wfT (tMk t c m) := by
  refine ⟨h.1, h.2.1, fun x hx => ?_⟩
  obtain ⟨b1, b2, b3⟩ := h.2.2 x hx
  refine ⟨b1, ?_, b3⟩
  show va_up t.2.2.2.1 c m x ≤ 9
  unfold va_up
  by_cases e : x = c
  · rw [if_pos e]; exact hm
  · rw [if_neg e]; exact b2
theorem c_forget (d : Nat) (σ : am_S)  : CallS mX3_forget (d) [.ref 64] σ (am_det none (am_s1 σ 64 (upd (σ 64) 4 0))) := by
  refine CallS.of kX3_forget pX3_forget [.ref 64] rfl (Nat.le_of_ble_eq_true rfl) ?_
  refine GS.run [] 2 rfl ?_
  refine GS.putZ rfl rfl rfl (rfl) (rfl) rfl ?_
  refine GS.vret rfl rfl ?_
  exact ⟨rfl, rfl⟩
theorem four (c : Int32) : c = 0 ∨ c = 1 ∨ c = 2 ∨ c = 3 ∨ (c.toInt < 0 ∨ 3 < c.toInt) := by
  rcases (by omega : c.toInt = 0 ∨ c.toInt = 1 ∨ c.toInt = 2 ∨ c.toInt = 3 ∨ (c.toInt < 0 ∨ 3 < c.toInt)) with h | h | h | h | h
  · exact Or.inl (Int32.toInt_inj.mp h)
  · exact Or.inr (Or.inl (Int32.toInt_inj.mp h))
  · exact Or.inr (Or.inr (Or.inl (Int32.toInt_inj.mp h)))
  · exact Or.inr (Or.inr (Or.inr (Or.inl (Int32.toInt_inj.mp h))))
  · exact Or.inr (Or.inr (Or.inr (Or.inr h)))
theorem b_well {w : Nat} (h : w ≤ 1) : (if am_b (w = 1) = 0 then (0 : Int32) else 1) = nI w := by
  rcases (by omega : w = 0 ∨ w = 1) with rfl | rfl <;> rfl
theorem i_m10' {i : Int32} : 0 ≤ (i - 10).toInt ∧ (i - 10).toInt < 6 ↔ 10 ≤ i.toInt ∧ i.toInt < 16 := by
  have h1 := i.le_toInt
  have h2 := i.toInt_lt
  have e : (i - 10).toInt = (i.toInt - 10).bmod 4294967296 := Int32.toInt_sub i 10
  rw [e]
  rcases (by omega : i.toInt - 10 < -2147483648 ∨ -2147483648 ≤ i.toInt - 10) with h | h
  · rw [show (i.toInt - 10).bmod 4294967296 = i.toInt - 10 + 4294967296 by rw [← Int.add_bmod_right]; exact Int.bmod_eq_of_le (by omega) (by omega)]
    omega
  · rw [Int.bmod_eq_of_le (by omega) (by omega)]; omega
theorem p_corner_c (d : Nat) (σ : am_S) (t : Tn) (c i : Int32) (ht : townC 10 σ t) (hw : wfT t) : CallS mX11_corner (d + 3) [.ref 0, .int c, .int i] σ (am_det (some (.int (qCorner t c i))) σ) := by
  refine CallS.of kX11_corner pX11_corner [.ref 0, .int c, .int i] rfl (Nat.le_of_ble_eq_true rfl) ?_
  refine GS.run [] 3 rfl ?_
  refine GS.cV oX8_has (v_has (d + 1) σ t c ht hw) rfl rfl rfl rfl rfl rfl rfl (Nat.le_of_ble_eq_true rfl) (by omega) ?_
  refine GS.if_ne rfl (fun c8 => ?_) (fun c8 => ?_)
  · have g1 : okc t c := am_bT c8
    have h8 := hw.1
    obtain ⟨a, ha, rfl⟩ := okc_nat g1
    have ec : cn (nI a) = a := cn_nI (by omega)
    refine GS.run [] 1 rfl ?_
    rcases four i with rfl | rfl | rfl | rfl | hi
    · refine GS.tabIn (t := 44) rfl (by decide) (by decide) (rfl) ?_
      refine GS.run [] 3 rfl ?_
      refine GS.cV oX8_heightOf ((c_heightOf_10 (d + 1) σ (nI a)).eq (congrArg (fun z => some (Value.int z)) (v_ht ht hw ha)) rfl) rfl rfl rfl rfl rfl rfl rfl (Nat.le_of_ble_eq_true rfl) (by omega) ?_
      refine GS.iret rfl rfl (rfl) ?_
      exact ⟨by unfold qCorner; rw [if_pos g1, if_pos rfl, ec], rfl⟩
    · refine GS.tabIn (t := 53) rfl (by decide) (by decide) (rfl) ?_
      refine GS.run [] 3 rfl ?_
      refine GS.cV oX8_markOf ((c_markOf_10 (d + 1) σ (nI a)).eq (congrArg (fun z => some (Value.int z)) (v_mk ht hw ha)) rfl) rfl rfl rfl rfl rfl rfl rfl (Nat.le_of_ble_eq_true rfl) (by omega) ?_
      refine GS.iret rfl rfl (rfl) ?_
      exact ⟨by unfold qCorner; rw [if_pos g1, if_neg (by decide), if_pos rfl, ec], rfl⟩
    · refine GS.tabIn (t := 62) rfl (by decide) (by decide) (rfl) ?_
      refine GS.run [] 3 rfl ?_
      refine GS.cV oX8_hasWell (c_well (d + 1) σ t a ht hw ha) rfl rfl rfl rfl rfl rfl rfl (Nat.le_of_ble_eq_true rfl) (by omega) ?_
      refine GS.if_eq rfl (fun c70 => ?_) (fun c70 => ?_)
      · have hz : tW t a = 0 := by have h1 : ¬ tW t a = 1 := am_b0.mp c70; have := (hw.2.2 a ha).2.2.1; omega
        refine GS.run [] 1 rfl ?_
        refine GS.iret rfl rfl (rfl) ?_
        exact ⟨by unfold qCorner; rw [if_pos g1, if_neg (by decide), if_neg (by decide), if_pos rfl, ec, hz]; rfl, rfl⟩
      · have hz : tW t a = 1 := am_bT c70
        refine GS.run [] 2 rfl ?_
        refine GS.iret rfl rfl (rfl) ?_
        exact ⟨by unfold qCorner; rw [if_pos g1, if_neg (by decide), if_neg (by decide), if_pos rfl, ec, hz]; rfl, rfl⟩
    · refine GS.tabIn (t := 79) rfl (by decide) (by decide) (rfl) ?_
      refine GS.run [] 3 rfl ?_
      refine GS.cV oX8_streetsAt ((c_streetsAt_10 (d + 1) σ (nI a)).eq (congrArg (fun z => some (Value.int z)) (v_dg ht hw ha)) rfl) rfl rfl rfl rfl rfl rfl rfl (Nat.le_of_ble_eq_true rfl) (by omega) ?_
      refine GS.iret rfl rfl (rfl) ?_
      exact ⟨by unfold qCorner; rw [if_pos g1, if_neg (by decide), if_neg (by decide), if_neg (by decide), if_pos rfl, ec], rfl⟩
    · have h : ∀ m : Int32, 0 ≤ m.toInt → m.toInt ≤ 3 → ¬ i = m := fun m h1 h2 e => by rw [e] at hi; omega
      have hq : qCorner t (nI a) i = if 10 ≤ i.toInt ∧ i.toInt < 16 then (if cn i - 10 < tD t a then nI (tB t a (cn i - 10)) else -1000000) else -1000001 := by
        unfold qCorner
        rw [if_pos g1, if_neg (h 0 (by decide) (by decide)), if_neg (h 1 (by decide) (by decide)), if_neg (h 2 (by decide) (by decide)), if_neg (h 3 (by decide) (by decide)), ec]
      refine GS.tabOut rfl (hi) ?_
      refine GS.run [] 4 rfl ?_
      refine GS.cS oX11_within ((c_withinN (d + 1) σ (i - 10) 6 (by omega)).eq (congrArg (fun z => some (Value.int z)) (am_b_congr (q := 10 ≤ i.toInt ∧ i.toInt < 16) i_m10')) rfl) rfl rfl rfl rfl (Nat.le_of_ble_eq_true rfl) (by omega) ?_
      refine GS.if_eq rfl (fun c97 => ?_) (fun c97 => ?_)
      · have g2 : ¬ (10 ≤ i.toInt ∧ i.toInt < 16) := am_b0.mp c97
        refine GS.run [] 1 rfl ?_
        refine GS.iret rfl rfl (rfl) ?_
        first
          | exact ⟨by rw [hq, if_neg g2], rfl⟩
          | exact ⟨by rw [hq, if_pos g2], rfl⟩
      · have g2 := am_bT c97
        obtain ⟨b, hb, rfl⟩ := nat_of (i := i) (m := 15) (by omega) (by omega)
        have hb2 : 10 ≤ b := by have := g2.1; rw [nI_toInt (by omega)] at this; omega
        rw [cn_nI (by omega)] at hq
        refine GS.run [] 6 rfl ?_
        rw [show nI b - 10 = nI (b - 10) from pk_sub (a := b) (b := 10) hb2]
        refine GS.cV oX8_neighbour ((c_neighbour_10 (d + 1) σ (nI a) (nI (b - 10))).eq (congrArg (fun z => some (Value.int z)) (v_nbr ht hw ha (by omega))) rfl) rfl rfl rfl rfl rfl rfl rfl (Nat.le_of_ble_eq_true rfl) (by omega) ?_
        refine GS.run [] 1 rfl ?_
        refine GS.iret rfl rfl (rfl) ?_
        first
          | exact ⟨by rw [hq, if_neg g2], rfl⟩
          | exact ⟨by rw [hq, if_pos g2], rfl⟩
  · have g1 : ¬ okc t c := am_b0.mp c8
    refine GS.run [] 1 rfl ?_
    refine GS.iret rfl rfl (rfl) ?_
    exact ⟨by unfold qCorner; rw [if_neg g1], rfl⟩
theorem p_mark_c (d : Nat) (σ : am_S) (t : Tn) (c m : Int32) (ht : townC 10 σ t) (hw : wfT t) : CallS mX11_mark (d + 3) [.ref 0, .int c, .int m] σ (fun x σ' => x = some (.int (qMark t c m).1) ∧ townC 10 σ' (qMark t c m).2 ∧ same [12, 64] σ σ' ∧ ((σ' 64 = σ 64 ∧ (qMark t c m).2 = t) ∨ σ' 64 4 = 0)) := by
  refine CallS.of kX11_mark pX11_mark [.ref 0, .int c, .int m, .retAddr 0] rfl (Nat.le_of_ble_eq_true rfl) ?_
  refine GS.run [] 3 rfl ?_
  refine GS.cV oX8_has (v_has (d + 1) σ t c ht hw) rfl rfl rfl rfl rfl rfl rfl (Nat.le_of_ble_eq_true rfl) (by omega) ?_
  refine GS.if_eq rfl (fun c8 => ?_) (fun c8 => ?_)
  · have hbad : ¬ (okc t c ∧ okn m 10) := fun h => am_b0.mp c8 h.1
    refine GS.run [] 1 rfl ?_
    refine GS.iret rfl rfl (rfl) ?_
    have hq : qMark t c m = (-1000001, t) := by unfold qMark; rw [if_neg hbad]
    rw [hq]
    exact ⟨rfl, ht, same.rf, Or.inl ⟨rfl, rfl⟩⟩
  · have g1 : okc t c := am_bT c8
    refine GS.run [] 2 rfl ?_
    refine GS.cS oX11_within (c_withinN (d + 2) σ m 10 (by omega)) rfl rfl rfl rfl (Nat.le_of_ble_eq_true rfl) (by omega) ?_
    refine GS.if_ne rfl (fun c17 => ?_) (fun c17 => ?_)
    · have g2 : okn m 10 := am_bT c17
      have h8 := hw.1
      obtain ⟨a, ha, rfl⟩ := okc_nat g1
      have ec : cn (nI a) = a := cn_nI (by omega)
      obtain ⟨b, hb, rfl⟩ := okn_nat g2
      have eb : cn (nI b) = b := cn_nI (by omega)
      have hq : qMark t (nI a) (nI b) = (nI (tM t a), tMk t a b) := by unfold qMark; rw [if_pos ⟨g1, g2⟩, ec, eb]
      refine GS.run [] 3 rfl ?_
      refine GS.cV oX8_markOf ((c_markOf_10 (d + 1) σ (nI a)).eq (congrArg (fun z => some (Value.int z)) (v_mk ht hw ha)) rfl) rfl rfl rfl rfl rfl rfl rfl (Nat.le_of_ble_eq_true rfl) (by omega) ?_
      refine GS.run [] 5 rfl ?_
      refine GS.cV oX8_setMark (c_setMark_10 (d + 1) σ (nI a) (nI b)) rfl rfl rfl rfl rfl rfl rfl (Nat.le_of_ble_eq_true rfl) (by omega) ?_
      refine GS.run [] 2 rfl ?_
      refine GS.cV oX3_forget (c_forget (d + 2) (am_s1 σ 12 (am_put (σ 12) 8 (nI a) (nI b)))) rfl rfl rfl rfl rfl rfl rfl (Nat.le_of_ble_eq_true rfl) (by omega) ?_
      refine GS.run [] 1 rfl ?_
      refine GS.iret rfl rfl (rfl) ?_
      rw [hq]
      exact ⟨rfl, ht.mk (am_put_nI (by omega) (by omega)) rfl rfl rfl rfl rfl rfl, (same.rf.s1 (by decide)).s1 (by decide), Or.inr rfl⟩
    · have hbad : ¬ (okc t c ∧ okn m 10) := fun h => am_b0.mp c17 h.2
      refine GS.run [] 1 rfl ?_
      refine GS.iret rfl rfl (rfl) ?_
      have hq : qMark t c m = (-1000001, t) := by unfold qMark; rw [if_neg hbad]
      rw [hq]
      exact ⟨rfl, ht, same.rf, Or.inl ⟨rfl, rfl⟩⟩
theorem c_keep_28 (d : Nat) (σ : am_S) (t : Tn) (s : Sy) (ht : townC 10 σ t) (hw : wfT t) (hy : sayC 24 σ s) (hys : wfS s) : CallS mX2_keep (d + 2) [.ref 28, .ref 10, .ref 24] σ (fun x σ' => x = none ∧ keptC 28 σ' (some (t, s)) ∧ same [28, 29, 30, 31, 32, 33, 34, 35, 36, 37] σ σ') := by
  refine CallS.of kX2_keep pX2_keep [.ref 28, .ref 10, .ref 24] rfl (Nat.le_of_ble_eq_true rfl) ?_
  refine GS.run [] 3 rfl ?_
  refine GS.callV oX8_become (c_become_29_10 d σ) rfl rfl rfl rfl rfl rfl rfl (Nat.le_of_ble_eq_true rfl) (by omega) (fun v5 σ5 hq5 => ?_)
  obtain ⟨rfl, s5, e50, e51, a1, a2, a3, a4, a5, a6⟩ := hq5
  have t5 : townC 29 σ5 t := ht.moved hw e50 e51 a1 a2 a3 a4 a5 a6
  have y5 : sayC 24 σ5 s := hy.kept (s5 24 (by decide)) (s5 25 (by decide))
  refine GS.run [] 3 rfl ?_
  refine GS.callV oX5_become (c_sbecome_36_24 d σ5) rfl rfl rfl rfl rfl rfl rfl (Nat.le_of_ble_eq_true rfl) (by omega) (fun v13 σ13 hq13 => ?_)
  obtain ⟨rfl, s13, f0, f1⟩ := hq13
  have t13 : townC 29 σ13 t := t5.kept (fun j hj => s13 _ (by simp; omega))
  have y13 : sayC 36 σ13 s := y5.moved hys f0 f1
  refine GS.run [] 2 rfl ?_
  refine GS.putZ rfl rfl rfl (rfl) (rfl) rfl ?_
  refine GS.vret rfl rfl ?_
  refine ⟨rfl, ⟨rfl, t13.kept (fun j hj => ?_), y13.kept rfl rfl⟩, ?_⟩
  · exact am_s1_ne _ _ (by omega)
  · exact ((s5.sub (by decide)).trans (s13.sub (by decide))).s1 (by decide)
theorem c_give_28 (d : Nat) (σ : am_S) (t : Tn) (s : Sy) (h : keptC 28 σ (some (t, s))) (hw : wfT t) (hys : wfS s) : CallS mX2_giveBack (d + 2) [.ref 28, .ref 10, .ref 24] σ (fun x σ' => x = none ∧ townC 10 σ' t ∧ sayC 24 σ' s ∧ same [10, 11, 12, 13, 14, 15, 16, 24, 25] σ σ') := by
  refine CallS.of kX2_giveBack pX2_giveBack [.ref 28, .ref 10, .ref 24] rfl (Nat.le_of_ble_eq_true rfl) ?_
  obtain ⟨hk, ht, hy⟩ := h
  refine GS.run [] 3 rfl ?_
  refine GS.callV oX8_become (c_become_10_29 d σ) rfl rfl rfl rfl rfl rfl rfl (Nat.le_of_ble_eq_true rfl) (by omega) (fun v5 σ5 hq5 => ?_)
  obtain ⟨rfl, s5, e50, e51, a1, a2, a3, a4, a5, a6⟩ := hq5
  have t5 : townC 10 σ5 t := ht.moved hw e50 e51 a1 a2 a3 a4 a5 a6
  have y5 : sayC 36 σ5 s := hy.kept (s5 36 (by decide)) (s5 37 (by decide))
  refine GS.run [] 3 rfl ?_
  refine GS.callV oX5_become (c_sbecome_24_36 d σ5) rfl rfl rfl rfl rfl rfl rfl (Nat.le_of_ble_eq_true rfl) (by omega) (fun v13 σ13 hq13 => ?_)
  obtain ⟨rfl, s13, f0, f1⟩ := hq13
  have t13 : townC 10 σ13 t := t5.kept (fun j hj => s13 _ (by simp; omega))
  have y13 : sayC 24 σ13 s := y5.moved hys f0 f1
  refine GS.vret rfl rfl ?_
  exact ⟨rfl, t13, y13, (s5.sub (by decide)).trans (s13.sub (by decide))⟩
theorem c_keep_38 (d : Nat) (σ : am_S) (t : Tn) (s : Sy) (ht : townC 10 σ t) (hw : wfT t) (hy : sayC 24 σ s) (hys : wfS s) : CallS mX2_keep (d + 2) [.ref 38, .ref 10, .ref 24] σ (fun x σ' => x = none ∧ keptC 38 σ' (some (t, s)) ∧ same [38, 39, 40, 41, 42, 43, 44, 45, 46, 47] σ σ') := by
  refine CallS.of kX2_keep pX2_keep [.ref 38, .ref 10, .ref 24] rfl (Nat.le_of_ble_eq_true rfl) ?_
  refine GS.run [] 3 rfl ?_
  refine GS.callV oX8_become (c_become_39_10 d σ) rfl rfl rfl rfl rfl rfl rfl (Nat.le_of_ble_eq_true rfl) (by omega) (fun v5 σ5 hq5 => ?_)
  obtain ⟨rfl, s5, e50, e51, a1, a2, a3, a4, a5, a6⟩ := hq5
  have t5 : townC 39 σ5 t := ht.moved hw e50 e51 a1 a2 a3 a4 a5 a6
  have y5 : sayC 24 σ5 s := hy.kept (s5 24 (by decide)) (s5 25 (by decide))
  refine GS.run [] 3 rfl ?_
  refine GS.callV oX5_become (c_sbecome_46_24 d σ5) rfl rfl rfl rfl rfl rfl rfl (Nat.le_of_ble_eq_true rfl) (by omega) (fun v13 σ13 hq13 => ?_)
  obtain ⟨rfl, s13, f0, f1⟩ := hq13
  have t13 : townC 39 σ13 t := t5.kept (fun j hj => s13 _ (by simp; omega))
  have y13 : sayC 46 σ13 s := y5.moved hys f0 f1
  refine GS.run [] 2 rfl ?_
  refine GS.putZ rfl rfl rfl (rfl) (rfl) rfl ?_
  refine GS.vret rfl rfl ?_
  refine ⟨rfl, ⟨rfl, t13.kept (fun j hj => ?_), y13.kept rfl rfl⟩, ?_⟩
  · exact am_s1_ne _ _ (by omega)
  · exact ((s5.sub (by decide)).trans (s13.sub (by decide))).s1 (by decide)
theorem c_give_38 (d : Nat) (σ : am_S) (t : Tn) (s : Sy) (h : keptC 38 σ (some (t, s))) (hw : wfT t) (hys : wfS s) : CallS mX2_giveBack (d + 2) [.ref 38, .ref 10, .ref 24] σ (fun x σ' => x = none ∧ townC 10 σ' t ∧ sayC 24 σ' s ∧ same [10, 11, 12, 13, 14, 15, 16, 24, 25] σ σ') := by
  refine CallS.of kX2_giveBack pX2_giveBack [.ref 38, .ref 10, .ref 24] rfl (Nat.le_of_ble_eq_true rfl) ?_
  obtain ⟨hk, ht, hy⟩ := h
  refine GS.run [] 3 rfl ?_
  refine GS.callV oX8_become (c_become_10_39 d σ) rfl rfl rfl rfl rfl rfl rfl (Nat.le_of_ble_eq_true rfl) (by omega) (fun v5 σ5 hq5 => ?_)
  obtain ⟨rfl, s5, e50, e51, a1, a2, a3, a4, a5, a6⟩ := hq5
  have t5 : townC 10 σ5 t := ht.moved hw e50 e51 a1 a2 a3 a4 a5 a6
  have y5 : sayC 46 σ5 s := hy.kept (s5 46 (by decide)) (s5 47 (by decide))
  refine GS.run [] 3 rfl ?_
  refine GS.callV oX5_become (c_sbecome_24_46 d σ5) rfl rfl rfl rfl rfl rfl rfl (Nat.le_of_ble_eq_true rfl) (by omega) (fun v13 σ13 hq13 => ?_)
  obtain ⟨rfl, s13, f0, f1⟩ := hq13
  have t13 : townC 10 σ13 t := t5.kept (fun j hj => s13 _ (by simp; omega))
  have y13 : sayC 24 σ13 s := y5.moved hys f0 f1
  refine GS.vret rfl rfl ?_
  exact ⟨rfl, t13, y13, (s5.sub (by decide)).trans (s13.sub (by decide))⟩
theorem c_keptBy (d : Nat) (σ : am_S) (k : Int32) : CallS mX11_keptBy (d) [.ref 0, .int k] σ (am_det (some (.ref (if k = 0 then 28 else 38))) σ) := by
  refine CallS.of kX11_keptBy pX11_keptBy [.ref 0, .int k] rfl (Nat.le_of_ble_eq_true rfl) ?_
  refine GS.run [] 1 rfl ?_
  refine GS.if_ne rfl (fun c1 => ?_) (fun c1 => ?_)
  · refine GS.run [] 2 rfl ?_
    refine GS.aret rfl rfl (Or.inl ⟨_, rfl⟩) ?_
    exact ⟨by first | rw [if_pos c1] | rw [if_neg c1], rfl⟩
  · refine GS.run [] 3 rfl ?_
    refine GS.aret rfl rfl (Or.inl ⟨_, rfl⟩) ?_
    exact ⟨by first | rw [if_pos c1] | rw [if_neg c1], rfl⟩
theorem p_image_c (d : Nat) (σ : am_S) (t : Tn) (s : Sy) (a b : Kp) (k : Int32) (ht : townC 10 σ t) (hw : wfT t) (hy : sayC 24 σ s) (hys : wfS s) (ha : keptC 28 σ a) (hb : keptC 38 σ b)  : CallS mX11_image (d + 4) [.ref 0, .int k] σ (fun x σ' => x = some (.int (qImage t s a b k).1) ∧ keptC 28 σ' (qImage t s a b k).2.1 ∧ keptC 38 σ' (qImage t s a b k).2.2 ∧ same [28, 29, 30, 31, 32, 33, 34, 35, 36, 37, 38, 39, 40, 41, 42, 43, 44, 45, 46, 47] σ σ') := by
  refine CallS.of kX11_image pX11_image [.ref 0, .int k] rfl (Nat.le_of_ble_eq_true rfl) ?_
  refine GS.run [] 1 rfl ?_
  refine GS.cS oX11_bit (c_bit (d + 3) σ k) rfl rfl rfl rfl (Nat.le_of_ble_eq_true rfl) (by omega) ?_
  refine GS.if_ne rfl (fun c4 => ?_) (fun c4 => ?_)
  · have g1 : okb k := am_bT c4
    refine GS.run [] 2 rfl ?_
    refine GS.cV oX8_corners ((c_corners_10 (d + 3) σ).eq (congrArg (fun z => some (Value.int z)) (ht.1)) rfl) rfl rfl rfl rfl rfl rfl rfl (Nat.le_of_ble_eq_true rfl) (by omega) ?_
    refine GS.if_ne rfl (fun c17 => ?_) (fun c17 => ?_)
    · have g2 : ¬ tN t = 0 := fun z => c17 (by rw [z]; rfl)
      rcases g1 with rfl | rfl
      · refine GS.run [] 2 rfl ?_
        refine GS.cV oX11_keptBy (c_keptBy (d + 3) σ 0) rfl rfl rfl rfl rfl rfl rfl (Nat.le_of_ble_eq_true rfl) (by omega) ?_
        refine GS.run [] 4 rfl ?_
        refine GS.callV oX2_keep (c_keep_28 (d + 1) σ t s ht hw hy hys) rfl rfl rfl rfl rfl rfl rfl (Nat.le_of_ble_eq_true rfl) (by omega) (fun v37 σ37 hq37 => ?_)
        obtain ⟨rfl, k37, s37⟩ := hq37
        refine GS.run [] 1 rfl ?_
        refine GS.iret rfl rfl (rfl) ?_
        have hq : qImage t s a b 0 = (1, some (t, s), b) := by unfold qImage; rw [if_pos (Or.inl rfl), if_neg g2, if_pos rfl]
        rw [hq]
        exact ⟨rfl, k37, hb.kept (fun j hj => s37 _ (by simp; omega)), s37.sub (by decide)⟩
      · refine GS.run [] 2 rfl ?_
        refine GS.cV oX11_keptBy (c_keptBy (d + 3) σ 1) rfl rfl rfl rfl rfl rfl rfl (Nat.le_of_ble_eq_true rfl) (by omega) ?_
        refine GS.run [] 4 rfl ?_
        refine GS.callV oX2_keep (c_keep_38 (d + 1) σ t s ht hw hy hys) rfl rfl rfl rfl rfl rfl rfl (Nat.le_of_ble_eq_true rfl) (by omega) (fun v37 σ37 hq37 => ?_)
        obtain ⟨rfl, k37, s37⟩ := hq37
        refine GS.run [] 1 rfl ?_
        refine GS.iret rfl rfl (rfl) ?_
        have hq : qImage t s a b 1 = (1, a, some (t, s)) := by unfold qImage; rw [if_pos (Or.inr rfl), if_neg g2, if_neg (by decide)]
        rw [hq]
        exact ⟨rfl, ha.kept (fun j hj => s37 _ (by simp; omega)), k37, s37.sub (by decide)⟩
    · have g2 : tN t = 0 := (nI_eq (b := 0) (by have := hw.1; omega) (by omega)).mp c17
      refine GS.run [] 1 rfl ?_
      refine GS.iret rfl rfl (rfl) ?_
      have hq : qImage t s a b k = (-1000002, a, b) := by unfold qImage; rw [if_pos g1, if_pos g2]
      rw [hq]
      exact ⟨rfl, ha, hb, same.rf⟩
  · have g1 : ¬ okb k := am_b0.mp c4
    refine GS.run [] 1 rfl ?_
    refine GS.iret rfl rfl (rfl) ?_
    have hq : qImage t s a b k = (-1000001, a, b) := by unfold qImage; rw [if_neg g1]
    rw [hq]
    exact ⟨rfl, ha, hb, same.rf⟩
theorem c_isKept_28 (d : Nat) (σ : am_S) (a : Kp) (ha : keptC 28 σ a) : CallS mX2_isKept (d) [.ref 28] σ (am_det (some (.int (am_b (a.isSome = true)))) σ) := by
  refine CallS.of kX2_isKept pX2_isKept [.ref 28] rfl (Nat.le_of_ble_eq_true rfl) ?_
  refine GS.run [] 2 rfl ?_
  have e : σ 28 2 = am_b (a.isSome = true) := by
    cases a with
    | none => exact ha
    | some w => exact ha.1
  rw [e]
  refine GS.iret rfl rfl (nar_b _) ?_
  exact ⟨rfl, rfl⟩
theorem c_isKept_38 (d : Nat) (σ : am_S) (a : Kp) (ha : keptC 38 σ a) : CallS mX2_isKept (d) [.ref 38] σ (am_det (some (.int (am_b (a.isSome = true)))) σ) := by
  refine CallS.of kX2_isKept pX2_isKept [.ref 38] rfl (Nat.le_of_ble_eq_true rfl) ?_
  refine GS.run [] 2 rfl ?_
  have e : σ 38 2 = am_b (a.isSome = true) := by
    cases a with
    | none => exact ha
    | some w => exact ha.1
  rw [e]
  refine GS.iret rfl rfl (nar_b _) ?_
  exact ⟨rfl, rfl⟩
theorem p_restore_c (d : Nat) (σ : am_S) (t : Tn) (s : Sy) (a b : Kp) (k : Int32) (ht : townC 10 σ t) (hw : wfT t) (hy : sayC 24 σ s) (hys : wfS s) (ha : keptC 28 σ a) (hb : keptC 38 σ b) (wa : wfK a) (wb : wfK b) : CallS mX11_restore (d + 4) [.ref 0, .int k] σ (fun x σ' => x = some (.int (qRestore t s a b k).1) ∧ townC 10 σ' (qRestore t s a b k).2.1 ∧ sayC 24 σ' (qRestore t s a b k).2.2 ∧ same [10, 11, 12, 13, 14, 15, 16, 24, 25, 64] σ σ' ∧ ((σ' 64 = σ 64 ∧ (qRestore t s a b k).2.1 = t) ∨ σ' 64 4 = 0)) := by
  refine CallS.of kX11_restore pX11_restore [.ref 0, .int k] rfl (Nat.le_of_ble_eq_true rfl) ?_
  refine GS.run [] 1 rfl ?_
  refine GS.cS oX11_bit (c_bit (d + 3) σ k) rfl rfl rfl rfl (Nat.le_of_ble_eq_true rfl) (by omega) ?_
  refine GS.if_ne rfl (fun c4 => ?_) (fun c4 => ?_)
  · have g1 : okb k := am_bT c4
    rcases g1 with rfl | rfl
    · refine GS.run [] 2 rfl ?_
      refine GS.cV oX11_keptBy (c_keptBy (d + 3) σ 0) rfl rfl rfl rfl rfl rfl rfl (Nat.le_of_ble_eq_true rfl) (by omega) ?_
      refine GS.cV oX2_isKept (c_isKept_28 (d + 3) σ a ha) rfl rfl rfl rfl rfl rfl rfl (Nat.le_of_ble_eq_true rfl) (by omega) ?_
      refine GS.if_ne rfl (fun c18 => ?_) (fun c18 => ?_)
      · obtain ⟨w, hw1⟩ : ∃ w, a = some w := by
          cases a with
          | none => exact absurd (am_bT c18) (by decide)
          | some w => exact ⟨w, rfl⟩
        subst hw1
        refine GS.run [] 2 rfl ?_
        refine GS.cV oX11_keptBy (c_keptBy (d + 3) σ 0) rfl rfl rfl rfl rfl rfl rfl (Nat.le_of_ble_eq_true rfl) (by omega) ?_
        refine GS.run [] 4 rfl ?_
        refine GS.callV oX2_giveBack (c_give_28 (d + 1) σ w.1 w.2 ha wa.1 wa.2.1) rfl rfl rfl rfl rfl rfl rfl (Nat.le_of_ble_eq_true rfl) (by omega) (fun v38 σ38 hq38 => ?_)
        obtain ⟨rfl, t38, y38, s38⟩ := hq38
        refine GS.run [] 2 rfl ?_
        refine GS.cV oX3_forget (c_forget (d + 3) σ38) rfl rfl rfl rfl rfl rfl rfl (Nat.le_of_ble_eq_true rfl) (by omega) ?_
        refine GS.run [] 1 rfl ?_
        refine GS.iret rfl rfl (rfl) ?_
        have hq : qRestore t s (some w) b 0 = (1, w.1, w.2) := by
          unfold qRestore
          rw [if_pos (by decide)]
          rfl
        rw [hq]
        exact ⟨rfl, t38.kept (fun j hj => am_s1_ne _ _ (by omega)), y38.kept rfl rfl, (s38.sub (by decide)).s1 (by decide), Or.inr rfl⟩
      · have hn : a = none := by
          cases a with
          | none => rfl
          | some w => exact absurd rfl (am_b0.mp c18)
        refine GS.run [] 1 rfl ?_
        refine GS.iret rfl rfl (rfl) ?_
        have hq : qRestore t s a b 0 = (-1000002, t, s) := by
          subst hn
          unfold qRestore
          rw [if_pos (by decide)]
          rfl
        rw [hq]
        exact ⟨rfl, ht, hy, same.rf, Or.inl ⟨rfl, rfl⟩⟩
    · refine GS.run [] 2 rfl ?_
      refine GS.cV oX11_keptBy (c_keptBy (d + 3) σ 1) rfl rfl rfl rfl rfl rfl rfl (Nat.le_of_ble_eq_true rfl) (by omega) ?_
      refine GS.cV oX2_isKept (c_isKept_38 (d + 3) σ b hb) rfl rfl rfl rfl rfl rfl rfl (Nat.le_of_ble_eq_true rfl) (by omega) ?_
      refine GS.if_ne rfl (fun c18 => ?_) (fun c18 => ?_)
      · obtain ⟨w, hw1⟩ : ∃ w, b = some w := by
          cases b with
          | none => exact absurd (am_bT c18) (by decide)
          | some w => exact ⟨w, rfl⟩
        subst hw1
        refine GS.run [] 2 rfl ?_
        refine GS.cV oX11_keptBy (c_keptBy (d + 3) σ 1) rfl rfl rfl rfl rfl rfl rfl (Nat.le_of_ble_eq_true rfl) (by omega) ?_
        refine GS.run [] 4 rfl ?_
        refine GS.callV oX2_giveBack (c_give_38 (d + 1) σ w.1 w.2 hb wb.1 wb.2.1) rfl rfl rfl rfl rfl rfl rfl (Nat.le_of_ble_eq_true rfl) (by omega) (fun v38 σ38 hq38 => ?_)
        obtain ⟨rfl, t38, y38, s38⟩ := hq38
        refine GS.run [] 2 rfl ?_
        refine GS.cV oX3_forget (c_forget (d + 3) σ38) rfl rfl rfl rfl rfl rfl rfl (Nat.le_of_ble_eq_true rfl) (by omega) ?_
        refine GS.run [] 1 rfl ?_
        refine GS.iret rfl rfl (rfl) ?_
        have hq : qRestore t s a (some w) 1 = (1, w.1, w.2) := by
          unfold qRestore
          rw [if_pos (by decide)]
          rfl
        rw [hq]
        exact ⟨rfl, t38.kept (fun j hj => am_s1_ne _ _ (by omega)), y38.kept rfl rfl, (s38.sub (by decide)).s1 (by decide), Or.inr rfl⟩
      · have hn : b = none := by
          cases b with
          | none => rfl
          | some w => exact absurd rfl (am_b0.mp c18)
        refine GS.run [] 1 rfl ?_
        refine GS.iret rfl rfl (rfl) ?_
        have hq : qRestore t s a b 1 = (-1000002, t, s) := by
          subst hn
          unfold qRestore
          rw [if_pos (by decide)]
          rfl
        rw [hq]
        exact ⟨rfl, ht, hy, same.rf, Or.inl ⟨rfl, rfl⟩⟩
  · have g1 : ¬ okb k := am_b0.mp c4
    refine GS.run [] 1 rfl ?_
    refine GS.iret rfl rfl (rfl) ?_
    have hq : qRestore t s a b k = (-1000001, t, s) := by unfold qRestore; rw [if_neg g1]
    rw [hq]
    exact ⟨rfl, ht, hy, same.rf, Or.inl ⟨rfl, rfl⟩⟩
def glA (l r : Nat) : Nat := (l + 1) * (r + 1)
def glF (l r : Nat) : Nat := (l + 1) * (r + 1) + l * (l + 1) + r * (r + 1)
abbrev okg (v : Int32) : Prop := 1 ≤ v.toInt ∧ v.toInt ≤ 8
def qGloves (l r w : Int32) : Int32 := if okg l ∧ okg r ∧ okn w 3 then (if w = 0 then nI (max (cn l) (cn r) + 1) else if w = 1 then nI (glF (cn l) (cn r) / Nat.gcd (glF (cn l) (cn r)) (glA (cn l) (cn r))) else nI (glA (cn l) (cn r) / Nat.gcd (glF (cn l) (cn r)) (glA (cn l) (cn r)))) else -1000001
theorem okg_m {v : Int32} : 0 ≤ (v - 1).toInt ∧ (v - 1).toInt < ((8 : Nat) : Int) ↔ okg v := by
  have h1 := v.le_toInt
  have h2 := v.toInt_lt
  have e : (v - 1).toInt = (v.toInt - 1).bmod 4294967296 := Int32.toInt_sub v 1
  rw [e]
  rcases (by omega : v.toInt - 1 < -2147483648 ∨ -2147483648 ≤ v.toInt - 1) with h | h
  · rw [show (v.toInt - 1).bmod 4294967296 = v.toInt - 1 + 4294967296 by rw [← Int.add_bmod_right]; exact Int.bmod_eq_of_le (by omega) (by omega)]
    omega
  · rw [Int.bmod_eq_of_le (by omega) (by omega)]; omega
theorem nI_dn {j : Nat} (h : 0 < j) : nI j + -1 = nI (j - 1) := by
  rw [← Int32.sub_eq_add_neg]
  exact pk_sub (a := j) (b := 1) h
theorem okg_nat {v : Int32} (h : okg v) : ∃ a, 1 ≤ a ∧ a ≤ 8 ∧ v = nI a := by
  refine ⟨v.toInt.toNat, by omega, by omega, ?_⟩
  rw [zI_n, show ((v.toInt.toNat : Nat) : Int) = v.toInt by omega, zI_of]
theorem gl_b {l r : Nat} (hl : l ≤ 8) (hr : r ≤ 8) : glA l r ≤ 81 ∧ glF l r ≤ 225 ∧ 0 < glA l r ∧ 0 < glF l r := by
  unfold glA glF
  have h1 := Nat.mul_le_mul (by omega : l + 1 ≤ 9) (by omega : r + 1 ≤ 9)
  have h2 := Nat.mul_le_mul hl (by omega : l + 1 ≤ 9)
  have h3 := Nat.mul_le_mul hr (by omega : r + 1 ≤ 9)
  have h4 := Nat.mul_le_mul (by omega : 1 ≤ l + 1) (by omega : 1 ≤ r + 1)
  omega
theorem gl_A {l r : Nat} : (nI l + 1) * (nI r + 1) = nI (glA l r) := by
  unfold glA; rw [show (1 : Int32) = nI 1 from rfl, nI_add, nI_add, pk_mul]
theorem gl_F {l r : Nat} : nI (glA l r) + nI l * (nI l + 1) + nI r * (nI r + 1) = nI (glF l r) := by
  unfold glF; rw [show (1 : Int32) = nI 1 from rfl, nI_add, nI_add, pk_mul, pk_mul, nI_add, nI_add]; rfl
theorem c_common (d : Nat) (σ : am_S) (f a : Nat) (hf : f ≤ 225) (ha : a ≤ 225) (f0 : 0 < f) (a0 : 0 < a) : CallS mX11_commonMeasure (d + 1) [.int (nI f), .int (nI a)] σ (am_det (some (.int (nI (Nat.gcd f a)))) σ) := by
  refine CallS.of kX11_commonMeasure pX11_commonMeasure [.int (nI f), .int (nI a), .retAddr 0] rfl (Nat.le_of_ble_eq_true rfl) ?_
  refine GS.run [] 2 rfl ?_
  refine GS.cS oJ9_min_7cf53 ((c_min d σ (nI f) (nI a)).eq (congrArg (fun z => some (Value.int z)) (show (if nI a < nI f then nI a else nI f) = nI (min f a) by
        by_cases h : a < f
        · rw [if_pos ((nI_ltI (by omega) (by omega)).mpr h), Nat.min_eq_right (by omega)]
        · rw [if_neg (fun z => h ((nI_ltI (by omega) (by omega)).mp z)), Nat.min_eq_left (by omega)])) rfl) rfl rfl rfl rfl (Nat.le_of_ble_eq_true rfl) (by omega) ?_
  refine GS.run [] 1 rfl ?_
  have loop6 : ∀ (fu : Nat) (j : Nat) (h1 : Nat.gcd f a ≤ j) (h2 : j ≤ 225), j = fu → GS none mX11_commonMeasure (d + 1) (am_det (some (.int (nI (Nat.gcd f a)))) σ) 6 [.int (nI f), .int (nI a), .int (nI j)] [] σ := by
    intro fu
    induction fu using Nat.strongRecOn with
    | ind fu ih6 =>
      intro j h1 h2 hfu
      have h0 : 0 < Nat.gcd f a := Nat.gcd_pos_of_pos_left _ f0
      refine GS.run [] 2 rfl ?_
      refine GS.icmp_le rfl (fun c8 => ?_) (fun c8 => ?_)
      · have hj : j ≤ 1 := (nI_leI (b := 1) (by omega) (by omega)).mp c8
        refine GS.run [] 1 rfl ?_
        refine GS.iret rfl rfl (rfl) ?_
        exact ⟨by rw [show Nat.gcd f a = 1 by omega]; rfl, rfl⟩
      · have hj : 1 < j := (nI_gtI (a := j) (b := 1) (by omega) (by omega)).mp c8
        refine GS.run [] 2 rfl ?_
        refine GS.irem rfl (fun z => absurd ((nI_eq (b := 0) (by omega) (by omega)).mp z) (by omega)) ?_
        rw [pk_rem (by omega) (by omega) (by omega)]
        refine GS.if_ne rfl (fun c14 => ?_) (fun c14 => ?_)
        · have hnd : ¬ (j ∣ f ∧ j ∣ a) := fun z => c14 (by rw [Nat.mod_eq_zero_of_dvd z.1]; rfl)
          refine GS.run [] 2 rfl ?_
          have hlt : Nat.gcd f a ≠ j := fun z => hnd (by rw [← z]; exact ⟨Nat.gcd_dvd_left f a, Nat.gcd_dvd_right f a⟩)
          rw [show nI j + -1 = nI (j - 1) from nI_dn (by omega)]
          exact ih6 _ (by omega) (j - 1) (by omega) (by omega) rfl
        · have hd1 : j ∣ f := Nat.dvd_of_mod_eq_zero ((nI_eq (b := 0) (by have := Nat.mod_le f j; omega) (by omega)).mp c14)
          refine GS.run [] 2 rfl ?_
          refine GS.irem rfl (fun z => absurd ((nI_eq (b := 0) (by omega) (by omega)).mp z) (by omega)) ?_
          rw [pk_rem (by omega) (by omega) (by omega)]
          refine GS.if_ne rfl (fun c20 => ?_) (fun c20 => ?_)
          · have hnd : ¬ (j ∣ f ∧ j ∣ a) := fun z => c20 (by rw [Nat.mod_eq_zero_of_dvd z.2]; rfl)
            refine GS.run [] 2 rfl ?_
            have hlt : Nat.gcd f a ≠ j := fun z => hnd (by rw [← z]; exact ⟨Nat.gcd_dvd_left f a, Nat.gcd_dvd_right f a⟩)
            rw [show nI j + -1 = nI (j - 1) from nI_dn (by omega)]
            exact ih6 _ (by omega) (j - 1) (by omega) (by omega) rfl
          · have hd2 : j ∣ a := Nat.dvd_of_mod_eq_zero ((nI_eq (b := 0) (by have := Nat.mod_le a j; omega) (by omega)).mp c20)
            refine GS.run [] 1 rfl ?_
            refine GS.iret rfl rfl (rfl) ?_
            have := Nat.le_of_dvd h0 (Nat.dvd_gcd hd1 hd2)
            exact ⟨by rw [show Nat.gcd f a = j by omega], rfl⟩
  exact loop6 _ (min f a) (Nat.le_min.mpr ⟨Nat.gcd_le_left _ f0, Nat.gcd_le_right _ a0⟩) (by omega) rfl
theorem p_gloves_c (d : Nat) (σ : am_S) (l r w : Int32) : CallS mX11_gloves (d + 3) [.ref 0, .int l, .int r, .int w] σ (am_det (some (.int (qGloves l r w))) σ) := by
  refine CallS.of kX11_gloves pX11_gloves [.ref 0, .int l, .int r, .int w, .retAddr 0, .retAddr 0, .retAddr 0] rfl (Nat.le_of_ble_eq_true rfl) ?_
  refine GS.run [] 4 rfl ?_
  refine GS.cS oX11_within ((c_withinN (d + 2) σ (l - 1) 8 (by omega)).eq (congrArg (fun z => some (Value.int z)) (am_b_congr (q := okg l) okg_m)) rfl) rfl rfl rfl rfl (Nat.le_of_ble_eq_true rfl) (by omega) ?_
  refine GS.if_eq rfl (fun c8 => ?_) (fun c8 => ?_)
  · have hbad : ¬ (okg l ∧ okg r ∧ okn w 3) := fun h => am_b0.mp c8 h.1
    refine GS.run [] 1 rfl ?_
    refine GS.iret rfl rfl (rfl) ?_
    exact ⟨by unfold qGloves; rw [if_neg hbad], rfl⟩
  · have g1 : okg l := am_bT c8
    refine GS.run [] 4 rfl ?_
    refine GS.cS oX11_within ((c_withinN (d + 2) σ (r - 1) 8 (by omega)).eq (congrArg (fun z => some (Value.int z)) (am_b_congr (q := okg r) okg_m)) rfl) rfl rfl rfl rfl (Nat.le_of_ble_eq_true rfl) (by omega) ?_
    refine GS.if_eq rfl (fun c19 => ?_) (fun c19 => ?_)
    · have hbad : ¬ (okg l ∧ okg r ∧ okn w 3) := fun h => am_b0.mp c19 h.2.1
      refine GS.run [] 1 rfl ?_
      refine GS.iret rfl rfl (rfl) ?_
      exact ⟨by unfold qGloves; rw [if_neg hbad], rfl⟩
    · have g2 : okg r := am_bT c19
      refine GS.run [] 2 rfl ?_
      refine GS.cS oX11_within (c_withinN (d + 2) σ w 3 (by omega)) rfl rfl rfl rfl (Nat.le_of_ble_eq_true rfl) (by omega) ?_
      refine GS.if_ne rfl (fun c27 => ?_) (fun c27 => ?_)
      · have g3 : okn w 3 := am_bT c27
        obtain ⟨x, hx1, hx2, rfl⟩ := okg_nat g1
        obtain ⟨y, hy1, hy2, rfl⟩ := okg_nat g2
        obtain ⟨z, hz, rfl⟩ := okn_nat g3
        have ex : cn (nI x) = x := cn_nI (by omega)
        have ey : cn (nI y) = y := cn_nI (by omega)
        have gb := gl_b hx2 hy2
        have hg0 : 0 < Nat.gcd (glF x y) (glA x y) := Nat.gcd_pos_of_pos_left _ (by omega)
        have hg1 : Nat.gcd (glF x y) (glA x y) ≤ glA x y := Nat.gcd_le_right _ (by omega)
        refine GS.run [] 1 rfl ?_
        refine GS.if_ne rfl (fun c34 => ?_) (fun c34 => ?_)
        · have hz0 : ¬ nI z = 0 := c34
          refine GS.run [] 24 rfl ?_
          rw [gl_A, gl_F]
          refine GS.cS oX11_commonMeasure (c_common (d + 1) σ (glF x y) (glA x y) (by omega) (by omega) (by omega) (by omega)) rfl rfl rfl rfl (Nat.le_of_ble_eq_true rfl) (by omega) ?_
          refine GS.run [] 3 rfl ?_
          refine GS.icmp_ge rfl (fun c82 => ?_) (fun c82 => ?_)
          · refine GS.run [] 2 rfl ?_
            refine GS.icmp_ne rfl (fun c90 => ?_) (fun c90 => ?_)
            · have hz1 : ¬ nI z = 1 := c90
              refine GS.run [] 2 rfl ?_
              refine GS.idiv rfl (fun q => absurd ((nI_eq (b := 0) (by omega) (by omega)).mp q) (by omega)) ?_
              rw [pk_div (by omega) (by omega) (by omega)]
              refine GS.iret rfl rfl (rfl) ?_
              first
                | exact ⟨by unfold qGloves; rw [if_pos ⟨g1, g2, g3⟩, if_neg hz0, if_pos hz1, ex, ey], rfl⟩
                | exact ⟨by unfold qGloves; rw [if_pos ⟨g1, g2, g3⟩, if_neg hz0, if_neg hz1, ex, ey], rfl⟩
            · have hz1 : nI z = 1 := c90
              refine GS.run [] 2 rfl ?_
              refine GS.idiv rfl (fun q => absurd ((nI_eq (b := 0) (by omega) (by omega)).mp q) (by omega)) ?_
              rw [pk_div (by omega) (by omega) (by omega)]
              refine GS.run [] 1 rfl ?_
              refine GS.iret rfl rfl (rfl) ?_
              first
                | exact ⟨by unfold qGloves; rw [if_pos ⟨g1, g2, g3⟩, if_neg hz0, if_pos hz1, ex, ey], rfl⟩
                | exact ⟨by unfold qGloves; rw [if_pos ⟨g1, g2, g3⟩, if_neg hz0, if_neg hz1, ex, ey], rfl⟩
          · exact absurd ((nI_ltI (b := 1) (by omega) (by omega)).mp (Int32.not_le.mp c82)) (by omega) -- end
        · have hz0 : nI z = 0 := c34
          refine GS.run [] 2 rfl ?_
          refine GS.cS oJ9_max_7cf53 (c_max (d + 2) σ (nI x) (nI y)) rfl rfl rfl rfl (Nat.le_of_ble_eq_true rfl) (by omega) ?_
          refine GS.run [] 2 rfl ?_
          refine GS.iret rfl rfl (rfl) ?_
          refine ⟨congrArg (fun q => some (Value.int q)) ?_, rfl⟩
          have hq : qGloves (nI x) (nI y) (nI z) = nI (max x y + 1) := by unfold qGloves; rw [if_pos ⟨g1, g2, g3⟩, if_pos hz0, ex, ey]
          rw [hq]
          by_cases h : x < y
          · rw [if_pos ((nI_ltI (by omega) (by omega)).mpr h), nI_1, Nat.max_eq_right (by omega)]
          · rw [if_neg (fun q => h ((nI_ltI (by omega) (by omega)).mp q)), nI_1, Nat.max_eq_left (by omega)]
      · have hbad : ¬ (okg l ∧ okg r ∧ okn w 3) := fun h => am_b0.mp c27 h.2.2
        refine GS.run [] 1 rfl ?_
        refine GS.iret rfl rfl (rfl) ?_
        exact ⟨by unfold qGloves; rw [if_neg hbad], rfl⟩
def bytI (v : Int64) (k : Nat) : Int32 := (v.toUInt64 >>> ((8 * nI k).toInt64.toUInt64 &&& Int64.toUInt64 63)).toInt64.toInt32 &&& 255
theorem and255 (x : Int32) : 0 ≤ (x &&& 255).toInt ∧ (x &&& 255).toInt < 256 := by
  have e : (x &&& 255).toBitVec.toNat < 256 := by
    rw [Int32.toBitVec_and, BitVec.toNat_and]
    exact Nat.lt_of_le_of_lt Nat.and_le_right (by decide)
  have h : (x &&& 255).toInt = ((x &&& 255).toBitVec.toNat : Int) := BitVec.toInt_eq_toNat_of_lt (by omega)
  rw [h]
  omega
theorem pred_lt {j : Nat} (hj : j < 1000) : nI j - 1 < 0 ↔ j = 0 := by
  constructor
  · intro h
    rcases Nat.eq_zero_or_pos j with e | e
    · exact e
    · rw [show nI j - 1 = nI (j - 1) from pk_sub (a := j) (b := 1) e] at h
      exact absurd ((nI_ltI (b := 0) (by omega) (by omega)).mp h) (by omega)
  · rintro rfl; decide
theorem byt_lt (v : Int64) (k : Nat) : cn (bytI v k) < 256 := by have := and255 ((v.toUInt64 >>> ((8 * nI k).toInt64.toUInt64 &&& Int64.toUInt64 63)).toInt64.toInt32); unfold bytI cn; omega
theorem byt_eq (v : Int64) (k : Nat) : bytI v k = nI (cn (bytI v k)) := by
  have h : 0 ≤ (bytI v k).toInt := (and255 _).1
  unfold cn
  rw [zI_n, show (((bytI v k).toInt.toNat : Nat) : Int) = (bytI v k).toInt by omega, zI_of]
def byt (v : Int64) (k : Nat) : Nat := cn (bytI v k)
def tPut (p : Tp) (v : Int64) (n : Nat) : Tp := (p.1 + n, fun i => if i < p.1 then p.2 i else byt v (n - 1 - (i - p.1)))
abbrev tapeV (a b q : Nat) (σ : am_S) (p : Tp) : Prop := σ a b = nI p.1 ∧ ∀ i, i < p.1 → σ q i = nI (p.2 i)
def qFeed (p : Tp) (v : Int64) (n : Int32) : Int32 × Tp := if okg n then (if p.1 + cn n ≤ 400 then (nI (p.1 + cn n), tPut p v (cn n)) else (-1000003, p)) else (-1000001, p)
theorem c_hasRoom (d : Nat) (σ : am_S) (p : Tp) (n : Nat) (hp : σ 5 1 = nI p.1) (h1 : p.1 ≤ 400) (h2 : n ≤ 8) : CallS mX7_hasRoomFor (d) [.ref 5, .int (nI n)] σ (am_det (some (.int (am_b (p.1 + n ≤ 400)))) σ) := by
  refine CallS.of kX7_hasRoomFor pX7_hasRoomFor [.ref 5, .int (nI n)] rfl (Nat.le_of_ble_eq_true rfl) ?_
  refine GS.run [] 4 rfl ?_
  rw [hp, nI_add]
  refine GS.run [] 1 rfl ?_
  refine GS.icmp_gt rfl (fun c9 => ?_) (fun c9 => ?_)
  · have hc : ¬ p.1 + n ≤ 400 := by have := (nI_ltI (a := 400) (by omega) (by omega)).mp c9; omega
    refine GS.run [] 1 rfl ?_
    refine GS.iret rfl rfl (rfl) ?_
    exact ⟨by unfold am_b; first | rw [if_pos hc] | rw [if_neg hc], rfl⟩
  · have hc : p.1 + n ≤ 400 := (nI_leI (b := 400) (by omega) (by omega)).mp (Int32.not_lt.mp c9)
    refine GS.run [] 2 rfl ?_
    refine GS.iret rfl rfl (rfl) ?_
    exact ⟨by unfold am_b; first | rw [if_pos hc] | rw [if_neg hc], rfl⟩
theorem c_append (d : Nat) (σ : am_S) (p : Tp) (v : Int64) (n : Nat) (hp : tapeV 5 1 6 σ p) (hn : n ≤ 8) (h4 : p.1 + n ≤ 400) : CallS mX7_append (d + 1) [.ref 5, .long v, .int (nI n)] σ (fun x σ' => x = none ∧ tapeV 5 1 6 σ' (tPut p v n) ∧ same [5, 6] σ σ' ∧ ∀ i, i ≠ 1 → σ' 5 i = σ 5 i) := by
  refine CallS.of kX7_append pX7_append [.ref 5, .long v, .retAddr 0, .int (nI n), .retAddr 0] rfl (Nat.le_of_ble_eq_true rfl) ?_
  refine GS.run [] 4 rfl ?_
  have loop5 : ∀ (fu : Nat) (j : Nat) (σ1 : am_S) (hj : j ≤ n) (e1 : σ1 5 1 = nI (p.1 + (n - j))) (e2 : ∀ i, i < p.1 + (n - j) → σ1 6 i = nI ((tPut p v n).2 i)) (e3 : same [5, 6] σ σ1) (e4 : ∀ i, i ≠ 1 → σ1 5 i = σ 5 i), j = fu → GS none mX7_append (d + 1) (fun x σ' => x = none ∧ tapeV 5 1 6 σ' (tPut p v n) ∧ same [5, 6] σ σ' ∧ ∀ i, i ≠ 1 → σ' 5 i = σ 5 i) 5 [.ref 5, .long v, .retAddr 0, .int (nI n), .int (nI j - 1)] [] σ1 := by
    intro fu
    induction fu using Nat.strongRecOn with
    | ind fu ih5 =>
      intro j σ1 hj e1 e2 e3 e4 hfu
      refine GS.run [] 1 rfl ?_
      refine GS.if_lt rfl (fun c7 => ?_) (fun c7 => ?_)
      · have hj0 : j = 0 := (pred_lt (by omega)).mp c7
        refine GS.vret rfl rfl ?_
        exact ⟨rfl, ⟨by rw [e1, hj0]; rfl, fun i hi => e2 i (by rw [hj0]; exact hi)⟩, e3, e4⟩
      · have hj0 : 0 < j := by have := mt (pred_lt (j := j) (by omega)).mpr c7; omega
        refine GS.run [] 12 rfl ?_
        rw [e1, show nI j - 1 = nI (j - 1) from pk_sub (a := j) (b := 1) hj0]
        refine GS.run [] 0 rfl ?_
        refine GS.cS oX11_put (c_put d σ1 6 400 (nI (p.1 + (n - j))) (bytI v (j - 1)) rfl) rfl rfl rfl rfl (Nat.le_of_ble_eq_true rfl) (by omega) ?_
        refine GS.run [] 8 rfl ?_
        rw [show nI (j - 1) + -1 = nI (j - 1) - 1 from (Int32.sub_eq_add_neg _ _).symm]
        refine ih5 _ (by omega) (j - 1) _ (by omega) ?_ ?_ ?_ ?_ rfl
        · show σ1 5 1 + 1 = _
          rw [e1, nI_1]
          congr 1
          omega
        · intro i hi
          show am_put (σ1 6) 400 (nI (p.1 + (n - j))) (bytI v (j - 1)) i = _
          rw [am_put_nI (by omega) (by omega)]
          by_cases h : i = p.1 + (n - j)
          · subst h
            rw [upd_eq]
            show _ = nI (if p.1 + (n - j) < p.1 then p.2 _ else byt v (n - 1 - (p.1 + (n - j) - p.1)))
            rw [if_neg (by omega), show n - 1 - (p.1 + (n - j) - p.1) = j - 1 by omega]
            exact byt_eq v (j - 1)
          · rw [upd_ne _ _ h]
            exact e2 i (by omega)
        · exact (e3.s1 (by decide)).s1 (by decide)
        · intro i hi
          show upd _ 1 _ i = _
          rw [upd_ne _ _ hi]
          exact e4 i hi
  exact loop5 _ n σ (Nat.le_refl _) (by rw [Nat.sub_self]; exact hp.1) (fun i hi => by
    rw [hp.2 i (by omega)]
    show nI (p.2 i) = nI (if i < p.1 then p.2 i else _)
    rw [if_pos (by omega)]) same.rf (fun _ _ => rfl) rfl
theorem p_feed_c (d : Nat) (σ : am_S) (p : Tp) (v : Int64) (n : Int32) (hp : tapeV 5 1 6 σ p) (hpw : wfP p) : CallS mX11_feed (d + 3) [.ref 0, .long v, .int n] σ (fun x σ' => x = some (.int (qFeed p v n).1) ∧ tapeV 5 1 6 σ' (qFeed p v n).2 ∧ same [5, 6] σ σ' ∧ ∀ i, i ≠ 1 → σ' 5 i = σ 5 i) := by
  refine CallS.of kX11_feed pX11_feed [.ref 0, .long v, .retAddr 0, .int n] rfl (Nat.le_of_ble_eq_true rfl) ?_
  refine GS.run [] 2 rfl ?_
  refine GS.icmp_lt rfl (fun c2 => ?_) (fun c2 => ?_)
  · have hbad : ¬ okg n := fun h => by rw [tI_lt, show (1 : Int32).toInt = 1 from rfl] at c2; omega
    refine GS.run [] 1 rfl ?_
    refine GS.iret rfl rfl (rfl) ?_
    have hq : qFeed p v n = (-1000001, p) := by unfold qFeed; rw [if_neg hbad]
    rw [hq]
    exact ⟨rfl, hp, same.rf, fun _ _ => rfl⟩
  · have g1 : 1 ≤ n.toInt := by rw [tI_lt, show (1 : Int32).toInt = 1 from rfl] at c2; omega
    refine GS.run [] 2 rfl ?_
    refine GS.icmp_le rfl (fun c8 => ?_) (fun c8 => ?_)
    · have g2 : okg n := ⟨g1, by rw [tI_le, show (8 : Int32).toInt = 8 from rfl] at c8; omega⟩
      obtain ⟨m, hm1, hm2, rfl⟩ := okg_nat g2
      have em : cn (nI m) = m := cn_nI (by omega)
      have h4 := hpw.1
      refine GS.run [] 3 rfl ?_
      refine GS.cV oX7_hasRoomFor (c_hasRoom (d + 2) σ p m hp.1 h4 hm2) rfl rfl rfl rfl rfl rfl rfl (Nat.le_of_ble_eq_true rfl) (by omega) ?_
      refine GS.if_ne rfl (fun c22 => ?_) (fun c22 => ?_)
      · have g3 : p.1 + m ≤ 400 := am_bT c22
        refine GS.run [] 4 rfl ?_
        refine GS.callV oX7_append (c_append (d + 1) σ p v m hp hm2 g3) rfl rfl rfl rfl rfl rfl rfl (Nat.le_of_ble_eq_true rfl) (by omega) (fun v34 σ34 hq34 => ?_)
        obtain ⟨rfl, p34, s34, f34⟩ := hq34
        refine GS.run [] 2 rfl ?_
        refine GS.cV oX7_length (c_tlength (d + 2) σ34) rfl rfl rfl rfl rfl rfl rfl (Nat.le_of_ble_eq_true rfl) (by omega) ?_
        refine GS.iret rfl rfl (rfl) ?_
        have hq : qFeed p v (nI m) = (nI (p.1 + m), tPut p v m) := by unfold qFeed; rw [if_pos g2, em, if_pos g3]
        rw [hq]
        exact ⟨congrArg (fun z => some (Value.int z)) p34.1, p34, s34, f34⟩
      · have g3 : ¬ p.1 + m ≤ 400 := am_b0.mp c22
        refine GS.run [] 1 rfl ?_
        refine GS.iret rfl rfl (rfl) ?_
        have hq : qFeed p v (nI m) = (-1000003, p) := by unfold qFeed; rw [if_pos g2, em, if_neg g3]
        rw [hq]
        exact ⟨rfl, hp, same.rf, fun _ _ => rfl⟩
    · have hbad : ¬ okg n := fun h => by rw [tI_le, show (8 : Int32).toInt = 8 from rfl] at c8; omega
      refine GS.run [] 1 rfl ?_
      refine GS.iret rfl rfl (rfl) ?_
      have hq : qFeed p v n = (-1000001, p) := by unfold qFeed; rw [if_neg hbad]
      rw [hq]
      exact ⟨rfl, hp, same.rf, fun _ _ => rfl⟩
theorem sub_in {v : Int32} {a n : Nat} (ha : a ≤ 1000) (hn : n ≤ 1000) : 0 ≤ (v - nI a).toInt ∧ (v - nI a).toInt < (n : Int) ↔ (a : Int) ≤ v.toInt ∧ v.toInt < a + n := by
  have h1 := v.le_toInt
  have h2 := v.toInt_lt
  have e : (v - nI a).toInt = (v.toInt - a).bmod 4294967296 := by rw [Int32.toInt_sub, nI_toInt (by omega)]
  rw [e]
  rcases (by omega : v.toInt - a < -2147483648 ∨ -2147483648 ≤ v.toInt - a) with h | h
  · rw [show (v.toInt - a).bmod 4294967296 = v.toInt - a + 4294967296 by rw [← Int.add_bmod_right]; exact Int.bmod_eq_of_le (by omega) (by omega)]
    omega
  · rw [Int.bmod_eq_of_le (by omega) (by omega)]; omega
abbrev isWI (v : Int32) : Prop := (okn v 8 ∧ v ≠ 2) ∨ (20 ≤ v.toInt ∧ v.toInt < 30)
theorem isWI_n {v : Int32} (h : isWI v) : isW (cn v) ∧ v = nI (cn v) := by
  rcases h with ⟨h, h2⟩ | h
  · obtain ⟨a, ha, rfl⟩ := okn_nat h
    rw [cn_nI (by omega)]
    exact ⟨Or.inl ⟨ha, fun e => h2 (by rw [e]; rfl)⟩, rfl⟩
  · obtain ⟨a, ha, rfl⟩ := nat_of (i := v) (m := 29) (by omega) (by omega)
    rw [cn_nI (by omega)]
    rw [nI_toInt (by omega)] at h
    exact ⟨Or.inr ⟨by omega, by omega⟩, rfl⟩
def ySet (r : Rw) (k i n : Nat) : Sy := (n, fun j => cn (r.2.2 (40 * k + (i + j))))
abbrev allW (r : Rw) (k i n : Nat) : Prop := ∀ j, j < n → isWI (r.2.2 (40 * k + (i + j)))
def qWords (r : Rw) (s : Sy) (f k i n : Int32) : Int32 × Sy × Int32 := if okr k ∧ okn n 13 then (if (r.1 (cn k)).toInt < 0 then (-1000011, s, 1) else if beyR (r.2.1 (cn k)) i n then (-1000012, s, 2) else if allW r (cn k) (cn i) (cn n) then (n, ySet r (cn k) (cn i) (cn n), 0) else (-1000001, s, f)) else (-1000001, s, f)
theorem c_add (d : Nat) (σ : am_S) (L : Nat) (v : Int32) (hL : σ 26 0 = nI L) (h12 : L < 12) : CallS mX5_add (d + 1) [.ref 26, .int v] σ (am_det (some (.int (am_b (isWI v)))) (if isWI v then am_s1 (am_s1 σ 27 (upd (σ 27) L v)) 26 (upd (σ 26) 0 (nI (L + 1))) else σ)) := by
  refine CallS.of kX5_add pX5_add [.ref 26, .int v, .retAddr 0] rfl (Nat.le_of_ble_eq_true rfl) ?_
  refine GS.run [] 2 rfl ?_
  refine GS.cS oX11_within (c_withinN d σ v 8 (by omega)) rfl rfl rfl rfl (Nat.le_of_ble_eq_true rfl) (by omega) ?_
  refine GS.if_eq rfl (fun c6 => ?_) (fun c6 => ?_)
  · have k1 : ¬ (okn v 8 ∧ v ≠ 2) := fun h => am_b0.mp c6 h.1
    refine GS.run [] 3 rfl ?_
    refine GS.if_ne rfl (fun q => absurd (rfl) q) (fun c21 => ?_)
    refine GS.run [] 4 rfl ?_
    refine GS.cS oX11_within ((c_withinN d σ (v - 20) 10 (by omega)).eq (congrArg (fun z => some (Value.int z)) (am_b_congr (q := 20 ≤ v.toInt ∧ v.toInt < 30) (sub_in (a := 20) (n := 10) (by omega) (by omega)))) rfl) rfl rfl rfl rfl (Nat.le_of_ble_eq_true rfl) (by omega) ?_
    refine GS.if_eq rfl (fun c33 => ?_) (fun c33 => ?_)
    · have k3 : ¬ (20 ≤ v.toInt ∧ v.toInt < 30) := am_b0.mp c33
      refine GS.run [] 1 rfl ?_
      refine GS.iret rfl rfl (rfl) ?_
      have hn : ¬ isWI v := by
        rintro (h | h)
        · exact k1 h
        · exact k3 h
      exact ⟨by rw [show am_b (isWI v) = 0 from am_b0.mpr hn], by rw [if_neg hn]⟩
    · have k3 := am_bT c33
      refine GS.run [] 3 rfl ?_
      refine GS.icmp_lt rfl (fun c42 => ?_) (fun c42 => ?_)
      · refine GS.run [] 5 rfl ?_
        rw [hL]
        refine GS.run [] 0 rfl ?_
        refine GS.cS oX11_put (c_put d σ 27 12 (nI L) v rfl) rfl rfl rfl rfl (Nat.le_of_ble_eq_true rfl) (by omega) ?_
        rw [am_put_nI h12 (by omega)]
        refine GS.run [] 7 rfl ?_
        refine GS.iret rfl rfl (rfl) ?_
        have hn : isWI v := by
          first | exact Or.inr k3 | exact Or.inl k1
        refine ⟨by unfold am_b; rw [if_pos hn], ?_⟩
        rw [if_pos hn]
        exact congrArg (fun z => am_s1 (am_s1 σ 27 (upd (σ 27) L v)) 26 (upd (σ 26) 0 z)) (by rw [show (am_s1 σ 27 (upd (σ 27) L v)) 26 0 = nI L from hL, nI_1])
      · rw [hL] at c42
        exact absurd ((nI_leI (a := 12) (b := L) (by omega) (by omega)).mp (Int32.not_lt.mp c42)) (by omega) -- end
  · have k0 : okn v 8 := am_bT c6
    refine GS.run [] 2 rfl ?_
    refine GS.icmp_eq rfl (fun c11 => ?_) (fun c11 => ?_)
    · have k1 : ¬ (okn v 8 ∧ v ≠ 2) := fun h => h.2 c11
      refine GS.run [] 3 rfl ?_
      refine GS.if_ne rfl (fun q => absurd (rfl) q) (fun c21 => ?_)
      refine GS.run [] 4 rfl ?_
      refine GS.cS oX11_within ((c_withinN d σ (v - 20) 10 (by omega)).eq (congrArg (fun z => some (Value.int z)) (am_b_congr (q := 20 ≤ v.toInt ∧ v.toInt < 30) (sub_in (a := 20) (n := 10) (by omega) (by omega)))) rfl) rfl rfl rfl rfl (Nat.le_of_ble_eq_true rfl) (by omega) ?_
      refine GS.if_eq rfl (fun c33 => ?_) (fun c33 => ?_)
      · have k3 : ¬ (20 ≤ v.toInt ∧ v.toInt < 30) := am_b0.mp c33
        refine GS.run [] 1 rfl ?_
        refine GS.iret rfl rfl (rfl) ?_
        have hn : ¬ isWI v := by
          rintro (h | h)
          · exact k1 h
          · exact k3 h
        exact ⟨by rw [show am_b (isWI v) = 0 from am_b0.mpr hn], by rw [if_neg hn]⟩
      · have k3 := am_bT c33
        refine GS.run [] 3 rfl ?_
        refine GS.icmp_lt rfl (fun c42 => ?_) (fun c42 => ?_)
        · refine GS.run [] 5 rfl ?_
          rw [hL]
          refine GS.run [] 0 rfl ?_
          refine GS.cS oX11_put (c_put d σ 27 12 (nI L) v rfl) rfl rfl rfl rfl (Nat.le_of_ble_eq_true rfl) (by omega) ?_
          rw [am_put_nI h12 (by omega)]
          refine GS.run [] 7 rfl ?_
          refine GS.iret rfl rfl (rfl) ?_
          have hn : isWI v := by
            first | exact Or.inr k3 | exact Or.inl k1
          refine ⟨by unfold am_b; rw [if_pos hn], ?_⟩
          rw [if_pos hn]
          exact congrArg (fun z => am_s1 (am_s1 σ 27 (upd (σ 27) L v)) 26 (upd (σ 26) 0 z)) (by rw [show (am_s1 σ 27 (upd (σ 27) L v)) 26 0 = nI L from hL, nI_1])
        · rw [hL] at c42
          exact absurd ((nI_leI (a := 12) (b := L) (by omega) (by omega)).mp (Int32.not_lt.mp c42)) (by omega) -- end
    · have k1 : (okn v 8 ∧ v ≠ 2) := ⟨k0, c11⟩
      refine GS.run [] 4 rfl ?_
      refine GS.if_ne rfl (fun c21 => ?_) (fun q => absurd q (by decide))
      refine GS.run [] 3 rfl ?_
      refine GS.icmp_lt rfl (fun c42 => ?_) (fun c42 => ?_)
      · refine GS.run [] 5 rfl ?_
        rw [hL]
        refine GS.run [] 0 rfl ?_
        refine GS.cS oX11_put (c_put d σ 27 12 (nI L) v rfl) rfl rfl rfl rfl (Nat.le_of_ble_eq_true rfl) (by omega) ?_
        rw [am_put_nI h12 (by omega)]
        refine GS.run [] 7 rfl ?_
        refine GS.iret rfl rfl (rfl) ?_
        have hn : isWI v := by
          first | exact Or.inr k3 | exact Or.inl k1
        refine ⟨by unfold am_b; rw [if_pos hn], ?_⟩
        rw [if_pos hn]
        exact congrArg (fun z => am_s1 (am_s1 σ 27 (upd (σ 27) L v)) 26 (upd (σ 26) 0 z)) (by rw [show (am_s1 σ 27 (upd (σ 27) L v)) 26 0 = nI L from hL, nI_1])
      · rw [hL] at c42
        exact absurd ((nI_leI (a := 12) (b := L) (by omega) (by omega)).mp (Int32.not_lt.mp c42)) (by omega) -- end
