theorem townC.moved {k k' : Nat} {σ σ' : am_S} {t : Tn} (h : townC k σ t) (hw : wfT t) (e0 : σ' k' 0 = σ k 0) (e1 : σ' k' 1 = σ k 1) (a1 : ∀ i, i < 8 → σ' (k' + 1) i = σ (k + 1) i) (a2 : ∀ i, i < 8 → σ' (k' + 2) i = σ (k + 2) i) (a3 : ∀ i, i < 8 → σ' (k' + 3) i = σ (k + 3) i) (a4 : ∀ i, i < 8 → σ' (k' + 4) i = σ (k + 4) i) (a5 : ∀ i, i < 48 → σ' (k' + 5) i = σ (k + 5) i) (a6 : ∀ i, i < 64 → σ' (k' + 6) i = σ (k + 6) i) : townC k' σ' t := by
  refine ⟨e0.trans h.1, e1.trans h.2.1, fun c hc => ?_⟩
  have h8 := hw.1
  obtain ⟨b1, b2, b3, b4, b5, b6, b7⟩ := h.2.2 c hc
  have hC := (hw.2.2 c hc).2.2.2.2.1
  refine ⟨(a1 c (by omega)).trans b1, (a2 c (by omega)).trans b2, (a3 c (by omega)).trans b3, (a4 c (by omega)).trans b4, fun i hi => (a5 _ (by omega)).trans (b5 i hi), fun i hi => (a6 _ ?_).trans (b6 i hi), fun b hb hn => (a6 _ (by omega)).trans (b7 b hb hn)⟩
  have := (hC i hi).1
  omega
theorem sayC.moved {k k' : Nat} {σ σ' : am_S} {s : Sy} (h : sayC k σ s) (hs : wfS s) (e0 : σ' k' 0 = σ k 0) (a : ∀ i, i < 12 → σ' (k' + 1) i = σ (k + 1) i) : sayC k' σ' s := by
  refine ⟨e0.trans h.1, fun j hj => (a j ?_).trans (h.2 j hj)⟩
  have := hs.1
  omega
theorem townC.mk {k : Nat} {σ σ' : am_S} {t : Tn} {c m : Nat} (h : townC k σ t) (h2 : σ' (k + 2) = upd (σ (k + 2)) c (nI m)) (e0 : σ' k = σ k) (e1 : σ' (k + 1) = σ (k + 1)) (e3 : σ' (k + 3) = σ (k + 3)) (e4 : σ' (k + 4) = σ (k + 4)) (e5 : σ' (k + 5) = σ (k + 5)) (e6 : σ' (k + 6) = σ (k + 6)) : townC k σ' (tMk t c m) := by
  unfold townC
  rw [e0, e1, e3, e4, e5, e6, h2]
  refine ⟨h.1, h.2.1, fun x hx => ?_⟩
  obtain ⟨b1, b2, b3, b4, b5, b6, b7⟩ := h.2.2 x hx
  refine ⟨b1, ?_, b3, b4, b5, b6, b7⟩
  show upd (σ (k + 2)) c (nI m) x = nI (va_up t.2.2.2.1 c m x)
  unfold upd va_up
  by_cases e : x = c
  · rw [if_pos e, if_pos e]
  · rw [if_neg e, if_neg e]; exact b2
theorem wf_mk {t : Tn} {c m : Nat} (h : wfT t) (hm : m ≤ 9) : wfT (tMk t c m) := by
  refine ⟨h.1, h.2.1, fun x hx => ?_⟩
  obtain ⟨b1, b2, b3⟩ := h.2.2 x hx
  refine ⟨b1, ?_, b3⟩
  show va_up t.2.2.2.1 c m x ≤ 9
  unfold va_up
  by_cases e : x = c
  · rw [if_pos e]; exact hm
  · rw [if_neg e]; exact b2
theorem c_forget (d : Nat) (σ : am_S)  : CallS mX3_forget (d) [.ref 64] σ (am_det none (am_s1 σ 64 (upd (σ 64) 4 0))) := by
  refine CallS.of kX3_forget pX3_forget [.ref 64] rfl (Nat.le_of_ble_eq_true rfl) ?_
  refine GS.run [] 2 rfl ?_
  refine GS.putZ rfl rfl rfl (rfl) (rfl) rfl ?_
  refine GS.vret rfl rfl ?_
  exact ⟨rfl, rfl⟩
theorem four (c : Int32) : c = 0 ∨ c = 1 ∨ c = 2 ∨ c = 3 ∨ (c.toInt < 0 ∨ 3 < c.toInt) := by
  rcases (by omega : c.toInt = 0 ∨ c.toInt = 1 ∨ c.toInt = 2 ∨ c.toInt = 3 ∨ (c.toInt < 0 ∨ 3 < c.toInt)) with h | h | h | h | h
  · exact Or.inl (Int32.toInt_inj.mp h)
  · exact Or.inr (Or.inl (Int32.toInt_inj.mp h))
  · exact Or.inr (Or.inr (Or.inl (Int32.toInt_inj.mp h)))
  · exact Or.inr (Or.inr (Or.inr (Or.inl (Int32.toInt_inj.mp h))))
  · exact Or.inr (Or.inr (Or.inr (Or.inr h)))
theorem b_well {w : Nat} (h : w ≤ 1) : (if am_b (w = 1) = 0 then (0 : Int32) else 1) = nI w := by
  rcases (by omega : w = 0 ∨ w = 1) with rfl | rfl <;> rfl
theorem i_m10' {i : Int32} : 0 ≤ (i - 10).toInt ∧ (i - 10).toInt < 6 ↔ 10 ≤ i.toInt ∧ i.toInt < 16 := by
  have h1 := i.le_toInt
  have h2 := i.toInt_lt
  have e : (i - 10).toInt = (i.toInt - 10).bmod 4294967296 := Int32.toInt_sub i 10
  rw [e]
  rcases (by omega : i.toInt - 10 < -2147483648 ∨ -2147483648 ≤ i.toInt - 10) with h | h
  · rw [show (i.toInt - 10).bmod 4294967296 = i.toInt - 10 + 4294967296 by rw [← Int.add_bmod_right]; exact Int.bmod_eq_of_le (by omega) (by omega)]
    omega
  · rw [Int.bmod_eq_of_le (by omega) (by omega)]; omega
theorem p_corner_c (d : Nat) (σ : am_S) (t : Tn) (c i : Int32) (ht : townC 10 σ t) (hw : wfT t) : CallS mX11_corner (d + 3) [.ref 0, .int c, .int i] σ (am_det (some (.int (qCorner t c i))) σ) := by
  refine CallS.of kX11_corner pX11_corner [.ref 0, .int c, .int i] rfl (Nat.le_of_ble_eq_true rfl) ?_
  refine GS.run [] 3 rfl ?_
  refine GS.cV oX8_has (v_has (d + 1) σ t c ht hw) rfl rfl rfl rfl rfl rfl rfl (Nat.le_of_ble_eq_true rfl) (by omega) ?_
  refine GS.if_ne rfl (fun c8 => ?_) (fun c8 => ?_)
  · have g1 : okc t c := am_bT c8
    have h8 := hw.1
    obtain ⟨a, ha, rfl⟩ := okc_nat g1
    have ec : cn (nI a) = a := cn_nI (by omega)
    refine GS.run [] 1 rfl ?_
    rcases four i with rfl | rfl | rfl | rfl | hi
    · refine GS.tabIn (t := 44) rfl (by decide) (by decide) (rfl) ?_
      refine GS.run [] 3 rfl ?_
      refine GS.cV oX8_heightOf ((c_heightOf_10 (d + 1) σ (nI a)).eq (congrArg (fun z => some (Value.int z)) (v_ht ht hw ha)) rfl) rfl rfl rfl rfl rfl rfl rfl (Nat.le_of_ble_eq_true rfl) (by omega) ?_
      refine GS.iret rfl rfl (rfl) ?_
      exact ⟨by unfold qCorner; rw [if_pos g1, if_pos rfl, ec], rfl⟩
    · refine GS.tabIn (t := 53) rfl (by decide) (by decide) (rfl) ?_
      refine GS.run [] 3 rfl ?_
      refine GS.cV oX8_markOf ((c_markOf_10 (d + 1) σ (nI a)).eq (congrArg (fun z => some (Value.int z)) (v_mk ht hw ha)) rfl) rfl rfl rfl rfl rfl rfl rfl (Nat.le_of_ble_eq_true rfl) (by omega) ?_
      refine GS.iret rfl rfl (rfl) ?_
      exact ⟨by unfold qCorner; rw [if_pos g1, if_neg (by decide), if_pos rfl, ec], rfl⟩
    · refine GS.tabIn (t := 62) rfl (by decide) (by decide) (rfl) ?_
      refine GS.run [] 3 rfl ?_
      refine GS.cV oX8_hasWell (c_well (d + 1) σ t a ht hw ha) rfl rfl rfl rfl rfl rfl rfl (Nat.le_of_ble_eq_true rfl) (by omega) ?_
      refine GS.if_eq rfl (fun c70 => ?_) (fun c70 => ?_)
      · have hz : tW t a = 0 := by have h1 : ¬ tW t a = 1 := am_b0.mp c70; have := (hw.2.2 a ha).2.2.1; omega
        refine GS.run [] 1 rfl ?_
        refine GS.iret rfl rfl (rfl) ?_
        exact ⟨by unfold qCorner; rw [if_pos g1, if_neg (by decide), if_neg (by decide), if_pos rfl, ec, hz]; rfl, rfl⟩
      · have hz : tW t a = 1 := am_bT c70
        refine GS.run [] 2 rfl ?_
        refine GS.iret rfl rfl (rfl) ?_
        exact ⟨by unfold qCorner; rw [if_pos g1, if_neg (by decide), if_neg (by decide), if_pos rfl, ec, hz]; rfl, rfl⟩
    · refine GS.tabIn (t := 79) rfl (by decide) (by decide) (rfl) ?_
      refine GS.run [] 3 rfl ?_
      refine GS.cV oX8_streetsAt ((c_streetsAt_10 (d + 1) σ (nI a)).eq (congrArg (fun z => some (Value.int z)) (v_dg ht hw ha)) rfl) rfl rfl rfl rfl rfl rfl rfl (Nat.le_of_ble_eq_true rfl) (by omega) ?_
      refine GS.iret rfl rfl (rfl) ?_
      exact ⟨by unfold qCorner; rw [if_pos g1, if_neg (by decide), if_neg (by decide), if_neg (by decide), if_pos rfl, ec], rfl⟩
    · have h : ∀ m : Int32, 0 ≤ m.toInt → m.toInt ≤ 3 → ¬ i = m := fun m h1 h2 e => by rw [e] at hi; omega
      have hq : qCorner t (nI a) i = if 10 ≤ i.toInt ∧ i.toInt < 16 then (if cn i - 10 < tD t a then nI (tB t a (cn i - 10)) else -1000000) else -1000001 := by
        unfold qCorner
        rw [if_pos g1, if_neg (h 0 (by decide) (by decide)), if_neg (h 1 (by decide) (by decide)), if_neg (h 2 (by decide) (by decide)), if_neg (h 3 (by decide) (by decide)), ec]
      refine GS.tabOut rfl (hi) ?_
      refine GS.run [] 4 rfl ?_
      refine GS.cS oX11_within ((c_withinN (d + 1) σ (i - 10) 6 (by omega)).eq (congrArg (fun z => some (Value.int z)) (am_b_congr (q := 10 ≤ i.toInt ∧ i.toInt < 16) i_m10')) rfl) rfl rfl rfl rfl (Nat.le_of_ble_eq_true rfl) (by omega) ?_
      refine GS.if_eq rfl (fun c97 => ?_) (fun c97 => ?_)
      · have g2 : ¬ (10 ≤ i.toInt ∧ i.toInt < 16) := am_b0.mp c97
        refine GS.run [] 1 rfl ?_
        refine GS.iret rfl rfl (rfl) ?_
        first
          | exact ⟨by rw [hq, if_neg g2], rfl⟩
          | exact ⟨by rw [hq, if_pos g2], rfl⟩
      · have g2 := am_bT c97
        obtain ⟨b, hb, rfl⟩ := nat_of (i := i) (m := 15) (by omega) (by omega)
        have hb2 : 10 ≤ b := by have := g2.1; rw [nI_toInt (by omega)] at this; omega
        rw [cn_nI (by omega)] at hq
        refine GS.run [] 6 rfl ?_
        rw [show nI b - 10 = nI (b - 10) from pk_sub (a := b) (b := 10) hb2]
        refine GS.cV oX8_neighbour ((c_neighbour_10 (d + 1) σ (nI a) (nI (b - 10))).eq (congrArg (fun z => some (Value.int z)) (v_nbr ht hw ha (by omega))) rfl) rfl rfl rfl rfl rfl rfl rfl (Nat.le_of_ble_eq_true rfl) (by omega) ?_
        refine GS.run [] 1 rfl ?_
        refine GS.iret rfl rfl (rfl) ?_
        first
          | exact ⟨by rw [hq, if_neg g2], rfl⟩
          | exact ⟨by rw [hq, if_pos g2], rfl⟩
  · have g1 : ¬ okc t c := am_b0.mp c8
    refine GS.run [] 1 rfl ?_
    refine GS.iret rfl rfl (rfl) ?_
    exact ⟨by unfold qCorner; rw [if_neg g1], rfl⟩
theorem p_mark_c (d : Nat) (σ : am_S) (t : Tn) (c m : Int32) (ht : townC 10 σ t) (hw : wfT t) : CallS mX11_mark (d + 3) [.ref 0, .int c, .int m] σ (fun x σ' => x = some (.int (qMark t c m).1) ∧ townC 10 σ' (qMark t c m).2 ∧ same [12, 64] σ σ' ∧ ((σ' 64 = σ 64 ∧ (qMark t c m).2 = t) ∨ σ' 64 4 = 0)) := by
  refine CallS.of kX11_mark pX11_mark [.ref 0, .int c, .int m, .retAddr 0] rfl (Nat.le_of_ble_eq_true rfl) ?_
  refine GS.run [] 3 rfl ?_
  refine GS.cV oX8_has (v_has (d + 1) σ t c ht hw) rfl rfl rfl rfl rfl rfl rfl (Nat.le_of_ble_eq_true rfl) (by omega) ?_
  refine GS.if_eq rfl (fun c8 => ?_) (fun c8 => ?_)
  · have hbad : ¬ (okc t c ∧ okn m 10) := fun h => am_b0.mp c8 h.1
    refine GS.run [] 1 rfl ?_
    refine GS.iret rfl rfl (rfl) ?_
    have hq : qMark t c m = (-1000001, t) := by unfold qMark; rw [if_neg hbad]
    rw [hq]
    exact ⟨rfl, ht, same.rf, Or.inl ⟨rfl, rfl⟩⟩
  · have g1 : okc t c := am_bT c8
    refine GS.run [] 2 rfl ?_
    refine GS.cS oX11_within (c_withinN (d + 2) σ m 10 (by omega)) rfl rfl rfl rfl (Nat.le_of_ble_eq_true rfl) (by omega) ?_
    refine GS.if_ne rfl (fun c17 => ?_) (fun c17 => ?_)
    · have g2 : okn m 10 := am_bT c17
      have h8 := hw.1
      obtain ⟨a, ha, rfl⟩ := okc_nat g1
      have ec : cn (nI a) = a := cn_nI (by omega)
      obtain ⟨b, hb, rfl⟩ := okn_nat g2
      have eb : cn (nI b) = b := cn_nI (by omega)
      have hq : qMark t (nI a) (nI b) = (nI (tM t a), tMk t a b) := by unfold qMark; rw [if_pos ⟨g1, g2⟩, ec, eb]
      refine GS.run [] 3 rfl ?_
      refine GS.cV oX8_markOf ((c_markOf_10 (d + 1) σ (nI a)).eq (congrArg (fun z => some (Value.int z)) (v_mk ht hw ha)) rfl) rfl rfl rfl rfl rfl rfl rfl (Nat.le_of_ble_eq_true rfl) (by omega) ?_
      refine GS.run [] 5 rfl ?_
      refine GS.cV oX8_setMark (c_setMark_10 (d + 1) σ (nI a) (nI b)) rfl rfl rfl rfl rfl rfl rfl (Nat.le_of_ble_eq_true rfl) (by omega) ?_
      refine GS.run [] 2 rfl ?_
      refine GS.cV oX3_forget (c_forget (d + 2) (am_s1 σ 12 (am_put (σ 12) 8 (nI a) (nI b)))) rfl rfl rfl rfl rfl rfl rfl (Nat.le_of_ble_eq_true rfl) (by omega) ?_
      refine GS.run [] 1 rfl ?_
      refine GS.iret rfl rfl (rfl) ?_
      rw [hq]
      exact ⟨rfl, ht.mk (am_put_nI (by omega) (by omega)) rfl rfl rfl rfl rfl rfl, (same.rf.s1 (by decide)).s1 (by decide), Or.inr rfl⟩
    · have hbad : ¬ (okc t c ∧ okn m 10) := fun h => am_b0.mp c17 h.2
      refine GS.run [] 1 rfl ?_
      refine GS.iret rfl rfl (rfl) ?_
      have hq : qMark t c m = (-1000001, t) := by unfold qMark; rw [if_neg hbad]
      rw [hq]
      exact ⟨rfl, ht, same.rf, Or.inl ⟨rfl, rfl⟩⟩
theorem c_keep_28 (d : Nat) (σ : am_S) (t : Tn) (s : Sy) (ht : townC 10 σ t) (hw : wfT t) (hy : sayC 24 σ s) (hys : wfS s) : CallS mX2_keep (d + 2) [.ref 28, .ref 10, .ref 24] σ (fun x σ' => x = none ∧ keptC 28 σ' (some (t, s)) ∧ same [28, 29, 30, 31, 32, 33, 34, 35, 36, 37] σ σ') := by
  refine CallS.of kX2_keep pX2_keep [.ref 28, .ref 10, .ref 24] rfl (Nat.le_of_ble_eq_true rfl) ?_
  refine GS.run [] 3 rfl ?_
  refine GS.callV oX8_become (c_become_29_10 d σ) rfl rfl rfl rfl rfl rfl rfl (Nat.le_of_ble_eq_true rfl) (by omega) (fun v5 σ5 hq5 => ?_)
  obtain ⟨rfl, s5, e50, e51, a1, a2, a3, a4, a5, a6⟩ := hq5
  have t5 : townC 29 σ5 t := ht.moved hw e50 e51 a1 a2 a3 a4 a5 a6
  have y5 : sayC 24 σ5 s := hy.kept (s5 24 (by decide)) (s5 25 (by decide))
  refine GS.run [] 3 rfl ?_
  refine GS.callV oX5_become (c_sbecome_36_24 d σ5) rfl rfl rfl rfl rfl rfl rfl (Nat.le_of_ble_eq_true rfl) (by omega) (fun v13 σ13 hq13 => ?_)
  obtain ⟨rfl, s13, f0, f1⟩ := hq13
  have t13 : townC 29 σ13 t := t5.kept (fun j hj => s13 _ (by simp; omega))
  have y13 : sayC 36 σ13 s := y5.moved hys f0 f1
  refine GS.run [] 2 rfl ?_
  refine GS.putZ rfl rfl rfl (rfl) (rfl) rfl ?_
  refine GS.vret rfl rfl ?_
  refine ⟨rfl, ⟨rfl, t13.kept (fun j hj => ?_), y13.kept rfl rfl⟩, ?_⟩
  · exact am_s1_ne _ _ (by omega)
  · exact ((s5.sub (by decide)).trans (s13.sub (by decide))).s1 (by decide)
theorem c_give_28 (d : Nat) (σ : am_S) (t : Tn) (s : Sy) (h : keptC 28 σ (some (t, s))) (hw : wfT t) (hys : wfS s) : CallS mX2_giveBack (d + 2) [.ref 28, .ref 10, .ref 24] σ (fun x σ' => x = none ∧ townC 10 σ' t ∧ sayC 24 σ' s ∧ same [10, 11, 12, 13, 14, 15, 16, 24, 25] σ σ') := by
  refine CallS.of kX2_giveBack pX2_giveBack [.ref 28, .ref 10, .ref 24] rfl (Nat.le_of_ble_eq_true rfl) ?_
  obtain ⟨hk, ht, hy⟩ := h
  refine GS.run [] 3 rfl ?_
  refine GS.callV oX8_become (c_become_10_29 d σ) rfl rfl rfl rfl rfl rfl rfl (Nat.le_of_ble_eq_true rfl) (by omega) (fun v5 σ5 hq5 => ?_)
  obtain ⟨rfl, s5, e50, e51, a1, a2, a3, a4, a5, a6⟩ := hq5
  have t5 : townC 10 σ5 t := ht.moved hw e50 e51 a1 a2 a3 a4 a5 a6
  have y5 : sayC 36 σ5 s := hy.kept (s5 36 (by decide)) (s5 37 (by decide))
  refine GS.run [] 3 rfl ?_
  refine GS.callV oX5_become (c_sbecome_24_36 d σ5) rfl rfl rfl rfl rfl rfl rfl (Nat.le_of_ble_eq_true rfl) (by omega) (fun v13 σ13 hq13 => ?_)
  obtain ⟨rfl, s13, f0, f1⟩ := hq13
  have t13 : townC 10 σ13 t := t5.kept (fun j hj => s13 _ (by simp; omega))
  have y13 : sayC 24 σ13 s := y5.moved hys f0 f1
  refine GS.vret rfl rfl ?_
  exact ⟨rfl, t13, y13, (s5.sub (by decide)).trans (s13.sub (by decide))⟩
theorem c_keep_38 (d : Nat) (σ : am_S) (t : Tn) (s : Sy) (ht : townC 10 σ t) (hw : wfT t) (hy : sayC 24 σ s) (hys : wfS s) : CallS mX2_keep (d + 2) [.ref 38, .ref 10, .ref 24] σ (fun x σ' => x = none ∧ keptC 38 σ' (some (t, s)) ∧ same [38, 39, 40, 41, 42, 43, 44, 45, 46, 47] σ σ') := by
  refine CallS.of kX2_keep pX2_keep [.ref 38, .ref 10, .ref 24] rfl (Nat.le_of_ble_eq_true rfl) ?_
  refine GS.run [] 3 rfl ?_
  refine GS.callV oX8_become (c_become_39_10 d σ) rfl rfl rfl rfl rfl rfl rfl (Nat.le_of_ble_eq_true rfl) (by omega) (fun v5 σ5 hq5 => ?_)
  obtain ⟨rfl, s5, e50, e51, a1, a2, a3, a4, a5, a6⟩ := hq5
  have t5 : townC 39 σ5 t := ht.moved hw e50 e51 a1 a2 a3 a4 a5 a6
  have y5 : sayC 24 σ5 s := hy.kept (s5 24 (by decide)) (s5 25 (by decide))
  refine GS.run [] 3 rfl ?_
  refine GS.callV oX5_become (c_sbecome_46_24 d σ5) rfl rfl rfl rfl rfl rfl rfl (Nat.le_of_ble_eq_true rfl) (by omega) (fun v13 σ13 hq13 => ?_)
  obtain ⟨rfl, s13, f0, f1⟩ := hq13
  have t13 : townC 39 σ13 t := t5.kept (fun j hj => s13 _ (by simp; omega))
  have y13 : sayC 46 σ13 s := y5.moved hys f0 f1
  refine GS.run [] 2 rfl ?_
  refine GS.putZ rfl rfl rfl (rfl) (rfl) rfl ?_
  refine GS.vret rfl rfl ?_
  refine ⟨rfl, ⟨rfl, t13.kept (fun j hj => ?_), y13.kept rfl rfl⟩, ?_⟩
  · exact am_s1_ne _ _ (by omega)
  · exact ((s5.sub (by decide)).trans (s13.sub (by decide))).s1 (by decide)
theorem c_give_38 (d : Nat) (σ : am_S) (t : Tn) (s : Sy) (h : keptC 38 σ (some (t, s))) (hw : wfT t) (hys : wfS s) : CallS mX2_giveBack (d + 2) [.ref 38, .ref 10, .ref 24] σ (fun x σ' => x = none ∧ townC 10 σ' t ∧ sayC 24 σ' s ∧ same [10, 11, 12, 13, 14, 15, 16, 24, 25] σ σ') := by
  refine CallS.of kX2_giveBack pX2_giveBack [.ref 38, .ref 10, .ref 24] rfl (Nat.le_of_ble_eq_true rfl) ?_
  obtain ⟨hk, ht, hy⟩ := h
  refine GS.run [] 3 rfl ?_
  refine GS.callV oX8_become (c_become_10_39 d σ) rfl rfl rfl rfl rfl rfl rfl (Nat.le_of_ble_eq_true rfl) (by omega) (fun v5 σ5 hq5 => ?_)
  obtain ⟨rfl, s5, e50, e51, a1, a2, a3, a4, a5, a6⟩ := hq5
  have t5 : townC 10 σ5 t := ht.moved hw e50 e51 a1 a2 a3 a4 a5 a6
  have y5 : sayC 46 σ5 s := hy.kept (s5 46 (by decide)) (s5 47 (by decide))
  refine GS.run [] 3 rfl ?_
  refine GS.callV oX5_become (c_sbecome_24_46 d σ5) rfl rfl rfl rfl rfl rfl rfl (Nat.le_of_ble_eq_true rfl) (by omega) (fun v13 σ13 hq13 => ?_)
  obtain ⟨rfl, s13, f0, f1⟩ := hq13
  have t13 : townC 10 σ13 t := t5.kept (fun j hj => s13 _ (by simp; omega))
  have y13 : sayC 24 σ13 s := y5.moved hys f0 f1
  refine GS.vret rfl rfl ?_
  exact ⟨rfl, t13, y13, (s5.sub (by decide)).trans (s13.sub (by decide))⟩
theorem c_keptBy (d : Nat) (σ : am_S) (k : Int32) : CallS mX11_keptBy (d) [.ref 0, .int k] σ (am_det (some (.ref (if k = 0 then 28 else 38))) σ) := by
  refine CallS.of kX11_keptBy pX11_keptBy [.ref 0, .int k] rfl (Nat.le_of_ble_eq_true rfl) ?_
  refine GS.run [] 1 rfl ?_
  refine GS.if_ne rfl (fun c1 => ?_) (fun c1 => ?_)
  · refine GS.run [] 2 rfl ?_
    refine GS.aret rfl rfl (Or.inl ⟨_, rfl⟩) ?_
    exact ⟨by first | rw [if_pos c1] | rw [if_neg c1], rfl⟩
  · refine GS.run [] 3 rfl ?_
    refine GS.aret rfl rfl (Or.inl ⟨_, rfl⟩) ?_
    exact ⟨by first | rw [if_pos c1] | rw [if_neg c1], rfl⟩
theorem p_image_c (d : Nat) (σ : am_S) (t : Tn) (s : Sy) (a b : Kp) (k : Int32) (ht : townC 10 σ t) (hw : wfT t) (hy : sayC 24 σ s) (hys : wfS s) (ha : keptC 28 σ a) (hb : keptC 38 σ b)  : CallS mX11_image (d + 4) [.ref 0, .int k] σ (fun x σ' => x = some (.int (qImage t s a b k).1) ∧ keptC 28 σ' (qImage t s a b k).2.1 ∧ keptC 38 σ' (qImage t s a b k).2.2 ∧ same [28, 29, 30, 31, 32, 33, 34, 35, 36, 37, 38, 39, 40, 41, 42, 43, 44, 45, 46, 47] σ σ') := by
  refine CallS.of kX11_image pX11_image [.ref 0, .int k] rfl (Nat.le_of_ble_eq_true rfl) ?_
  refine GS.run [] 1 rfl ?_
  refine GS.cS oX11_bit (c_bit (d + 3) σ k) rfl rfl rfl rfl (Nat.le_of_ble_eq_true rfl) (by omega) ?_
  refine GS.if_ne rfl (fun c4 => ?_) (fun c4 => ?_)
  · have g1 : okb k := am_bT c4
    refine GS.run [] 2 rfl ?_
    refine GS.cV oX8_corners ((c_corners_10 (d + 3) σ).eq (congrArg (fun z => some (Value.int z)) (ht.1)) rfl) rfl rfl rfl rfl rfl rfl rfl (Nat.le_of_ble_eq_true rfl) (by omega) ?_
    refine GS.if_ne rfl (fun c17 => ?_) (fun c17 => ?_)
    · have g2 : ¬ tN t = 0 := fun z => c17 (by rw [z]; rfl)
      rcases g1 with rfl | rfl
      · refine GS.run [] 2 rfl ?_
        refine GS.cV oX11_keptBy (c_keptBy (d + 3) σ 0) rfl rfl rfl rfl rfl rfl rfl (Nat.le_of_ble_eq_true rfl) (by omega) ?_
        refine GS.run [] 4 rfl ?_
        refine GS.callV oX2_keep (c_keep_28 (d + 1) σ t s ht hw hy hys) rfl rfl rfl rfl rfl rfl rfl (Nat.le_of_ble_eq_true rfl) (by omega) (fun v37 σ37 hq37 => ?_)
        obtain ⟨rfl, k37, s37⟩ := hq37
        refine GS.run [] 1 rfl ?_
        refine GS.iret rfl rfl (rfl) ?_
        have hq : qImage t s a b 0 = (1, some (t, s), b) := by unfold qImage; rw [if_pos (Or.inl rfl), if_neg g2, if_pos rfl]
        rw [hq]
        exact ⟨rfl, k37, hb.kept (fun j hj => s37 _ (by simp; omega)), s37.sub (by decide)⟩
      · refine GS.run [] 2 rfl ?_
        refine GS.cV oX11_keptBy (c_keptBy (d + 3) σ 1) rfl rfl rfl rfl rfl rfl rfl (Nat.le_of_ble_eq_true rfl) (by omega) ?_
        refine GS.run [] 4 rfl ?_
        refine GS.callV oX2_keep (c_keep_38 (d + 1) σ t s ht hw hy hys) rfl rfl rfl rfl rfl rfl rfl (Nat.le_of_ble_eq_true rfl) (by omega) (fun v37 σ37 hq37 => ?_)
        obtain ⟨rfl, k37, s37⟩ := hq37
        refine GS.run [] 1 rfl ?_
        refine GS.iret rfl rfl (rfl) ?_
        have hq : qImage t s a b 1 = (1, a, some (t, s)) := by unfold qImage; rw [if_pos (Or.inr rfl), if_neg g2, if_neg (by decide)]
        rw [hq]
        exact ⟨rfl, ha.kept (fun j hj => s37 _ (by simp; omega)), k37, s37.sub (by decide)⟩
    · have g2 : tN t = 0 := (nI_eq (b := 0) (by have := hw.1; omega) (by omega)).mp c17
      refine GS.run [] 1 rfl ?_
      refine GS.iret rfl rfl (rfl) ?_
      have hq : qImage t s a b k = (-1000002, a, b) := by unfold qImage; rw [if_pos g1, if_pos g2]
      rw [hq]
      exact ⟨rfl, ha, hb, same.rf⟩
  · have g1 : ¬ okb k := am_b0.mp c4
    refine GS.run [] 1 rfl ?_
    refine GS.iret rfl rfl (rfl) ?_
    have hq : qImage t s a b k = (-1000001, a, b) := by unfold qImage; rw [if_neg g1]
    rw [hq]
    exact ⟨rfl, ha, hb, same.rf⟩
theorem c_isKept_28 (d : Nat) (σ : am_S) (a : Kp) (ha : keptC 28 σ a) : CallS mX2_isKept (d) [.ref 28] σ (am_det (some (.int (am_b (a.isSome = true)))) σ) := by
  refine CallS.of kX2_isKept pX2_isKept [.ref 28] rfl (Nat.le_of_ble_eq_true rfl) ?_
  refine GS.run [] 2 rfl ?_
  have e : σ 28 2 = am_b (a.isSome = true) := by
    cases a with
    | none => exact ha
    | some w => exact ha.1
  rw [e]
  refine GS.iret rfl rfl (nar_b _) ?_
  exact ⟨rfl, rfl⟩
theorem c_isKept_38 (d : Nat) (σ : am_S) (a : Kp) (ha : keptC 38 σ a) : CallS mX2_isKept (d) [.ref 38] σ (am_det (some (.int (am_b (a.isSome = true)))) σ) := by
  refine CallS.of kX2_isKept pX2_isKept [.ref 38] rfl (Nat.le_of_ble_eq_true rfl) ?_
  refine GS.run [] 2 rfl ?_
  have e : σ 38 2 = am_b (a.isSome = true) := by
    cases a with
    | none => exact ha
    | some w => exact ha.1
  rw [e]
  refine GS.iret rfl rfl (nar_b _) ?_
  exact ⟨rfl, rfl⟩
theorem p_restore_c (d : Nat) (σ : am_S) (t : Tn) (s : Sy) (a b : Kp) (k : Int32) (ht : townC 10 σ t) (hw : wfT t) (hy : sayC 24 σ s) (hys : wfS s) (ha : keptC 28 σ a) (hb : keptC 38 σ b) (wa : wfK a) (wb : wfK b) : CallS mX11_restore (d + 4) [.ref 0, .int k] σ (fun x σ' => x = some (.int (qRestore t s a b k).1) ∧ townC 10 σ' (qRestore t s a b k).2.1 ∧ sayC 24 σ' (qRestore t s a b k).2.2 ∧ same [10, 11, 12, 13, 14, 15, 16, 24, 25, 64] σ σ' ∧ ((σ' 64 = σ 64 ∧ (qRestore t s a b k).2.1 = t) ∨ σ' 64 4 = 0)) := by
  refine CallS.of kX11_restore pX11_restore [.ref 0, .int k] rfl (Nat.le_of_ble_eq_true rfl) ?_
  refine GS.run [] 1 rfl ?_
  refine GS.cS oX11_bit (c_bit (d + 3) σ k) rfl rfl rfl rfl (Nat.le_of_ble_eq_true rfl) (by omega) ?_
  refine GS.if_ne rfl (fun c4 => ?_) (fun c4 => ?_)
  · have g1 : okb k := am_bT c4
    rcases g1 with rfl | rfl
    · refine GS.run [] 2 rfl ?_
      refine GS.cV oX11_keptBy (c_keptBy (d + 3) σ 0) rfl rfl rfl rfl rfl rfl rfl (Nat.le_of_ble_eq_true rfl) (by omega) ?_
      refine GS.cV oX2_isKept (c_isKept_28 (d + 3) σ a ha) rfl rfl rfl rfl rfl rfl rfl (Nat.le_of_ble_eq_true rfl) (by omega) ?_
      refine GS.if_ne rfl (fun c18 => ?_) (fun c18 => ?_)
      · obtain ⟨w, hw1⟩ : ∃ w, a = some w := by
          cases a with
          | none => exact absurd (am_bT c18) (by decide)
          | some w => exact ⟨w, rfl⟩
        subst hw1
        refine GS.run [] 2 rfl ?_
        refine GS.cV oX11_keptBy (c_keptBy (d + 3) σ 0) rfl rfl rfl rfl rfl rfl rfl (Nat.le_of_ble_eq_true rfl) (by omega) ?_
        refine GS.run [] 4 rfl ?_
        refine GS.callV oX2_giveBack (c_give_28 (d + 1) σ w.1 w.2 ha wa.1 wa.2.1) rfl rfl rfl rfl rfl rfl rfl (Nat.le_of_ble_eq_true rfl) (by omega) (fun v38 σ38 hq38 => ?_)
        obtain ⟨rfl, t38, y38, s38⟩ := hq38
        refine GS.run [] 2 rfl ?_
        refine GS.cV oX3_forget (c_forget (d + 3) σ38) rfl rfl rfl rfl rfl rfl rfl (Nat.le_of_ble_eq_true rfl) (by omega) ?_
        refine GS.run [] 1 rfl ?_
        refine GS.iret rfl rfl (rfl) ?_
        have hq : qRestore t s (some w) b 0 = (1, w.1, w.2) := by
          unfold qRestore
          rw [if_pos (by decide)]
          rfl
        rw [hq]
        exact ⟨rfl, t38.kept (fun j hj => am_s1_ne _ _ (by omega)), y38.kept rfl rfl, (s38.sub (by decide)).s1 (by decide), Or.inr rfl⟩
      · have hn : a = none := by
          cases a with
          | none => rfl
          | some w => exact absurd rfl (am_b0.mp c18)
        refine GS.run [] 1 rfl ?_
        refine GS.iret rfl rfl (rfl) ?_
        have hq : qRestore t s a b 0 = (-1000002, t, s) := by
          subst hn
          unfold qRestore
          rw [if_pos (by decide)]
          rfl
        rw [hq]
        exact ⟨rfl, ht, hy, same.rf, Or.inl ⟨rfl, rfl⟩⟩
    · refine GS.run [] 2 rfl ?_
      refine GS.cV oX11_keptBy (c_keptBy (d + 3) σ 1) rfl rfl rfl rfl rfl rfl rfl (Nat.le_of_ble_eq_true rfl) (by omega) ?_
      refine GS.cV oX2_isKept (c_isKept_38 (d + 3) σ b hb) rfl rfl rfl rfl rfl rfl rfl (Nat.le_of_ble_eq_true rfl) (by omega) ?_
      refine GS.if_ne rfl (fun c18 => ?_) (fun c18 => ?_)
      · obtain ⟨w, hw1⟩ : ∃ w, b = some w := by
          cases b with
          | none => exact absurd (am_bT c18) (by decide)
          | some w => exact ⟨w, rfl⟩
        subst hw1
        refine GS.run [] 2 rfl ?_
        refine GS.cV oX11_keptBy (c_keptBy (d + 3) σ 1) rfl rfl rfl rfl rfl rfl rfl (Nat.le_of_ble_eq_true rfl) (by omega) ?_
        refine GS.run [] 4 rfl ?_
        refine GS.callV oX2_giveBack (c_give_38 (d + 1) σ w.1 w.2 hb wb.1 wb.2.1) rfl rfl rfl rfl rfl rfl rfl (Nat.le_of_ble_eq_true rfl) (by omega) (fun v38 σ38 hq38 => ?_)
        obtain ⟨rfl, t38, y38, s38⟩ := hq38
        refine GS.run [] 2 rfl ?_
        refine GS.cV oX3_forget (c_forget (d + 3) σ38) rfl rfl rfl rfl rfl rfl rfl (Nat.le_of_ble_eq_true rfl) (by omega) ?_
        refine GS.run [] 1 rfl ?_
        refine GS.iret rfl rfl (rfl) ?_
        have hq : qRestore t s a (some w) 1 = (1, w.1, w.2) := by
          unfold qRestore
          rw [if_pos (by decide)]
          rfl
        rw [hq]
        exact ⟨rfl, t38.kept (fun j hj => am_s1_ne _ _ (by omega)), y38.kept rfl rfl, (s38.sub (by decide)).s1 (by decide), Or.inr rfl⟩
      · have hn : b = none := by
          cases b with
          | none => rfl
          | some w => exact absurd rfl (am_b0.mp c18)
        refine GS.run [] 1 rfl ?_
        refine GS.iret rfl rfl (rfl) ?_
        have hq : qRestore t s a b 1 = (-1000002, t, s) := by
          subst hn
          unfold qRestore
          rw [if_pos (by decide)]
          rfl
        rw [hq]
        exact ⟨rfl, ht, hy, same.rf, Or.inl ⟨rfl, rfl⟩⟩
  · have g1 : ¬ okb k := am_b0.mp c4
    refine GS.run [] 1 rfl ?_
    refine GS.iret rfl rfl (rfl) ?_
    have hq : qRestore t s a b k = (-1000001, t, s) := by unfold qRestore; rw [if_neg g1]
    rw [hq]
    exact ⟨rfl, ht, hy, same.rf, Or.inl ⟨rfl, rfl⟩⟩
def glA (l r : Nat) : Nat := (l + 1) * (r + 1)
def glF (l r : Nat) : Nat := (l + 1) * (r + 1) + l * (l + 1) + r * (r + 1)
abbrev okg (v : Int32) : Prop := 1 ≤ v.toInt ∧ v.toInt ≤ 8
def qGloves (l r w : Int32) : Int32 := if okg l ∧ okg r ∧ okn w 3 then (if w = 0 then nI (max (cn l) (cn r) + 1) else if w = 1 then nI (glF (cn l) (cn r) / Nat.gcd (glF (cn l) (cn r)) (glA (cn l) (cn r))) else nI (glA (cn l) (cn r) / Nat.gcd (glF (cn l) (cn r)) (glA (cn l) (cn r)))) else -1000001
theorem okg_m {v : Int32} : 0 ≤ (v - 1).toInt ∧ (v - 1).toInt < ((8 : Nat) : Int) ↔ okg v := by
  have h1 := v.le_toInt
  have h2 := v.toInt_lt
  have e : (v - 1).toInt = (v.toInt - 1).bmod 4294967296 := Int32.toInt_sub v 1
  rw [e]
  rcases (by omega : v.toInt - 1 < -2147483648 ∨ -2147483648 ≤ v.toInt - 1) with h | h
  · rw [show (v.toInt - 1).bmod 4294967296 = v.toInt - 1 + 4294967296 by rw [← Int.add_bmod_right]; exact Int.bmod_eq_of_le (by omega) (by omega)]
    omega
  · rw [Int.bmod_eq_of_le (by omega) (by omega)]; omega
theorem nI_dn {j : Nat} (h : 0 < j) : nI j + -1 = nI (j - 1) := by
  rw [← Int32.sub_eq_add_neg]
  exact pk_sub (a := j) (b := 1) h
theorem okg_nat {v : Int32} (h : okg v) : ∃ a, 1 ≤ a ∧ a ≤ 8 ∧ v = nI a := by
  refine ⟨v.toInt.toNat, by omega, by omega, ?_⟩
  rw [zI_n, show ((v.toInt.toNat : Nat) : Int) = v.toInt by omega, zI_of]
theorem gl_b {l r : Nat} (hl : l ≤ 8) (hr : r ≤ 8) : glA l r ≤ 81 ∧ glF l r ≤ 225 ∧ 0 < glA l r ∧ 0 < glF l r := by
  unfold glA glF
  have h1 := Nat.mul_le_mul (by omega : l + 1 ≤ 9) (by omega : r + 1 ≤ 9)
  have h2 := Nat.mul_le_mul hl (by omega : l + 1 ≤ 9)
  have h3 := Nat.mul_le_mul hr (by omega : r + 1 ≤ 9)
  have h4 := Nat.mul_le_mul (by omega : 1 ≤ l + 1) (by omega : 1 ≤ r + 1)
  omega
theorem gl_A {l r : Nat} : (nI l + 1) * (nI r + 1) = nI (glA l r) := by
  unfold glA; rw [show (1 : Int32) = nI 1 from rfl, nI_add, nI_add, pk_mul]
theorem gl_F {l r : Nat} : nI (glA l r) + nI l * (nI l + 1) + nI r * (nI r + 1) = nI (glF l r) := by
  unfold glF; rw [show (1 : Int32) = nI 1 from rfl, nI_add, nI_add, pk_mul, pk_mul, nI_add, nI_add]; rfl
theorem c_common (d : Nat) (σ : am_S) (f a : Nat) (hf : f ≤ 225) (ha : a ≤ 225) (f0 : 0 < f) (a0 : 0 < a) : CallS mX11_commonMeasure (d + 1) [.int (nI f), .int (nI a)] σ (am_det (some (.int (nI (Nat.gcd f a)))) σ) := by
  refine CallS.of kX11_commonMeasure pX11_commonMeasure [.int (nI f), .int (nI a), .retAddr 0] rfl (Nat.le_of_ble_eq_true rfl) ?_
  refine GS.run [] 2 rfl ?_
  refine GS.cS oJ9_min_7cf53 ((c_min d σ (nI f) (nI a)).eq (congrArg (fun z => some (Value.int z)) (show (if nI a < nI f then nI a else nI f) = nI (min f a) by
        by_cases h : a < f
        · rw [if_pos ((nI_ltI (by omega) (by omega)).mpr h), Nat.min_eq_right (by omega)]
        · rw [if_neg (fun z => h ((nI_ltI (by omega) (by omega)).mp z)), Nat.min_eq_left (by omega)])) rfl) rfl rfl rfl rfl (Nat.le_of_ble_eq_true rfl) (by omega) ?_
  refine GS.run [] 1 rfl ?_
  have loop6 : ∀ (fu : Nat) (j : Nat) (h1 : Nat.gcd f a ≤ j) (h2 : j ≤ 225), j = fu → GS none mX11_commonMeasure (d + 1) (am_det (some (.int (nI (Nat.gcd f a)))) σ) 6 [.int (nI f), .int (nI a), .int (nI j)] [] σ := by
    intro fu
    induction fu using Nat.strongRecOn with
    | ind fu ih6 =>
      intro j h1 h2 hfu
      have h0 : 0 < Nat.gcd f a := Nat.gcd_pos_of_pos_left _ f0
      refine GS.run [] 2 rfl ?_
      refine GS.icmp_le rfl (fun c8 => ?_) (fun c8 => ?_)
      · have hj : j ≤ 1 := (nI_leI (b := 1) (by omega) (by omega)).mp c8
        refine GS.run [] 1 rfl ?_
        refine GS.iret rfl rfl (rfl) ?_
        exact ⟨by rw [show Nat.gcd f a = 1 by omega]; rfl, rfl⟩
      · have hj : 1 < j := (nI_gtI (a := j) (b := 1) (by omega) (by omega)).mp c8
        refine GS.run [] 2 rfl ?_
        refine GS.irem rfl (fun z => absurd ((nI_eq (b := 0) (by omega) (by omega)).mp z) (by omega)) ?_
        rw [pk_rem (by omega) (by omega) (by omega)]
        refine GS.if_ne rfl (fun c14 => ?_) (fun c14 => ?_)
        · have hnd : ¬ (j ∣ f ∧ j ∣ a) := fun z => c14 (by rw [Nat.mod_eq_zero_of_dvd z.1]; rfl)
          refine GS.run [] 2 rfl ?_
          have hlt : Nat.gcd f a ≠ j := fun z => hnd (by rw [← z]; exact ⟨Nat.gcd_dvd_left f a, Nat.gcd_dvd_right f a⟩)
          rw [show nI j + -1 = nI (j - 1) from nI_dn (by omega)]
          exact ih6 _ (by omega) (j - 1) (by omega) (by omega) rfl
        · have hd1 : j ∣ f := Nat.dvd_of_mod_eq_zero ((nI_eq (b := 0) (by have := Nat.mod_le f j; omega) (by omega)).mp c14)
          refine GS.run [] 2 rfl ?_
          refine GS.irem rfl (fun z => absurd ((nI_eq (b := 0) (by omega) (by omega)).mp z) (by omega)) ?_
          rw [pk_rem (by omega) (by omega) (by omega)]
          refine GS.if_ne rfl (fun c20 => ?_) (fun c20 => ?_)
          · have hnd : ¬ (j ∣ f ∧ j ∣ a) := fun z => c20 (by rw [Nat.mod_eq_zero_of_dvd z.2]; rfl)
            refine GS.run [] 2 rfl ?_
            have hlt : Nat.gcd f a ≠ j := fun z => hnd (by rw [← z]; exact ⟨Nat.gcd_dvd_left f a, Nat.gcd_dvd_right f a⟩)
            rw [show nI j + -1 = nI (j - 1) from nI_dn (by omega)]
            exact ih6 _ (by omega) (j - 1) (by omega) (by omega) rfl
          · have hd2 : j ∣ a := Nat.dvd_of_mod_eq_zero ((nI_eq (b := 0) (by have := Nat.mod_le a j; omega) (by omega)).mp c20)
            refine GS.run [] 1 rfl ?_
            refine GS.iret rfl rfl (rfl) ?_
            have := Nat.le_of_dvd h0 (Nat.dvd_gcd hd1 hd2)
            exact ⟨by rw [show Nat.gcd f a = j by omega], rfl⟩
  exact loop6 _ (min f a) (Nat.le_min.mpr ⟨Nat.gcd_le_left _ f0, Nat.gcd_le_right _ a0⟩) (by omega) rfl
