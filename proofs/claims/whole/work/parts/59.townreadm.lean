def dftM (σ : am_S) (D : Tn) : Prop := townM 74 0 σ D ∧ ∀ c, c < 8 → σ 74 (38 + c) = nI (tD D c)
theorem dftM.e {σ σ' : am_S} {D : Tn} (h : dftM σ D) (e : σ' 74 = σ 74) : dftM σ' D := by
  refine ⟨h.1.kept e, ?_⟩
  rw [e]; exact h.2
theorem dftM.kept {σ σ' : am_S} {D : Tn} {L F : List Nat} (h : dftM σ D) (hs : sameM L F σ σ') (h1 : 74 ∉ L) : dftM σ' D := h.e (hs.1 74 (by decide) h1)
theorem dftM_C {σ σ' : am_S} {D : Tn} {h m w : Nat} (hd : dftM σ D) (hw : wfD D) (h8 : tN D < 8) (e : σ' 74 = upd (upd (upd (upd (σ 74) (2 + tN D) (nI h)) (14 + tN D) (nI m)) (26 + tN D) (nI w)) 0 (nI (tN D + 1))) : dftM σ' (tAddC D h m w) := by
  obtain ⟨⟨t1, t2, t3⟩, t4⟩ := hd
  have g : ∀ x, σ' 74 x = if x = 0 then nI (tN D + 1) else if x = 26 + tN D then nI w else if x = 14 + tN D then nI m else if x = 2 + tN D then nI h else σ 74 x := fun x => by rw [e]; rfl
  refine ⟨⟨?_, ?_, fun c hc => ?_⟩, fun c hc => ?_⟩
  · rw [g, if_pos rfl]; rfl
  · rw [g, if_neg (by omega), if_neg (by omega), if_neg (by omega), if_neg (by omega)]; exact t2
  · have hc : c < tN D + 1 := hc
    show σ' 74 (0 + 2 + c) = nI (va_up (tH D) (tN D) h c) ∧ σ' 74 (0 + 14 + c) = nI (va_up (tM D) (tN D) m c) ∧ σ' 74 (0 + 26 + c) = nI (va_up (tW D) (tN D) w c) ∧ σ' 74 (0 + 38 + c) = nI (tD D c) ∧ ∀ i, i < tD D c → σ' 74 (0 + 50 + 6 * c + i) = nI (tB D c i)
    by_cases q : c = tN D
    · have hz : tD D c = 0 := hw.2 c (by omega)
      refine ⟨?_, ?_, ?_, ?_, fun i hi => by omega⟩
      · rw [g, if_neg (by omega), if_neg (by omega), if_neg (by omega), if_pos (by omega), q, va_eq]
      · rw [g, if_neg (by omega), if_neg (by omega), if_pos (by omega), q, va_eq]
      · rw [g, if_neg (by omega), if_pos (by omega), q, va_eq]
      · rw [g, if_neg (by omega), if_neg (by omega), if_neg (by omega), if_neg (by omega), show 0 + 38 + c = 38 + c by omega]
        exact t4 c (by omega)
    · obtain ⟨a1, a2, a3, a4, a5⟩ := t3 c (by omega)
      have h6 := wfD_6 hw c (by omega)
      refine ⟨?_, ?_, ?_, ?_, fun i hi => ?_⟩
      · rw [g, if_neg (by omega), if_neg (by omega), if_neg (by omega), if_neg (by omega), va_ne _ _ q]; exact a1
      · rw [g, if_neg (by omega), if_neg (by omega), if_neg (by omega), if_neg (by omega), va_ne _ _ q]; exact a2
      · rw [g, if_neg (by omega), if_neg (by omega), if_neg (by omega), if_neg (by omega), va_ne _ _ q]; exact a3
      · rw [g, if_neg (by omega), if_neg (by omega), if_neg (by omega), if_neg (by omega)]; exact a4
      · rw [g, if_neg (by omega), if_neg (by omega), if_neg (by omega), if_neg (by omega)]; exact a5 i hi
  · rw [g, if_neg (by omega), if_neg (by omega), if_neg (by omega), if_neg (by omega)]
    exact t4 c hc
theorem dftM_S {σ σ' : am_S} {D : Tn} {a b : Nat} (hd : dftM σ D) (hw : wfD D) (ha : a < tN D) (hb : b < tN D) (hab : a ≠ b) (ha6 : tD D a < 6) (hb6 : tD D b < 6) (e : σ' 74 = upd (upd (upd (upd (upd (σ 74) (50 + 6 * a + tD D a) (nI b)) (50 + 6 * b + tD D b) (nI a)) (38 + a) (nI (tD D a + 1))) (38 + b) (nI (tD D b + 1))) 1 (nI (tS D + 1))) : dftM σ' (tAddS D a b) := by
  have h8 := hw.1.1
  obtain ⟨⟨t1, t2, t3⟩, t4⟩ := hd
  have g : ∀ x, σ' 74 x = if x = 1 then nI (tS D + 1) else if x = 38 + b then nI (tD D b + 1) else if x = 38 + a then nI (tD D a + 1) else if x = 50 + 6 * b + tD D b then nI a else if x = 50 + 6 * a + tD D a then nI b else σ 74 x := fun x => by rw [e]; rfl
  have gd : ∀ c, c < 8 → σ' 74 (38 + c) = nI (tD (tAddS D a b) c) := fun c hc => by
    rw [g, if_neg (by omega), tAddS_D hab]
    by_cases q : c = b
    · rw [if_pos (by omega), if_neg (by omega), if_pos q]
    · rw [if_neg (by omega)]
      by_cases q2 : c = a
      · rw [if_pos (by omega), if_pos q2]
      · rw [if_neg (by omega), if_neg (by omega), if_neg (by omega), if_neg q2, if_neg q]
        exact t4 c hc
  refine ⟨⟨?_, ?_, fun c hc => ?_⟩, gd⟩
  · rw [g, if_neg (by omega), if_neg (by omega), if_neg (by omega), if_neg (by omega), if_neg (by omega)]; exact t1
  · rw [g, if_pos rfl]; rfl
  · have hc : c < tN D := hc
    obtain ⟨a1, a2, a3, a4, a5⟩ := t3 c hc
    refine ⟨?_, ?_, ?_, ?_, fun i hi => ?_⟩
    · rw [g, if_neg (by omega), if_neg (by omega), if_neg (by omega), if_neg (by omega), if_neg (by omega)]; exact a1
    · rw [g, if_neg (by omega), if_neg (by omega), if_neg (by omega), if_neg (by omega), if_neg (by omega)]; exact a2
    · rw [g, if_neg (by omega), if_neg (by omega), if_neg (by omega), if_neg (by omega), if_neg (by omega)]; exact a3
    · have := gd c (by omega)
      rw [show 0 + 38 + c = 38 + c by omega]; exact this
    · rw [tAddS_D hab] at hi
      have h6 := wfD_6 hw c (by omega)
      rw [show 0 + 50 + 6 * c + i = 50 + 6 * c + i by omega, g, if_neg (by omega), if_neg (by omega), if_neg (by omega), tAddS_B hab]
      by_cases q : c = a
      · rw [if_pos q] at hi
        have hia : i ≤ tD D a := by omega
        rw [if_neg (by omega)]
        by_cases q2 : i = tD D a
        · rw [if_pos (by omega), if_pos ⟨q, q2⟩]
        · rw [if_neg (by omega), if_neg (fun z => q2 z.2), if_neg (fun z => hab (q.symm.trans z.1)), q]
          have := a5 i (by rw [q]; omega)
          rw [q] at this
          rw [show 0 + 50 + 6 * a + i = 50 + 6 * a + i by omega] at this
          exact this
      · rw [if_neg q] at hi
        have hv : (if c = a ∧ i = tD D a then b else if c = b ∧ i = tD D b then a else tB D c i) = if c = b ∧ i = tD D b then a else tB D c i := if_neg (fun z => q z.1)
        rw [hv]
        by_cases q3 : c = b
        · rw [if_pos q3] at hi
          by_cases q2 : i = tD D b
          · rw [if_pos (by omega), if_pos ⟨q3, q2⟩]
          · rw [if_neg (by omega), if_neg (by omega), if_neg (fun z => q2 z.2), q3]
            have := a5 i (by rw [q3]; omega)
            rw [q3] at this
            rw [show 0 + 50 + 6 * b + i = 50 + 6 * b + i by omega] at this
            exact this
        · rw [if_neg q3] at hi
          rw [if_neg (by omega), if_neg (by omega), if_neg (fun z => q3 z.1)]
          have := a5 i hi
          rw [show 0 + 50 + 6 * c + i = 50 + 6 * c + i by omega] at this
          exact this
def rCorM (p : Tp) (D : Tn) (j : Nat) : Er ((Nat × Nat × Nat) × Nat) := if tN D = 8 then .error (3, tkS p j) else rCor p (j + 1)
theorem c_mreadCorner (d : Nat) (σ : am_S) (p : Tp) (hp : wfP p) (j : Nat) (D : Tn) (h : pcM σ p j) (hf : ftM σ none) (hn : isNm p 8 j) (hd : dftM σ D) (hw0 : wfD D) : CallS mX12_readCorner (d + 5) [.ref 69] σ (roQ (rCorM p D j) [74] [14, 15, 16, 17, 18, 19] p (fun q => q.2) (fun q r σ' => r = none ∧ dftM σ' (tAddC D q.1.1 q.1.2.1 q.1.2.2)) (fun r => r = none) σ) := by
  refine CallS.of kX12_readCorner pX12_readCorner [.ref 69, .retAddr 0, .retAddr 0, .retAddr 0, .retAddr 0] rfl (Nat.le_of_ble_eq_true rfl) ?_
  have h8 := hw0.1.1
  refine GS.run [] 3 rfl ?_
  refine GS.callV oX12_begins (c_mbegins (d + 1) σ p hp j 0 (tN D) 8 h hf (by rw [hn.1]; decide) (by decide) hd.1.1 (by omega) (by decide)) rfl rfl rfl rfl rfl rfl rfl (Nat.le_of_ble_eq_true rfl) (by omega) (fun v4 σ4 hq4 => ?_)
  obtain ⟨s4, m4⟩ := hq4
  rcases e4 : rBeg p j (tN D) 8 with e | u
  · rw [e4] at m4
    obtain ⟨f4, ⟨je, p4⟩, rfl⟩ := m4
    have hR : rCorM p D j = .error e := by
      unfold rBeg at e4
      by_cases q : tN D = 8
      · rw [if_pos q] at e4; cases e4; exact if_pos q
      · rw [if_neg q] at e4; cases e4
    refine GS.run [] 3 rfl ?_
    refine GS.cV oX12_number (c_numberF d σ4 e 0 99 f4) rfl rfl rfl rfl rfl rfl rfl (Nat.le_of_ble_eq_true rfl) (by omega) ?_
    refine GS.run [] 4 rfl ?_
    refine GS.cV oX12_number (c_numberF d σ4 e 0 9 f4) rfl rfl rfl rfl rfl rfl rfl (Nat.le_of_ble_eq_true rfl) (by omega) ?_
    refine GS.run [] 2 rfl ?_
    refine GS.cV oX12_name (c_name (d + 2) σ4 p hp je (some e) p4 f4) rfl rfl rfl rfl rfl rfl rfl (Nat.le_of_ble_eq_true rfl) (by omega) ?_
    refine GS.run [] 2 rfl ?_
    refine GS.if_ne rfl (fun c31 => ?_) (fun q => absurd q (show ¬ lg_cmp (0 : Int64) 2003135596 = 0 by decide))
    refine GS.run [] 3 rfl ?_
    refine GS.if_eq rfl (fun c41 => ?_) (fun q => absurd (rfl) q)
    refine GS.run [] 1 rfl ?_
    refine GS.cV oX12_mustEnd (c_mustEndF d σ4 e f4) rfl rfl rfl rfl rfl rfl rfl (Nat.le_of_ble_eq_true rfl) (by omega) ?_
    refine GS.run [] 2 rfl ?_
    refine GS.if_ne rfl (fun c57 => ?_) (fun q => absurd q (f4.ne))
    refine GS.vret rfl rfl ?_
    refine ⟨s4.sub (by decide) (by decide), ?_⟩
    rw [hR]
    exact ⟨f4, ⟨je, p4⟩, rfl⟩
  · rw [e4] at m4
    obtain ⟨f4, p4, rfl⟩ := m4
    have hl : tN D < 8 := by
      unfold rBeg at e4
      by_cases q : tN D = 8
      · rw [if_pos q] at e4; cases e4
      · omega
    have hR0 : rCorM p D j = rCor p (j + 1) := if_neg (by omega)
    refine GS.run [] 3 rfl ?_
    refine GS.callV oX12_number (c_numberN d σ4 p hp (j + 1) 99 p4 f4 (by omega)) rfl rfl rfl rfl rfl rfl rfl (Nat.le_of_ble_eq_true rfl) (by omega) (fun v11 σ11 hq11 => ?_)
    obtain ⟨s11, m11⟩ := hq11
    have t11 := s4.trans s11
    rcases e11 : rNum p 99 (j + 1) with e | hh
    · rw [e11] at m11
      obtain ⟨f11, ⟨je, p11⟩, x, rfl⟩ := m11
      have hR : rCorM p D j = .error e := by rw [hR0]; unfold rCor; rw [e11]
      refine GS.run [] 4 rfl ?_
      refine GS.cV oX12_number (c_numberF d σ11 e 0 9 f11) rfl rfl rfl rfl rfl rfl rfl (Nat.le_of_ble_eq_true rfl) (by omega) ?_
      refine GS.run [] 2 rfl ?_
      refine GS.cV oX12_name (c_name (d + 2) σ11 p hp je (some e) p11 f11) rfl rfl rfl rfl rfl rfl rfl (Nat.le_of_ble_eq_true rfl) (by omega) ?_
      refine GS.run [] 2 rfl ?_
      refine GS.if_ne rfl (fun c31 => ?_) (fun q => absurd q (show ¬ lg_cmp (0 : Int64) 2003135596 = 0 by decide))
      refine GS.run [] 3 rfl ?_
      refine GS.if_eq rfl (fun c41 => ?_) (fun q => absurd (rfl) q)
      refine GS.run [] 1 rfl ?_
      refine GS.cV oX12_mustEnd (c_mustEndF d σ11 e f11) rfl rfl rfl rfl rfl rfl rfl (Nat.le_of_ble_eq_true rfl) (by omega) ?_
      refine GS.run [] 2 rfl ?_
      refine GS.if_ne rfl (fun c57 => ?_) (fun q => absurd q (f11.ne))
      refine GS.vret rfl rfl ?_
      refine ⟨t11.sub (by decide) (by decide), ?_⟩
      rw [hR]
      exact ⟨f11, ⟨je, p11⟩, rfl⟩
    · rw [e11] at m11
      obtain ⟨f11, p11, rfl⟩ := m11
      obtain ⟨n11, -, -⟩ := rNum_ok e11
      refine GS.run [] 4 rfl ?_
      refine GS.callV oX12_number (c_numberN d σ11 p hp (j + 2) 9 p11 f11 (by omega)) rfl rfl rfl rfl rfl rfl rfl (Nat.le_of_ble_eq_true rfl) (by omega) (fun v19 σ19 hq19 => ?_)
      obtain ⟨s19, m19⟩ := hq19
      have t19 := t11.trans s19
      rcases e19 : rNum p 9 (j + 2) with e | mm
      · rw [e19] at m19
        obtain ⟨f19, ⟨je, p19⟩, x, rfl⟩ := m19
        have hR : rCorM p D j = .error e := by rw [hR0]; unfold rCor; simp only [e11, e19]
        refine GS.run [] 2 rfl ?_
        refine GS.cV oX12_name (c_name (d + 2) σ19 p hp je (some e) p19 f19) rfl rfl rfl rfl rfl rfl rfl (Nat.le_of_ble_eq_true rfl) (by omega) ?_
        refine GS.run [] 2 rfl ?_
        refine GS.if_ne rfl (fun c31 => ?_) (fun q => absurd q (show ¬ lg_cmp (0 : Int64) 2003135596 = 0 by decide))
        refine GS.run [] 3 rfl ?_
        refine GS.if_eq rfl (fun c41 => ?_) (fun q => absurd (rfl) q)
        refine GS.run [] 1 rfl ?_
        refine GS.cV oX12_mustEnd (c_mustEndF d σ19 e f19) rfl rfl rfl rfl rfl rfl rfl (Nat.le_of_ble_eq_true rfl) (by omega) ?_
        refine GS.run [] 2 rfl ?_
        refine GS.if_ne rfl (fun c57 => ?_) (fun q => absurd q (f19.ne))
        refine GS.vret rfl rfl ?_
        refine ⟨t19.sub (by decide) (by decide), ?_⟩
        rw [hR]
        exact ⟨f19, ⟨je, p19⟩, rfl⟩
      · rw [e19] at m19
        obtain ⟨f19, p19, rfl⟩ := m19
        obtain ⟨n19, -, -⟩ := rNum_ok e19
        refine GS.run [] 2 rfl ?_
        refine GS.cV oX12_name (c_name (d + 2) σ19 p hp (j + 3) none p19 f19) rfl rfl rfl rfl rfl rfl rfl (Nat.le_of_ble_eq_true rfl) (by omega) ?_
        refine GS.run [] 2 rfl ?_
        refine GS.if_ne rfl (fun c31 => ?_) (fun c31 => ?_)
        · have hnw : ¬ isNm p 10 (j + 3) := fun q => c31 ((lg_cmp_eq _ _).mpr (((nmV_iff (p := p) (j := j + 3) (fo := none) (k := 10) (by decide)).mpr ⟨rfl, q⟩).trans cst_10.symm))
          have hw : wlN p (j + 3) = 0 := if_neg hnw
          refine GS.run [] 3 rfl ?_
          refine GS.if_eq rfl (fun c41 => ?_) (fun q => absurd (rfl) q)
          refine GS.run [] 1 rfl ?_
          refine GS.callV oX12_mustEnd (c_mustEndN d σ19 p hp (j + 3 + 0) p19 f19) rfl rfl rfl rfl rfl rfl rfl (Nat.le_of_ble_eq_true rfl) (by omega) (fun v50 σ50 hq50 => ?_)
          obtain ⟨s50, m50⟩ := hq50
          rcases e50 : rSig p (j + 3 + 0) with e | u
          · rw [e50] at m50
            obtain ⟨f50, ⟨je, p50⟩, rfl⟩ := m50
            have hR : rCorM p D j = .error e := by rw [hR0]; unfold rCor; simp only [e11, e19]; rw [hw]; simp only [e50]
            refine GS.run [] 2 rfl ?_
            refine GS.if_ne rfl (fun c57 => ?_) (fun q => absurd q (f50.ne))
            refine GS.vret rfl rfl ?_
            refine ⟨(t19.trans s50).sub (by decide) (by decide), ?_⟩
            rw [hR]
            exact ⟨f50, ⟨je, p50⟩, rfl⟩
          · rw [e50] at m50
            obtain ⟨f50, p50, rfl⟩ := m50
            have hR : rCorM p D j = .ok ((hh, mm, 0), j + 4 + 0) := by
              rw [hR0]; unfold rCor; simp only [e11, e19]; rw [hw]; simp only [e50]
            have t50 := t19.trans s50
            have hd50 := hd.kept t50 (by decide)
            have hd0 : σ50 74 0 = nI (tN D) := hd50.1.1
            refine GS.run [] 2 rfl ?_
            rw [show σ50 69 18 = 0 from f50]
            refine GS.run [] 0 rfl ?_
            refine GS.if_ne rfl (fun q => absurd (rfl) q) (fun c57 => ?_)
            refine GS.run [] 3 rfl ?_
            refine GS.ald (0) rfl rfl (rfl) (by omega) ?_
            rw [hd0]
            refine GS.run [] 7 rfl ?_
            refine GS.ast (2 + tN D) rfl rfl (he_2) (by omega) ?_
            refine GS.run [] 6 rfl ?_
            refine GS.ast (14 + tN D) rfl rfl (he_14) (by omega) ?_
            rw [am_s1_s1, am_s1_eq]
            refine GS.run [] 6 rfl ?_
            refine GS.if_eq rfl (fun c99 => ?_) (fun q => absurd (rfl) q)
            refine GS.run [] 1 rfl ?_
            refine GS.ast (26 + tN D) rfl rfl (he_26) (by omega) ?_
            rw [am_s1_s1, am_s1_eq]
            refine GS.run [] 4 rfl ?_
            refine GS.ald (0) rfl rfl (rfl) (by omega) ?_
            rw [am_s1_eq, upd_ne _ _ (by omega), upd_ne _ _ (by omega), upd_ne _ _ (by omega), hd0]
            refine GS.run [] 2 rfl ?_
            rw [nI_1]
            refine GS.run [] 0 rfl ?_
            refine GS.ast (0) rfl rfl (rfl) (by omega) ?_
            rw [am_s1_s1, am_s1_eq]
            refine GS.vret rfl rfl ?_
            refine ⟨(t50.sub (by decide) (by decide)).cell (by decide) (by decide), ?_⟩
            rw [hR]
            have sE : ∀ g, sameM [74] [] σ50 (am_s1 σ50 74 g) := fun g => sameM.rf.cell (by decide) (by decide)
            exact ⟨f50.kept (sE _) (by decide), by rw [show j + 4 + 0 = j + 3 + 0 + 1 by omega]; exact p50.kept (sE _) (by decide) (by decide), rfl, dftM_C hd50 hw0 hl (by rw [am_s1_eq]; rfl)⟩
        · have hnw : isNm p 10 (j + 3) := ((nmV_iff (p := p) (j := j + 3) (fo := none) (k := 10) (by decide)).mp (((lg_cmp_eq _ _).mp c31).trans cst_10)).2
          have hw : wlN p (j + 3) = 1 := if_pos hnw
          refine GS.run [] 4 rfl ?_
          refine GS.if_eq rfl (fun q => absurd q (by decide)) (fun c41 => ?_)
          refine GS.run [] 2 rfl ?_
          refine GS.callV oX12_must (c_mustT (d + 1) σ19 p hp (j + 3) p19 f19 (by rw [hnw.1]; decide)) rfl rfl rfl rfl rfl rfl rfl (Nat.le_of_ble_eq_true rfl) (by omega) (fun v46 σ46 hq46 => ?_)
          obtain ⟨rfl, f46, p46, s46⟩ := hq46
          have t46 := t19.trans s46
          refine GS.run [] 1 rfl ?_
          refine GS.callV oX12_mustEnd (c_mustEndN d σ46 p hp (j + 3 + 1) p46 f46) rfl rfl rfl rfl rfl rfl rfl (Nat.le_of_ble_eq_true rfl) (by omega) (fun v50 σ50 hq50 => ?_)
          obtain ⟨s50, m50⟩ := hq50
          rcases e50 : rSig p (j + 3 + 1) with e | u
          · rw [e50] at m50
            obtain ⟨f50, ⟨je, p50⟩, rfl⟩ := m50
            have hR : rCorM p D j = .error e := by rw [hR0]; unfold rCor; simp only [e11, e19]; rw [hw]; simp only [e50]
            refine GS.run [] 2 rfl ?_
            refine GS.if_ne rfl (fun c57 => ?_) (fun q => absurd q (f50.ne))
            refine GS.vret rfl rfl ?_
            refine ⟨(t46.trans s50).sub (by decide) (by decide), ?_⟩
            rw [hR]
            exact ⟨f50, ⟨je, p50⟩, rfl⟩
          · rw [e50] at m50
            obtain ⟨f50, p50, rfl⟩ := m50
            have hR : rCorM p D j = .ok ((hh, mm, 1), j + 4 + 1) := by
              rw [hR0]; unfold rCor; simp only [e11, e19]; rw [hw]; simp only [e50]
            have t50 := t46.trans s50
            have hd50 := hd.kept t50 (by decide)
            have hd0 : σ50 74 0 = nI (tN D) := hd50.1.1
            refine GS.run [] 2 rfl ?_
            rw [show σ50 69 18 = 0 from f50]
            refine GS.run [] 0 rfl ?_
            refine GS.if_ne rfl (fun q => absurd (rfl) q) (fun c57 => ?_)
            refine GS.run [] 3 rfl ?_
            refine GS.ald (0) rfl rfl (rfl) (by omega) ?_
            rw [hd0]
            refine GS.run [] 7 rfl ?_
            refine GS.ast (2 + tN D) rfl rfl (he_2) (by omega) ?_
            refine GS.run [] 6 rfl ?_
            refine GS.ast (14 + tN D) rfl rfl (he_14) (by omega) ?_
            rw [am_s1_s1, am_s1_eq]
            refine GS.run [] 6 rfl ?_
            refine GS.if_eq rfl (fun q => absurd q (by decide)) (fun c99 => ?_)
            refine GS.run [] 2 rfl ?_
            refine GS.ast (26 + tN D) rfl rfl (he_26) (by omega) ?_
            rw [am_s1_s1, am_s1_eq]
            refine GS.run [] 4 rfl ?_
            refine GS.ald (0) rfl rfl (rfl) (by omega) ?_
            rw [am_s1_eq, upd_ne _ _ (by omega), upd_ne _ _ (by omega), upd_ne _ _ (by omega), hd0]
            refine GS.run [] 2 rfl ?_
            rw [nI_1]
            refine GS.run [] 0 rfl ?_
            refine GS.ast (0) rfl rfl (rfl) (by omega) ?_
            rw [am_s1_s1, am_s1_eq]
            refine GS.vret rfl rfl ?_
            refine ⟨(t50.sub (by decide) (by decide)).cell (by decide) (by decide), ?_⟩
            rw [hR]
            have sE : ∀ g, sameM [74] [] σ50 (am_s1 σ50 74 g) := fun g => sameM.rf.cell (by decide) (by decide)
            exact ⟨f50.kept (sE _) (by decide), by rw [show j + 4 + 1 = j + 3 + 1 + 1 by omega]; exact p50.kept (sE _) (by decide) (by decide), rfl, dftM_C hd50 hw0 hl (by rw [am_s1_eq]; rfl)⟩
theorem dftM_to {σ : am_S} {D : Tn} {c i : Nat} (h : dftM σ D) (hc : c < tN D) (hi : i < tD D c) : σ 74 (50 + 6 * c + i) = nI (tB D c i) := by
  have := (h.1.2.2 c hc).2.2.2.2 i hi
  rwa [show 0 + 50 + 6 * c + i = 50 + 6 * c + i by omega] at this
theorem c_isJoinedM (d : Nat) (σ : am_S) (D : Tn) (a b : Nat) (hd : dftM σ D) (hw : wfT D) (ha : a < tN D) (hb : b < 1000) : CallS mX12_isJoined (d) [.ref 69, .int (nI a), .int (nI b)] σ (am_det (some (.int (bI (adB D a b)))) σ) := by
  refine CallS.of kX12_isJoined pX12_isJoined [.ref 69, .int (nI a), .int (nI b), .retAddr 0, .retAddr 0] rfl (Nat.le_of_ble_eq_true rfl) ?_
  have h8 := hw.1
  have h6 := (hw.2.2 a ha).2.2.2.1
  refine GS.run [] 4 rfl ?_
  have loop5 : ∀ (fu : Nat) (k : Nat) (hk : k ≤ tD D a), tD D a - k = fu → GS none mX12_isJoined (d) (am_det (some (.int (bI (adB D a b)))) σ) 5 [.ref 69, .int (nI a), .int (nI b), .int (bI (ay (fun i => decide (tB D a i = b)) k)), .int (nI k)] [] σ := by
    intro fu
    induction fu using Nat.strongRecOn with
    | ind fu ih5 =>
      intro k hk hfu
      refine GS.run [] 6 rfl ?_
      refine GS.ald (38 + a) rfl rfl (he_38) (by omega) ?_
      rw [hd.2 a (by omega)]
      refine GS.icmp_ge rfl (fun c16 => ?_) (fun c16 => ?_)
      · have e0 : k = tD D a := by have := (nI_leI (by omega) (by omega)).mp c16; omega
        subst e0
        refine GS.run [] 1 rfl ?_
        refine GS.iret rfl rfl (nar_bI _) ?_
        exact ⟨rfl, rfl⟩
      · have hl : k < tD D a := (nI_gtI (by omega) (by omega)).mp c16
        have hbl := ((hw.2.2 a ha).2.2.2.2.1 k hl).1
        refine GS.run [] 1 rfl ?_
        refine GS.if_ne rfl (fun c20 => ?_) (fun c20 => ?_)
        · have hE : (1 : Int32) = bI (ay (fun i => decide (tB D a i = b)) (k + 1)) := by rw [ay, bI1.mp c20]; rfl
          refine GS.run [] 5 rfl ?_
          rw [show nI k + 1 = nI (k + 1) from nI_1 k, hE]
          exact ih5 _ (by omega) (k + 1) (by omega) rfl
        · have hF : ay (fun i => decide (tB D a i = b)) k = false := by
            cases q : ay (fun i => decide (tB D a i = b)) k with
            | false => rfl
            | true => rw [q] at c20; exact absurd c20 (by decide)
          refine GS.run [] 9 rfl ?_
          refine GS.ald (50 + 6 * a + k) rfl rfl (he_to) (by omega) ?_
          rw [dftM_to hd ha hl]
          refine GS.run [] 1 rfl ?_
          refine GS.icmp_ne rfl (fun c39 => ?_) (fun c39 => ?_)
          · have k1 : ¬ tB D a k = b := fun q => c39 (by rw [q])
            have hE : (0 : Int32) = bI (ay (fun i => decide (tB D a i = b)) (k + 1)) := by rw [ay, hF, decide_eq_false k1]; rfl
            refine GS.run [] 4 rfl ?_
            rw [show nI k + 1 = nI (k + 1) from nI_1 k, hE]
            exact ih5 _ (by omega) (k + 1) (by omega) rfl
          · have k1 : tB D a k = b := (nI_eq (by omega) (by omega)).mp c39
            have hE : (1 : Int32) = bI (ay (fun i => decide (tB D a i = b)) (k + 1)) := by rw [ay, hF, decide_eq_true k1]; rfl
            refine GS.run [] 5 rfl ?_
            rw [show nI k + 1 = nI (k + 1) from nI_1 k, hE]
            exact ih5 _ (by omega) (k + 1) (by omega) rfl
  exact loop5 _ 0 (Nat.zero_le _) rfl
theorem c_endF (d : Nat) (σ : am_S) (p : Tp) (hp : wfP p) (j : Nat) (e : Nat × Nat) (v : Int32) (h : pcM σ p j) (hf : ftM σ (some e)) : CallS mX12_end (d + 4) [.ref 69, .int v] σ (am_det (some (.int 0)) σ) := by
  refine CallS.of kX12_end pX12_end [.ref 69, .int v, .retAddr 0, .retAddr 0] rfl (Nat.le_of_ble_eq_true rfl) ?_
  refine GS.run [] 1 rfl ?_
  refine GS.cV oX12_figures (c_figures (d + 3) σ p hp j h) rfl rfl rfl rfl rfl rfl rfl (Nat.le_of_ble_eq_true rfl) (by omega) ?_
  refine GS.run [] 3 rfl ?_
  refine GS.if_ne rfl (fun c9 => ?_) (fun q => absurd q (hf.ne))
  refine GS.run [] 3 rfl ?_
  refine GS.if_eq rfl (fun c45 => ?_) (fun q => absurd (rfl) q)
  refine GS.run [] 1 rfl ?_
  refine GS.if_eq rfl (fun c72 => ?_) (fun q => absurd (rfl) q)
  refine GS.run [] 5 rfl ?_
  refine GS.ald (0) rfl rfl (rfl) (by omega) ?_
  refine GS.run [] 2 rfl ?_
  refine GS.cV oX12_number (c_numberF d σ e 0 (σ 74 0 - 1) hf) rfl rfl rfl rfl rfl rfl rfl (Nat.le_of_ble_eq_true rfl) (by omega) ?_
  refine GS.iret rfl rfl (rfl) ?_
  exact ⟨rfl, rfl⟩
theorem c_endN (d : Nat) (σ : am_S) (p : Tp) (hp : wfP p) (j : Nat) (D : Tn) (o : Option Nat) (h : pcM σ p j) (hf : ftM σ none) (hd : dftM σ D) (hw : wfD D) (h2 : 2 ≤ tN D) (ho : ∀ a, o = some a → a < tN D) : CallS mX12_end (d + 5) [.ref 69, .int (plI o)] σ (roQ (rEnd p D o j) [] [14, 15, 16, 17, 18, 19] p (fun _ => j + 1) (fun v r _ => r = some (.int (nI v))) (fun r => ∃ x, r = some (.int x)) σ) := by
  refine CallS.of kX12_end pX12_end [.ref 69, .int (plI o), .retAddr 0, .retAddr 0] rfl (Nat.le_of_ble_eq_true rfl) ?_
  obtain ⟨-, -, h3, h4, h5, -⟩ := id h
  obtain ⟨m0, m2, m3, m4, m5⟩ := mTk_i (p := p) (j := j)
  have h8 := hw.1.1
  refine GS.run [] 1 rfl ?_
  refine GS.cV oX12_figures (c_figures (d + 3) σ p hp j h) rfl rfl rfl rfl rfl rfl rfl (Nat.le_of_ble_eq_true rfl) (by omega) ?_
  refine GS.run [] 3 rfl ?_
  rw [show σ 69 18 = 0 from hf]
  refine GS.run [] 0 rfl ?_
  refine GS.if_ne rfl (fun q => absurd (rfl) q) (fun c9 => ?_)
  refine GS.run [] 3 rfl ?_
  rw [h3]
  refine GS.run [] 0 rfl ?_
  refine GS.icmp_ne rfl (fun c17 => ?_) (fun c17 => ?_)
  · have k1 : ¬ tkC p j = 2 := fun q => c17 (by rw [m4.mpr q]; rfl)
    have hRN : rNum p (tN D - 1) j = rEnd p D o j := by unfold rNum rEnd; rw [if_neg k1, if_neg k1]
    refine GS.run [] 3 rfl ?_
    refine GS.if_eq rfl (fun c45 => ?_) (fun q => absurd (rfl) q)
    refine GS.run [] 1 rfl ?_
    refine GS.if_eq rfl (fun c72 => ?_) (fun q => absurd (rfl) q)
    refine GS.run [] 5 rfl ?_
    refine GS.ald (0) rfl rfl (rfl) (by omega) ?_
    rw [show σ 74 0 = nI (tN D) from hd.1.1]
    refine GS.run [] 2 rfl ?_
    rw [show nI (tN D) - 1 = nI (tN D - 1) from pk_sub (b := 1) (by omega)]
    refine GS.run [] 0 rfl ?_
    refine GS.callV oX12_number (c_numberN d σ p hp j (tN D - 1) h hf (by omega)) rfl rfl rfl rfl rfl rfl rfl (Nat.le_of_ble_eq_true rfl) (by omega) (fun v104 σ104 hq104 => ?_)
    obtain ⟨s104, m104⟩ := hq104
    rw [hRN] at m104
    rcases eR : rEnd p D o j with e | v
    · rw [eR] at m104
      obtain ⟨f104, x104, x, rfl⟩ := m104
      refine GS.iret rfl rfl rfl ?_
      refine ⟨s104, ?_⟩
      exact ⟨f104, x104, x, rfl⟩
    rw [eR] at m104
    obtain ⟨f104, p104, rfl⟩ := m104
    refine GS.run [] 0 rfl ?_
    refine GS.iret rfl rfl (rfl) ?_
    refine ⟨s104, ?_⟩
    exact ⟨f104, p104, rfl⟩
  · have k1 : tkC p j = 2 := m4.mp ((nI_eq (b := 3) (by omega) (by omega)).mp c17)
    obtain ⟨t1, t2, t3, t4, t5, t6⟩ := tkC_2 k1
    rw [if_pos k1]
    refine GS.run [] 6 rfl ?_
    refine GS.ald (0) rfl rfl (rfl) (by omega) ?_
    rw [show σ 74 0 = nI (tN D) from hd.1.1]
    refine GS.run [] 2 rfl ?_
    rw [show nI (tN D) - 1 = nI (tN D - 1) from pk_sub (b := 1) (by omega)]
    refine GS.run [] 0 rfl ?_
    refine GS.run [] 1 rfl ?_
    refine GS.cS oX12_in (c_inI (d + 3) σ (nI (numV p j)) 0 (nI (tN D - 1)).toInt64 (numV p j < tN D) (by rw [Int32.toInt_toInt64, nI_toInt (by omega), nI_toInt (by omega), show (0 : Int64).toInt = 0 from rfl]; omega)) rfl rfl rfl rfl (Nat.le_of_ble_eq_true rfl) (by omega) ?_
    refine GS.if_eq rfl (fun c35 => ?_) (fun c35 => ?_)
    · have kn : ¬ numV p j < tN D := am_b0.mp c35
      have hRN : rNum p (tN D - 1) j = rEnd p D o j := by unfold rNum rEnd; rw [if_pos k1, if_pos k1, if_pos (by omega), if_neg (fun q => kn q.1)]
      refine GS.run [] 3 rfl ?_
      refine GS.if_eq rfl (fun c45 => ?_) (fun q => absurd (rfl) q)
      refine GS.run [] 1 rfl ?_
      refine GS.if_eq rfl (fun c72 => ?_) (fun q => absurd (rfl) q)
      refine GS.run [] 5 rfl ?_
      refine GS.ald (0) rfl rfl (rfl) (by omega) ?_
      rw [show σ 74 0 = nI (tN D) from hd.1.1]
      refine GS.run [] 2 rfl ?_
      rw [show nI (tN D) - 1 = nI (tN D - 1) from pk_sub (b := 1) (by omega)]
      refine GS.run [] 0 rfl ?_
      refine GS.callV oX12_number (c_numberN d σ p hp j (tN D - 1) h hf (by omega)) rfl rfl rfl rfl rfl rfl rfl (Nat.le_of_ble_eq_true rfl) (by omega) (fun v104 σ104 hq104 => ?_)
      obtain ⟨s104, m104⟩ := hq104
      rw [hRN] at m104
      rcases eR : rEnd p D o j with e | v
      · rw [eR] at m104
        obtain ⟨f104, x104, x, rfl⟩ := m104
        refine GS.iret rfl rfl rfl ?_
        refine ⟨s104, ?_⟩
        exact ⟨f104, x104, x, rfl⟩
      rw [eR] at m104
      obtain ⟨f104, p104, rfl⟩ := m104
      refine GS.run [] 0 rfl ?_
      refine GS.iret rfl rfl (rfl) ?_
      refine ⟨s104, ?_⟩
      exact ⟨f104, p104, rfl⟩
    · have kn : numV p j < tN D := am_bT c35
      have ERR : jnB D o (numV p j) = true → rEnd p D o j = .error (2, tkS p j) := fun q => by unfold rEnd; rw [if_pos k1, if_neg (fun z => by rw [q] at z; exact absurd z.2 (by decide))]
      have OK1 : jnB D o (numV p j) = false → ¬ 6 ≤ tD D (numV p j) → rNum p (tN D - 1) j = rEnd p D o j := fun q k3 => by unfold rNum rEnd; rw [if_pos k1, if_pos k1, if_neg (show ¬ tN D - 1 < numV p j by omega), if_pos ⟨kn, q⟩, if_neg k3]
      have OK3 : jnB D o (numV p j) = false → 6 ≤ tD D (numV p j) → rEnd p D o j = .error (3, tkS p j) := fun q k3 => by unfold rEnd; rw [if_pos k1, if_pos ⟨kn, q⟩, if_pos k3]
      have h6v := wfD_6 hw (numV p j) (by omega)
      refine GS.run [] 4 rfl ?_
      refine GS.if_eq rfl (fun q => absurd q (by decide)) (fun c45 => ?_)
      refine GS.run [] 1 rfl ?_
      rcases o with _ | a
      · have hJ : jnB D none (numV p j) = false := rfl
        refine GS.if_lt rfl (fun c49 => ?_) (fun q => absurd (by decide) q)
        refine GS.run [] 1 rfl ?_
        refine GS.if_eq rfl (fun q => absurd q (by decide)) (fun c72 => ?_)
        refine GS.run [] 5 rfl ?_
        refine GS.ald (38 + numV p j) rfl rfl (he_38) (by omega) ?_
        rw [hd.2 _ (by omega)]
        refine GS.run [] 1 rfl ?_
        refine GS.icmp_ne rfl (fun c86 => ?_) (fun c86 => ?_)
        · have k3 : ¬ tD D (numV p j) = 6 := fun q => c86 (by rw [q]; rfl)
          have hRN := OK1 hJ (by omega)
          refine GS.run [] 5 rfl ?_
          refine GS.ald (0) rfl rfl (rfl) (by omega) ?_
          rw [show σ 74 0 = nI (tN D) from hd.1.1]
          refine GS.run [] 2 rfl ?_
          rw [show nI (tN D) - 1 = nI (tN D - 1) from pk_sub (b := 1) (by omega)]
          refine GS.run [] 0 rfl ?_
          refine GS.callV oX12_number (c_numberN d σ p hp j (tN D - 1) h hf (by omega)) rfl rfl rfl rfl rfl rfl rfl (Nat.le_of_ble_eq_true rfl) (by omega) (fun v104 σ104 hq104 => ?_)
          obtain ⟨s104, m104⟩ := hq104
          rw [hRN] at m104
          rcases eR : rEnd p D none j with e | v
          · rw [eR] at m104
            obtain ⟨f104, x104, x, rfl⟩ := m104
            refine GS.iret rfl rfl rfl ?_
            refine ⟨s104, ?_⟩
            exact ⟨f104, x104, x, rfl⟩
          rw [eR] at m104
          obtain ⟨f104, p104, rfl⟩ := m104
          refine GS.run [] 0 rfl ?_
          refine GS.iret rfl rfl (rfl) ?_
          refine ⟨s104, ?_⟩
          exact ⟨f104, p104, rfl⟩
        · have k3 : tD D (numV p j) = 6 := (nI_eq (b := 6) (by omega) (by omega)).mp c86
          have hR := OK3 hJ (by omega)
          refine GS.run [] 2 rfl ?_
          refine GS.callV oX12_bad (c_badN (d + 4) σ p j 3 h hf (by decide)) rfl rfl rfl rfl rfl rfl rfl (Nat.le_of_ble_eq_true rfl) (by omega) (fun v91 σ91 hq91 => ?_)
          obtain ⟨rfl, f91, s91⟩ := hq91
          have h91 := h.kept s91 (by decide) (by decide)
          refine GS.run [] 5 rfl ?_
          refine GS.ald (0) rfl rfl (rfl) (by omega) ?_
          refine GS.run [] 2 rfl ?_
          refine GS.cV oX12_number (c_numberF d σ91 _ 0 _ f91) rfl rfl rfl rfl rfl rfl rfl (Nat.le_of_ble_eq_true rfl) (by omega) ?_
          refine GS.iret rfl rfl (rfl) ?_
          refine ⟨s91.sub (by decide) (by decide), ?_⟩
          rw [hR]
          exact ⟨f91, ⟨j, h91⟩, _, rfl⟩
      · have haN := ho a rfl
        refine GS.if_lt rfl (fun q => absurd q (Int32.not_lt.mpr (nI_pos' (by omega)))) (fun c49 => ?_)
        refine GS.run [] 2 rfl ?_
        refine GS.icmp_eq rfl (fun c54 => ?_) (fun c54 => ?_)
        · have hR : rEnd p D (some a) j = .error (2, tkS p j) := ERR (by
            have : a = numV p j := ((nI_eq (by omega) (by omega)).mp c54).symm
            show (decide (a = numV p j) || adB D a (numV p j)) = true
            rw [decide_eq_true this]; rfl)
          refine GS.run [] 2 rfl ?_
          refine GS.callV oX12_bad (c_badN (d + 4) σ p j 2 h hf (by decide)) rfl rfl rfl rfl rfl rfl rfl (Nat.le_of_ble_eq_true rfl) (by omega) (fun v68 σ68 hq68 => ?_)
          obtain ⟨rfl, f68, s68⟩ := hq68
          have h68 := h.kept s68 (by decide) (by decide)
          have hd68 := hd.kept s68 (by decide)
          refine GS.run [] 1 rfl ?_
          refine GS.if_eq rfl (fun q => absurd q (by decide)) (fun c72 => ?_)
          refine GS.run [] 5 rfl ?_
          refine GS.ald (38 + numV p j) rfl rfl (he_38) (by omega) ?_
          rw [hd68.2 _ (by omega)]
          refine GS.run [] 1 rfl ?_
          refine GS.icmp_ne rfl (fun c86 => ?_) (fun c86 => ?_)
          · refine GS.run [] 5 rfl ?_
            refine GS.ald (0) rfl rfl (rfl) (by omega) ?_
            refine GS.run [] 2 rfl ?_
            refine GS.cV oX12_number (c_numberF d σ68 _ 0 _ f68) rfl rfl rfl rfl rfl rfl rfl (Nat.le_of_ble_eq_true rfl) (by omega) ?_
            refine GS.iret rfl rfl (rfl) ?_
            refine ⟨s68.sub (by decide) (by decide), ?_⟩
            rw [hR]
            exact ⟨f68, ⟨j, h68⟩, _, rfl⟩
          · refine GS.run [] 2 rfl ?_
            refine GS.cV oX12_bad (c_badF (d + 4) σ68 _ 3 f68) rfl rfl rfl rfl rfl rfl rfl (Nat.le_of_ble_eq_true rfl) (by omega) ?_
            refine GS.run [] 5 rfl ?_
            refine GS.ald (0) rfl rfl (rfl) (by omega) ?_
            refine GS.run [] 2 rfl ?_
            refine GS.cV oX12_number (c_numberF d σ68 _ 0 _ f68) rfl rfl rfl rfl rfl rfl rfl (Nat.le_of_ble_eq_true rfl) (by omega) ?_
            refine GS.iret rfl rfl (rfl) ?_
            refine ⟨s68.sub (by decide) (by decide), ?_⟩
            rw [hR]
            exact ⟨f68, ⟨j, h68⟩, _, rfl⟩
        · have hne : ¬ a = numV p j := fun q => c54 (by rw [← q]; rfl)
          refine GS.run [] 3 rfl ?_
          refine GS.cV oX12_isJoined (c_isJoinedM (d + 4) σ D a (numV p j) hd hw.1 haN (by omega)) rfl rfl rfl rfl rfl rfl rfl (Nat.le_of_ble_eq_true rfl) (by omega) ?_
          refine GS.if_eq rfl (fun c63 => ?_) (fun c63 => ?_)
          · have hJ : jnB D (some a) (numV p j) = false := by
              show (decide (a = numV p j) || adB D a (numV p j)) = false
              rw [decide_eq_false hne, bI0.mp c63]; rfl
            refine GS.run [] 1 rfl ?_
            refine GS.if_eq rfl (fun q => absurd q (by decide)) (fun c72 => ?_)
            refine GS.run [] 5 rfl ?_
            refine GS.ald (38 + numV p j) rfl rfl (he_38) (by omega) ?_
            rw [hd.2 _ (by omega)]
            refine GS.run [] 1 rfl ?_
            refine GS.icmp_ne rfl (fun c86 => ?_) (fun c86 => ?_)
            · have k3 : ¬ tD D (numV p j) = 6 := fun q => c86 (by rw [q]; rfl)
              have hRN := OK1 hJ (by omega)
              refine GS.run [] 5 rfl ?_
              refine GS.ald (0) rfl rfl (rfl) (by omega) ?_
              rw [show σ 74 0 = nI (tN D) from hd.1.1]
              refine GS.run [] 2 rfl ?_
              rw [show nI (tN D) - 1 = nI (tN D - 1) from pk_sub (b := 1) (by omega)]
              refine GS.run [] 0 rfl ?_
              refine GS.callV oX12_number (c_numberN d σ p hp j (tN D - 1) h hf (by omega)) rfl rfl rfl rfl rfl rfl rfl (Nat.le_of_ble_eq_true rfl) (by omega) (fun v104 σ104 hq104 => ?_)
              obtain ⟨s104, m104⟩ := hq104
              rw [hRN] at m104
              rcases eR : rEnd p D (some a) j with e | v
              · rw [eR] at m104
                obtain ⟨f104, x104, x, rfl⟩ := m104
                refine GS.iret rfl rfl rfl ?_
                refine ⟨s104, ?_⟩
                exact ⟨f104, x104, x, rfl⟩
              rw [eR] at m104
              obtain ⟨f104, p104, rfl⟩ := m104
              refine GS.run [] 0 rfl ?_
              refine GS.iret rfl rfl (rfl) ?_
              refine ⟨s104, ?_⟩
              exact ⟨f104, p104, rfl⟩
            · have k3 : tD D (numV p j) = 6 := (nI_eq (b := 6) (by omega) (by omega)).mp c86
              have hR := OK3 hJ (by omega)
              refine GS.run [] 2 rfl ?_
              refine GS.callV oX12_bad (c_badN (d + 4) σ p j 3 h hf (by decide)) rfl rfl rfl rfl rfl rfl rfl (Nat.le_of_ble_eq_true rfl) (by omega) (fun v91 σ91 hq91 => ?_)
              obtain ⟨rfl, f91, s91⟩ := hq91
              have h91 := h.kept s91 (by decide) (by decide)
              refine GS.run [] 5 rfl ?_
              refine GS.ald (0) rfl rfl (rfl) (by omega) ?_
              refine GS.run [] 2 rfl ?_
              refine GS.cV oX12_number (c_numberF d σ91 _ 0 _ f91) rfl rfl rfl rfl rfl rfl rfl (Nat.le_of_ble_eq_true rfl) (by omega) ?_
              refine GS.iret rfl rfl (rfl) ?_
              refine ⟨s91.sub (by decide) (by decide), ?_⟩
              rw [hR]
              exact ⟨f91, ⟨j, h91⟩, _, rfl⟩
          · have hR : rEnd p D (some a) j = .error (2, tkS p j) := ERR (by
              show (decide (a = numV p j) || adB D a (numV p j)) = true
              rw [bI1.mp c63, Bool.or_true])
            refine GS.run [] 2 rfl ?_
            refine GS.callV oX12_bad (c_badN (d + 4) σ p j 2 h hf (by decide)) rfl rfl rfl rfl rfl rfl rfl (Nat.le_of_ble_eq_true rfl) (by omega) (fun v68 σ68 hq68 => ?_)
            obtain ⟨rfl, f68, s68⟩ := hq68
            have h68 := h.kept s68 (by decide) (by decide)
            have hd68 := hd.kept s68 (by decide)
            refine GS.run [] 1 rfl ?_
            refine GS.if_eq rfl (fun q => absurd q (by decide)) (fun c72 => ?_)
            refine GS.run [] 5 rfl ?_
            refine GS.ald (38 + numV p j) rfl rfl (he_38) (by omega) ?_
            rw [hd68.2 _ (by omega)]
            refine GS.run [] 1 rfl ?_
            refine GS.icmp_ne rfl (fun c86 => ?_) (fun c86 => ?_)
            · refine GS.run [] 5 rfl ?_
              refine GS.ald (0) rfl rfl (rfl) (by omega) ?_
              refine GS.run [] 2 rfl ?_
              refine GS.cV oX12_number (c_numberF d σ68 _ 0 _ f68) rfl rfl rfl rfl rfl rfl rfl (Nat.le_of_ble_eq_true rfl) (by omega) ?_
              refine GS.iret rfl rfl (rfl) ?_
              refine ⟨s68.sub (by decide) (by decide), ?_⟩
              rw [hR]
              exact ⟨f68, ⟨j, h68⟩, _, rfl⟩
            · refine GS.run [] 2 rfl ?_
              refine GS.cV oX12_bad (c_badF (d + 4) σ68 _ 3 f68) rfl rfl rfl rfl rfl rfl rfl (Nat.le_of_ble_eq_true rfl) (by omega) ?_
              refine GS.run [] 5 rfl ?_
              refine GS.ald (0) rfl rfl (rfl) (by omega) ?_
              refine GS.run [] 2 rfl ?_
              refine GS.cV oX12_number (c_numberF d σ68 _ 0 _ f68) rfl rfl rfl rfl rfl rfl rfl (Nat.le_of_ble_eq_true rfl) (by omega) ?_
              refine GS.iret rfl rfl (rfl) ?_
              refine ⟨s68.sub (by decide) (by decide), ?_⟩
              rw [hR]
              exact ⟨f68, ⟨j, h68⟩, _, rfl⟩
def rStrM (p : Tp) (D : Tn) (j : Nat) : Er (Tn × Nat) := if tS D = 12 then .error (3, tkS p j) else rStr p D (j + 1)
theorem c_mreadStreet (d : Nat) (σ : am_S) (p : Tp) (hp : wfP p) (j : Nat) (D : Tn) (h : pcM σ p j) (hf : ftM σ none) (hn : isNm p 9 j) (hd : dftM σ D) (hw0 : wfD D) (h2 : 2 ≤ tN D) : CallS mX12_readStreet (d + 6) [.ref 69] σ (roQ (rStrM p D j) [74] [14, 15, 16, 17, 18, 19] p (fun q => q.2) (fun q r σ' => r = none ∧ dftM σ' q.1 ∧ wfD q.1 ∧ tN q.1 = tN D ∧ tS q.1 = tS D + 1) (fun r => r = none) σ) := by
  refine CallS.of kX12_readStreet pX12_readStreet [.ref 69, .retAddr 0, .retAddr 0] rfl (Nat.le_of_ble_eq_true rfl) ?_
  have h8 := hw0.1.1
  have h12 := hw0.1.2.1
  refine GS.run [] 3 rfl ?_
  refine GS.callV oX12_begins (c_mbegins (d + 2) σ p hp j 1 (tS D) 12 h hf (by rw [hn.1]; decide) (by decide) hd.1.2.1 (by omega) (by decide)) rfl rfl rfl rfl rfl rfl rfl (Nat.le_of_ble_eq_true rfl) (by omega) (fun v4 σ4 hq4 => ?_)
  obtain ⟨s4, m4⟩ := hq4
  rcases e4 : rBeg p j (tS D) 12 with e | u
  · rw [e4] at m4
    obtain ⟨f4, ⟨je, p4⟩, rfl⟩ := m4
    have hR : rStrM p D j = .error e := by
      unfold rBeg at e4
      by_cases q : tS D = 12
      · rw [if_pos q] at e4; cases e4; exact if_pos q
      · rw [if_neg q] at e4; cases e4
    refine GS.run [] 2 rfl ?_
    refine GS.cV oX12_end (c_endF d σ4 p hp je e (-1) p4 f4) rfl rfl rfl rfl rfl rfl rfl (Nat.le_of_ble_eq_true rfl) (by omega) ?_
    refine GS.run [] 4 rfl ?_
    refine GS.if_ne rfl (fun c18 => ?_) (fun q => absurd q (f4.ne))
    refine GS.run [] 1 rfl ?_
    refine GS.cV oX12_end (c_endF d σ4 p hp je e (-1) p4 f4) rfl rfl rfl rfl rfl rfl rfl (Nat.le_of_ble_eq_true rfl) (by omega) ?_
    refine GS.run [] 2 rfl ?_
    refine GS.cV oX12_mustEnd (c_mustEndF (d + 1) σ4 e f4) rfl rfl rfl rfl rfl rfl rfl (Nat.le_of_ble_eq_true rfl) (by omega) ?_
    refine GS.run [] 2 rfl ?_
    refine GS.if_ne rfl (fun c38 => ?_) (fun q => absurd q (f4.ne))
    refine GS.vret rfl rfl ?_
    refine ⟨s4.sub (by decide) (by decide), ?_⟩
    rw [hR]
    exact ⟨f4, ⟨je, p4⟩, rfl⟩
  · rw [e4] at m4
    obtain ⟨f4, p4, rfl⟩ := m4
    have hl : tS D < 12 := by
      unfold rBeg at e4
      by_cases q : tS D = 12
      · rw [if_pos q] at e4; cases e4
      · omega
    have hR0 : rStrM p D j = rStr p D (j + 1) := if_neg (by omega)
    have hd4 := hd.kept s4 (by decide)
    refine GS.run [] 2 rfl ?_
    refine GS.callV oX12_end (c_endN d σ4 p hp (j + 1) D none p4 f4 hd4 hw0 h2 (fun a q => by cases q)) rfl rfl rfl rfl rfl rfl rfl (Nat.le_of_ble_eq_true rfl) (by omega) (fun v9 σ9 hq9 => ?_)
    obtain ⟨s9, m9⟩ := hq9
    have t9 := s4.trans s9
    rcases e9 : rEnd p D none (j + 1) with e | a
    · rw [e9] at m9
      obtain ⟨f9, ⟨je, p9⟩, x, rfl⟩ := m9
      have hR : rStrM p D j = .error e := by rw [hR0]; unfold rStr; rw [e9]
      refine GS.run [] 4 rfl ?_
      refine GS.if_ne rfl (fun c18 => ?_) (fun q => absurd q (f9.ne))
      refine GS.run [] 1 rfl ?_
      refine GS.cV oX12_end (c_endF d σ9 p hp je e (-1) p9 f9) rfl rfl rfl rfl rfl rfl rfl (Nat.le_of_ble_eq_true rfl) (by omega) ?_
      refine GS.run [] 2 rfl ?_
      refine GS.cV oX12_mustEnd (c_mustEndF (d + 1) σ9 e f9) rfl rfl rfl rfl rfl rfl rfl (Nat.le_of_ble_eq_true rfl) (by omega) ?_
      refine GS.run [] 2 rfl ?_
      refine GS.if_ne rfl (fun c38 => ?_) (fun q => absurd q (f9.ne))
      refine GS.vret rfl rfl ?_
      refine ⟨t9.sub (by decide) (by decide), ?_⟩
      rw [hR]
      exact ⟨f9, ⟨je, p9⟩, rfl⟩
    · rw [e9] at m9
      obtain ⟨f9, p9, rfl⟩ := m9
      obtain ⟨n9, -, ha, -, ha6⟩ := rEnd_ok e9
      have hd9 := hd.kept t9 (by decide)
      refine GS.run [] 4 rfl ?_
      rw [show σ9 69 18 = 0 from f9]
      refine GS.run [] 0 rfl ?_
      refine GS.if_ne rfl (fun q => absurd (rfl) q) (fun c18 => ?_)
      refine GS.run [] 2 rfl ?_
      refine GS.callV oX12_end (c_endN d σ9 p hp (j + 2) D (some a) p9 f9 hd9 hw0 h2 (fun x q => by cases q; exact ha)) rfl rfl rfl rfl rfl rfl rfl (Nat.le_of_ble_eq_true rfl) (by omega) (fun v26 σ26 hq26 => ?_)
      obtain ⟨s26, m26⟩ := hq26
      have t26 := t9.trans s26
      rcases e26 : rEnd p D (some a) (j + 2) with e | b
      · rw [e26] at m26
        obtain ⟨f26, ⟨je, p26⟩, x, rfl⟩ := m26
        have hR : rStrM p D j = .error e := by rw [hR0]; unfold rStr; simp only [e9, e26]
        refine GS.run [] 2 rfl ?_
        refine GS.cV oX12_mustEnd (c_mustEndF (d + 1) σ26 e f26) rfl rfl rfl rfl rfl rfl rfl (Nat.le_of_ble_eq_true rfl) (by omega) ?_
        refine GS.run [] 2 rfl ?_
        refine GS.if_ne rfl (fun c38 => ?_) (fun q => absurd q (f26.ne))
        refine GS.vret rfl rfl ?_
        refine ⟨t26.sub (by decide) (by decide), ?_⟩
        rw [hR]
        exact ⟨f26, ⟨je, p26⟩, rfl⟩
      · rw [e26] at m26
        obtain ⟨f26, p26, rfl⟩ := m26
        obtain ⟨n26, -, hb, hjn, hb6⟩ := rEnd_ok e26
        have hjn : (decide (a = b) || adB D a b) = false := hjn
        rw [Bool.or_eq_false_iff] at hjn
        have hab : a ≠ b := of_decide_eq_false hjn.1
        refine GS.run [] 2 rfl ?_
        refine GS.callV oX12_mustEnd (c_mustEndN (d + 1) σ26 p hp (j + 3) p26 f26) rfl rfl rfl rfl rfl rfl rfl (Nat.le_of_ble_eq_true rfl) (by omega) (fun v31 σ31 hq31 => ?_)
        obtain ⟨s31, m31⟩ := hq31
        have t31 := t26.trans s31
        rcases e31 : rSig p (j + 3) with e | u
        · rw [e31] at m31
          obtain ⟨f31, ⟨je, p31⟩, rfl⟩ := m31
          have hR : rStrM p D j = .error e := by rw [hR0]; unfold rStr; simp only [e9, e26, e31]
          refine GS.run [] 2 rfl ?_
          refine GS.if_ne rfl (fun c38 => ?_) (fun q => absurd q (f31.ne))
          refine GS.vret rfl rfl ?_
          refine ⟨t31.sub (by decide) (by decide), ?_⟩
          rw [hR]
          exact ⟨f31, ⟨je, p31⟩, rfl⟩
        · rw [e31] at m31
          obtain ⟨f31, p31, rfl⟩ := m31
          have hR : rStrM p D j = .ok (tAddS D a b, j + 4) := by rw [hR0]; unfold rStr; simp only [e9, e26, e31]
          have hd31 := hd.kept t31 (by decide)
          have vA := hd31.2 a (by omega)
          have vB := hd31.2 b (by omega)
          have vS : σ31 74 1 = nI (tS D) := hd31.1.2.1
          have sE : ∀ g, sameM [74] [] σ31 (am_s1 σ31 74 g) := fun g => sameM.rf.cell (by decide) (by decide)
          refine GS.run [] 2 rfl ?_
          rw [show σ31 69 18 = 0 from f31]
          refine GS.run [] 0 rfl ?_
          refine GS.if_ne rfl (fun q => absurd (rfl) q) (fun c38 => ?_)
          refine GS.run [] 12 rfl ?_
          refine GS.ald (38 + a) rfl rfl (he_38) (by omega) ?_
          rw [vA]
          refine GS.run [] 2 rfl ?_
          refine GS.ast (50 + 6 * a + tD D a) rfl rfl (he_to) (by omega) ?_
          refine GS.run [] 12 rfl ?_
          refine GS.ald (38 + b) rfl rfl (he_38) (by omega) ?_
          rw [am_s1_eq, upd_ne _ _ (by omega), vB]
          refine GS.run [] 2 rfl ?_
          refine GS.ast (50 + 6 * b + tD D b) rfl rfl (he_to) (by omega) ?_
          rw [am_s1_s1, am_s1_eq]
          refine GS.run [] 6 rfl ?_
          refine GS.ald (38 + a) rfl rfl (he_38) (by omega) ?_
          rw [am_s1_eq, upd_ne _ _ (by omega), upd_ne _ _ (by omega), vA]
          refine GS.run [] 2 rfl ?_
          rw [nI_1]
          refine GS.run [] 0 rfl ?_
          refine GS.ast (38 + a) rfl rfl (he_38) (by omega) ?_
          rw [am_s1_s1, am_s1_eq]
          refine GS.run [] 6 rfl ?_
          refine GS.ald (38 + b) rfl rfl (he_38) (by omega) ?_
          rw [am_s1_eq, upd_ne _ _ (by omega), upd_ne _ _ (by omega), upd_ne _ _ (by omega), vB]
          refine GS.run [] 2 rfl ?_
          rw [nI_1]
          refine GS.run [] 0 rfl ?_
          refine GS.ast (38 + b) rfl rfl (he_38) (by omega) ?_
          rw [am_s1_s1, am_s1_eq]
          refine GS.run [] 4 rfl ?_
          refine GS.ald (1) rfl rfl (rfl) (by omega) ?_
          rw [am_s1_eq, upd_ne _ _ (by omega), upd_ne _ _ (by omega), upd_ne _ _ (by omega), upd_ne _ _ (by omega), vS]
          refine GS.run [] 2 rfl ?_
          rw [nI_1]
          refine GS.run [] 0 rfl ?_
          refine GS.ast (1) rfl rfl (rfl) (by omega) ?_
          rw [am_s1_s1, am_s1_eq]
          refine GS.vret rfl rfl ?_
          refine ⟨(t31.sub (by decide) (by decide)).cell (by decide) (by decide), ?_⟩
          rw [hR]
          exact ⟨f31.kept (sE _) (by decide), p31.kept (sE _) (by decide) (by decide), rfl, dftM_S hd31 hw0 ha hb hab ha6 hb6 (by rw [am_s1_eq]), wfD_S hw0 hl ha hb hab hjn.2 ha6 hb6, rfl, rfl⟩
def eRes (r : Er Unit) (good : Int32) : Int32 := match r with
  | .ok _ => good
  | .error e => -1000100 - nI e.2
theorem c_endsF (d : Nat) (σ : am_S) (e : Nat × Nat) (v : Int32) (hf : ftM σ (some e)) : CallS mX12_ends (d + 1) [.ref 69, .int v] σ (fun r σ' => r = some (.int (-1000100 - nI e.2)) ∧ σ' 69 12 = nI e.1 ∧ sameM [] [12] σ σ') := by
  refine CallS.of kX12_ends pX12_ends [.ref 69, .int v] rfl (Nat.le_of_ble_eq_true rfl) ?_
  refine GS.run [] 2 rfl ?_
  refine GS.if_ne rfl (fun c4 => ?_) (fun q => absurd q (hf.ne))
  refine GS.run [] 2 rfl ?_
  refine GS.if_le rfl (fun q => absurd q (hf.gt)) (fun c24 => ?_)
  refine GS.run [] 3 rfl ?_
  rw [hf.1]
  refine GS.run [] 0 rfl ?_
  refine GS.run [] 4 rfl ?_
  rw [show (am_s1 σ 69 (upd (σ 69) 12 (nI e.1))) 69 19 = nI e.2 from hf.2.1]
  refine GS.run [] 0 rfl ?_
  refine GS.run [] 1 rfl ?_
  refine GS.iret rfl rfl (rfl) ?_
  exact ⟨rfl, by rw [sM_f, if_pos rfl], sameM.rf.fld (by decide)⟩
theorem c_endsN (d : Nat) (σ : am_S) (p : Tp) (j : Nat) (v : Int32) (h : pcM σ p j) (hf : ftM σ none) : CallS mX12_ends (d + 1) [.ref 69, .int v] σ (fun r σ' => (tkC p j = 0 ∧ r = some (.int v) ∧ σ' = σ) ∨ (¬ tkC p j = 0 ∧ r = some (.int (-1000100 - nI (tkS p j))) ∧ σ' 69 12 = 1 ∧ sameM [] [12, 18, 19] σ σ')) := by
  refine CallS.of kX12_ends pX12_ends [.ref 69, .int v] rfl (Nat.le_of_ble_eq_true rfl) ?_
  obtain ⟨-, -, h3, h4, h5, -⟩ := id h
  obtain ⟨m0, m2, m3, m4, m5⟩ := mTk_i (p := p) (j := j)
  refine GS.run [] 2 rfl ?_
  rw [show σ 69 18 = 0 from hf]
  refine GS.run [] 0 rfl ?_
  refine GS.if_ne rfl (fun q => absurd (rfl) q) (fun c4 => ?_)
  refine GS.run [] 3 rfl ?_
  rw [h3]
  refine GS.run [] 0 rfl ?_
  refine GS.icmp_eq rfl (fun c12 => ?_) (fun c12 => ?_)
  · have k0 : tkC p j = 0 := m2.mp ((nI_eq (b := 1) (by omega) (by omega)).mp c12)
    refine GS.run [] 2 rfl ?_
    rw [show σ 69 18 = 0 from hf]
    refine GS.run [] 0 rfl ?_
    refine GS.if_le rfl (fun c24 => ?_) (fun q => absurd (by decide) q)
    refine GS.run [] 1 rfl ?_
    refine GS.iret rfl rfl (rfl) ?_
    exact Or.inl ⟨k0, rfl, rfl⟩
  · have k0 : ¬ tkC p j = 0 := fun q => c12 (by rw [m2.mpr q]; rfl)
    refine GS.run [] 2 rfl ?_
    refine GS.callV oX12_bad (c_badN d σ p j 1 h hf (by decide)) rfl rfl rfl rfl rfl rfl rfl (Nat.le_of_ble_eq_true rfl) (by omega) (fun v17 σ17 hq17 => ?_)
    obtain ⟨rfl, f17, s17⟩ := hq17
    refine GS.run [] 2 rfl ?_
    refine GS.if_le rfl (fun q => absurd q (f17.gt)) (fun c24 => ?_)
    refine GS.run [] 3 rfl ?_
    rw [show σ17 69 18 = 1 from f17.1]
    refine GS.run [] 0 rfl ?_
    refine GS.run [] 4 rfl ?_
    rw [show (am_s1 σ17 69 (upd (σ17 69) 12 1)) 69 19 = nI (tkS p j) from f17.2.1]
    refine GS.run [] 0 rfl ?_
    refine GS.run [] 1 rfl ?_
    refine GS.iret rfl rfl (rfl) ?_
    exact Or.inr ⟨k0, rfl, by rw [sM_f, if_pos rfl], (s17.sub (by decide) (by decide)).fld (by decide)⟩
