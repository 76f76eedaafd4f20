/-- what reading gives: the fault's fields, or what was read -/
def tdQ {A : Type} (R : Er A) (L : List Nat) (good : A → am_S → Prop) (σ : am_S) : Option Value → am_S → Prop := fun r σ' => same L σ σ' ∧ match R with
  | .ok a => r = some (.int 1) ∧ good a σ' ∧ σ' 5 8 = σ 5 8
  | .error e => r = some (.int 0) ∧ σ' 5 8 = nI e.1 ∧ σ' 5 9 = nI e.2
theorem c_tempty (d : Nat) (σ : am_S) : CallS mX7_empty d [.ref 5] σ (am_det none (am_s1 σ 5 (upd (σ 5) 1 0))) := by
  refine CallS.of kX7_empty pX7_empty [.ref 5] rfl (Nat.le_of_ble_eq_true rfl) ?_
  refine GS.run [] 3 rfl ?_
  refine GS.vret rfl rfl ?_
  exact ⟨rfl, rfl⟩
theorem c_faultPlace (d : Nat) (σ : am_S) : CallS mX7_faultPlace d [.ref 5] σ (am_det (some (.int (σ 5 9))) σ) := by
  refine CallS.of kX7_faultPlace pX7_faultPlace [.ref 5] rfl (Nat.le_of_ble_eq_true rfl) ?_
  refine GS.run [] 2 rfl ?_
  refine GS.iret rfl rfl rfl ?_
  exact ⟨rfl, rfl⟩
theorem c_readTown (d : Nat) (σ : am_S) (p : Tp) (ht : tapeV 5 1 6 σ p) (hp : wfP p) : CallS mX7_readTown (d + 9) [.ref 5, .ref 17] σ (tdQ (rTown p) [5, 7, 8, 9, 17, 18, 19, 20, 21, 22, 23] (fun D σ' => dftC σ' D ∧ wfD D ∧ 2 ≤ tN D) σ) := by
  refine CallS.of kX7_readTown pX7_readTown [.ref 5, .ref 17] rfl (Nat.le_of_ble_eq_true rfl) ?_
  refine GS.run [] 1 rfl ?_
  refine GS.callV oX8_clear (c_clearT (d + 7) σ) rfl rfl rfl rfl rfl rfl rfl (Nat.le_of_ble_eq_true rfl) (by omega) (fun v1 σ1 hq1 => ?_)
  obtain ⟨rfl, d1, s1⟩ := hq1
  have ht1 : tapeV 5 1 6 σ1 p := by
    refine ⟨?_, fun i hi => ?_⟩
    · rw [s1 5 (by decide)]; exact ht.1
    · rw [s1 6 (by decide)]; exact ht.2 i hi
  refine GS.run [] 1 rfl ?_
  refine GS.callV oX7_cut (c_cut d σ1 p ht1 hp) rfl rfl rfl rfl rfl rfl rfl (Nat.le_of_ble_eq_true rfl) (by omega) (fun v5 σ5 hq5 => ?_)
  obtain ⟨rfl, k5, t5, f5, s5⟩ := hq5
  have h0 : pcC σ5 p 0 := ⟨k5, t5, fun i hi => absurd hi (Nat.not_lt_zero _)⟩
  have sT : same [5, 7, 8, 9, 17, 18, 19, 20, 21, 22, 23] σ σ5 := (s1.sub (by decide)).trans (s5.sub (by decide))
  have e8 : σ5 5 8 = σ 5 8 := (f5 8 (by decide) (by decide)).trans (congrFun (s1 5 (by decide)) 8)
  have hd5 := d1.kept s5 (by decide)
  refine GS.run [] 2 rfl ?_
  refine GS.callV oX7_readCorners (c_readCorners (d + 1) σ5 p hp h0 hd5) rfl rfl rfl rfl rfl rfl rfl (Nat.le_of_ble_eq_true rfl) (by omega) (fun v10 σ10 hq10 => ?_)
  skip
  rcases e10 : rCs p 8 tn0 0 with e | q
  · rw [e10] at hq10
    obtain ⟨rfl, f10⟩ := hq10
    have hE : rTown p = .error e := by unfold rTown; rw [e10]
    refine GS.if_eq rfl (fun c13 => ?_) (fun q => absurd (rfl) q)
    refine GS.run [] 1 rfl ?_
    refine GS.iret rfl rfl (rfl) ?_
    refine ⟨sT.trans (f10.1.sub (by decide)), ?_⟩
    rw [hE]
    exact ⟨rfl, f10.2.2⟩
  · rw [e10] at hq10
    obtain ⟨rfl, f10, g10, d10, w10, n10, t10⟩ := hq10
    refine GS.if_eq rfl (fun q => absurd q (by decide)) (fun c13 => ?_)
    refine GS.run [] 2 rfl ?_
    refine GS.callV oX7_readStreets (c_readStreets (d + 1) σ10 p hp q.1 q.2 g10 d10 w10 t10) rfl rfl rfl rfl rfl rfl rfl (Nat.le_of_ble_eq_true rfl) (by omega) (fun v18 σ18 hq18 => ?_)
    skip
    have hE0 : rTown p = rSs p 12 q.1 q.2 := by unfold rTown; rw [e10]
    rcases e18 : rSs p 12 q.1 q.2 with e | D
    · rw [e18] at hq18 hE0
      obtain ⟨rfl, f18⟩ := hq18
      refine GS.if_eq rfl (fun c21 => ?_) (fun q => absurd (rfl) q)
      refine GS.run [] 1 rfl ?_
      refine GS.iret rfl rfl (rfl) ?_
      refine ⟨(sT.trans (f10.1.sub (by decide))).trans (f18.1.sub (by decide)), ?_⟩
      rw [hE0]
      exact ⟨rfl, f18.2.2⟩
    · rw [e18] at hq18 hE0
      obtain ⟨rfl, f18, d18, w18, n18⟩ := hq18
      refine GS.if_eq rfl (fun q => absurd q (by decide)) (fun c21 => ?_)
      refine GS.run [] 2 rfl ?_
      refine GS.iret rfl rfl (rfl) ?_
      refine ⟨(sT.trans (f10.1.sub (by decide))).trans (f18.1.sub (by decide)), ?_⟩
      rw [hE0]
      exact ⟨rfl, ⟨d18, w18, by omega⟩, (f18.2 8 (by decide) (by decide)).trans ((f10.2 8 (by decide) (by decide)).trans e8)⟩
def qTown (p : Tp) (t : Tn) (f : Int32) : Int32 × Tn × Int32 := match rTown p with
  | .ok D => (nI (tN D), D, f)
  | .error e => (-1000100 - nI e.2, t, nI e.1)
theorem qTown_e {p : Tp} {t : Tn} {f : Int32} {e : Nat × Nat} (h : rTown p = .error e) : qTown p t f = (-1000100 - nI e.2, t, nI e.1) := by unfold qTown; rw [h]
theorem qTown_o {p : Tp} {t : Tn} {f : Int32} {D : Tn} (h : rTown p = .ok D) : qTown p t f = (nI (tN D), D, f) := by unfold qTown; rw [h]
theorem layC.kept {L : List Nat} {σ σ' : am_S} {t : Tn} (h : layC σ t) (hs : same L σ σ') (h1 : 64 ∉ L) (h2 : 66 ∉ L) : layC σ' t := by
  unfold layC layOK
  rw [hs 64 h1, hs 66 h2]
  exact h
theorem p_town_c (d : Nat) (σ : am_S) (p : Tp) (t : Tn) (f : Int32) (hp : tapeV 5 1 6 σ p) (hpw : wfP p) (ht : townC 10 σ t) (hf : σ 5 8 = f) : CallS mX11_town (d + 10) [.ref 0] σ (fun r σ' => r = some (.int (qTown p t f).1) ∧ townC 10 σ' (qTown p t f).2.1 ∧ tapeV 5 1 6 σ' (0, p.2) ∧ σ' 5 8 = (qTown p t f).2.2 ∧ (layC σ t → layC σ' (qTown p t f).2.1) ∧ same [5, 7, 8, 9, 10, 11, 12, 13, 14, 15, 16, 17, 18, 19, 20, 21, 22, 23, 64] σ σ') := by
  refine CallS.of kX11_town pX11_town [.ref 0, .retAddr 0] rfl (Nat.le_of_ble_eq_true rfl) ?_
  refine GS.run [] 4 rfl ?_
  refine GS.callV oX7_readTown (c_readTown d σ p hp hpw) rfl rfl rfl rfl rfl rfl rfl (Nat.le_of_ble_eq_true rfl) (by omega) (fun v8 σ8 hq8 => ?_)
  obtain ⟨s8, m8⟩ := hq8
  rcases eR : rTown p with e | D
  · rw [eR] at m8
    obtain ⟨rfl, m1, m2⟩ := m8
    rw [qTown_e eR]
    refine GS.run [] 3 rfl ?_
    refine GS.cV oX7_empty (c_tempty (d + 9) σ8) rfl rfl rfl rfl rfl rfl rfl (Nat.le_of_ble_eq_true rfl) (by omega) ?_
    refine GS.run [] 1 rfl ?_
    refine GS.if_ne rfl (fun q => absurd (rfl) q) (fun c20 => ?_)
    refine GS.run [] 3 rfl ?_
    have sE : same [5, 7, 8, 9, 10, 11, 12, 13, 14, 15, 16, 17, 18, 19, 20, 21, 22, 23, 64] σ (am_s1 σ8 5 (upd (σ8 5) 1 0)) := (s8.sub (by decide)).s1 (by decide)
    have e9 : am_s1 σ8 5 (upd (σ8 5) 1 0) 5 9 = nI e.2 := by rw [am_s1_eq, upd_ne _ _ (by decide)]; exact m2
    have e8 : am_s1 σ8 5 (upd (σ8 5) 1 0) 5 8 = nI e.1 := by rw [am_s1_eq, upd_ne _ _ (by decide)]; exact m1
    have e1 : am_s1 σ8 5 (upd (σ8 5) 1 0) 5 1 = 0 := by rw [am_s1_eq, upd_eq]
    have sF : same [5, 7, 8, 9, 17, 18, 19, 20, 21, 22, 23] σ (am_s1 σ8 5 (upd (σ8 5) 1 0)) := s8.s1 (by decide)
    generalize am_s1 σ8 5 (upd (σ8 5) 1 0) = σE at sE e9 e8 e1 sF ⊢
    refine GS.run [] 0 rfl ?_
    refine GS.cV oX7_faultPlace ((c_faultPlace (d + 8) σE).eq (congrArg (fun z => some (Value.int z)) (e9)) rfl) rfl rfl rfl rfl rfl rfl rfl (Nat.le_of_ble_eq_true rfl) (by omega) ?_
    refine GS.run [] 1 rfl ?_
    refine GS.iret rfl rfl (rfl) ?_
    exact ⟨rfl, ht.kept (fun j hj => sF _ (by simp; omega)), ⟨e1, fun i hi => absurd hi (Nat.not_lt_zero _)⟩, e8, fun hl => hl.kept sF (by decide) (by decide), sE⟩
  · rw [eR] at m8
    obtain ⟨rfl, ⟨m1, m2, m3⟩, m4⟩ := m8
    rw [qTown_o eR]
    refine GS.run [] 3 rfl ?_
    refine GS.cV oX7_empty (c_tempty (d + 9) σ8) rfl rfl rfl rfl rfl rfl rfl (Nat.le_of_ble_eq_true rfl) (by omega) ?_
    refine GS.run [] 1 rfl ?_
    refine GS.if_ne rfl (fun c20 => ?_) (fun q => absurd q (by decide))
    refine GS.run [] 4 rfl ?_
    have e8 : am_s1 σ8 5 (upd (σ8 5) 1 0) 5 8 = f := by rw [am_s1_eq, upd_ne _ _ (by decide), m4]; exact hf
    have e1 : am_s1 σ8 5 (upd (σ8 5) 1 0) 5 1 = 0 := by rw [am_s1_eq, upd_eq]
    have sF : same [5, 7, 8, 9, 17, 18, 19, 20, 21, 22, 23] σ (am_s1 σ8 5 (upd (σ8 5) 1 0)) := s8.s1 (by decide)
    have dE : dftC (am_s1 σ8 5 (upd (σ8 5) 1 0)) D := m1.kept (same.s1 (l := [5]) same.rf (by decide)) (by decide)
    generalize am_s1 σ8 5 (upd (σ8 5) 1 0) = σE at e8 e1 sF dE ⊢
    refine GS.run [] 0 rfl ?_
    refine GS.callV oX8_become (c_become_10_17 (d + 7) σE) rfl rfl rfl rfl rfl rfl rfl (Nat.le_of_ble_eq_true rfl) (by omega) (fun v42 σ42 hq42 => ?_)
    obtain ⟨rfl, sb, b0, b1, b2, b3, b4, b5, b6, b7⟩ := hq42
    have tD : townC 10 σ42 D := (dE.town m2.1).moved m2.1 b0 b1 b2 b3 b4 b5 b6 b7
    have h8 := m2.1.1
    refine GS.run [] 2 rfl ?_
    refine GS.cV oX3_forget (c_forget (d + 9) σ42) rfl rfl rfl rfl rfl rfl rfl (Nat.le_of_ble_eq_true rfl) (by omega) ?_
    refine GS.run [] 2 rfl ?_
    refine GS.cV oX8_corners ((c_corners_10 (d + 9) (am_s1 σ42 64 (upd (σ42 64) 4 0))).eq (congrArg (fun z => some (Value.int z)) (tD.1)) rfl) rfl rfl rfl rfl rfl rfl rfl (Nat.le_of_ble_eq_true rfl) (by omega) ?_
    refine GS.iret rfl rfl (rfl) ?_
    refine ⟨rfl, tD.kept (fun j hj => am_s1_ne _ _ (by omega)), ⟨?_, fun i hi => absurd hi (Nat.not_lt_zero _)⟩, ?_, fun _ => Or.inl (by rw [am_s1_eq, upd_eq]), ((sF.sub (by decide)).trans (sb.sub (by decide))).s1 (by decide)⟩
    · rw [am_s1_ne _ _ (by decide), sb 5 (by decide)]; exact e1
    · rw [am_s1_ne _ _ (by decide), sb 5 (by decide)]; exact e8
