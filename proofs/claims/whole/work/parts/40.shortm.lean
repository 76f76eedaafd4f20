def rcV (σ : am_S) (b : Bf) : Prop := σ 69 32 = nI (bC b) ∧ (∀ j, j < bC b → σ 83 j = nI (bQ b j)) ∧ (∀ s, s < 112 → σ 82 s = plI (bD b s)) ∧ ∀ j, j < bC b → 0 < j → bP b (bQ b j) < bC b ∧ σ 80 (bQ b j) = nI (bQ b (bP b (bQ b j))) ∧ σ 81 (bQ b j) = nI (wyW (bW b (bQ b j)))
theorem rcV.kept {σ σ' : am_S} {l f : List Nat} {b : Bf} (h : rcV σ b) (hs : sameM l f σ σ') (h1 : 32 ∉ f) (h2 : 80 ∉ l ∧ 81 ∉ l ∧ 82 ∉ l ∧ 83 ∉ l) : rcV σ' b := by
  unfold rcV
  rw [hs.2 32 h1, hs.1 80 (by decide) h2.1, hs.1 81 (by decide) h2.2.1, hs.1 82 (by decide) h2.2.2.1, hs.1 83 (by decide) h2.2.2.2]
  exact h
theorem rcV_N {σ σ' : am_S} {b : Bf} {t : Tn} {s d p w : Nat} {v1 v2 : Int32} (h : rcV σ b) (hwb : wfB 112 (okS t) b) (hn : ¬ (bD b s).isSome = true) (hv : 0 < bC b → v1 = nI (bQ b p) ∧ p < bC b ∧ v2 = nI (wyW w)) (e1 : σ' 82 = upd (σ 82) s (nI d)) (e2 : σ' 83 = upd (σ 83) (bC b) (nI s)) (e3 : σ' 69 32 = nI (bC b + 1)) (e4 : σ' 80 = upd (σ 80) s v1) (e5 : σ' 81 = upd (σ 81) s v2) : rcV σ' (bN b s d p w) := by
  rw [bN_new hn]
  have hne : ∀ j, j < bC b → bQ b j ≠ s := fun j hj z => by
    obtain ⟨-, -, f, f1, -⟩ := hwb.2.1 j hj
    exact hn (by rw [← z, f1]; rfl)
  refine ⟨e3, fun j hj => ?_, fun x hx => ?_, fun j hj h0 => ?_⟩
  · rw [e2]
    show upd (σ 83) (bC b) (nI s) j = nI (va_up (bQ b) (bC b) s j)
    have hj2 : j < bC b + 1 := hj
    by_cases e : j = bC b
    · rw [e, upd_eq, va_eq]
    · rw [upd_ne _ _ e, va_ne _ _ e]; exact h.2.1 j (by omega)
  · rw [e1]
    show upd (σ 82) s (nI d) x = plI (va_up (bD b) s (some d) x)
    by_cases e : x = s
    · rw [e, upd_eq, va_eq]; rfl
    · rw [upd_ne _ _ e, va_ne _ _ e]; exact h.2.2.1 x hx
  · have hj2 : j < bC b + 1 := hj
    rw [e4, e5]
    show va_up (bP b) s p (va_up (bQ b) (bC b) s j) < bC b + 1 ∧ upd (σ 80) s v1 (va_up (bQ b) (bC b) s j) = nI (va_up (bQ b) (bC b) s (va_up (bP b) s p (va_up (bQ b) (bC b) s j))) ∧ upd (σ 81) s v2 (va_up (bQ b) (bC b) s j) = nI (wyW (va_up (bW b) s w (va_up (bQ b) (bC b) s j)))
    by_cases e : j = bC b
    · obtain ⟨g1, g2, g3⟩ := hv (by omega)
      rw [e, va_eq, va_eq, va_eq, upd_eq, upd_eq, va_ne _ _ (by omega)]
      exact ⟨by omega, g1, g3⟩
    · obtain ⟨g1, g2, g3⟩ := h.2.2.2 j (by omega) h0
      have := hne j (by omega)
      rw [va_ne _ _ e, va_ne _ _ this, va_ne _ _ this, upd_ne _ _ this, upd_ne _ _ this, va_ne _ _ (by omega)]
      exact ⟨by omega, g2, g3⟩
theorem kI_1 {o : Option Nat} : kI o + 1 = nI (fW o) := by
  cases o with
  | none => rfl
  | some j => exact nI_1 j
theorem he_s {x y z : Nat} : (14 : Int32) * nI x + 2 * nI y + nI z = nI (14 * x + 2 * y + z) := by rw [show (14 : Int32) = nI 14 from rfl, show (2 : Int32) = nI 2 from rfl, pk_mul, pk_mul, nI_add, nI_add]
theorem c_sought (d : Nat) (σ : am_S) (k : Nat) (hk : k < 17) : CallS mX12_sought (d + 1) [.int (nI k)] σ (am_det (some (.int (nI (wyW k)))) σ) := by
  refine CallS.of kX12_sought pX12_sought [.int (nI k)] rfl (Nat.le_of_ble_eq_true rfl) ?_
  refine GS.run [] 2 rfl ?_
  refine GS.icmp_ge rfl (fun c3 => ?_) (fun c3 => ?_)
  · have k1 : ¬ k < 12 := by have := (nI_leI (a := 12) (by omega) (by omega)).mp c3; omega
    refine GS.run [] 3 rfl ?_
    refine GS.iret rfl rfl (rfl) ?_
    unfold wyW
    first
      | (rw [if_pos k1]; exact ⟨rfl, rfl⟩)
      | (rw [if_neg k1]; exact ⟨congrArg (fun z => some (Value.int z)) (pk_sub (a := k) (b := 9) (by omega)), rfl⟩)
  · have k1 : k < 12 := (nI_gtI (a := 12) (by omega) (by omega)).mp c3
    refine GS.run [] 1 rfl ?_
    refine GS.cS oX12_plainWord (c_pword d σ k k1) rfl rfl rfl rfl (Nat.le_of_ble_eq_true rfl) (by omega) ?_
    refine GS.run [] 1 rfl ?_
    refine GS.iret rfl rfl (rfl) ?_
    unfold wyW
    first
      | (rw [if_pos k1]; exact ⟨rfl, rfl⟩)
      | (rw [if_neg k1]; exact ⟨congrArg (fun z => some (Value.int z)) (pk_sub (a := k) (b := 9) (by omega)), rfl⟩)
theorem c_stateNow (d : Nat) (σ : am_S) (u : Wk) (hk : wkM σ u) : CallS mX12_stateNow (d) [.ref 69] σ (am_det (some (.int (nI (cdW u)))) σ) := by
  refine CallS.of kX12_stateNow pX12_stateNow [.ref 69] rfl (Nat.le_of_ble_eq_true rfl) ?_
  refine GS.run [] 12 rfl ?_
  rw [show σ 69 20 = nI u.1 from hk.1, show σ 69 21 = kI u.2.1 from hk.2.1, kI_1]
  refine GS.run [] 0 rfl ?_
  refine GS.run [] 1 rfl ?_
  rw [show σ 69 22 = bI u.2.2 from hk.2.2]
  refine GS.run [] 0 rfl ?_
  refine GS.if_eq rfl (fun c20 => ?_) (fun c20 => ?_)
  · have hz : zW u.2.2 = 0 := by rw [bI0.mp c20]; rfl
    refine GS.run [] 2 rfl ?_
    refine GS.iret rfl rfl (rfl) ?_
    refine ⟨congrArg (fun z => some (Value.int z)) ?_, rfl⟩
    unfold cdW
    rw [hz]
    first
      | exact he_s (z := 0)
      | exact he_s (z := 1)
  · have hz : zW u.2.2 = 1 := by rw [bI1.mp c20]; rfl
    refine GS.run [] 3 rfl ?_
    refine GS.iret rfl rfl (rfl) ?_
    refine ⟨congrArg (fun z => some (Value.int z)) ?_, rfl⟩
    unfold cdW
    rw [hz]
    first
      | exact he_s (z := 0)
      | exact he_s (z := 1)
theorem deW_3 {s : Nat} : (deW s).1 = s / 14 ∧ kI (deW s).2.1 = (if s % 14 / 2 = 0 then -1 else nI (s % 14 / 2 - 1)) := by
  refine ⟨rfl, ?_⟩
  unfold deW
  show kI (if s % 14 / 2 = 0 then none else some (s % 14 / 2 - 1)) = _
  by_cases h : s % 14 / 2 = 0
  · rw [if_pos h, if_pos h]; rfl
  · rw [if_neg h, if_neg h]; rfl
theorem kI_m1 {n : Nat} (h : n < 1000) : nI n - 1 = (if n = 0 then -1 else nI (n - 1)) := by
  by_cases e : n = 0
  · rw [if_pos e, e]; rfl
  · rw [if_neg e]; exact pk_sub (b := 1) (by omega)
theorem c_beAt (d : Nat) (σ : am_S) (s : Nat) (hs : s < 1000) : CallS mX12_beAt (d) [.ref 69, .int (nI s)] σ (fun r σ' => r = none ∧ sameM [] [20, 21, 22] σ σ' ∧ wkM σ' (deW s)) := by
  refine CallS.of kX12_beAt pX12_beAt [.ref 69, .int (nI s)] rfl (Nat.le_of_ble_eq_true rfl) ?_
  refine GS.run [] 3 rfl ?_
  refine GS.idiv rfl (by decide) ?_
  rw [show (14 : Int32) = nI 14 from rfl, pk_div (by omega) (by omega) (by omega)]
  refine GS.run [] 4 rfl ?_
  refine GS.irem rfl (by decide) ?_
  rw [show (14 : Int32) = nI 14 from rfl, pk_rem (by omega) (by omega) (by omega)]
  refine GS.run [] 1 rfl ?_
  refine GS.idiv rfl (by decide) ?_
  rw [show (2 : Int32) = nI 2 from rfl, pk_div (by omega) (by omega) (by omega)]
  refine GS.run [] 6 rfl ?_
  refine GS.irem rfl (by decide) ?_
  rw [show (2 : Int32) = nI 2 from rfl, pk_rem (by omega) (by omega) (by omega)]
  refine GS.run [] 1 rfl ?_
  refine GS.icmp_ne rfl (fun c25 => ?_) (fun c25 => ?_)
  · have hz : (deW s).2.2 = false := by
      show decide (s % 2 = 1) = false
      exact decide_eq_false (fun h => c25 (by rw [h]; rfl))
    refine GS.run [] 1 rfl ?_
    refine GS.putZ rfl rfl rfl (rfl) (rfl) rfl ?_
    refine GS.vret rfl rfl ?_
    refine ⟨rfl, ((sameM.rf.fld (by decide)).fld (by decide)).fld (by decide), rfl, ?_, ?_⟩
    · rw [deW_3.2]; exact kI_m1 (by omega)
    · rw [hz]; rfl
  · have hz : (deW s).2.2 = true := by
      show decide (s % 2 = 1) = true
      exact decide_eq_true ((nI_eq (b := 1) (by omega) (by omega)).mp c25)
    refine GS.run [] 2 rfl ?_
    refine GS.putZ rfl rfl rfl (rfl) (rfl) rfl ?_
    refine GS.vret rfl rfl ?_
    refine ⟨rfl, ((sameM.rf.fld (by decide)).fld (by decide)).fld (by decide), rfl, ?_, ?_⟩
    · rw [deW_3.2]; exact kI_m1 (by omega)
    · rw [hz]; rfl
theorem c_reach (d : Nat) (σ : am_S) (t : Tn) (b : Bf) (u : Wk) (v1 v2 : Int32) (dd p w : Nat) (hw : wfT t) (hU : wfW t u) (hk : wkM σ u) (hb : rcV σ b) (hwb : wfB 112 (okS t) b) (hv : (v1 = -1 ∧ dd = 0 ∧ bC b = 0) ∨ (v1 = nI (bQ b p) ∧ p < bC b ∧ dd = dsB b p + 1 ∧ v2 = nI (wyW w))) : CallS mX12_reach (d + 1) [.ref 69, .int v1, .int v2] σ (fun r σ' => r = none ∧ rcV σ' (bN b (cdW u) dd p w) ∧ sameM [80, 81, 82, 83] [32] σ σ') := by
  refine CallS.of kX12_reach pX12_reach [.ref 69, .int v1, .int v2, .retAddr 0] rfl (Nat.le_of_ble_eq_true rfl) ?_
  have h8 := hw.1
  obtain ⟨o1, o2, o3⟩ := okS_c hw hU
  have h64 := wfB_C hwb
  refine GS.run [] 1 rfl ?_
  refine GS.cV oX12_stateNow (c_stateNow d σ u hk) rfl rfl rfl rfl rfl rfl rfl (Nat.le_of_ble_eq_true rfl) (by omega) ?_
  refine GS.run [] 4 rfl ?_
  refine GS.ald (cdW u) rfl rfl (rfl) (by omega) ?_
  rw [hb.2.2.1 _ o2]
  refine GS.if_ge rfl (fun c11 => ?_) (fun c11 => ?_)
  · have k1 : (bD b (cdW u)).isSome = true := by
      cases e : bD b (cdW u) with
      | none => rw [e] at c11; exact absurd c11 (by decide)
      | some z => rfl
    refine GS.vret rfl rfl ?_
    first
      | (rw [bN_old k1]; exact ⟨rfl, hb, sameM.rf⟩)
      | exact ⟨rfl, rcV_N hb hwb k1 hv0 rfl rfl ((congrArg (· + 1) hb.1).trans (nI_1 _)) rfl rfl, ((((sameM.rf.cell (by decide) (by decide)).cell (by decide) (by decide)).cell (by decide) (by decide)).cell (by decide) (by decide)).fld (by decide)⟩
  · rw [Int32.not_le, plI_neg (fun z hz => by have := wfB_D hwb hz; omega)] at c11
    have k1 : ¬ (bD b (cdW u)).isSome = true := by rw [c11]; decide
    have hlt := wfB_lt hwb o2 k1
    rcases hv with ⟨rfl, rfl, h0⟩ | ⟨rfl, hp, rfl, rfl⟩
    · have hv0 : 0 < bC b → (-1 : Int32) = nI (bQ b p) ∧ p < bC b ∧ v2 = nI (wyW w) := fun h => by omega
      have hds : (0 : Int32) = nI 0 := rfl
      refine GS.run [] 4 rfl ?_
      refine GS.if_ge rfl (fun q => absurd q (by decide)) (fun c20 => ?_)
      refine GS.run [] 2 rfl ?_
      first
        | rw [hds]
        | skip
      refine GS.run [] 0 rfl ?_
      refine GS.ast (cdW u) rfl rfl (rfl) (by omega) ?_
      refine GS.run [] 4 rfl ?_
      refine GS.ast (cdW u) rfl rfl (rfl) (by omega) ?_
      refine GS.run [] 4 rfl ?_
      refine GS.ast (cdW u) rfl rfl (rfl) (by omega) ?_
      refine GS.run [] 5 rfl ?_
      rw [show am_s1 (am_s1 (am_s1 σ 82 (upd (σ 82) (cdW u) _)) 80 _) 81 _ 69 32 = nI (bC b) from hb.1]
      refine GS.run [] 0 rfl ?_
      refine GS.ast (bC b) rfl rfl (rfl) (by omega) ?_
      refine GS.run [] 6 rfl ?_
      refine GS.vret rfl rfl ?_
      first
        | (rw [bN_old k1]; exact ⟨rfl, hb, sameM.rf⟩)
        | exact ⟨rfl, rcV_N hb hwb k1 hv0 rfl rfl ((congrArg (· + 1) hb.1).trans (nI_1 _)) rfl rfl, ((((sameM.rf.cell (by decide) (by decide)).cell (by decide) (by decide)).cell (by decide) (by decide)).cell (by decide) (by decide)).fld (by decide)⟩
    · obtain ⟨q1, q2, q3⟩ := hwb.2.1 p hp
      have hv0 : 0 < bC b → nI (bQ b p) = nI (bQ b p) ∧ p < bC b ∧ nI (wyW w) = nI (wyW w) := fun h => ⟨rfl, hp, rfl⟩
      have hbp := hb.2.2.1 _ q1
      rw [(dsB_eq hwb hp).1] at hbp
      have hds : plI (some (dsB b p)) + 1 = nI (dsB b p + 1) := nI_1 _
      refine GS.run [] 4 rfl ?_
      refine GS.if_ge rfl (fun c20 => ?_) (fun q => absurd (nI_pos' (by omega)) q)
      refine GS.run [] 3 rfl ?_
      refine GS.ald (bQ b p) rfl rfl (rfl) (by omega) ?_
      rw [hbp]
      refine GS.run [] 2 rfl ?_
      first
        | rw [hds]
        | skip
      refine GS.run [] 0 rfl ?_
      refine GS.ast (cdW u) rfl rfl (rfl) (by omega) ?_
      refine GS.run [] 4 rfl ?_
      refine GS.ast (cdW u) rfl rfl (rfl) (by omega) ?_
      refine GS.run [] 4 rfl ?_
      refine GS.ast (cdW u) rfl rfl (rfl) (by omega) ?_
      refine GS.run [] 5 rfl ?_
      rw [show am_s1 (am_s1 (am_s1 σ 82 (upd (σ 82) (cdW u) _)) 80 _) 81 _ 69 32 = nI (bC b) from hb.1]
      refine GS.run [] 0 rfl ?_
      refine GS.ast (bC b) rfl rfl (rfl) (by omega) ?_
      refine GS.run [] 6 rfl ?_
      refine GS.vret rfl rfl ?_
      first
        | (rw [bN_old k1]; exact ⟨rfl, hb, sameM.rf⟩)
        | exact ⟨rfl, rcV_N hb hwb k1 hv0 rfl rfl ((congrArg (· + 1) hb.1).trans (nI_1 _)) rfl rfl, ((((sameM.rf.cell (by decide) (by decide)).cell (by decide) (by decide)).cell (by decide) (by decide)).cell (by decide) (by decide)).fld (by decide)⟩
theorem c_seek_1 (d : Nat) (σ : am_S) (t : Tn) (c : Nat) (ht : townM 73 0 σ t) (hw : wfT t) (hc : c < tN t) (hh : hM σ) : CallS mX12_seek (d + 3) [.ref 69, .int (nI c), .int 1] σ (fun r σ' => r = none ∧ rcV σ' (srB t c 17) ∧ sameM [80, 81, 82, 83] [20, 21, 22, 32] σ σ' ∧ hM σ') := by
  refine CallS.of kX12_seek pX12_seek [.ref 69, .int (nI c), .int 1, .retAddr 0, .retAddr 0] rfl (Nat.le_of_ble_eq_true rfl) ?_
  have h8 := hw.1
  refine GS.run [] 2 rfl ?_
  have loop2 : ∀ (fu : Nat) (j : Nat) (hj : j ≤ 168), 168 - j = fu → GS none mX12_seek (d + 3) (fun r σ' => r = none ∧ rcV σ' (srB t c 17) ∧ sameM [80, 81, 82, 83] [20, 21, 22, 32] σ σ' ∧ hM σ') 2 [.ref 69, .int (nI c), .int 1, .int (nI j), .retAddr 0] [] (am_s1 σ 82 (fF (σ 82) j)) := by
    intro fu
    induction fu using Nat.strongRecOn with
    | ind fu ih2 =>
      intro j hj hfu
      refine GS.run [] 2 rfl ?_
      refine GS.icmp_ge rfl (fun c6 => ?_) (fun c6 => ?_)
      · have e : j = 168 := by have := (nI_leI (a := 168) (by omega) (by omega)).mp c6; omega
        subst e
        refine GS.run [] 5 rfl ?_
        generalize hS0 : am_s1 (am_s1 σ 82 (fF (σ 82) 168)) 69 (upd ((am_s1 σ 82 (fF (σ 82) 168)) 69) 32 0) = σ0
        have hb0 : rcV σ0 b0 := by
          rw [← hS0]
          refine ⟨rfl, fun j hj => absurd hj (Nat.not_lt_zero _), fun s hs => ?_, fun j hj => absurd hj (Nat.not_lt_zero _)⟩
          show fF (σ 82) 168 s = -1
          unfold fF
          exact if_pos (by omega)
        have s0 : sameM [80, 81, 82, 83] [20, 21, 22, 32] σ σ0 := by rw [← hS0]; exact (sameM.rf.cell (by decide) (by decide)).fld (by decide)
        refine GS.run [] 0 rfl ?_
        refine GS.callV oX12_starts (c_mstarts (d + 2) σ0 c) rfl rfl rfl rfl rfl rfl rfl (Nat.le_of_ble_eq_true rfl) (by omega) (fun v29 σ29 hq29 => ?_)
        obtain ⟨rfl, s29, k29⟩ := hq29
        have hb29 := hb0.kept s29 (by decide) (by decide)
        refine GS.run [] 3 rfl ?_
        refine GS.callV oX12_reach (c_reach (d + 1) σ29 t b0 (stW c) (-1) (-1000000) 0 0 0 hw (stW_wf hc) k29 hb29 wfB_0 (Or.inl ⟨rfl, rfl, rfl⟩)) rfl rfl rfl rfl rfl rfl rfl (Nat.le_of_ble_eq_true rfl) (by omega) (fun v36 σ36 hq36 => ?_)
        obtain ⟨rfl, b36, s36⟩ := hq36
        rw [cdW_st] at b36
        have sa : sameM [80, 81, 82, 83] [20, 21, 22, 32] σ σ36 := (s0.trans (s29.sub (by decide) (by decide))).trans (s36.sub (by decide) (by decide))
        have hz36 : ∃ z, σ36 69 22 = bI z := ⟨_, (s36.2 22 (by decide)).trans k29.2.2⟩
        refine GS.run [] 2 rfl ?_
        have loop41 : ∀ (fu : Nat) (i : Nat) (σi : am_S) (bi : Bf) (v4 : Value) (hi : i ≤ bC bi) (hsi : sameM [80, 81, 82, 83] [20, 21, 22, 32] σ σi) (hbi : rcV σi bi) (hwi : wfB 112 (okS t) bi) (hoi : orB bi) (hmx : i < bC bi → ∀ j, j < bC bi → dsB bi j ≤ dsB bi i + 1) (hzi : ∃ z, σi 69 22 = bI z) (hv : bL (nbS t) 17 (113 - i) i bi = srB t c 17), 113 - i = fu → GS none mX12_seek (d + 3) (fun r σ' => r = none ∧ rcV σ' (srB t c 17) ∧ sameM [80, 81, 82, 83] [20, 21, 22, 32] σ σ' ∧ hM σ') 41 [.ref 69, .int (nI c), .int 1, .int (nI i), .retAddr 0] [] σi := by
          intro fu
          induction fu using Nat.strongRecOn with
          | ind fu ih41 =>
            intro i σi bi v4 hi hsi hbi hwi hoi hmx hzi hv hfu
            have h112 := wfB_C hwi
            refine GS.run [] 3 rfl ?_
            rw [show σi 69 32 = nI (bC bi) from hbi.1]
            refine GS.run [] 0 rfl ?_
            refine GS.icmp_ge rfl (fun c46 => ?_) (fun c46 => ?_)
            · have k2 : ¬ i < bC bi := by have := (nI_leI (by omega) (by omega)).mp c46; omega
              refine GS.vret rfl rfl ?_
              have hL := srB_e (t := t) (W := 17) (f := 112 - i) k2
              rw [show 112 - i + 1 = 113 - i by omega] at hL
              rw [hL] at hv
              rw [← hv]
              exact ⟨rfl, hbi, hsi, hzi, (by obtain ⟨z, hz⟩ := hh.2; exact ⟨z, (hsi.2 25 (by decide)).trans hz⟩)⟩
            · have k2 : i < bC bi := (nI_gtI (by omega) (by omega)).mp c46
              have hL := srB_s (t := t) (W := 17) (f := 112 - i) k2
              rw [show 112 - i + 1 = 113 - i by omega] at hL
              have hX := bE_wf (t := t) (s := bQ bi i) (d := dsB bi i + 1) hw hwi hoi rfl k2 rfl (hmx k2)
              have hoS := (hwi.2.1 i k2).2.1
              have hq112 := (hwi.2.1 i k2).1
              refine GS.run [] 2 rfl ?_
              have loop52 : ∀ (fu : Nat) (k : Nat) (σk : am_S) (hk : k ≤ 17) (hsk : sameM [80, 81, 82, 83] [20, 21, 22, 32] σ σk) (hbk : rcV σk (bE (nbS t) (bQ bi i) (dsB bi i + 1) i k bi)) (hzk : ∃ z, σk 69 22 = bI z), 17 - k = fu → GS none mX12_seek (d + 3) (fun r σ' => r = none ∧ rcV σ' (srB t c 17) ∧ sameM [80, 81, 82, 83] [20, 21, 22, 32] σ σ' ∧ hM σ') 52 [.ref 69, .int (nI c), .int 1, .int (nI i), .int (nI k)] [] σk := by
                intro fu
                induction fu using Nat.strongRecOn with
                | ind fu ih52 =>
                  intro k σk hk hsk hbk hzk hfu
                  refine GS.run [] 2 rfl ?_
                  refine GS.if_eq rfl (fun q => absurd q (by decide)) (fun c55 => ?_)
                  refine GS.run [] 2 rfl ?_
                  refine GS.icmp_ge rfl (fun c65 => ?_) (fun c65 => ?_)
                  · have e : k = 17 := by have := (nI_leI (a := 17) (by omega) (by omega)).mp c65; omega
                    subst e
                    refine GS.run [] 2 rfl ?_
                    rw [show nI i + 1 = nI (i + 1) from nI_1 i]
                    obtain ⟨x1, x2, x3, x4, x5⟩ := hX 17
                    refine GS.weak (by exact ⟨Or.inr rfl, Or.inr rfl, Or.inr rfl, Or.inr rfl, Or.inl rfl, trivial⟩) (ih41 _ (by omega) (i + 1) σk _ Value.null (by omega) hsk hbk x1 x2 (fun hlast j hj => ?_) hzk (by rw [← hv, hL, show 113 - (i + 1) = 112 - i by omega]) rfl)
                    have h1 := x3 j hj
                    have h2 := x2.1 i (i + 1) (by omega) hlast
                    rw [(x5 i k2).2] at h2
                    omega
                  · have hl : k < 17 := (nI_gtI (a := 17) (by omega) (by omega)).mp c65
                    obtain ⟨x1, x2, x3, x4, x5⟩ := hX k
                    have h112 := wfB_C x1
                    refine GS.run [] 4 rfl ?_
                    refine GS.ald (i) rfl rfl (rfl) (by omega) ?_
                    rw [hbk.2.1 i (by omega), (x5 i k2).1]
                    refine GS.callV oX12_beAt (c_beAt (d + 2) σk (bQ bi i) (by omega)) rfl rfl rfl rfl rfl rfl rfl (Nat.le_of_ble_eq_true rfl) (by omega) (fun v75 σ75 hq75 => ?_)
                    obtain ⟨rfl, s75, k75⟩ := hq75
                    have ht75 : townM 73 0 σ75 t := sameM_town (hsk.trans (s75.sub (by decide) (by decide))) (by decide) ht
                    refine GS.run [] 2 rfl ?_
                    refine GS.cS oX12_sought (c_sought (d + 1) σ75 k (by omega)) rfl rfl rfl rfl (Nat.le_of_ble_eq_true rfl) (by omega) ?_
                    refine GS.run [] 2 rfl ?_
                    refine GS.callV oX12_goes (c_goes d σ75 t (deW (bQ bi i)) false false (wyW k) (wyW_isW (by omega)) ht75 hw hoS k75) rfl rfl rfl rfl rfl rfl rfl (Nat.le_of_ble_eq_true rfl) (by omega) (fun v86 σ86 hq86 => ?_)
                    obtain ⟨rfl, s86, k86⟩ := hq86
                    have s6 : sameM [] [20, 21, 22] σk σ86 := s75.trans s86
                    have hb86 := hbk.kept s6 (by decide) (by decide)
                    refine GS.if_eq rfl (fun c89 => ?_) (fun c89 => ?_)
                    · have hno := bI0.mp c89
                      have hnb : nbS t (bQ bi i) k = none := by unfold nbS; rw [if_neg (by rw [hno]; decide)]
                      have hBE : bE (nbS t) (bQ bi i) (dsB bi i + 1) i (k + 1) bi = (bE (nbS t) (bQ bi i) (dsB bi i + 1) i k bi) := by rw [bE, hnb]
                      refine GS.run [] 2 rfl ?_
                      rw [show nI k + 1 = nI (k + 1) from nI_1 k]
                      first
                        | exact ih52 _ (by omega) (k + 1) σ104 (by omega) ((hsk.trans (s6.sub (by decide) (by decide))).trans (s104.sub (by decide) (by decide))) b104 hz104 rfl
                        | exact ih52 _ (by omega) (k + 1) σ86 (by omega) (hsk.trans (s6.sub (by decide) (by decide))) (by rw [hBE]; exact hb86) ⟨_, k86.2.2⟩ rfl
                    · have hyes := bI1.mp c89
                      have hnb : nbS t (bQ bi i) k = some (cdW (goW t (deW (bQ bi i)) false false (wyW k)).2) := by unfold nbS; rw [if_pos hyes]
                      have hBE : bE (nbS t) (bQ bi i) (dsB bi i + 1) i (k + 1) bi = bN (bE (nbS t) (bQ bi i) (dsB bi i + 1) i k bi) (cdW (goW t (deW (bQ bi i)) false false (wyW k)).2) (dsB bi i + 1) i k := by rw [bE, hnb]
                      refine GS.run [] 4 rfl ?_
                      refine GS.ald (i) rfl rfl (rfl) (by omega) ?_
                      rw [hb86.2.1 i (by omega)]
                      refine GS.run [] 1 rfl ?_
                      refine GS.cS oX12_sought (c_sought (d + 1) σ86 k (by omega)) rfl rfl rfl rfl (Nat.le_of_ble_eq_true rfl) (by omega) ?_
                      refine GS.callV oX12_reach (c_reach (d + 1) σ86 t (bE (nbS t) (bQ bi i) (dsB bi i + 1) i k bi) (goW t (deW (bQ bi i)) false false (wyW k)).2 (nI (bQ (bE (nbS t) (bQ bi i) (dsB bi i + 1) i k bi) i)) (nI (wyW k)) (dsB bi i + 1) i k hw (goW_wf hw hoS) k86 hb86 x1 (Or.inr ⟨rfl, by omega, by rw [(x5 i k2).2], rfl⟩)) rfl rfl rfl rfl rfl rfl rfl (Nat.le_of_ble_eq_true rfl) (by omega) (fun v104 σ104 hq104 => ?_)
                      obtain ⟨rfl, b104, s104⟩ := hq104
                      rw [← hBE] at b104
                      have hz104 : ∃ z, σ104 69 22 = bI z := ⟨_, (s104.2 22 (by decide)).trans k86.2.2⟩
                      refine GS.run [] 2 rfl ?_
                      rw [show nI k + 1 = nI (k + 1) from nI_1 k]
                      first
                        | exact ih52 _ (by omega) (k + 1) σ104 (by omega) ((hsk.trans (s6.sub (by decide) (by decide))).trans (s104.sub (by decide) (by decide))) b104 hz104 rfl
                        | exact ih52 _ (by omega) (k + 1) σ86 (by omega) (hsk.trans (s6.sub (by decide) (by decide))) (by rw [hBE]; exact hb86) ⟨_, k86.2.2⟩ rfl
              exact loop52 _ 0 σi (Nat.zero_le _) hsi hbi hzi rfl
        have hmx0 : ∀ j, j < bC (bN b0 (14 * c) 0 0 0) → dsB (bN b0 (14 * c) 0 0 0) j ≤ dsB (bN b0 (14 * c) 0 0 0) 0 + 1 := fun j hj => by
          have hC : bC (bN b0 (14 * c) 0 0 0) = 1 := by rw [bN_new b0_D]; rfl
          rw [hC] at hj
          rw [show j = 0 by omega]
          exact Nat.le_succ _
        exact loop41 _ 0 σ36 _ Value.null (Nat.zero_le _) sa b36 (wfS_1 hw hc) orB_1 (fun _ => hmx0) hz36 rfl rfl
      · have hl : j < 168 := (nI_gtI (a := 168) (by omega) (by omega)).mp c6
        refine GS.run [] 4 rfl ?_
        refine GS.ast (j) rfl rfl (rfl) (by omega) ?_
        refine GS.run [] 2 rfl ?_
        rw [am_s1_eq, am_s1_s1, nI_1, fF_s]
        exact ih2 _ (by omega) (j + 1) (by omega) rfl
  have e0 := loop2 _ 0 (Nat.zero_le _) rfl
  rw [fF_0, am_s1_self] at e0
  exact e0
theorem c_seek_0 (d : Nat) (σ : am_S) (t : Tn) (c : Nat) (ht : townM 73 0 σ t) (hw : wfT t) (hc : c < tN t) (hh : hM σ) : CallS mX12_seek (d + 3) [.ref 69, .int (nI c), .int 0] σ (fun r σ' => r = none ∧ rcV σ' (srB t c 14) ∧ sameM [80, 81, 82, 83] [20, 21, 22, 32] σ σ' ∧ hM σ') := by
  refine CallS.of kX12_seek pX12_seek [.ref 69, .int (nI c), .int 0, .retAddr 0, .retAddr 0] rfl (Nat.le_of_ble_eq_true rfl) ?_
  have h8 := hw.1
  refine GS.run [] 2 rfl ?_
  have loop2 : ∀ (fu : Nat) (j : Nat) (hj : j ≤ 168), 168 - j = fu → GS none mX12_seek (d + 3) (fun r σ' => r = none ∧ rcV σ' (srB t c 14) ∧ sameM [80, 81, 82, 83] [20, 21, 22, 32] σ σ' ∧ hM σ') 2 [.ref 69, .int (nI c), .int 0, .int (nI j), .retAddr 0] [] (am_s1 σ 82 (fF (σ 82) j)) := by
    intro fu
    induction fu using Nat.strongRecOn with
    | ind fu ih2 =>
      intro j hj hfu
      refine GS.run [] 2 rfl ?_
      refine GS.icmp_ge rfl (fun c6 => ?_) (fun c6 => ?_)
      · have e : j = 168 := by have := (nI_leI (a := 168) (by omega) (by omega)).mp c6; omega
        subst e
        refine GS.run [] 5 rfl ?_
        generalize hS0 : am_s1 (am_s1 σ 82 (fF (σ 82) 168)) 69 (upd ((am_s1 σ 82 (fF (σ 82) 168)) 69) 32 0) = σ0
        have hb0 : rcV σ0 b0 := by
          rw [← hS0]
          refine ⟨rfl, fun j hj => absurd hj (Nat.not_lt_zero _), fun s hs => ?_, fun j hj => absurd hj (Nat.not_lt_zero _)⟩
          show fF (σ 82) 168 s = -1
          unfold fF
          exact if_pos (by omega)
        have s0 : sameM [80, 81, 82, 83] [20, 21, 22, 32] σ σ0 := by rw [← hS0]; exact (sameM.rf.cell (by decide) (by decide)).fld (by decide)
        refine GS.run [] 0 rfl ?_
        refine GS.callV oX12_starts (c_mstarts (d + 2) σ0 c) rfl rfl rfl rfl rfl rfl rfl (Nat.le_of_ble_eq_true rfl) (by omega) (fun v29 σ29 hq29 => ?_)
        obtain ⟨rfl, s29, k29⟩ := hq29
        have hb29 := hb0.kept s29 (by decide) (by decide)
        refine GS.run [] 3 rfl ?_
        refine GS.callV oX12_reach (c_reach (d + 1) σ29 t b0 (stW c) (-1) (-1000000) 0 0 0 hw (stW_wf hc) k29 hb29 wfB_0 (Or.inl ⟨rfl, rfl, rfl⟩)) rfl rfl rfl rfl rfl rfl rfl (Nat.le_of_ble_eq_true rfl) (by omega) (fun v36 σ36 hq36 => ?_)
        obtain ⟨rfl, b36, s36⟩ := hq36
        rw [cdW_st] at b36
        have sa : sameM [80, 81, 82, 83] [20, 21, 22, 32] σ σ36 := (s0.trans (s29.sub (by decide) (by decide))).trans (s36.sub (by decide) (by decide))
        have hz36 : ∃ z, σ36 69 22 = bI z := ⟨_, (s36.2 22 (by decide)).trans k29.2.2⟩
        refine GS.run [] 2 rfl ?_
        have loop41 : ∀ (fu : Nat) (i : Nat) (σi : am_S) (bi : Bf) (v4 : Value) (hi : i ≤ bC bi) (hsi : sameM [80, 81, 82, 83] [20, 21, 22, 32] σ σi) (hbi : rcV σi bi) (hwi : wfB 112 (okS t) bi) (hoi : orB bi) (hmx : i < bC bi → ∀ j, j < bC bi → dsB bi j ≤ dsB bi i + 1) (hzi : ∃ z, σi 69 22 = bI z) (hv : bL (nbS t) 14 (113 - i) i bi = srB t c 14), 113 - i = fu → GS none mX12_seek (d + 3) (fun r σ' => r = none ∧ rcV σ' (srB t c 14) ∧ sameM [80, 81, 82, 83] [20, 21, 22, 32] σ σ' ∧ hM σ') 41 [.ref 69, .int (nI c), .int 0, .int (nI i), .retAddr 0] [] σi := by
          intro fu
          induction fu using Nat.strongRecOn with
          | ind fu ih41 =>
            intro i σi bi v4 hi hsi hbi hwi hoi hmx hzi hv hfu
            have h112 := wfB_C hwi
            refine GS.run [] 3 rfl ?_
            rw [show σi 69 32 = nI (bC bi) from hbi.1]
            refine GS.run [] 0 rfl ?_
            refine GS.icmp_ge rfl (fun c46 => ?_) (fun c46 => ?_)
            · have k2 : ¬ i < bC bi := by have := (nI_leI (by omega) (by omega)).mp c46; omega
              refine GS.vret rfl rfl ?_
              have hL := srB_e (t := t) (W := 14) (f := 112 - i) k2
              rw [show 112 - i + 1 = 113 - i by omega] at hL
              rw [hL] at hv
              rw [← hv]
              exact ⟨rfl, hbi, hsi, hzi, (by obtain ⟨z, hz⟩ := hh.2; exact ⟨z, (hsi.2 25 (by decide)).trans hz⟩)⟩
            · have k2 : i < bC bi := (nI_gtI (by omega) (by omega)).mp c46
              have hL := srB_s (t := t) (W := 14) (f := 112 - i) k2
              rw [show 112 - i + 1 = 113 - i by omega] at hL
              have hX := bE_wf (t := t) (s := bQ bi i) (d := dsB bi i + 1) hw hwi hoi rfl k2 rfl (hmx k2)
              have hoS := (hwi.2.1 i k2).2.1
              have hq112 := (hwi.2.1 i k2).1
              refine GS.run [] 2 rfl ?_
              have loop52 : ∀ (fu : Nat) (k : Nat) (σk : am_S) (hk : k ≤ 14) (hsk : sameM [80, 81, 82, 83] [20, 21, 22, 32] σ σk) (hbk : rcV σk (bE (nbS t) (bQ bi i) (dsB bi i + 1) i k bi)) (hzk : ∃ z, σk 69 22 = bI z), 14 - k = fu → GS none mX12_seek (d + 3) (fun r σ' => r = none ∧ rcV σ' (srB t c 14) ∧ sameM [80, 81, 82, 83] [20, 21, 22, 32] σ σ' ∧ hM σ') 52 [.ref 69, .int (nI c), .int 0, .int (nI i), .int (nI k)] [] σk := by
                intro fu
                induction fu using Nat.strongRecOn with
                | ind fu ih52 =>
                  intro k σk hk hsk hbk hzk hfu
                  refine GS.run [] 2 rfl ?_
                  refine GS.if_eq rfl (fun c55 => ?_) (fun q => absurd (by decide) q)
                  refine GS.run [] 1 rfl ?_
                  refine GS.icmp_ge rfl (fun c65 => ?_) (fun c65 => ?_)
                  · have e : k = 14 := by have := (nI_leI (a := 14) (by omega) (by omega)).mp c65; omega
                    subst e
                    refine GS.run [] 2 rfl ?_
                    rw [show nI i + 1 = nI (i + 1) from nI_1 i]
                    obtain ⟨x1, x2, x3, x4, x5⟩ := hX 14
                    refine GS.weak (by exact ⟨Or.inr rfl, Or.inr rfl, Or.inr rfl, Or.inr rfl, Or.inl rfl, trivial⟩) (ih41 _ (by omega) (i + 1) σk _ Value.null (by omega) hsk hbk x1 x2 (fun hlast j hj => ?_) hzk (by rw [← hv, hL, show 113 - (i + 1) = 112 - i by omega]) rfl)
                    have h1 := x3 j hj
                    have h2 := x2.1 i (i + 1) (by omega) hlast
                    rw [(x5 i k2).2] at h2
                    omega
                  · have hl : k < 14 := (nI_gtI (a := 14) (by omega) (by omega)).mp c65
                    obtain ⟨x1, x2, x3, x4, x5⟩ := hX k
                    have h112 := wfB_C x1
                    refine GS.run [] 4 rfl ?_
                    refine GS.ald (i) rfl rfl (rfl) (by omega) ?_
                    rw [hbk.2.1 i (by omega), (x5 i k2).1]
                    refine GS.callV oX12_beAt (c_beAt (d + 2) σk (bQ bi i) (by omega)) rfl rfl rfl rfl rfl rfl rfl (Nat.le_of_ble_eq_true rfl) (by omega) (fun v75 σ75 hq75 => ?_)
                    obtain ⟨rfl, s75, k75⟩ := hq75
                    have ht75 : townM 73 0 σ75 t := sameM_town (hsk.trans (s75.sub (by decide) (by decide))) (by decide) ht
                    refine GS.run [] 2 rfl ?_
                    refine GS.cS oX12_sought (c_sought (d + 1) σ75 k (by omega)) rfl rfl rfl rfl (Nat.le_of_ble_eq_true rfl) (by omega) ?_
                    refine GS.run [] 2 rfl ?_
                    refine GS.callV oX12_goes (c_goes d σ75 t (deW (bQ bi i)) false false (wyW k) (wyW_isW (by omega)) ht75 hw hoS k75) rfl rfl rfl rfl rfl rfl rfl (Nat.le_of_ble_eq_true rfl) (by omega) (fun v86 σ86 hq86 => ?_)
                    obtain ⟨rfl, s86, k86⟩ := hq86
                    have s6 : sameM [] [20, 21, 22] σk σ86 := s75.trans s86
                    have hb86 := hbk.kept s6 (by decide) (by decide)
                    refine GS.if_eq rfl (fun c89 => ?_) (fun c89 => ?_)
                    · have hno := bI0.mp c89
                      have hnb : nbS t (bQ bi i) k = none := by unfold nbS; rw [if_neg (by rw [hno]; decide)]
                      have hBE : bE (nbS t) (bQ bi i) (dsB bi i + 1) i (k + 1) bi = (bE (nbS t) (bQ bi i) (dsB bi i + 1) i k bi) := by rw [bE, hnb]
                      refine GS.run [] 2 rfl ?_
                      rw [show nI k + 1 = nI (k + 1) from nI_1 k]
                      first
                        | exact ih52 _ (by omega) (k + 1) σ104 (by omega) ((hsk.trans (s6.sub (by decide) (by decide))).trans (s104.sub (by decide) (by decide))) b104 hz104 rfl
                        | exact ih52 _ (by omega) (k + 1) σ86 (by omega) (hsk.trans (s6.sub (by decide) (by decide))) (by rw [hBE]; exact hb86) ⟨_, k86.2.2⟩ rfl
                    · have hyes := bI1.mp c89
                      have hnb : nbS t (bQ bi i) k = some (cdW (goW t (deW (bQ bi i)) false false (wyW k)).2) := by unfold nbS; rw [if_pos hyes]
                      have hBE : bE (nbS t) (bQ bi i) (dsB bi i + 1) i (k + 1) bi = bN (bE (nbS t) (bQ bi i) (dsB bi i + 1) i k bi) (cdW (goW t (deW (bQ bi i)) false false (wyW k)).2) (dsB bi i + 1) i k := by rw [bE, hnb]
                      refine GS.run [] 4 rfl ?_
                      refine GS.ald (i) rfl rfl (rfl) (by omega) ?_
                      rw [hb86.2.1 i (by omega)]
                      refine GS.run [] 1 rfl ?_
                      refine GS.cS oX12_sought (c_sought (d + 1) σ86 k (by omega)) rfl rfl rfl rfl (Nat.le_of_ble_eq_true rfl) (by omega) ?_
                      refine GS.callV oX12_reach (c_reach (d + 1) σ86 t (bE (nbS t) (bQ bi i) (dsB bi i + 1) i k bi) (goW t (deW (bQ bi i)) false false (wyW k)).2 (nI (bQ (bE (nbS t) (bQ bi i) (dsB bi i + 1) i k bi) i)) (nI (wyW k)) (dsB bi i + 1) i k hw (goW_wf hw hoS) k86 hb86 x1 (Or.inr ⟨rfl, by omega, by rw [(x5 i k2).2], rfl⟩)) rfl rfl rfl rfl rfl rfl rfl (Nat.le_of_ble_eq_true rfl) (by omega) (fun v104 σ104 hq104 => ?_)
                      obtain ⟨rfl, b104, s104⟩ := hq104
                      rw [← hBE] at b104
                      have hz104 : ∃ z, σ104 69 22 = bI z := ⟨_, (s104.2 22 (by decide)).trans k86.2.2⟩
                      refine GS.run [] 2 rfl ?_
                      rw [show nI k + 1 = nI (k + 1) from nI_1 k]
                      first
                        | exact ih52 _ (by omega) (k + 1) σ104 (by omega) ((hsk.trans (s6.sub (by decide) (by decide))).trans (s104.sub (by decide) (by decide))) b104 hz104 rfl
                        | exact ih52 _ (by omega) (k + 1) σ86 (by omega) (hsk.trans (s6.sub (by decide) (by decide))) (by rw [hBE]; exact hb86) ⟨_, k86.2.2⟩ rfl
              exact loop52 _ 0 σi (Nat.zero_le _) hsi hbi hzi rfl
        have hmx0 : ∀ j, j < bC (bN b0 (14 * c) 0 0 0) → dsB (bN b0 (14 * c) 0 0 0) j ≤ dsB (bN b0 (14 * c) 0 0 0) 0 + 1 := fun j hj => by
          have hC : bC (bN b0 (14 * c) 0 0 0) = 1 := by rw [bN_new b0_D]; rfl
          rw [hC] at hj
          rw [show j = 0 by omega]
          exact Nat.le_succ _
        exact loop41 _ 0 σ36 _ Value.null (Nat.zero_le _) sa b36 (wfS_1 hw hc) orB_1 (fun _ => hmx0) hz36 rfl rfl
      · have hl : j < 168 := (nI_gtI (a := 168) (by omega) (by omega)).mp c6
        refine GS.run [] 4 rfl ?_
        refine GS.ast (j) rfl rfl (rfl) (by omega) ?_
        refine GS.run [] 2 rfl ?_
        rw [am_s1_eq, am_s1_s1, nI_1, fF_s]
        exact ih2 _ (by omega) (j + 1) (by omega) rfl
  have e0 := loop2 _ 0 (Nat.zero_le _) rfl
  rw [fF_0, am_s1_self] at e0
  exact e0
theorem c_mfirst (d : Nat) (σ : am_S) (t : Tn) (b : Bf) (g : Nat) (hg : g < 8) (hw : wfT t) (hb : rcV σ b) (hwb : wfB 112 (okS t) b) : CallS mX12_firstAt (d) [.ref 69, .int (nI g)] σ (am_det (some (.int (plI ((fstC b g).map (bQ b))))) σ) := by
  refine CallS.of kX12_firstAt pX12_firstAt [.ref 69, .int (nI g), .retAddr 0] rfl (Nat.le_of_ble_eq_true rfl) ?_
  have h8 := hw.1
  have h64 := wfB_C hwb
  refine GS.run [] 2 rfl ?_
  have loop2 : ∀ (fu : Nat) (i : Nat) (hi : i ≤ bC b) (hn : ∀ k, k < i → ¬ bQ b k / 14 = g), bC b - i = fu → GS none mX12_firstAt (d) (am_det (some (.int (plI ((fstC b g).map (bQ b))))) σ) 2 [.ref 69, .int (nI g), .int (nI i)] [] σ := by
    intro fu
    induction fu using Nat.strongRecOn with
    | ind fu ih2 =>
      intro i hi hn hfu
      refine GS.run [] 3 rfl ?_
      rw [show σ 69 32 = nI (bC b) from hb.1]
      refine GS.run [] 0 rfl ?_
      refine GS.icmp_ge rfl (fun c7 => ?_) (fun c7 => ?_)
      · have e : i = bC b := by have := (nI_leI (by omega) (by omega)).mp c7; omega
        subst e
        refine GS.run [] 1 rfl ?_
        refine GS.iret rfl rfl (rfl) ?_
        have : fstC b g = none := ufst_isN (fun k hk => by simpa using hn k hk)
        rw [this]
        exact ⟨rfl, rfl⟩
      · have hl : i < bC b := (nI_gtI (by omega) (by omega)).mp c7
        have hq8 := bQ14 hwb hl
        have hq112 := (hwb.2.1 i hl).1
        refine GS.run [] 3 rfl ?_
        refine GS.ald (i) rfl rfl (rfl) (by omega) ?_
        rw [hb.2.1 i hl]
        refine GS.run [] 1 rfl ?_
        refine GS.idiv rfl (by decide) ?_
        rw [show (14 : Int32) = nI 14 from rfl, pk_div (by omega) (by omega) (by omega)]
        refine GS.run [] 1 rfl ?_
        refine GS.icmp_ne rfl (fun c20 => ?_) (fun c20 => ?_)
        · have k1 : ¬ bQ b i / 14 = g := fun h => c20 (by rw [h])
          refine GS.run [] 2 rfl ?_
          rw [nI_1]
          exact ih2 _ (by omega) (i + 1) (by omega) (fun k hk => by
            by_cases e : k = i
            · rw [e]; exact k1
            · exact hn k (by omega)) rfl
        · have k1 : bQ b i / 14 = g := (nI_eq (by omega) (by omega)).mp c20
          refine GS.run [] 3 rfl ?_
          refine GS.ald (i) rfl rfl (rfl) (by omega) ?_
          rw [hb.2.1 i hl]
          refine GS.iret rfl rfl (rfl) ?_
          have : fstC b g = some i := ufst_is (by simpa using k1) (fun k hk => by simpa using hn k hk) hl
          rw [this]
          exact ⟨rfl, rfl⟩
  exact loop2 _ 0 (Nat.zero_le _) (fun k hk => absurd hk (Nat.not_lt_zero _)) rfl
theorem p_shortest_m (d : Nat) (σ : am_S) (t : Tn) (c g u k : Int32) (ht : townM 73 0 σ t) (hw : wfT t) (hh : hM σ) : CallS mX12_shortest (d + 4) [.ref 69, .int c, .int g, .int u, .int k] σ (fun r σ' => r = some (.int (qShort t c g u k)) ∧ sameM [80, 81, 82, 83] [0, 20, 21, 22, 32] σ σ' ∧ hM σ') := by
  refine CallS.of kX12_shortest pX12_shortest [.ref 69, .int c, .int g, .int u, .int k, .retAddr 0] rfl (Nat.le_of_ble_eq_true rfl) ?_
  have h8 := hw.1
  have s0 : sameM [80, 81, 82, 83] [0, 20, 21, 22, 32] σ (am_s1 σ 69 (upd (σ 69) 0 0)) := sameM.rf.fld (by decide)
  have ht0 := sameM_town s0 (by decide) ht
  have hh0 : hM (am_s1 σ 69 (upd (σ 69) 0 0)) := hh
  refine GS.run [] 5 rfl ?_
  refine GS.cV oX12_isCorner (c_isCorner (d + 2) (am_s1 σ 69 (upd (σ 69) 0 0)) t c ht0 hw) rfl rfl rfl rfl rfl rfl rfl (Nat.le_of_ble_eq_true rfl) (by omega) ?_
  refine GS.if_eq rfl (fun c10 => ?_) (fun c10 => ?_)
  · have hbad : ¬ (okc t c ∧ okc t g ∧ okb u ∧ okm k) := fun h => am_b0.mp c10 h.1
    refine GS.run [] 1 rfl ?_
    refine GS.iret rfl rfl (rfl) ?_
    exact ⟨by unfold qShort; rw [if_neg hbad], s0, hh0⟩
  · have g1 : okc t c := am_bT c10
    refine GS.run [] 2 rfl ?_
    refine GS.cV oX12_isCorner (c_isCorner (d + 2) (am_s1 σ 69 (upd (σ 69) 0 0)) t g ht0 hw) rfl rfl rfl rfl rfl rfl rfl (Nat.le_of_ble_eq_true rfl) (by omega) ?_
    refine GS.if_eq rfl (fun c18 => ?_) (fun c18 => ?_)
    · have hbad : ¬ (okc t c ∧ okc t g ∧ okb u ∧ okm k) := fun h => am_b0.mp c18 h.2.1
      refine GS.run [] 1 rfl ?_
      refine GS.iret rfl rfl (rfl) ?_
      exact ⟨by unfold qShort; rw [if_neg hbad], s0, hh0⟩
    · have g2 : okc t g := am_bT c18
      refine GS.run [] 4 rfl ?_
      refine GS.cS oX12_in (c_inB (d + 3) (am_s1 σ 69 (upd (σ 69) 0 0)) u) rfl rfl rfl rfl (Nat.le_of_ble_eq_true rfl) (by omega) ?_
      refine GS.if_eq rfl (fun c28 => ?_) (fun c28 => ?_)
      · have hbad : ¬ (okc t c ∧ okc t g ∧ okb u ∧ okm k) := fun h => am_b0.mp c28 h.2.2.1
        refine GS.run [] 1 rfl ?_
        refine GS.iret rfl rfl (rfl) ?_
        exact ⟨by unfold qShort; rw [if_neg hbad], s0, hh0⟩
      · have g3 : okb u := am_bT c28
        refine GS.run [] 2 rfl ?_
        refine GS.icmp_ge rfl (fun c34 => ?_) (fun c34 => ?_)
        · have g4 : okm k := tI_le.mp c34
          obtain ⟨x, hx, rfl⟩ := okc_nat g1
          obtain ⟨y, hy2, rfl⟩ := okc_nat g2
          have ex : cn (nI x) = x := cn_nI (by omega)
          have ey : cn (nI y) = y := cn_nI (by omega)
          rcases g3 with rfl | rfl
          · have hf := srB_fin (t := t) (c := x) (W := 14) hw hx
            have h64 := wfB_C hf.1
            refine GS.run [] 4 rfl ?_
            refine GS.icmp_ne rfl (fun c44 => ?_) (fun q => absurd q (by decide))
            refine GS.run [] 1 rfl ?_
            refine GS.callV oX12_seek (c_seek_0 d (am_s1 σ 69 (upd (σ 69) 0 0)) t x ht0 hw hx hh0) rfl rfl rfl rfl rfl rfl rfl (Nat.le_of_ble_eq_true rfl) (by omega) (fun v52 σ52 hq52 => ?_)
            obtain ⟨rfl, b52, s52, hh52⟩ := hq52
            have sT : sameM [80, 81, 82, 83] [0, 20, 21, 22, 32] σ σ52 := s0.trans (s52.sub (by decide) (by decide))
            refine GS.run [] 2 rfl ?_
            refine GS.cV oX12_firstAt (c_mfirst (d + 3) σ52 t (srB t x 14) y (by omega) hw b52 hf.1) rfl rfl rfl rfl rfl rfl rfl (Nat.le_of_ble_eq_true rfl) (by omega) ?_
            refine GS.run [] 2 rfl ?_
            have eq2 : qShort t (nI x) (nI y) 0 k = (match fstC (srB t x 14) y with
                | none => -1000000
                | some j => if k = -1 then nI (dsB (srB t x 14) j) else if k.toInt < (dsB (srB t x 14) j : Int) then nI (wyW (bW (srB t x 14) (bQ (srB t x 14) (bk (srB t x 14) (dsB (srB t x 14) j - 1 - cn k) j)))) else -1000000) := by
              unfold qShort
              rw [if_pos ⟨g1, g2, by decide, g4⟩, ex, ey]
              rfl
            rcases e64 : fstC (srB t x 14) y with _ | j
            · rw [e64] at eq2
              rw [show plI (Option.map (bQ (srB t x 14)) none) = -1 from rfl]
              refine GS.if_ge rfl (fun q => absurd q (by decide)) (fun c64 => ?_)
              refine GS.run [] 1 rfl ?_
              refine GS.iret rfl rfl (rfl) ?_
              exact ⟨congrArg (fun z => some (Value.int z)) eq2.symm, sT, hh52⟩
            · rw [e64] at eq2
              have hj := (ufst_some e64).1
              obtain ⟨q1, q2, q3⟩ := hf.1.2.1 j hj
              have hdj := (dsB_eq hf.1 hj).2
              have hfj := b52.2.2.1 _ q1
              rw [(dsB_eq hf.1 hj).1, show plI (some (dsB (srB t x 14) j)) = nI (dsB (srB t x 14) j) from rfl] at hfj
              rw [show plI (Option.map (bQ (srB t x 14)) (some j)) = nI (bQ (srB t x 14) j) from rfl]
              refine GS.if_ge rfl (fun c64 => ?_) (fun q => absurd (nI_pos' (by omega)) q)
              refine GS.run [] 1 rfl ?_
              refine GS.if_ge rfl (fun c72 => ?_) (fun c72 => ?_)
              · have hk0 : 0 ≤ k.toInt := tI_le.mp c72
                have kne : ¬ k = -1 := fun e => by rw [e] at hk0; exact absurd hk0 (by decide)
                have eq3 : qShort t (nI x) (nI y) 0 k = (if k.toInt < (dsB (srB t x 14) j : Int) then nI (wyW (bW (srB t x 14) (bQ (srB t x 14) (bk (srB t x 14) (dsB (srB t x 14) j - 1 - cn k) j)))) else -1000000) := eq2.trans (if_neg kne)
                refine GS.run [] 4 rfl ?_
                refine GS.ald (bQ (srB t x 14) j) rfl rfl (rfl) (by omega) ?_
                rw [hfj]
                refine GS.icmp_lt rfl (fun c92 => ?_) (fun c92 => ?_)
                · have hkl : k.toInt < (dsB (srB t x 14) j : Int) := by have := tI_lt.mp c92; rwa [nI_toInt (by omega)] at this
                  rw [if_pos hkl] at eq3
                  obtain ⟨n, hn, rfl⟩ : ∃ n, n < dsB (srB t x 14) j ∧ k = nI n := ⟨k.toInt.toNat, by omega, by rw [zI_n, Int.toNat_of_nonneg hk0, zI_of]⟩
                  rw [cn_nI (by omega)] at eq3
                  have loop98 : ∀ (fu : Nat) (i : Nat) (hi : i < bC (srB t x 14)) (hd : n + 1 ≤ dsB (srB t x 14) i) (hr : bk (srB t x 14) (dsB (srB t x 14) i - 1 - n) i = bk (srB t x 14) (dsB (srB t x 14) j - 1 - n) j), dsB (srB t x 14) i = fu → GS none mX12_shortest (d + 4) (fun r σ' => r = some (.int (qShort t (nI x) (nI y) 0 (nI n))) ∧ sameM [80, 81, 82, 83] [0, 20, 21, 22, 32] σ σ' ∧ hM σ') 98 [.ref 69, .int (nI x), .int (nI y), .int 0, .int (nI n), .int (nI (bQ (srB t x 14) i))] [] σ52 := by
                    intro fu
                    induction fu using Nat.strongRecOn with
                    | ind fu ih98 =>
                      intro i hi hd hr hfu
                      obtain ⟨r1, r2, r3⟩ := hf.1.2.1 i hi
                      have hdi := (dsB_eq hf.1 hi).2
                      have hfi := b52.2.2.1 _ r1
                      rw [(dsB_eq hf.1 hi).1, show plI (some (dsB (srB t x 14) i)) = nI (dsB (srB t x 14) i) from rfl] at hfi
                      refine GS.run [] 3 rfl ?_
                      refine GS.ald (bQ (srB t x 14) i) rfl rfl (rfl) (by omega) ?_
                      rw [hfi]
                      refine GS.run [] 3 rfl ?_
                      rw [nI_1]
                      refine GS.run [] 0 rfl ?_
                      refine GS.icmp_le rfl (fun c109 => ?_) (fun c109 => ?_)
                      · have e : dsB (srB t x 14) i = n + 1 := by have := (nI_leI (by omega) (by omega)).mp c109; omega
                        refine GS.run [] 3 rfl ?_
                        have h0i : 0 < i := by
                          rcases hf.2.2 i hi with q | q <;> omega
                        rw [e, Nat.add_sub_cancel, Nat.sub_self] at hr
                        have hr : i = bk (srB t x 14) (dsB (srB t x 14) j - 1 - n) j := hr
                        refine GS.run [] 0 rfl ?_
                        refine GS.ald (bQ (srB t x 14) i) rfl rfl (rfl) (by omega) ?_
                        rw [(b52.2.2.2 i hi h0i).2.2]
                        refine GS.iret rfl rfl (rfl) ?_
                        rw [← hr] at eq3
                        exact ⟨congrArg (fun z => some (Value.int z)) eq3.symm, sT, hh52⟩
                      · have hl : n + 1 < dsB (srB t x 14) i := (nI_gtI (by omega) (by omega)).mp c109
                        obtain ⟨p1, p2⟩ : bP (srB t x 14) (bQ (srB t x 14) i) < i ∧ dsB (srB t x 14) i = dsB (srB t x 14) (bP (srB t x 14) (bQ (srB t x 14) i)) + 1 := by
                          rcases hf.2.2 i hi with q | q
                          · omega
                          · exact q
                        obtain ⟨y1, y2, y3⟩ := b52.2.2.2 i hi (by omega)
                        refine GS.run [] 3 rfl ?_
                        refine GS.ald (bQ (srB t x 14) i) rfl rfl (rfl) (by omega) ?_
                        rw [y2]
                        refine GS.run [] 2 rfl ?_
                        exact ih98 _ (by omega) (bP (srB t x 14) (bQ (srB t x 14) i)) (by omega) (by omega) (by rw [← hr, show dsB (srB t x 14) i - 1 - n = dsB (srB t x 14) (bP (srB t x 14) (bQ (srB t x 14) i)) - 1 - n + 1 by omega]; rfl) rfl
                  exact loop98 _ j hj (by omega) rfl rfl
                · have hkl : ¬ k.toInt < (dsB (srB t x 14) j : Int) := fun h => c92 (tI_lt.mpr (by rwa [nI_toInt (by omega)]))
                  rw [if_neg hkl] at eq3
                  refine GS.run [] 1 rfl ?_
                  refine GS.iret rfl rfl (rfl) ?_
                  exact ⟨congrArg (fun z => some (Value.int z)) eq3.symm, sT, hh52⟩
              · have hk1 : k = -1 := by
                  have h1 : ¬ 0 ≤ k.toInt := fun h => c72 (tI_le.mpr h)
                  have h2 := g4
                  rw [← zI_of k, show k.toInt = -1 by omega]; rfl
                have eq3 : qShort t (nI x) (nI y) 0 k = nI (dsB (srB t x 14) j) := eq2.trans (if_pos hk1)
                refine GS.run [] 3 rfl ?_
                refine GS.ald (bQ (srB t x 14) j) rfl rfl (rfl) (by omega) ?_
                rw [hfj]
                refine GS.iret rfl rfl (rfl) ?_
                exact ⟨congrArg (fun z => some (Value.int z)) eq3.symm, sT, hh52⟩
          · have hf := srB_fin (t := t) (c := x) (W := 17) hw hx
            have h64 := wfB_C hf.1
            refine GS.run [] 4 rfl ?_
            refine GS.icmp_ne rfl (fun q => absurd (by decide) q) (fun c44 => ?_)
            refine GS.run [] 2 rfl ?_
            refine GS.callV oX12_seek (c_seek_1 d (am_s1 σ 69 (upd (σ 69) 0 0)) t x ht0 hw hx hh0) rfl rfl rfl rfl rfl rfl rfl (Nat.le_of_ble_eq_true rfl) (by omega) (fun v52 σ52 hq52 => ?_)
            obtain ⟨rfl, b52, s52, hh52⟩ := hq52
            have sT : sameM [80, 81, 82, 83] [0, 20, 21, 22, 32] σ σ52 := s0.trans (s52.sub (by decide) (by decide))
            refine GS.run [] 2 rfl ?_
            refine GS.cV oX12_firstAt (c_mfirst (d + 3) σ52 t (srB t x 17) y (by omega) hw b52 hf.1) rfl rfl rfl rfl rfl rfl rfl (Nat.le_of_ble_eq_true rfl) (by omega) ?_
            refine GS.run [] 2 rfl ?_
            have eq2 : qShort t (nI x) (nI y) 1 k = (match fstC (srB t x 17) y with
                | none => -1000000
                | some j => if k = -1 then nI (dsB (srB t x 17) j) else if k.toInt < (dsB (srB t x 17) j : Int) then nI (wyW (bW (srB t x 17) (bQ (srB t x 17) (bk (srB t x 17) (dsB (srB t x 17) j - 1 - cn k) j)))) else -1000000) := by
              unfold qShort
              rw [if_pos ⟨g1, g2, by decide, g4⟩, ex, ey]
              rfl
            rcases e64 : fstC (srB t x 17) y with _ | j
            · rw [e64] at eq2
              rw [show plI (Option.map (bQ (srB t x 17)) none) = -1 from rfl]
              refine GS.if_ge rfl (fun q => absurd q (by decide)) (fun c64 => ?_)
              refine GS.run [] 1 rfl ?_
              refine GS.iret rfl rfl (rfl) ?_
              exact ⟨congrArg (fun z => some (Value.int z)) eq2.symm, sT, hh52⟩
            · rw [e64] at eq2
              have hj := (ufst_some e64).1
              obtain ⟨q1, q2, q3⟩ := hf.1.2.1 j hj
              have hdj := (dsB_eq hf.1 hj).2
              have hfj := b52.2.2.1 _ q1
              rw [(dsB_eq hf.1 hj).1, show plI (some (dsB (srB t x 17) j)) = nI (dsB (srB t x 17) j) from rfl] at hfj
              rw [show plI (Option.map (bQ (srB t x 17)) (some j)) = nI (bQ (srB t x 17) j) from rfl]
              refine GS.if_ge rfl (fun c64 => ?_) (fun q => absurd (nI_pos' (by omega)) q)
              refine GS.run [] 1 rfl ?_
              refine GS.if_ge rfl (fun c72 => ?_) (fun c72 => ?_)
              · have hk0 : 0 ≤ k.toInt := tI_le.mp c72
                have kne : ¬ k = -1 := fun e => by rw [e] at hk0; exact absurd hk0 (by decide)
                have eq3 : qShort t (nI x) (nI y) 1 k = (if k.toInt < (dsB (srB t x 17) j : Int) then nI (wyW (bW (srB t x 17) (bQ (srB t x 17) (bk (srB t x 17) (dsB (srB t x 17) j - 1 - cn k) j)))) else -1000000) := eq2.trans (if_neg kne)
                refine GS.run [] 4 rfl ?_
                refine GS.ald (bQ (srB t x 17) j) rfl rfl (rfl) (by omega) ?_
                rw [hfj]
                refine GS.icmp_lt rfl (fun c92 => ?_) (fun c92 => ?_)
                · have hkl : k.toInt < (dsB (srB t x 17) j : Int) := by have := tI_lt.mp c92; rwa [nI_toInt (by omega)] at this
                  rw [if_pos hkl] at eq3
                  obtain ⟨n, hn, rfl⟩ : ∃ n, n < dsB (srB t x 17) j ∧ k = nI n := ⟨k.toInt.toNat, by omega, by rw [zI_n, Int.toNat_of_nonneg hk0, zI_of]⟩
                  rw [cn_nI (by omega)] at eq3
                  have loop98 : ∀ (fu : Nat) (i : Nat) (hi : i < bC (srB t x 17)) (hd : n + 1 ≤ dsB (srB t x 17) i) (hr : bk (srB t x 17) (dsB (srB t x 17) i - 1 - n) i = bk (srB t x 17) (dsB (srB t x 17) j - 1 - n) j), dsB (srB t x 17) i = fu → GS none mX12_shortest (d + 4) (fun r σ' => r = some (.int (qShort t (nI x) (nI y) 1 (nI n))) ∧ sameM [80, 81, 82, 83] [0, 20, 21, 22, 32] σ σ' ∧ hM σ') 98 [.ref 69, .int (nI x), .int (nI y), .int 1, .int (nI n), .int (nI (bQ (srB t x 17) i))] [] σ52 := by
                    intro fu
                    induction fu using Nat.strongRecOn with
                    | ind fu ih98 =>
                      intro i hi hd hr hfu
                      obtain ⟨r1, r2, r3⟩ := hf.1.2.1 i hi
                      have hdi := (dsB_eq hf.1 hi).2
                      have hfi := b52.2.2.1 _ r1
                      rw [(dsB_eq hf.1 hi).1, show plI (some (dsB (srB t x 17) i)) = nI (dsB (srB t x 17) i) from rfl] at hfi
                      refine GS.run [] 3 rfl ?_
                      refine GS.ald (bQ (srB t x 17) i) rfl rfl (rfl) (by omega) ?_
                      rw [hfi]
                      refine GS.run [] 3 rfl ?_
                      rw [nI_1]
                      refine GS.run [] 0 rfl ?_
                      refine GS.icmp_le rfl (fun c109 => ?_) (fun c109 => ?_)
                      · have e : dsB (srB t x 17) i = n + 1 := by have := (nI_leI (by omega) (by omega)).mp c109; omega
                        refine GS.run [] 3 rfl ?_
                        have h0i : 0 < i := by
                          rcases hf.2.2 i hi with q | q <;> omega
                        rw [e, Nat.add_sub_cancel, Nat.sub_self] at hr
                        have hr : i = bk (srB t x 17) (dsB (srB t x 17) j - 1 - n) j := hr
                        refine GS.run [] 0 rfl ?_
                        refine GS.ald (bQ (srB t x 17) i) rfl rfl (rfl) (by omega) ?_
                        rw [(b52.2.2.2 i hi h0i).2.2]
                        refine GS.iret rfl rfl (rfl) ?_
                        rw [← hr] at eq3
                        exact ⟨congrArg (fun z => some (Value.int z)) eq3.symm, sT, hh52⟩
                      · have hl : n + 1 < dsB (srB t x 17) i := (nI_gtI (by omega) (by omega)).mp c109
                        obtain ⟨p1, p2⟩ : bP (srB t x 17) (bQ (srB t x 17) i) < i ∧ dsB (srB t x 17) i = dsB (srB t x 17) (bP (srB t x 17) (bQ (srB t x 17) i)) + 1 := by
                          rcases hf.2.2 i hi with q | q
                          · omega
                          · exact q
                        obtain ⟨y1, y2, y3⟩ := b52.2.2.2 i hi (by omega)
                        refine GS.run [] 3 rfl ?_
                        refine GS.ald (bQ (srB t x 17) i) rfl rfl (rfl) (by omega) ?_
                        rw [y2]
                        refine GS.run [] 2 rfl ?_
                        exact ih98 _ (by omega) (bP (srB t x 17) (bQ (srB t x 17) i)) (by omega) (by omega) (by rw [← hr, show dsB (srB t x 17) i - 1 - n = dsB (srB t x 17) (bP (srB t x 17) (bQ (srB t x 17) i)) - 1 - n + 1 by omega]; rfl) rfl
                  exact loop98 _ j hj (by omega) rfl rfl
                · have hkl : ¬ k.toInt < (dsB (srB t x 17) j : Int) := fun h => c92 (tI_lt.mpr (by rwa [nI_toInt (by omega)]))
                  rw [if_neg hkl] at eq3
                  refine GS.run [] 1 rfl ?_
                  refine GS.iret rfl rfl (rfl) ?_
                  exact ⟨congrArg (fun z => some (Value.int z)) eq3.symm, sT, hh52⟩
              · have hk1 : k = -1 := by
                  have h1 : ¬ 0 ≤ k.toInt := fun h => c72 (tI_le.mpr h)
                  have h2 := g4
                  rw [← zI_of k, show k.toInt = -1 by omega]; rfl
                have eq3 : qShort t (nI x) (nI y) 1 k = nI (dsB (srB t x 17) j) := eq2.trans (if_pos hk1)
                refine GS.run [] 3 rfl ?_
                refine GS.ald (bQ (srB t x 17) j) rfl rfl (rfl) (by omega) ?_
                rw [hfj]
                refine GS.iret rfl rfl (rfl) ?_
                exact ⟨congrArg (fun z => some (Value.int z)) eq3.symm, sT, hh52⟩
        · have hbad : ¬ (okc t c ∧ okc t g ∧ okb u ∧ okm k) := fun h => c34 (tI_le.mpr h.2.2.2)
          refine GS.run [] 1 rfl ?_
          refine GS.iret rfl rfl (rfl) ?_
          exact ⟨by unfold qShort; rw [if_neg hbad], s0, hh0⟩
theorem p_soonest_m (d : Nat) (σ : am_S) (t : Tn) (c u : Int32) (ht : townM 73 0 σ t) (hw : wfT t) (hh : hM σ) : CallS mX12_soonest (d + 4) [.ref 69, .int c, .int u] σ (fun r σ' => r = some (.int (qSoonest t c u)) ∧ sameM [80, 81, 82, 83] [0, 20, 21, 22, 32] σ σ' ∧ hM σ') := by
  refine CallS.of kX12_soonest pX12_soonest [.ref 69, .int c, .int u, .retAddr 0, .retAddr 0, .retAddr 0, .retAddr 0] rfl (Nat.le_of_ble_eq_true rfl) ?_
  have h8 := hw.1
  have s0 : sameM [80, 81, 82, 83] [0, 20, 21, 22, 32] σ (am_s1 σ 69 (upd (σ 69) 0 0)) := sameM.rf.fld (by decide)
  have ht0 := sameM_town s0 (by decide) ht
  have hh0 : hM (am_s1 σ 69 (upd (σ 69) 0 0)) := hh
  refine GS.run [] 5 rfl ?_
  refine GS.cV oX12_isCorner (c_isCorner (d + 2) (am_s1 σ 69 (upd (σ 69) 0 0)) t c ht0 hw) rfl rfl rfl rfl rfl rfl rfl (Nat.le_of_ble_eq_true rfl) (by omega) ?_
  refine GS.if_eq rfl (fun c10 => ?_) (fun c10 => ?_)
  · have hbad : ¬ (okc t c ∧ okb u) := fun h => am_b0.mp c10 h.1
    refine GS.run [] 1 rfl ?_
    refine GS.iret rfl rfl (rfl) ?_
    exact ⟨by unfold qSoonest; rw [if_neg hbad], s0, hh0⟩
  · have g1 : okc t c := am_bT c10
    refine GS.run [] 4 rfl ?_
    refine GS.cS oX12_in (c_inB (d + 3) (am_s1 σ 69 (upd (σ 69) 0 0)) u) rfl rfl rfl rfl (Nat.le_of_ble_eq_true rfl) (by omega) ?_
    refine GS.if_ne rfl (fun c20 => ?_) (fun c20 => ?_)
    · have g3 : okb u := am_bT c20
      obtain ⟨x, hx, rfl⟩ := okc_nat g1
      have ex : cn (nI x) = x := cn_nI (by omega)
      have hf := srB_fin (t := t) (c := x) (W := 14) hw hx
      have h64 := wfB_C hf.1
      rcases g3 with rfl | rfl
      · have eq2 : qSoonest t (nI x) 0 = (match srW t (srB t x 14) (tN t) with
          | none => -1000000
          | some q => if (0 : Int32) = 0 then nI q.1 else nI q.2) := by
          unfold qSoonest
          rw [if_pos ⟨g1, by decide⟩, ex]
          rfl
        refine GS.run [] 3 rfl ?_
        refine GS.callV oX12_seek (c_seek_0 d (am_s1 σ 69 (upd (σ 69) 0 0)) t x ht0 hw hx hh0) rfl rfl rfl rfl rfl rfl rfl (Nat.le_of_ble_eq_true rfl) (by omega) (fun v29 σ29 hq29 => ?_)
        obtain ⟨rfl, b29, s29, hh29⟩ := hq29
        have sT : sameM [80, 81, 82, 83] [0, 20, 21, 22, 32] σ σ29 := s0.trans (s29.sub (by decide) (by decide))
        have ht29 : townM 73 0 σ29 t := sameM_town sT (by decide) ht
        refine GS.run [] 6 rfl ?_
        have loop40 : ∀ (fu : Nat) (y : Nat) (v6 : Value) (hy : y ≤ tN t), tN t - y = fu → GS none mX12_soonest (d + 4) (fun r σ' => r = some (.int (qSoonest t (nI x) 0)) ∧ sameM [80, 81, 82, 83] [0, 20, 21, 22, 32] σ σ' ∧ hM σ') 40 [.ref 69, .int (nI x), .int 0, .int (plI ((srW t (srB t x 14) y).map Prod.snd)), .int (plI ((srW t (srB t x 14) y).map Prod.fst)), .int (nI y), .retAddr 0] [] σ29 := by
          intro fu
          induction fu using Nat.strongRecOn with
          | ind fu ih40 =>
            intro y v6 hy hfu
            refine GS.run [] 4 rfl ?_
            refine GS.ald (0) rfl rfl (rfl) (by omega) ?_
            rw [m_n ht29]
            refine GS.icmp_ge rfl (fun c48 => ?_) (fun c48 => ?_)
            · have e : y = tN t := by have := (nI_leI (by omega) (by omega)).mp c48; omega
              subst e
              refine GS.run [] 1 rfl ?_
              rcases e117 : srW t (srB t x 14) (tN t) with _ | q
              · rw [e117] at eq2
                rw [show plI (Option.map Prod.snd (none : Option (Nat × Nat))) = -1 from rfl]
                refine GS.if_ge rfl (fun q => absurd q (by decide)) (fun c117 => ?_)
                refine GS.run [] 2 rfl ?_
                refine GS.iret rfl rfl (rfl) ?_
                exact ⟨congrArg (fun z => some (Value.int z)) eq2.symm, sT, hh29⟩
              · rw [e117] at eq2
                obtain ⟨r1, r2, -⟩ := (srW_ok (t := t) (b := (srB t x 14)) (n := tN t)).2 q e117
                refine GS.if_ge rfl (fun c117 => ?_) (fun q => absurd (nI_pos' (by omega)) q)
                refine GS.run [] 1 rfl ?_
                refine GS.if_ne rfl (fun q => absurd (rfl) q) (fun c126 => ?_)
                refine GS.run [] 2 rfl ?_
                refine GS.iret rfl rfl (rfl) ?_
                exact ⟨congrArg (fun z => some (Value.int z)) eq2.symm, sT, hh29⟩
            · have hl : y < tN t := (nI_gtI (by omega) (by omega)).mp c48
              have htw := (hw.2.2 y hl).2.2.1
              refine GS.run [] 5 rfl ?_
              refine GS.ald (26 + y) rfl rfl (by rw [show (26 : Int32) = nI 26 from rfl, nI_add]) (by omega) ?_
              rw [m_wl ht29 hl]
              refine GS.run [] 1 rfl ?_
              refine GS.icmp_ne rfl (fun c62 => ?_) (fun c62 => ?_)
              · have k1 : ¬ tW t y = 1 := fun h => c62 (by rw [h]; rfl)
                have hcd : cdW1 t (srB t x 14) y = none := if_neg k1
                refine GS.run [] 3 rfl ?_
                refine GS.if_lt rfl (fun c79 => ?_) (fun q => absurd (by decide) q)
                have hE : srW t (srB t x 14) (y + 1) = srW t (srB t x 14) y := by rw [srW, hcd]
                refine GS.run [] 0 rfl ?_
                refine GS.run [] 2 rfl ?_
                rw [nI_1]
                have ih := ih40 _ (by omega) (y + 1) Value.null (by omega) rfl
                rw [hE] at ih
                exact GS.weak (by exact ⟨Or.inr rfl, Or.inr rfl, Or.inr rfl, Or.inr rfl, Or.inr rfl, Or.inr rfl, Or.inl rfl, trivial⟩) ih
              · have k1 : tW t y = 1 := (nI_eq (b := 1) (by omega) (by omega)).mp c62
                have hcd : cdW1 t (srB t x 14) y = (fstC (srB t x 14) y).map (dsB (srB t x 14)) := if_pos k1
                refine GS.run [] 2 rfl ?_
                refine GS.cV oX12_firstAt (c_mfirst (d + 3) σ29 t (srB t x 14) y (by omega) hw b29 hf.1) rfl rfl rfl rfl rfl rfl rfl (Nat.le_of_ble_eq_true rfl) (by omega) ?_
                rcases e79 : fstC (srB t x 14) y with _ | j
                · rw [show plI (Option.map (bQ (srB t x 14)) none) = -1 from rfl]
                  rw [e79] at hcd
                  have hE : srW t (srB t x 14) (y + 1) = srW t (srB t x 14) y := by rw [srW, hcd]; rfl
                  refine GS.run [] 3 rfl ?_
                  refine GS.if_lt rfl (fun c79 => ?_) (fun q => absurd (by decide) q)
                  refine GS.run [] 2 rfl ?_
                  rw [nI_1]
                  have ih := ih40 _ (by omega) (y + 1) Value.null (by omega) rfl
                  rw [hE] at ih
                  exact GS.weak (by exact ⟨Or.inr rfl, Or.inr rfl, Or.inr rfl, Or.inr rfl, Or.inr rfl, Or.inr rfl, Or.inl rfl, trivial⟩) ih
                · rw [e79] at hcd
                  have hj := (ufst_some e79).1
                  obtain ⟨q1, q2, q3⟩ := hf.1.2.1 j hj
                  have hdj := (dsB_eq hf.1 hj).2
                  have hfj := b29.2.2.1 _ q1
                  rw [(dsB_eq hf.1 hj).1, show plI (some (dsB (srB t x 14) j)) = nI (dsB (srB t x 14) j) from rfl] at hfj
                  rw [show plI (Option.map (bQ (srB t x 14)) (some j)) = nI (bQ (srB t x 14) j) from rfl]
                  refine GS.run [] 3 rfl ?_
                  refine GS.if_lt rfl (fun q => absurd q (Int32.not_lt.mpr (nI_pos' (by omega)))) (fun c79 => ?_)
                  refine GS.run [] 1 rfl ?_
                  rcases e83 : srW t (srB t x 14) y with _ | q
                  · have hE : srW t (srB t x 14) (y + 1) = some (dsB (srB t x 14) j, y) := by rw [srW, hcd, e83]; rfl
                    refine GS.if_lt rfl (fun c83 => ?_) (fun q => absurd (by decide) q)
                    refine GS.run [] 5 rfl ?_
                    refine GS.ald (bQ (srB t x 14) j) rfl rfl (rfl) (by omega) ?_
                    rw [hfj]
                    refine GS.run [] 3 rfl ?_
                    rw [nI_1]
                    have ih := ih40 _ (by omega) (y + 1) Value.null (by omega) rfl
                    rw [hE] at ih
                    exact GS.weak (by exact ⟨Or.inr rfl, Or.inr rfl, Or.inr rfl, Or.inr rfl, Or.inr rfl, Or.inr rfl, Or.inl rfl, trivial⟩) ih
                  · obtain ⟨r1, r2, -⟩ := (srW_ok (t := t) (b := (srB t x 14)) (n := y)).2 q e83
                    have hE0 : srW t (srB t x 14) (y + 1) = if dsB (srB t x 14) j < q.1 then some (dsB (srB t x 14) j, y) else some q := by rw [srW, hcd, e83]; rfl
                    have hq1 : q.1 < 1000 := by
                      unfold cdW1 at r2
                      split at r2
                      · obtain ⟨m, m1, m2⟩ := Option.map_eq_some_iff.mp r2
                        have := (dsB_eq hf.1 (ufst_some m1).1).2
                        have := (ufst_some m1).1
                        omega
                      · cases r2
                    refine GS.if_lt rfl (fun q => absurd q (Int32.not_lt.mpr (nI_pos' (by omega)))) (fun c83 => ?_)
                    refine GS.run [] 3 rfl ?_
                    refine GS.ald (bQ (srB t x 14) j) rfl rfl (rfl) (by omega) ?_
                    rw [hfj]
                    refine GS.run [] 1 rfl ?_
                    refine GS.icmp_ge rfl (fun c95 => ?_) (fun c95 => ?_)
                    · have hE : srW t (srB t x 14) (y + 1) = srW t (srB t x 14) y := by rw [hE0, e83, if_neg (Nat.not_lt.mpr ((nI_leI (by omega) (by omega)).mp c95))]
                      rw [e83] at hE
                      refine GS.run [] 2 rfl ?_
                      rw [nI_1]
                      have ih := ih40 _ (by omega) (y + 1) Value.null (by omega) rfl
                      rw [hE] at ih
                      exact GS.weak (by exact ⟨Or.inr rfl, Or.inr rfl, Or.inr rfl, Or.inr rfl, Or.inr rfl, Or.inr rfl, Or.inl rfl, trivial⟩) ih
                    · have hE : srW t (srB t x 14) (y + 1) = some (dsB (srB t x 14) j, y) := by rw [hE0, if_pos ((nI_gtI (by omega) (by omega)).mp c95)]
                      refine GS.run [] 5 rfl ?_
                      refine GS.ald (bQ (srB t x 14) j) rfl rfl (rfl) (by omega) ?_
                      rw [hfj]
                      refine GS.run [] 3 rfl ?_
                      rw [nI_1]
                      have ih := ih40 _ (by omega) (y + 1) Value.null (by omega) rfl
                      rw [hE] at ih
                      exact GS.weak (by exact ⟨Or.inr rfl, Or.inr rfl, Or.inr rfl, Or.inr rfl, Or.inr rfl, Or.inr rfl, Or.inl rfl, trivial⟩) ih
        exact loop40 _ 0 Value.null (Nat.zero_le _) rfl
      · have eq2 : qSoonest t (nI x) 1 = (match srW t (srB t x 14) (tN t) with
          | none => -1000000
          | some q => if (1 : Int32) = 0 then nI q.1 else nI q.2) := by
          unfold qSoonest
          rw [if_pos ⟨g1, by decide⟩, ex]
          rfl
        refine GS.run [] 3 rfl ?_
        refine GS.callV oX12_seek (c_seek_0 d (am_s1 σ 69 (upd (σ 69) 0 0)) t x ht0 hw hx hh0) rfl rfl rfl rfl rfl rfl rfl (Nat.le_of_ble_eq_true rfl) (by omega) (fun v29 σ29 hq29 => ?_)
        obtain ⟨rfl, b29, s29, hh29⟩ := hq29
        have sT : sameM [80, 81, 82, 83] [0, 20, 21, 22, 32] σ σ29 := s0.trans (s29.sub (by decide) (by decide))
        have ht29 : townM 73 0 σ29 t := sameM_town sT (by decide) ht
        refine GS.run [] 6 rfl ?_
        have loop40 : ∀ (fu : Nat) (y : Nat) (v6 : Value) (hy : y ≤ tN t), tN t - y = fu → GS none mX12_soonest (d + 4) (fun r σ' => r = some (.int (qSoonest t (nI x) 1)) ∧ sameM [80, 81, 82, 83] [0, 20, 21, 22, 32] σ σ' ∧ hM σ') 40 [.ref 69, .int (nI x), .int 1, .int (plI ((srW t (srB t x 14) y).map Prod.snd)), .int (plI ((srW t (srB t x 14) y).map Prod.fst)), .int (nI y), .retAddr 0] [] σ29 := by
          intro fu
          induction fu using Nat.strongRecOn with
          | ind fu ih40 =>
            intro y v6 hy hfu
            refine GS.run [] 4 rfl ?_
            refine GS.ald (0) rfl rfl (rfl) (by omega) ?_
            rw [m_n ht29]
            refine GS.icmp_ge rfl (fun c48 => ?_) (fun c48 => ?_)
            · have e : y = tN t := by have := (nI_leI (by omega) (by omega)).mp c48; omega
              subst e
              refine GS.run [] 1 rfl ?_
              rcases e117 : srW t (srB t x 14) (tN t) with _ | q
              · rw [e117] at eq2
                rw [show plI (Option.map Prod.snd (none : Option (Nat × Nat))) = -1 from rfl]
                refine GS.if_ge rfl (fun q => absurd q (by decide)) (fun c117 => ?_)
                refine GS.run [] 2 rfl ?_
                refine GS.iret rfl rfl (rfl) ?_
                exact ⟨congrArg (fun z => some (Value.int z)) eq2.symm, sT, hh29⟩
              · rw [e117] at eq2
                obtain ⟨r1, r2, -⟩ := (srW_ok (t := t) (b := (srB t x 14)) (n := tN t)).2 q e117
                refine GS.if_ge rfl (fun c117 => ?_) (fun q => absurd (nI_pos' (by omega)) q)
                refine GS.run [] 1 rfl ?_
                refine GS.if_ne rfl (fun c126 => ?_) (fun q => absurd q (by decide))
                refine GS.run [] 1 rfl ?_
                refine GS.iret rfl rfl (rfl) ?_
                exact ⟨congrArg (fun z => some (Value.int z)) eq2.symm, sT, hh29⟩
            · have hl : y < tN t := (nI_gtI (by omega) (by omega)).mp c48
              have htw := (hw.2.2 y hl).2.2.1
              refine GS.run [] 5 rfl ?_
              refine GS.ald (26 + y) rfl rfl (by rw [show (26 : Int32) = nI 26 from rfl, nI_add]) (by omega) ?_
              rw [m_wl ht29 hl]
              refine GS.run [] 1 rfl ?_
              refine GS.icmp_ne rfl (fun c62 => ?_) (fun c62 => ?_)
              · have k1 : ¬ tW t y = 1 := fun h => c62 (by rw [h]; rfl)
                have hcd : cdW1 t (srB t x 14) y = none := if_neg k1
                refine GS.run [] 3 rfl ?_
                refine GS.if_lt rfl (fun c79 => ?_) (fun q => absurd (by decide) q)
                have hE : srW t (srB t x 14) (y + 1) = srW t (srB t x 14) y := by rw [srW, hcd]
                refine GS.run [] 0 rfl ?_
                refine GS.run [] 2 rfl ?_
                rw [nI_1]
                have ih := ih40 _ (by omega) (y + 1) Value.null (by omega) rfl
                rw [hE] at ih
                exact GS.weak (by exact ⟨Or.inr rfl, Or.inr rfl, Or.inr rfl, Or.inr rfl, Or.inr rfl, Or.inr rfl, Or.inl rfl, trivial⟩) ih
              · have k1 : tW t y = 1 := (nI_eq (b := 1) (by omega) (by omega)).mp c62
                have hcd : cdW1 t (srB t x 14) y = (fstC (srB t x 14) y).map (dsB (srB t x 14)) := if_pos k1
                refine GS.run [] 2 rfl ?_
                refine GS.cV oX12_firstAt (c_mfirst (d + 3) σ29 t (srB t x 14) y (by omega) hw b29 hf.1) rfl rfl rfl rfl rfl rfl rfl (Nat.le_of_ble_eq_true rfl) (by omega) ?_
                rcases e79 : fstC (srB t x 14) y with _ | j
                · rw [show plI (Option.map (bQ (srB t x 14)) none) = -1 from rfl]
                  rw [e79] at hcd
                  have hE : srW t (srB t x 14) (y + 1) = srW t (srB t x 14) y := by rw [srW, hcd]; rfl
                  refine GS.run [] 3 rfl ?_
                  refine GS.if_lt rfl (fun c79 => ?_) (fun q => absurd (by decide) q)
                  refine GS.run [] 2 rfl ?_
                  rw [nI_1]
                  have ih := ih40 _ (by omega) (y + 1) Value.null (by omega) rfl
                  rw [hE] at ih
                  exact GS.weak (by exact ⟨Or.inr rfl, Or.inr rfl, Or.inr rfl, Or.inr rfl, Or.inr rfl, Or.inr rfl, Or.inl rfl, trivial⟩) ih
                · rw [e79] at hcd
                  have hj := (ufst_some e79).1
                  obtain ⟨q1, q2, q3⟩ := hf.1.2.1 j hj
                  have hdj := (dsB_eq hf.1 hj).2
                  have hfj := b29.2.2.1 _ q1
                  rw [(dsB_eq hf.1 hj).1, show plI (some (dsB (srB t x 14) j)) = nI (dsB (srB t x 14) j) from rfl] at hfj
                  rw [show plI (Option.map (bQ (srB t x 14)) (some j)) = nI (bQ (srB t x 14) j) from rfl]
                  refine GS.run [] 3 rfl ?_
                  refine GS.if_lt rfl (fun q => absurd q (Int32.not_lt.mpr (nI_pos' (by omega)))) (fun c79 => ?_)
                  refine GS.run [] 1 rfl ?_
                  rcases e83 : srW t (srB t x 14) y with _ | q
                  · have hE : srW t (srB t x 14) (y + 1) = some (dsB (srB t x 14) j, y) := by rw [srW, hcd, e83]; rfl
                    refine GS.if_lt rfl (fun c83 => ?_) (fun q => absurd (by decide) q)
                    refine GS.run [] 5 rfl ?_
                    refine GS.ald (bQ (srB t x 14) j) rfl rfl (rfl) (by omega) ?_
                    rw [hfj]
                    refine GS.run [] 3 rfl ?_
                    rw [nI_1]
                    have ih := ih40 _ (by omega) (y + 1) Value.null (by omega) rfl
                    rw [hE] at ih
                    exact GS.weak (by exact ⟨Or.inr rfl, Or.inr rfl, Or.inr rfl, Or.inr rfl, Or.inr rfl, Or.inr rfl, Or.inl rfl, trivial⟩) ih
                  · obtain ⟨r1, r2, -⟩ := (srW_ok (t := t) (b := (srB t x 14)) (n := y)).2 q e83
                    have hE0 : srW t (srB t x 14) (y + 1) = if dsB (srB t x 14) j < q.1 then some (dsB (srB t x 14) j, y) else some q := by rw [srW, hcd, e83]; rfl
                    have hq1 : q.1 < 1000 := by
                      unfold cdW1 at r2
                      split at r2
                      · obtain ⟨m, m1, m2⟩ := Option.map_eq_some_iff.mp r2
                        have := (dsB_eq hf.1 (ufst_some m1).1).2
                        have := (ufst_some m1).1
                        omega
                      · cases r2
                    refine GS.if_lt rfl (fun q => absurd q (Int32.not_lt.mpr (nI_pos' (by omega)))) (fun c83 => ?_)
                    refine GS.run [] 3 rfl ?_
                    refine GS.ald (bQ (srB t x 14) j) rfl rfl (rfl) (by omega) ?_
                    rw [hfj]
                    refine GS.run [] 1 rfl ?_
                    refine GS.icmp_ge rfl (fun c95 => ?_) (fun c95 => ?_)
                    · have hE : srW t (srB t x 14) (y + 1) = srW t (srB t x 14) y := by rw [hE0, e83, if_neg (Nat.not_lt.mpr ((nI_leI (by omega) (by omega)).mp c95))]
                      rw [e83] at hE
                      refine GS.run [] 2 rfl ?_
                      rw [nI_1]
                      have ih := ih40 _ (by omega) (y + 1) Value.null (by omega) rfl
                      rw [hE] at ih
                      exact GS.weak (by exact ⟨Or.inr rfl, Or.inr rfl, Or.inr rfl, Or.inr rfl, Or.inr rfl, Or.inr rfl, Or.inl rfl, trivial⟩) ih
                    · have hE : srW t (srB t x 14) (y + 1) = some (dsB (srB t x 14) j, y) := by rw [hE0, if_pos ((nI_gtI (by omega) (by omega)).mp c95)]
                      refine GS.run [] 5 rfl ?_
                      refine GS.ald (bQ (srB t x 14) j) rfl rfl (rfl) (by omega) ?_
                      rw [hfj]
                      refine GS.run [] 3 rfl ?_
                      rw [nI_1]
                      have ih := ih40 _ (by omega) (y + 1) Value.null (by omega) rfl
                      rw [hE] at ih
                      exact GS.weak (by exact ⟨Or.inr rfl, Or.inr rfl, Or.inr rfl, Or.inr rfl, Or.inr rfl, Or.inr rfl, Or.inl rfl, trivial⟩) ih
        exact loop40 _ 0 Value.null (Nat.zero_le _) rfl
    · have hbad : ¬ (okc t c ∧ okb u) := fun h => am_b0.mp c20 h.2
      refine GS.run [] 1 rfl ?_
      refine GS.iret rfl rfl (rfl) ?_
      exact ⟨by unfold qSoonest; rw [if_neg hbad], s0, hh0⟩
