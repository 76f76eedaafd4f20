def frN (t : Tn) (w : Wk) : Nat := match w.2.1 with
  | none => 0
  | some j => tB t w.1 j + 1
def cdC (t : Tn) (w : Wk) : Nat := 18 * w.1 + 2 * frN t w + zW w.2.2
def ccS (t : Tn) (s : Nat) : Nat := cdC t (deW s)
theorem cdW_deW {s : Nat} : cdW (deW s) = s := by
  unfold cdW deW
  have hz : zW (decide (s % 2 = 1)) = s % 2 := by
    rcases Nat.mod_two_eq_zero_or_one s with h | h <;> rw [h] <;> rfl
  have hf : fW (if s % 14 / 2 = 0 then none else some (s % 14 / 2 - 1)) = s % 14 / 2 := by
    by_cases h : s % 14 / 2 = 0
    · rw [if_pos h, h]; rfl
    · rw [if_neg h]; show s % 14 / 2 - 1 + 1 = s % 14 / 2; omega
  show 14 * (s / 14) + 2 * fW (if s % 14 / 2 = 0 then none else some (s % 14 / 2 - 1)) + zW (decide (s % 2 = 1)) = s
  rw [hz, hf]
  omega
theorem frN_lt {t : Tn} {w : Wk} (hw : wfT t) (hW : wfW t w) : frN t w < 9 := by
  have h8 := hw.1
  unfold frN
  cases e : w.2.1 with
  | none => exact Nat.zero_lt_succ _
  | some j =>
    have := ((hw.2.2 w.1 hW.1).2.2.2.2.1 j (hW.2 j e)).1
    show tB t w.1 j + 1 < 9
    omega
theorem cdC_lt {t : Tn} {w : Wk} (hw : wfT t) (hW : wfW t w) : cdC t w < 144 := by
  have h1 := frN_lt hw hW
  have h2 := zW_lt (z := w.2.2)
  have h3 := hW.1
  have h8 := hw.1
  unfold cdC
  omega
theorem cdC_inj {t : Tn} {w u : Wk} (hw : wfT t) (hW : wfW t w) (hU : wfW t u) (h : cdC t w = cdC t u) : w = u := by
  have h1 := frN_lt hw hW
  have h2 := zW_lt (z := w.2.2)
  have h3 := frN_lt hw hU
  have h4 := zW_lt (z := u.2.2)
  unfold cdC at h
  have e1 : w.1 = u.1 := by omega
  have e2 : frN t w = frN t u := by omega
  have e3 : zW w.2.2 = zW u.2.2 := by omega
  obtain ⟨c, o, z⟩ := w
  obtain ⟨c', o', z'⟩ := u
  have e1 : c = c' := e1
  subst e1
  have e3 : zW z = zW z' := e3
  have hz : z = z' := by cases z <;> cases z' <;> first | rfl | cases e3
  subst hz
  cases o with
  | none => cases o' with
    | none => rfl
    | some j => have e2 : 0 = tB t c j + 1 := e2; omega
  | some j => cases o' with
    | none => have e2 : tB t c j + 1 = 0 := e2; omega
    | some i =>
      have e2 : tB t c j + 1 = tB t c i + 1 := e2
      have := (hw.2.2 c hW.1).2.2.2.2.2.1 j i (hW.2 j rfl) (hU.2 i rfl) (by omega)
      rw [this]
theorem ccS_inj {t : Tn} {s p : Nat} (hw : wfT t) (h1 : okS t s) (h2 : okS t p) (h : ccS t s = ccS t p) : s = p := by
  have := cdC_inj hw h1 h2 h
  rw [← cdW_deW (s := s), this, cdW_deW]
def scV (σ : am_S) (t : Tn) (b : Bf) : Prop := σ 57 7 = nI (bC b) ∧ (∀ j, j < bC b → σ 58 j = nI (ccS t (bQ b j)) ∧ σ 61 j = nI (dsB b j) ∧ (0 < j → σ 59 j = nI (bP b (bQ b j)) ∧ σ 60 j = nI (wyW (bW b (bQ b j))))) ∧ ∀ s, s < 112 → okS t s → σ 62 (ccS t s) = am_b ((bD b s).isSome = true)
theorem c_came_63 (d : Nat) (σ : am_S)  : CallS mX9_cameFrom (d) [.ref 63] σ (am_det (some (.int (σ 63 2))) σ) := by
  refine CallS.of kX9_cameFrom pX9_cameFrom [.ref 63] rfl (Nat.le_of_ble_eq_true rfl) ?_
  refine GS.run [] 2 rfl ?_
  refine GS.iret rfl rfl (rfl) ?_
  exact ⟨rfl, rfl⟩
theorem c_hand_63 (d : Nat) (σ : am_S) (z : Bool) (h : σ 63 3 = bI z) : CallS mX9_hasHand (d) [.ref 63] σ (am_det (some (.int (bI z))) σ) := by
  refine CallS.of kX9_hasHand pX9_hasHand [.ref 63] rfl (Nat.le_of_ble_eq_true rfl) ?_
  refine GS.run [] 2 rfl ?_
  rw [h]
  refine GS.run [] 0 rfl ?_
  refine GS.iret rfl rfl (nar_bI _) ?_
  exact ⟨rfl, rfl⟩
theorem he_92 {x y z : Nat} : (nI x * 9 + nI y) * 2 + nI z = nI (18 * x + 2 * y + z) := by
  rw [show (9 : Int32) = nI 9 from rfl, show (2 : Int32) = nI 2 from rfl, pk_mul, nI_add, pk_mul, nI_add]
  congr 1
  omega
theorem okS_c {t : Tn} {u : Wk} (hw : wfT t) (hU : wfW t u) : okS t (cdW u) ∧ cdW u < 112 ∧ ccS t (cdW u) = cdC t u := by
  have h := deW_cdW (wfW_6 hw hU)
  exact ⟨by rw [okS, h]; exact hU, cdW_lt hw hU, by unfold ccS; rw [h]⟩
theorem c_snote (d : Nat) (σ : am_S) (t : Tn) (b : Bf) (u : Wk) (vi vw : Int32) (dd p w : Nat) (hw : wfT t) (hU : wfW t u) (hk : wkC 63 σ t u false false) (hb : scV σ t b) (hwb : wfB 112 (okS t) b) (hv : 0 < bC b → vi = nI p ∧ vw = nI (wyW w)) : CallS mX6_note (d + 1) [.ref 57, .int vi, .int vw, .int (nI dd)] σ (fun r σ' => r = none ∧ scV σ' t (bN b (cdW u) dd p w) ∧ same [57, 58, 59, 60, 61, 62] σ σ') := by
  refine CallS.of kX6_note pX6_note [.ref 57, .int vi, .int vw, .int (nI dd), .retAddr 0, .retAddr 0] rfl (Nat.le_of_ble_eq_true rfl) ?_
  have h8 := hw.1
  obtain ⟨h1, h2, h3, -, -⟩ := hk
  obtain ⟨o1, o2, o3⟩ := okS_c hw hU
  have hcl := cdC_lt hw hU
  have hu1 := hU.1
  have hseen := hb.2.2 (cdW u) o2 o1
  rw [o3] at hseen
  rcases (Option.eq_none_or_eq_some u.2.1) with ho | ⟨j, ho⟩
  · have hf : frI t u = -1000000 := by unfold frI; rw [ho]
    have hn : frN t u = 0 := by unfold frN; rw [ho]
    rw [hf] at h2
    refine GS.run [] 2 rfl ?_
    refine GS.cV oX9_cameFrom ((c_came_63 d σ).eq (congrArg (fun z => some (Value.int z)) (h2)) rfl) rfl rfl rfl rfl rfl rfl rfl (Nat.le_of_ble_eq_true rfl) (by omega) ?_
    refine GS.run [] 1 rfl ?_
    refine GS.icmp_ne rfl (fun q => absurd (rfl) q) (fun c9 => ?_)
    refine GS.run [] 5 rfl ?_
    refine GS.cV oX9_place ((c_place_63 d σ).eq (congrArg (fun z => some (Value.int z)) (h1)) rfl) rfl rfl rfl rfl rfl rfl rfl (Nat.le_of_ble_eq_true rfl) (by omega) ?_
    refine GS.run [] 8 rfl ?_
    refine GS.cV oX9_hasHand (c_hand_63 d σ u.2.2 h3) rfl rfl rfl rfl rfl rfl rfl (Nat.le_of_ble_eq_true rfl) (by omega) ?_
    refine GS.if_eq rfl (fun c49 => ?_) (fun c49 => ?_)
    · have hz : zW u.2.2 = 0 := by rw [bI0.mp c49]; rfl
      refine GS.run [] 2 rfl ?_
      first
        | rw [show (nI u.1 * 9 + 0) * 2 + 0 = nI (cdC t u) by unfold cdC; rw [hn, hz]; exact he_92 (y := 0) (z := 0)]
        | rw [show (nI u.1 * 9 + 0) * 2 + 1 = nI (cdC t u) by unfold cdC; rw [hn, hz]; exact he_92 (y := 0) (z := 1)]
        | rw [show (nI u.1 * 9 + (nI (tB t u.1 j) + 1)) * 2 + 0 = nI (cdC t u) by unfold cdC; rw [hn, hz, nI_1]; exact he_92 (z := 0)]
        | rw [show (nI u.1 * 9 + (nI (tB t u.1 j) + 1)) * 2 + 1 = nI (cdC t u) by unfold cdC; rw [hn, hz, nI_1]; exact he_92 (z := 1)]
      refine GS.run [] 0 rfl ?_
      refine GS.run [] 4 rfl ?_
      refine GS.cS oX11_at ((c_at d σ 62 144 (nI (cdC t u)) rfl).eq (congrArg (fun z => some (Value.int z)) (v_get (by omega) (by omega) hseen)) rfl) rfl rfl rfl rfl (Nat.le_of_ble_eq_true rfl) (by omega) ?_
      refine GS.if_eq rfl (fun c69 => ?_) (fun c69 => ?_)
      · have k1 : ¬ (bD b (cdW u)).isSome = true := am_b0.mp c69
        have hlt := wfB_lt hwb o2 k1
        refine GS.run [] 4 rfl ?_
        refine GS.cS oX11_put (c_put d σ 62 144 (nI (cdC t u)) 1 rfl) rfl rfl rfl rfl (Nat.le_of_ble_eq_true rfl) (by omega) ?_
        rw [am_put_nI (by omega) (by omega)]
        generalize hS1 : am_s1 σ 62 (upd (σ 62) (cdC t u) 1) = σ1
        have q1 : σ1 57 7 = nI (bC b) := by rw [← hS1]; exact hb.1
        refine GS.run [] 5 rfl ?_
        rw [q1]
        refine GS.run [] 0 rfl ?_
        refine GS.cS oX11_put (c_put d σ1 58 144 (nI (bC b)) (nI (cdC t u)) rfl) rfl rfl rfl rfl (Nat.le_of_ble_eq_true rfl) (by omega) ?_
        rw [am_put_nI (by omega) (by omega)]
        generalize hS2 : am_s1 σ1 58 (upd (σ1 58) (bC b) (nI (cdC t u))) = σ2
        have q2 : σ2 57 7 = nI (bC b) := by rw [← hS2]; exact q1
        refine GS.run [] 5 rfl ?_
        rw [q2]
        refine GS.run [] 0 rfl ?_
        refine GS.cS oX11_put (c_put d σ2 59 144 (nI (bC b)) vi rfl) rfl rfl rfl rfl (Nat.le_of_ble_eq_true rfl) (by omega) ?_
        rw [am_put_nI (by omega) (by omega)]
        generalize hS3 : am_s1 σ2 59 (upd (σ2 59) (bC b) vi) = σ3
        have q3 : σ3 57 7 = nI (bC b) := by rw [← hS3]; exact q2
        refine GS.run [] 5 rfl ?_
        rw [q3]
        refine GS.run [] 0 rfl ?_
        refine GS.cS oX11_put (c_put d σ3 60 144 (nI (bC b)) vw rfl) rfl rfl rfl rfl (Nat.le_of_ble_eq_true rfl) (by omega) ?_
        rw [am_put_nI (by omega) (by omega)]
        generalize hS4 : am_s1 σ3 60 (upd (σ3 60) (bC b) vw) = σ4
        have q4 : σ4 57 7 = nI (bC b) := by rw [← hS4]; exact q3
        refine GS.run [] 5 rfl ?_
        rw [q4]
        refine GS.run [] 0 rfl ?_
        refine GS.cS oX11_put (c_put d σ4 61 144 (nI (bC b)) (nI dd) rfl) rfl rfl rfl rfl (Nat.le_of_ble_eq_true rfl) (by omega) ?_
        rw [am_put_nI (by omega) (by omega)]
        refine GS.run [] 6 rfl ?_
        refine GS.vret rfl rfl ?_
        subst hS4 hS3 hS2 hS1
        refine ⟨rfl, ?_, (((((same.rf.s1 (by decide)).s1 (by decide)).s1 (by decide)).s1 (by decide)).s1 (by decide)).s1 (by decide)⟩
        rw [bN_new k1]
        refine ⟨(congrArg (· + 1) hb.1).trans (nI_1 _), fun j hj => ?_, fun s hs hos => ?_⟩
        · have hj2 : j < bC b + 1 := hj
          have hds : dsB (bC b + 1, va_up (bQ b) (bC b) (cdW u), va_up (bD b) (cdW u) (some dd), va_up (bP b) (cdW u) p, va_up (bW b) (cdW u) w) j = if j = bC b then dd else dsB b j := by
            unfold dsB
            show (va_up (bD b) (cdW u) (some dd) (va_up (bQ b) (bC b) (cdW u) j)).getD 0 = _
            by_cases e : j = bC b
            · rw [if_pos e, e, va_eq, va_eq]; rfl
            · rw [if_neg e, va_ne _ _ e, va_ne]
              intro z
              obtain ⟨-, -, f, f1, -⟩ := hwb.2.1 j (by omega)
              exact k1 (by rw [← z, f1]; rfl)
          rw [hds]
          show upd (σ 58) (bC b) (nI (cdC t u)) j = nI (ccS t (va_up (bQ b) (bC b) (cdW u) j)) ∧ upd (σ 61) (bC b) (nI dd) j = _ ∧ (0 < j → upd (σ 59) (bC b) vi j = nI (va_up (bP b) (cdW u) p (va_up (bQ b) (bC b) (cdW u) j)) ∧ upd (σ 60) (bC b) vw j = nI (wyW (va_up (bW b) (cdW u) w (va_up (bQ b) (bC b) (cdW u) j))))
          by_cases e : j = bC b
          · subst e
            rw [upd_eq, upd_eq, upd_eq, upd_eq, va_eq, va_eq, va_eq, if_pos rfl, o3]
            exact ⟨rfl, rfl, fun h => hv h⟩
          · have hne : bQ b j ≠ cdW u := fun z => by
              obtain ⟨-, -, f, f1, -⟩ := hwb.2.1 j (by omega)
              exact k1 (by rw [← z, f1]; rfl)
            rw [upd_ne _ _ e, upd_ne _ _ e, upd_ne _ _ e, upd_ne _ _ e, va_ne _ _ e, va_ne _ _ hne, va_ne _ _ hne, if_neg e]
            exact hb.2.1 j (by omega)
        · show upd (σ 62) (cdC t u) 1 (ccS t s) = am_b ((va_up (bD b) (cdW u) (some dd) s).isSome = true)
          by_cases e : s = cdW u
          · rw [e, o3, upd_eq, va_eq]; rfl
          · rw [upd_ne _ _ (fun z => e (ccS_inj hw hos o1 (z.trans o3.symm))), va_ne _ _ e]
            exact hb.2.2 s hs hos
      · have k1 : (bD b (cdW u)).isSome = true := am_bT c69
        refine GS.vret rfl rfl ?_
        rw [bN_old k1]
        exact ⟨rfl, hb, same.rf⟩
    · have hz : zW u.2.2 = 1 := by rw [bI1.mp c49]; rfl
      refine GS.run [] 3 rfl ?_
      first
        | rw [show (nI u.1 * 9 + 0) * 2 + 0 = nI (cdC t u) by unfold cdC; rw [hn, hz]; exact he_92 (y := 0) (z := 0)]
        | rw [show (nI u.1 * 9 + 0) * 2 + 1 = nI (cdC t u) by unfold cdC; rw [hn, hz]; exact he_92 (y := 0) (z := 1)]
        | rw [show (nI u.1 * 9 + (nI (tB t u.1 j) + 1)) * 2 + 0 = nI (cdC t u) by unfold cdC; rw [hn, hz, nI_1]; exact he_92 (z := 0)]
        | rw [show (nI u.1 * 9 + (nI (tB t u.1 j) + 1)) * 2 + 1 = nI (cdC t u) by unfold cdC; rw [hn, hz, nI_1]; exact he_92 (z := 1)]
      refine GS.run [] 0 rfl ?_
      refine GS.run [] 4 rfl ?_
      refine GS.cS oX11_at ((c_at d σ 62 144 (nI (cdC t u)) rfl).eq (congrArg (fun z => some (Value.int z)) (v_get (by omega) (by omega) hseen)) rfl) rfl rfl rfl rfl (Nat.le_of_ble_eq_true rfl) (by omega) ?_
      refine GS.if_eq rfl (fun c69 => ?_) (fun c69 => ?_)
      · have k1 : ¬ (bD b (cdW u)).isSome = true := am_b0.mp c69
        have hlt := wfB_lt hwb o2 k1
        refine GS.run [] 4 rfl ?_
        refine GS.cS oX11_put (c_put d σ 62 144 (nI (cdC t u)) 1 rfl) rfl rfl rfl rfl (Nat.le_of_ble_eq_true rfl) (by omega) ?_
        rw [am_put_nI (by omega) (by omega)]
        generalize hS1 : am_s1 σ 62 (upd (σ 62) (cdC t u) 1) = σ1
        have q1 : σ1 57 7 = nI (bC b) := by rw [← hS1]; exact hb.1
        refine GS.run [] 5 rfl ?_
        rw [q1]
        refine GS.run [] 0 rfl ?_
        refine GS.cS oX11_put (c_put d σ1 58 144 (nI (bC b)) (nI (cdC t u)) rfl) rfl rfl rfl rfl (Nat.le_of_ble_eq_true rfl) (by omega) ?_
        rw [am_put_nI (by omega) (by omega)]
        generalize hS2 : am_s1 σ1 58 (upd (σ1 58) (bC b) (nI (cdC t u))) = σ2
        have q2 : σ2 57 7 = nI (bC b) := by rw [← hS2]; exact q1
        refine GS.run [] 5 rfl ?_
        rw [q2]
        refine GS.run [] 0 rfl ?_
        refine GS.cS oX11_put (c_put d σ2 59 144 (nI (bC b)) vi rfl) rfl rfl rfl rfl (Nat.le_of_ble_eq_true rfl) (by omega) ?_
        rw [am_put_nI (by omega) (by omega)]
        generalize hS3 : am_s1 σ2 59 (upd (σ2 59) (bC b) vi) = σ3
        have q3 : σ3 57 7 = nI (bC b) := by rw [← hS3]; exact q2
        refine GS.run [] 5 rfl ?_
        rw [q3]
        refine GS.run [] 0 rfl ?_
        refine GS.cS oX11_put (c_put d σ3 60 144 (nI (bC b)) vw rfl) rfl rfl rfl rfl (Nat.le_of_ble_eq_true rfl) (by omega) ?_
        rw [am_put_nI (by omega) (by omega)]
        generalize hS4 : am_s1 σ3 60 (upd (σ3 60) (bC b) vw) = σ4
        have q4 : σ4 57 7 = nI (bC b) := by rw [← hS4]; exact q3
        refine GS.run [] 5 rfl ?_
        rw [q4]
        refine GS.run [] 0 rfl ?_
        refine GS.cS oX11_put (c_put d σ4 61 144 (nI (bC b)) (nI dd) rfl) rfl rfl rfl rfl (Nat.le_of_ble_eq_true rfl) (by omega) ?_
        rw [am_put_nI (by omega) (by omega)]
        refine GS.run [] 6 rfl ?_
        refine GS.vret rfl rfl ?_
        subst hS4 hS3 hS2 hS1
        refine ⟨rfl, ?_, (((((same.rf.s1 (by decide)).s1 (by decide)).s1 (by decide)).s1 (by decide)).s1 (by decide)).s1 (by decide)⟩
        rw [bN_new k1]
        refine ⟨(congrArg (· + 1) hb.1).trans (nI_1 _), fun j hj => ?_, fun s hs hos => ?_⟩
        · have hj2 : j < bC b + 1 := hj
          have hds : dsB (bC b + 1, va_up (bQ b) (bC b) (cdW u), va_up (bD b) (cdW u) (some dd), va_up (bP b) (cdW u) p, va_up (bW b) (cdW u) w) j = if j = bC b then dd else dsB b j := by
            unfold dsB
            show (va_up (bD b) (cdW u) (some dd) (va_up (bQ b) (bC b) (cdW u) j)).getD 0 = _
            by_cases e : j = bC b
            · rw [if_pos e, e, va_eq, va_eq]; rfl
            · rw [if_neg e, va_ne _ _ e, va_ne]
              intro z
              obtain ⟨-, -, f, f1, -⟩ := hwb.2.1 j (by omega)
              exact k1 (by rw [← z, f1]; rfl)
          rw [hds]
          show upd (σ 58) (bC b) (nI (cdC t u)) j = nI (ccS t (va_up (bQ b) (bC b) (cdW u) j)) ∧ upd (σ 61) (bC b) (nI dd) j = _ ∧ (0 < j → upd (σ 59) (bC b) vi j = nI (va_up (bP b) (cdW u) p (va_up (bQ b) (bC b) (cdW u) j)) ∧ upd (σ 60) (bC b) vw j = nI (wyW (va_up (bW b) (cdW u) w (va_up (bQ b) (bC b) (cdW u) j))))
          by_cases e : j = bC b
          · subst e
            rw [upd_eq, upd_eq, upd_eq, upd_eq, va_eq, va_eq, va_eq, if_pos rfl, o3]
            exact ⟨rfl, rfl, fun h => hv h⟩
          · have hne : bQ b j ≠ cdW u := fun z => by
              obtain ⟨-, -, f, f1, -⟩ := hwb.2.1 j (by omega)
              exact k1 (by rw [← z, f1]; rfl)
            rw [upd_ne _ _ e, upd_ne _ _ e, upd_ne _ _ e, upd_ne _ _ e, va_ne _ _ e, va_ne _ _ hne, va_ne _ _ hne, if_neg e]
            exact hb.2.1 j (by omega)
        · show upd (σ 62) (cdC t u) 1 (ccS t s) = am_b ((va_up (bD b) (cdW u) (some dd) s).isSome = true)
          by_cases e : s = cdW u
          · rw [e, o3, upd_eq, va_eq]; rfl
          · rw [upd_ne _ _ (fun z => e (ccS_inj hw hos o1 (z.trans o3.symm))), va_ne _ _ e]
            exact hb.2.2 s hs hos
      · have k1 : (bD b (cdW u)).isSome = true := am_bT c69
        refine GS.vret rfl rfl ?_
        rw [bN_old k1]
        exact ⟨rfl, hb, same.rf⟩
  · have hjl := hU.2 j ho
    have htb := ((hw.2.2 u.1 hU.1).2.2.2.2.1 j hjl).1
    have hf : frI t u = nI (tB t u.1 j) := by unfold frI; rw [ho]
    have hn : frN t u = tB t u.1 j + 1 := by unfold frN; rw [ho]
    rw [hf] at h2
    refine GS.run [] 2 rfl ?_
    refine GS.cV oX9_cameFrom ((c_came_63 d σ).eq (congrArg (fun z => some (Value.int z)) (h2)) rfl) rfl rfl rfl rfl rfl rfl rfl (Nat.le_of_ble_eq_true rfl) (by omega) ?_
    refine GS.run [] 1 rfl ?_
    refine GS.icmp_ne rfl (fun c9 => ?_) (fun q => absurd q (nI_ne_none (by omega)))
    refine GS.run [] 2 rfl ?_
    refine GS.cV oX9_cameFrom ((c_came_63 d σ).eq (congrArg (fun z => some (Value.int z)) (h2)) rfl) rfl rfl rfl rfl rfl rfl rfl (Nat.le_of_ble_eq_true rfl) (by omega) ?_
    refine GS.run [] 5 rfl ?_
    refine GS.cV oX9_place ((c_place_63 d σ).eq (congrArg (fun z => some (Value.int z)) (h1)) rfl) rfl rfl rfl rfl rfl rfl rfl (Nat.le_of_ble_eq_true rfl) (by omega) ?_
    refine GS.run [] 8 rfl ?_
    refine GS.cV oX9_hasHand (c_hand_63 d σ u.2.2 h3) rfl rfl rfl rfl rfl rfl rfl (Nat.le_of_ble_eq_true rfl) (by omega) ?_
    refine GS.if_eq rfl (fun c49 => ?_) (fun c49 => ?_)
    · have hz : zW u.2.2 = 0 := by rw [bI0.mp c49]; rfl
      refine GS.run [] 2 rfl ?_
      first
        | rw [show (nI u.1 * 9 + 0) * 2 + 0 = nI (cdC t u) by unfold cdC; rw [hn, hz]; exact he_92 (y := 0) (z := 0)]
        | rw [show (nI u.1 * 9 + 0) * 2 + 1 = nI (cdC t u) by unfold cdC; rw [hn, hz]; exact he_92 (y := 0) (z := 1)]
        | rw [show (nI u.1 * 9 + (nI (tB t u.1 j) + 1)) * 2 + 0 = nI (cdC t u) by unfold cdC; rw [hn, hz, nI_1]; exact he_92 (z := 0)]
        | rw [show (nI u.1 * 9 + (nI (tB t u.1 j) + 1)) * 2 + 1 = nI (cdC t u) by unfold cdC; rw [hn, hz, nI_1]; exact he_92 (z := 1)]
      refine GS.run [] 0 rfl ?_
      refine GS.run [] 4 rfl ?_
      refine GS.cS oX11_at ((c_at d σ 62 144 (nI (cdC t u)) rfl).eq (congrArg (fun z => some (Value.int z)) (v_get (by omega) (by omega) hseen)) rfl) rfl rfl rfl rfl (Nat.le_of_ble_eq_true rfl) (by omega) ?_
      refine GS.if_eq rfl (fun c69 => ?_) (fun c69 => ?_)
      · have k1 : ¬ (bD b (cdW u)).isSome = true := am_b0.mp c69
        have hlt := wfB_lt hwb o2 k1
        refine GS.run [] 4 rfl ?_
        refine GS.cS oX11_put (c_put d σ 62 144 (nI (cdC t u)) 1 rfl) rfl rfl rfl rfl (Nat.le_of_ble_eq_true rfl) (by omega) ?_
        rw [am_put_nI (by omega) (by omega)]
        generalize hS1 : am_s1 σ 62 (upd (σ 62) (cdC t u) 1) = σ1
        have q1 : σ1 57 7 = nI (bC b) := by rw [← hS1]; exact hb.1
        refine GS.run [] 5 rfl ?_
        rw [q1]
        refine GS.run [] 0 rfl ?_
        refine GS.cS oX11_put (c_put d σ1 58 144 (nI (bC b)) (nI (cdC t u)) rfl) rfl rfl rfl rfl (Nat.le_of_ble_eq_true rfl) (by omega) ?_
        rw [am_put_nI (by omega) (by omega)]
        generalize hS2 : am_s1 σ1 58 (upd (σ1 58) (bC b) (nI (cdC t u))) = σ2
        have q2 : σ2 57 7 = nI (bC b) := by rw [← hS2]; exact q1
        refine GS.run [] 5 rfl ?_
        rw [q2]
        refine GS.run [] 0 rfl ?_
        refine GS.cS oX11_put (c_put d σ2 59 144 (nI (bC b)) vi rfl) rfl rfl rfl rfl (Nat.le_of_ble_eq_true rfl) (by omega) ?_
        rw [am_put_nI (by omega) (by omega)]
        generalize hS3 : am_s1 σ2 59 (upd (σ2 59) (bC b) vi) = σ3
        have q3 : σ3 57 7 = nI (bC b) := by rw [← hS3]; exact q2
        refine GS.run [] 5 rfl ?_
        rw [q3]
        refine GS.run [] 0 rfl ?_
        refine GS.cS oX11_put (c_put d σ3 60 144 (nI (bC b)) vw rfl) rfl rfl rfl rfl (Nat.le_of_ble_eq_true rfl) (by omega) ?_
        rw [am_put_nI (by omega) (by omega)]
        generalize hS4 : am_s1 σ3 60 (upd (σ3 60) (bC b) vw) = σ4
        have q4 : σ4 57 7 = nI (bC b) := by rw [← hS4]; exact q3
        refine GS.run [] 5 rfl ?_
        rw [q4]
        refine GS.run [] 0 rfl ?_
        refine GS.cS oX11_put (c_put d σ4 61 144 (nI (bC b)) (nI dd) rfl) rfl rfl rfl rfl (Nat.le_of_ble_eq_true rfl) (by omega) ?_
        rw [am_put_nI (by omega) (by omega)]
        refine GS.run [] 6 rfl ?_
        refine GS.vret rfl rfl ?_
        subst hS4 hS3 hS2 hS1
        refine ⟨rfl, ?_, (((((same.rf.s1 (by decide)).s1 (by decide)).s1 (by decide)).s1 (by decide)).s1 (by decide)).s1 (by decide)⟩
        rw [bN_new k1]
        refine ⟨(congrArg (· + 1) hb.1).trans (nI_1 _), fun j hj => ?_, fun s hs hos => ?_⟩
        · have hj2 : j < bC b + 1 := hj
          have hds : dsB (bC b + 1, va_up (bQ b) (bC b) (cdW u), va_up (bD b) (cdW u) (some dd), va_up (bP b) (cdW u) p, va_up (bW b) (cdW u) w) j = if j = bC b then dd else dsB b j := by
            unfold dsB
            show (va_up (bD b) (cdW u) (some dd) (va_up (bQ b) (bC b) (cdW u) j)).getD 0 = _
            by_cases e : j = bC b
            · rw [if_pos e, e, va_eq, va_eq]; rfl
            · rw [if_neg e, va_ne _ _ e, va_ne]
              intro z
              obtain ⟨-, -, f, f1, -⟩ := hwb.2.1 j (by omega)
              exact k1 (by rw [← z, f1]; rfl)
          rw [hds]
          show upd (σ 58) (bC b) (nI (cdC t u)) j = nI (ccS t (va_up (bQ b) (bC b) (cdW u) j)) ∧ upd (σ 61) (bC b) (nI dd) j = _ ∧ (0 < j → upd (σ 59) (bC b) vi j = nI (va_up (bP b) (cdW u) p (va_up (bQ b) (bC b) (cdW u) j)) ∧ upd (σ 60) (bC b) vw j = nI (wyW (va_up (bW b) (cdW u) w (va_up (bQ b) (bC b) (cdW u) j))))
          by_cases e : j = bC b
          · subst e
            rw [upd_eq, upd_eq, upd_eq, upd_eq, va_eq, va_eq, va_eq, if_pos rfl, o3]
            exact ⟨rfl, rfl, fun h => hv h⟩
          · have hne : bQ b j ≠ cdW u := fun z => by
              obtain ⟨-, -, f, f1, -⟩ := hwb.2.1 j (by omega)
              exact k1 (by rw [← z, f1]; rfl)
            rw [upd_ne _ _ e, upd_ne _ _ e, upd_ne _ _ e, upd_ne _ _ e, va_ne _ _ e, va_ne _ _ hne, va_ne _ _ hne, if_neg e]
            exact hb.2.1 j (by omega)
        · show upd (σ 62) (cdC t u) 1 (ccS t s) = am_b ((va_up (bD b) (cdW u) (some dd) s).isSome = true)
          by_cases e : s = cdW u
          · rw [e, o3, upd_eq, va_eq]; rfl
          · rw [upd_ne _ _ (fun z => e (ccS_inj hw hos o1 (z.trans o3.symm))), va_ne _ _ e]
            exact hb.2.2 s hs hos
      · have k1 : (bD b (cdW u)).isSome = true := am_bT c69
        refine GS.vret rfl rfl ?_
        rw [bN_old k1]
        exact ⟨rfl, hb, same.rf⟩
    · have hz : zW u.2.2 = 1 := by rw [bI1.mp c49]; rfl
      refine GS.run [] 3 rfl ?_
      first
        | rw [show (nI u.1 * 9 + 0) * 2 + 0 = nI (cdC t u) by unfold cdC; rw [hn, hz]; exact he_92 (y := 0) (z := 0)]
        | rw [show (nI u.1 * 9 + 0) * 2 + 1 = nI (cdC t u) by unfold cdC; rw [hn, hz]; exact he_92 (y := 0) (z := 1)]
        | rw [show (nI u.1 * 9 + (nI (tB t u.1 j) + 1)) * 2 + 0 = nI (cdC t u) by unfold cdC; rw [hn, hz, nI_1]; exact he_92 (z := 0)]
        | rw [show (nI u.1 * 9 + (nI (tB t u.1 j) + 1)) * 2 + 1 = nI (cdC t u) by unfold cdC; rw [hn, hz, nI_1]; exact he_92 (z := 1)]
      refine GS.run [] 0 rfl ?_
      refine GS.run [] 4 rfl ?_
      refine GS.cS oX11_at ((c_at d σ 62 144 (nI (cdC t u)) rfl).eq (congrArg (fun z => some (Value.int z)) (v_get (by omega) (by omega) hseen)) rfl) rfl rfl rfl rfl (Nat.le_of_ble_eq_true rfl) (by omega) ?_
      refine GS.if_eq rfl (fun c69 => ?_) (fun c69 => ?_)
      · have k1 : ¬ (bD b (cdW u)).isSome = true := am_b0.mp c69
        have hlt := wfB_lt hwb o2 k1
        refine GS.run [] 4 rfl ?_
        refine GS.cS oX11_put (c_put d σ 62 144 (nI (cdC t u)) 1 rfl) rfl rfl rfl rfl (Nat.le_of_ble_eq_true rfl) (by omega) ?_
        rw [am_put_nI (by omega) (by omega)]
        generalize hS1 : am_s1 σ 62 (upd (σ 62) (cdC t u) 1) = σ1
        have q1 : σ1 57 7 = nI (bC b) := by rw [← hS1]; exact hb.1
        refine GS.run [] 5 rfl ?_
        rw [q1]
        refine GS.run [] 0 rfl ?_
        refine GS.cS oX11_put (c_put d σ1 58 144 (nI (bC b)) (nI (cdC t u)) rfl) rfl rfl rfl rfl (Nat.le_of_ble_eq_true rfl) (by omega) ?_
        rw [am_put_nI (by omega) (by omega)]
        generalize hS2 : am_s1 σ1 58 (upd (σ1 58) (bC b) (nI (cdC t u))) = σ2
        have q2 : σ2 57 7 = nI (bC b) := by rw [← hS2]; exact q1
        refine GS.run [] 5 rfl ?_
        rw [q2]
        refine GS.run [] 0 rfl ?_
        refine GS.cS oX11_put (c_put d σ2 59 144 (nI (bC b)) vi rfl) rfl rfl rfl rfl (Nat.le_of_ble_eq_true rfl) (by omega) ?_
        rw [am_put_nI (by omega) (by omega)]
        generalize hS3 : am_s1 σ2 59 (upd (σ2 59) (bC b) vi) = σ3
        have q3 : σ3 57 7 = nI (bC b) := by rw [← hS3]; exact q2
        refine GS.run [] 5 rfl ?_
        rw [q3]
        refine GS.run [] 0 rfl ?_
        refine GS.cS oX11_put (c_put d σ3 60 144 (nI (bC b)) vw rfl) rfl rfl rfl rfl (Nat.le_of_ble_eq_true rfl) (by omega) ?_
        rw [am_put_nI (by omega) (by omega)]
        generalize hS4 : am_s1 σ3 60 (upd (σ3 60) (bC b) vw) = σ4
        have q4 : σ4 57 7 = nI (bC b) := by rw [← hS4]; exact q3
        refine GS.run [] 5 rfl ?_
        rw [q4]
        refine GS.run [] 0 rfl ?_
        refine GS.cS oX11_put (c_put d σ4 61 144 (nI (bC b)) (nI dd) rfl) rfl rfl rfl rfl (Nat.le_of_ble_eq_true rfl) (by omega) ?_
        rw [am_put_nI (by omega) (by omega)]
        refine GS.run [] 6 rfl ?_
        refine GS.vret rfl rfl ?_
        subst hS4 hS3 hS2 hS1
        refine ⟨rfl, ?_, (((((same.rf.s1 (by decide)).s1 (by decide)).s1 (by decide)).s1 (by decide)).s1 (by decide)).s1 (by decide)⟩
        rw [bN_new k1]
        refine ⟨(congrArg (· + 1) hb.1).trans (nI_1 _), fun j hj => ?_, fun s hs hos => ?_⟩
        · have hj2 : j < bC b + 1 := hj
          have hds : dsB (bC b + 1, va_up (bQ b) (bC b) (cdW u), va_up (bD b) (cdW u) (some dd), va_up (bP b) (cdW u) p, va_up (bW b) (cdW u) w) j = if j = bC b then dd else dsB b j := by
            unfold dsB
            show (va_up (bD b) (cdW u) (some dd) (va_up (bQ b) (bC b) (cdW u) j)).getD 0 = _
            by_cases e : j = bC b
            · rw [if_pos e, e, va_eq, va_eq]; rfl
            · rw [if_neg e, va_ne _ _ e, va_ne]
              intro z
              obtain ⟨-, -, f, f1, -⟩ := hwb.2.1 j (by omega)
              exact k1 (by rw [← z, f1]; rfl)
          rw [hds]
          show upd (σ 58) (bC b) (nI (cdC t u)) j = nI (ccS t (va_up (bQ b) (bC b) (cdW u) j)) ∧ upd (σ 61) (bC b) (nI dd) j = _ ∧ (0 < j → upd (σ 59) (bC b) vi j = nI (va_up (bP b) (cdW u) p (va_up (bQ b) (bC b) (cdW u) j)) ∧ upd (σ 60) (bC b) vw j = nI (wyW (va_up (bW b) (cdW u) w (va_up (bQ b) (bC b) (cdW u) j))))
          by_cases e : j = bC b
          · subst e
            rw [upd_eq, upd_eq, upd_eq, upd_eq, va_eq, va_eq, va_eq, if_pos rfl, o3]
            exact ⟨rfl, rfl, fun h => hv h⟩
          · have hne : bQ b j ≠ cdW u := fun z => by
              obtain ⟨-, -, f, f1, -⟩ := hwb.2.1 j (by omega)
              exact k1 (by rw [← z, f1]; rfl)
            rw [upd_ne _ _ e, upd_ne _ _ e, upd_ne _ _ e, upd_ne _ _ e, va_ne _ _ e, va_ne _ _ hne, va_ne _ _ hne, if_neg e]
            exact hb.2.1 j (by omega)
        · show upd (σ 62) (cdC t u) 1 (ccS t s) = am_b ((va_up (bD b) (cdW u) (some dd) s).isSome = true)
          by_cases e : s = cdW u
          · rw [e, o3, upd_eq, va_eq]; rfl
          · rw [upd_ne _ _ (fun z => e (ccS_inj hw hos o1 (z.trans o3.symm))), va_ne _ _ e]
            exact hb.2.2 s hs hos
      · have k1 : (bD b (cdW u)).isSome = true := am_bT c69
        refine GS.vret rfl rfl ?_
        rw [bN_old k1]
        exact ⟨rfl, hb, same.rf⟩
theorem c_standAt (d : Nat) (σ : am_S) (t : Tn) (b : Bf) (i : Nat) (hw : wfT t) (hb : scV σ t b) (hwb : wfB 112 (okS t) b) (hi : i < bC b) (h4 : σ 63 4 = bI false) (h5 : σ 63 5 = zI (sd false false)) : CallS mX6_standAt (d + 1) [.ref 57, .int (nI i)] σ (fun r σ' => r = none ∧ wkC 63 σ' t (deW (bQ b i)) false false ∧ same [63] σ σ') := by
  refine CallS.of kX6_standAt pX6_standAt [.ref 57, .int (nI i), .retAddr 0, .retAddr 0] rfl (Nat.le_of_ble_eq_true rfl) ?_
  have h8 := hw.1
  have h64 := wfB_C hwb
  have hoS := (hwb.2.1 i hi).2.1
  have hfl := frN_lt hw hoS
  have hzl := zW_lt (z := (deW (bQ b i)).2.2)
  have hcl := cdC_lt hw hoS
  have hu1 := hoS.1
  have hC : ccS t (bQ b i) = 18 * (deW (bQ b i)).1 + 2 * frN t (deW (bQ b i)) + zW (deW (bQ b i)).2.2 := rfl
  have e1 : ccS t (bQ b i) / 2 / 9 = (deW (bQ b i)).1 := by omega
  have e2 : ccS t (bQ b i) / 2 % 9 = frN t (deW (bQ b i)) := by omega
  have e3 : ccS t (bQ b i) % 2 = zW (deW (bQ b i)).2.2 := by omega
  refine GS.run [] 3 rfl ?_
  refine GS.cS oX11_at ((c_at d σ 58 144 (nI i) rfl).eq (congrArg (fun z => some (Value.int z)) (v_get (by omega) (by omega) (hb.2.1 i hi).1)) rfl) rfl rfl rfl rfl (Nat.le_of_ble_eq_true rfl) (by omega) ?_
  refine GS.run [] 3 rfl ?_
  refine GS.idiv rfl (by decide) ?_
  rw [show (2 : Int32) = nI 2 from rfl, pk_div (by omega) (by omega) (by omega)]
  refine GS.run [] 1 rfl ?_
  refine GS.irem rfl (by decide) ?_
  rw [show (9 : Int32) = nI 9 from rfl, pk_rem (by omega) (by omega) (by omega)]
  refine GS.run [] 1 rfl ?_
  rcases (Option.eq_none_or_eq_some (deW (bQ b i)).2.1) with ho | ⟨j, ho⟩
  · have hn : frN t (deW (bQ b i)) = 0 := by unfold frN; rw [ho]
    have hf : frI t (deW (bQ b i)) = -1000000 := by unfold frI; rw [ho]
    rw [hn] at e2
    rw [e2]
    refine GS.run [] 0 rfl ?_
    refine GS.run [] 4 rfl ?_
    refine GS.idiv rfl (by decide) ?_
    rw [show (2 : Int32) = nI 2 from rfl, pk_div (by omega) (by omega) (by omega)]
    refine GS.run [] 1 rfl ?_
    refine GS.idiv rfl (by decide) ?_
    rw [show (9 : Int32) = nI 9 from rfl, pk_div (by omega) (by omega) (by omega), e1]
    refine GS.run [] 1 rfl ?_
    refine GS.if_ne rfl (fun q => absurd (rfl) q) (fun c27 => ?_)
    refine GS.run [] 4 rfl ?_
    refine GS.irem rfl (by decide) ?_
    rw [show (2 : Int32) = nI 2 from rfl, pk_rem (by omega) (by omega) (by omega), e3]
    refine GS.run [] 1 rfl ?_
    refine GS.icmp_ne rfl (fun c42 => ?_) (fun c42 => ?_)
    · have hz : (deW (bQ b i)).2.2 = false := by
        cases e : (deW (bQ b i)).2.2 with
        | false => rfl
        | true => rw [e] at c42; exact absurd rfl c42
      refine GS.run [] 1 rfl ?_
      first
        | rw [show nI (tB t (deW (bQ b i)).1 j + 1) - 1 = nI (tB t (deW (bQ b i)).1 j) from pk_sub (a := tB t (deW (bQ b i)).1 j + 1) (b := 1) (by omega), ← hf]
        | rw [← hf]
      first
        | rw [show (1 : Int32) = bI (deW (bQ b i)).2.2 by rw [hz]; rfl]
        | rw [show (Value.int 0) = Value.int (bI (deW (bQ b i)).2.2) by rw [hz]; rfl]
      refine GS.run [] 0 rfl ?_
      refine GS.callV oX9_stand (c_stand_63 d σ (nI (deW (bQ b i)).1) (frI t (deW (bQ b i))) (deW (bQ b i)).2.2) rfl rfl rfl rfl rfl rfl rfl (Nat.le_of_ble_eq_true rfl) (by omega) (fun v50 σ50 hq50 => ?_)
      obtain ⟨rfl, s50, w1, w2, w3, w4, w5⟩ := hq50
      refine GS.vret rfl rfl ?_
      exact ⟨rfl, ⟨w1, w2, w3, w4.trans h4, w5.trans h5⟩, s50⟩
    · have hz : (deW (bQ b i)).2.2 = true := by
        cases e : (deW (bQ b i)).2.2 with
        | true => rfl
        | false => rw [e] at c42; exact absurd c42 (by decide)
      refine GS.run [] 2 rfl ?_
      first
        | rw [show nI (tB t (deW (bQ b i)).1 j + 1) - 1 = nI (tB t (deW (bQ b i)).1 j) from pk_sub (a := tB t (deW (bQ b i)).1 j + 1) (b := 1) (by omega), ← hf]
        | rw [← hf]
      first
        | rw [show (1 : Int32) = bI (deW (bQ b i)).2.2 by rw [hz]; rfl]
        | rw [show (Value.int 0) = Value.int (bI (deW (bQ b i)).2.2) by rw [hz]; rfl]
      refine GS.run [] 0 rfl ?_
      refine GS.callV oX9_stand (c_stand_63 d σ (nI (deW (bQ b i)).1) (frI t (deW (bQ b i))) (deW (bQ b i)).2.2) rfl rfl rfl rfl rfl rfl rfl (Nat.le_of_ble_eq_true rfl) (by omega) (fun v50 σ50 hq50 => ?_)
      obtain ⟨rfl, s50, w1, w2, w3, w4, w5⟩ := hq50
      refine GS.vret rfl rfl ?_
      exact ⟨rfl, ⟨w1, w2, w3, w4.trans h4, w5.trans h5⟩, s50⟩
  · have hn : frN t (deW (bQ b i)) = tB t (deW (bQ b i)).1 j + 1 := by unfold frN; rw [ho]
    have hf : frI t (deW (bQ b i)) = nI (tB t (deW (bQ b i)).1 j) := by unfold frI; rw [ho]
    rw [hn] at e2
    rw [e2]
    refine GS.run [] 0 rfl ?_
    refine GS.run [] 4 rfl ?_
    refine GS.idiv rfl (by decide) ?_
    rw [show (2 : Int32) = nI 2 from rfl, pk_div (by omega) (by omega) (by omega)]
    refine GS.run [] 1 rfl ?_
    refine GS.idiv rfl (by decide) ?_
    rw [show (9 : Int32) = nI 9 from rfl, pk_div (by omega) (by omega) (by omega), e1]
    refine GS.run [] 1 rfl ?_
    refine GS.if_ne rfl (fun c27 => ?_) (fun q => absurd q (fun q => absurd ((nI_eq (b := 0) (by omega) (by omega)).mp q) (by omega)))
    refine GS.run [] 5 rfl ?_
    refine GS.irem rfl (by decide) ?_
    rw [show (2 : Int32) = nI 2 from rfl, pk_rem (by omega) (by omega) (by omega), e3]
    refine GS.run [] 1 rfl ?_
    refine GS.icmp_ne rfl (fun c42 => ?_) (fun c42 => ?_)
    · have hz : (deW (bQ b i)).2.2 = false := by
        cases e : (deW (bQ b i)).2.2 with
        | false => rfl
        | true => rw [e] at c42; exact absurd rfl c42
      refine GS.run [] 1 rfl ?_
      first
        | rw [show nI (tB t (deW (bQ b i)).1 j + 1) - 1 = nI (tB t (deW (bQ b i)).1 j) from pk_sub (a := tB t (deW (bQ b i)).1 j + 1) (b := 1) (by omega), ← hf]
        | rw [← hf]
      first
        | rw [show (1 : Int32) = bI (deW (bQ b i)).2.2 by rw [hz]; rfl]
        | rw [show (Value.int 0) = Value.int (bI (deW (bQ b i)).2.2) by rw [hz]; rfl]
      refine GS.run [] 0 rfl ?_
      refine GS.callV oX9_stand (c_stand_63 d σ (nI (deW (bQ b i)).1) (frI t (deW (bQ b i))) (deW (bQ b i)).2.2) rfl rfl rfl rfl rfl rfl rfl (Nat.le_of_ble_eq_true rfl) (by omega) (fun v50 σ50 hq50 => ?_)
      obtain ⟨rfl, s50, w1, w2, w3, w4, w5⟩ := hq50
      refine GS.vret rfl rfl ?_
      exact ⟨rfl, ⟨w1, w2, w3, w4.trans h4, w5.trans h5⟩, s50⟩
    · have hz : (deW (bQ b i)).2.2 = true := by
        cases e : (deW (bQ b i)).2.2 with
        | true => rfl
        | false => rw [e] at c42; exact absurd c42 (by decide)
      refine GS.run [] 2 rfl ?_
      first
        | rw [show nI (tB t (deW (bQ b i)).1 j + 1) - 1 = nI (tB t (deW (bQ b i)).1 j) from pk_sub (a := tB t (deW (bQ b i)).1 j + 1) (b := 1) (by omega), ← hf]
        | rw [← hf]
      first
        | rw [show (1 : Int32) = bI (deW (bQ b i)).2.2 by rw [hz]; rfl]
        | rw [show (Value.int 0) = Value.int (bI (deW (bQ b i)).2.2) by rw [hz]; rfl]
      refine GS.run [] 0 rfl ?_
      refine GS.callV oX9_stand (c_stand_63 d σ (nI (deW (bQ b i)).1) (frI t (deW (bQ b i))) (deW (bQ b i)).2.2) rfl rfl rfl rfl rfl rfl rfl (Nat.le_of_ble_eq_true rfl) (by omega) (fun v50 σ50 hq50 => ?_)
      obtain ⟨rfl, s50, w1, w2, w3, w4, w5⟩ := hq50
      refine GS.vret rfl rfl ?_
      exact ⟨rfl, ⟨w1, w2, w3, w4.trans h4, w5.trans h5⟩, s50⟩
theorem lk_ways : Cond.fieldLinkNest mX6_spread.1.cls 63 RX11 "WAYS" "[I" "SidelessTown" ∈ lw_tbl := lw_m4 (i := 155) rfl
section GSW
variable {X : am_X0} {M : am_M} {d : Nat} {Q : Option Value → am_S → Prop} {pc nx : Nat} {L L' st st' : List Value} {σ σ' : am_S} {x : List Nat} {y : Nat} {v : Value}
theorem GS.wayS {a : Nat} {host : String} (hj : am_at M pc = some (.getstatic a, nx, x, y, v)) (hlk : Cond.fieldLinkNest M.1.cls a RX11 "WAYS" "[I" host ∈ lw_tbl) (kk : GS X M d Q nx L (.ref 3000 :: st) σ) : GS X M d Q pc L st σ := G.wayS hj hlk kk
theorem GS.wayL {a : Int32} (hj : am_at M pc = some (.iaload, nx, x, y, v)) (hin : vp_in a 17) (kk : GS X M d Q nx L (.int (am_ways.getD a.toNatClampNeg 0) :: st) σ) : GS X M d Q pc L (.int a :: .ref 3000 :: st) σ := G.wayL hj hin kk
theorem GS.wayN (hj : am_at M pc = some (.arraylength, nx, x, y, v)) (kk : GS X M d Q nx L (.int 17 :: st) σ) : GS X M d Q pc L (.ref 3000 :: st) σ := G.wayN hj kk
end GSW
theorem ways_k : ∀ k : Fin 17, am_ways.getD k.val 0 = nI (wyW k.val) := by decide +kernel
theorem c_atW (d : Nat) (σ : am_S) (k : Nat) (hk : k < 17) : CallS mX11_at d [.ref 3000, .int (nI k)] σ (am_det (some (.int (nI (wyW k)))) σ) := by
  refine CallS.of kX11_at pX11_at [.ref 3000, .int (nI k)] rfl (Nat.le_of_ble_eq_true rfl) ?_
  refine GS.run [] 1 rfl ?_
  refine GS.if_lt rfl (fun c1 => absurd ((nI_ltI (b := 0) (by omega) (by omega)).mp c1) (by omega)) (fun _ => ?_)
  refine GS.run [] 2 rfl ?_
  refine GS.wayN rfl ?_
  refine GS.icmp_ge rfl (fun c7 => absurd ((nI_leI (a := 17) (by omega) (by omega)).mp c7) (by omega)) (fun _ => ?_)
  refine GS.run [] 2 rfl ?_
  refine GS.wayL rfl (am_in.mpr ⟨by rw [nI_toInt (by omega)]; omega, by rw [nI_toInt (by omega)]; omega⟩) ?_
  refine GS.run [] 1 rfl ?_
  refine GS.iret rfl rfl rfl ?_
  refine ⟨congrArg (fun z => some (Value.int z)) ?_, rfl⟩
  rw [nI_clamp (by omega)]
  exact ways_k ⟨k, hk⟩
theorem srB_s {t : Tn} {W f i : Nat} {b : Bf} (h : i < bC b) : bL (nbS t) W (f + 1) i b = bL (nbS t) W f (i + 1) (bE (nbS t) (bQ b i) (dsB b i + 1) i W b) := by rw [bL, if_pos h]
theorem srB_e {t : Tn} {W f i : Nat} {b : Bf} (h : ¬ i < bC b) : bL (nbS t) W (f + 1) i b = b := by rw [bL, if_neg h]
theorem cdW_st {c : Nat} : cdW (stW c) = 14 * c := by
  show 14 * c + 2 * fW none + zW false = 14 * c
  rfl
theorem orB_1 {s : Nat} : orB (bN b0 s 0 0 0) := by
  have e : bN b0 s 0 0 0 = (1, va_up (bQ b0) 0 s, va_up (bD b0) s (some 0), va_up (bP b0) s 0, va_up (bW b0) s 0) := bN_new b0_D
  have hd : dsB (bN b0 s 0 0 0) 0 = 0 := by
    rw [e]
    unfold dsB
    show (va_up (bD b0) s (some 0) (va_up (bQ b0) 0 s 0)).getD 0 = 0
    rw [va_eq, va_eq]; rfl
  have hC : bC (bN b0 s 0 0 0) = 1 := by rw [e]; rfl
  refine ⟨fun j k hjk hk => ?_, fun j hj => ?_⟩
  · rw [hC] at hk
    rw [show j = k by omega]; exact Nat.le_refl _
  · rw [hC] at hj
    have : j = 0 := by omega
    subst this
    exact Or.inl ⟨rfl, hd⟩
theorem wfS_1 {t : Tn} {c : Nat} (hw : wfT t) (hc : c < tN t) : wfB 112 (okS t) (bN b0 (14 * c) 0 0 0) := by
  have h := okS_c hw (stW_wf hc)
  rw [cdW_st] at h
  exact wfB_N wfB_0 h.2.1 h.1 (Nat.zero_le _)
theorem c_spread (d : Nat) (σ : am_S) (t : Tn) (c W : Nat) (ht : townC 10 σ t) (hw : wfT t) (hc : c < tN t) (hW : W ≤ 17) : CallS mX6_spread (d + 6) [.ref 57, .int (nI c), .int (nI W)] σ (fun r σ' => r = none ∧ scV σ' t (srB t c W) ∧ same [57, 58, 59, 60, 61, 62, 63] σ σ') := by
  refine CallS.of kX6_spread pX6_spread [.ref 57, .int (nI c), .int (nI W), .retAddr 0, .retAddr 0] rfl (Nat.le_of_ble_eq_true rfl) ?_
  have h8 := hw.1
  refine GS.run [] 3 rfl ?_
  refine GS.cS oX11_fill (c_fill (d + 5) σ 62 144 0 rfl) rfl rfl rfl rfl (Nat.le_of_ble_eq_true rfl) (by omega) ?_
  refine GS.run [] 8 rfl ?_
  generalize hS0 : am_s1 (am_s1 σ 62 (am_fill (σ 62) 144 0)) 57 (upd ((am_s1 σ 62 (am_fill (σ 62) 144 0)) 57) 7 0) = σ0
  have hb0 : scV σ0 t b0 := by
    rw [← hS0]
    refine ⟨rfl, fun j hj => absurd hj (Nat.not_lt_zero _), fun s hs hos => ?_⟩
    show am_fill (σ 62) 144 0 (ccS t s) = 0
    unfold am_fill
    exact if_pos (cdC_lt hw hos)
  have s0 : same [57, 58, 59, 60, 61, 62, 63] σ σ0 := by rw [← hS0]; exact (same.rf.s1 (by decide)).s1 (by decide)
  refine GS.run [] 0 rfl ?_
  refine GS.callV oX9_start (c_start_63 (d + 4) σ0 t c false false) rfl rfl rfl rfl rfl rfl rfl (Nat.le_of_ble_eq_true rfl) (by omega) (fun v20 σ20 hq20 => ?_)
  obtain ⟨rfl, s20, k20⟩ := hq20
  have hb20 : scV σ20 t b0 := by
    unfold scV
    rw [s20 57 (by decide), s20 58 (by decide), s20 59 (by decide), s20 60 (by decide), s20 61 (by decide), s20 62 (by decide)]
    exact hb0
  refine GS.run [] 4 rfl ?_
  refine GS.callV oX6_note (c_snote (d + 4) σ20 t b0 (stW c) (-1000000) (-1000000) 0 0 0 hw (stW_wf hc) k20 hb20 wfB_0 (fun h => absurd h (Nat.lt_irrefl 0))) rfl rfl rfl rfl rfl rfl rfl (Nat.le_of_ble_eq_true rfl) (by omega) (fun v29 σ29 hq29 => ?_)
  obtain ⟨rfl, b29, s29⟩ := hq29
  rw [cdW_st] at b29
  have sa : same [57, 58, 59, 60, 61, 62, 63] σ σ29 := (s0.trans (s20.sub (by decide))).trans (s29.sub (by decide))
  have e63 : σ29 63 = σ20 63 := s29 63 (by decide)
  refine GS.run [] 2 rfl ?_
  have loop34 : ∀ (fu : Nat) (i : Nat) (σi : am_S) (bi : Bf) (v4 : Value) (hi : i ≤ bC bi) (hsi : same [57, 58, 59, 60, 61, 62, 63] σ σi) (hbi : scV σi t bi) (hwi : wfB 112 (okS t) bi) (hoi : orB bi) (hmx : i < bC bi → ∀ j, j < bC bi → dsB bi j ≤ dsB bi i + 1) (h4 : σi 63 4 = bI false) (h5 : σi 63 5 = zI (sd false false)) (hv : bL (nbS t) W (113 - i) i bi = srB t c W), 113 - i = fu → GS none mX6_spread (d + 6) (fun r σ' => r = none ∧ scV σ' t (srB t c W) ∧ same [57, 58, 59, 60, 61, 62, 63] σ σ') 34 [.ref 57, .int (nI c), .int (nI W), .int (nI i), .retAddr 0] [] σi := by
    intro fu
    induction fu using Nat.strongRecOn with
    | ind fu ih34 =>
      intro i σi bi v4 hi hsi hbi hwi hoi hmx h4 h5 hv hfu
      have h112 := wfB_C hwi
      refine GS.run [] 3 rfl ?_
      rw [show σi 57 7 = nI (bC bi) from hbi.1]
      refine GS.run [] 0 rfl ?_
      refine GS.icmp_ge rfl (fun c39 => ?_) (fun c39 => ?_)
      · have k2 : ¬ i < bC bi := by have := (nI_leI (by omega) (by omega)).mp c39; omega
        refine GS.vret rfl rfl ?_
        have hL := srB_e (t := t) (W := W) (f := 112 - i) k2
        rw [show 112 - i + 1 = 113 - i by omega] at hL
        rw [hL] at hv
        rw [← hv]
        exact ⟨rfl, hbi, hsi⟩
      · have k2 : i < bC bi := (nI_gtI (by omega) (by omega)).mp c39
        refine GS.run [] 2 rfl ?_
        refine GS.icmp_ge rfl (fun c46 => ?_) (fun c46 => ?_)
        · have := (nI_leI (a := 144) (by omega) (by omega)).mp c46
          omega -- end
        · have hL := srB_s (t := t) (W := W) (f := 112 - i) k2
          rw [show 112 - i + 1 = 113 - i by omega] at hL
          have hX := bE_wf (t := t) (s := bQ bi i) (d := dsB bi i + 1) hw hwi hoi rfl k2 rfl (hmx k2)
          have hoS := (hwi.2.1 i k2).2.1
          refine GS.run [] 2 rfl ?_
          have loop52 : ∀ (fu : Nat) (k : Nat) (σk : am_S) (hk : k ≤ W) (hsk : same [57, 58, 59, 60, 61, 62, 63] σ σk) (hbk : scV σk t (bE (nbS t) (bQ bi i) (dsB bi i + 1) i k bi)) (h4 : σk 63 4 = bI false) (h5 : σk 63 5 = zI (sd false false)), W - k = fu → GS none mX6_spread (d + 6) (fun r σ' => r = none ∧ scV σ' t (srB t c W) ∧ same [57, 58, 59, 60, 61, 62, 63] σ σ') 52 [.ref 57, .int (nI c), .int (nI W), .int (nI i), .int (nI k)] [] σk := by
            intro fu
            induction fu using Nat.strongRecOn with
            | ind fu ih52 =>
              intro k σk hk hsk hbk h4 h5 hfu
              refine GS.run [] 2 rfl ?_
              refine GS.icmp_ge rfl (fun c55 => ?_) (fun c55 => ?_)
              · have e : k = W := by have := (nI_leI (by omega) (by omega)).mp c55; omega
                subst e
                refine GS.run [] 2 rfl ?_
                rw [show nI i + 1 = nI (i + 1) from nI_1 i]
                obtain ⟨x1, x2, x3, x4, x5⟩ := hX k
                refine GS.weak (by exact ⟨Or.inr rfl, Or.inr rfl, Or.inr rfl, Or.inr rfl, Or.inl rfl, trivial⟩) (ih34 _ (by omega) (i + 1) σk _ Value.null (by omega) hsk hbk x1 x2 (fun hlast j hj => ?_) h4 h5 (by rw [← hv, hL, show 113 - (i + 1) = 112 - i by omega]) rfl)
                have h1 := x3 j hj
                have h2 := x2.1 i (i + 1) (by omega) hlast
                rw [(x5 i k2).2] at h2
                omega
              · have hl : k < W := (nI_gtI (by omega) (by omega)).mp c55
                obtain ⟨x1, x2, x3, x4, x5⟩ := hX k
                have h112 := wfB_C x1
                refine GS.run [] 2 rfl ?_
                refine GS.callV oX6_standAt (c_standAt (d + 4) σk t (bE (nbS t) (bQ bi i) (dsB bi i + 1) i k bi) i hw hbk x1 (by omega) h4 h5) rfl rfl rfl rfl rfl rfl rfl (Nat.le_of_ble_eq_true rfl) (by omega) (fun v60 σ60 hq60 => ?_)
                obtain ⟨rfl, k60, s60⟩ := hq60
                rw [(x5 i k2).1] at k60
                have ht60 : townC 10 σ60 t := ht.kept (fun j hj => (s60 _ (by simp; omega)).trans (hsk _ (by simp; omega)))
                refine GS.run [] 2 rfl ?_
                refine GS.wayS (host := "SidelessTown") rfl lk_ways ?_
                refine GS.run [] 1 rfl ?_
                refine GS.cS oX11_at (c_atW (d + 5) σ60 k (by omega)) rfl rfl rfl rfl (Nat.le_of_ble_eq_true rfl) (by omega) ?_
                refine GS.callV oX9_goBy (c_goBy_63 (d + 1) σ60 t (deW (bQ bi i)) false false (wyW k) (wyW_isW (by omega)) ht60 hw hoS k60) rfl rfl rfl rfl rfl rfl rfl (Nat.le_of_ble_eq_true rfl) (by omega) (fun v75 σ75 hq75 => ?_)
                obtain ⟨rfl, s75, k75⟩ := hq75
                have s6 : same [63] σk σ75 := s60.trans s75
                have hb75 : scV σ75 t (bE (nbS t) (bQ bi i) (dsB bi i + 1) i k bi) := by
                  unfold scV
                  rw [s6 57 (by decide), s6 58 (by decide), s6 59 (by decide), s6 60 (by decide), s6 61 (by decide), s6 62 (by decide)]
                  exact hbk
                refine GS.if_eq rfl (fun c78 => ?_) (fun c78 => ?_)
                · have hno := bI0.mp c78
                  have hnb : nbS t (bQ bi i) k = none := by unfold nbS; rw [if_neg (by rw [hno]; decide)]
                  have hBE : bE (nbS t) (bQ bi i) (dsB bi i + 1) i (k + 1) bi = (bE (nbS t) (bQ bi i) (dsB bi i + 1) i k bi) := by rw [bE, hnb]
                  refine GS.run [] 2 rfl ?_
                  rw [show nI k + 1 = nI (k + 1) from nI_1 k]
                  first
                    | exact ih52 _ (by omega) (k + 1) σ101 (by omega) ((hsk.trans (s6.sub (by decide))).trans (s101.sub (by decide))) b101 (by rw [e63]; exact k75.2.2.2.1) (by rw [e63]; exact k75.2.2.2.2) rfl
                    | exact ih52 _ (by omega) (k + 1) σ75 (by omega) (hsk.trans (s6.sub (by decide))) (by rw [hBE]; exact hb75) k75.2.2.2.1 k75.2.2.2.2 rfl
                · have hyes := bI1.mp c78
                  have hnb : nbS t (bQ bi i) k = some (cdW (goW t (deW (bQ bi i)) false false (wyW k)).2) := by unfold nbS; rw [if_pos hyes]
                  have hBE : bE (nbS t) (bQ bi i) (dsB bi i + 1) i (k + 1) bi = bN (bE (nbS t) (bQ bi i) (dsB bi i + 1) i k bi) (cdW (goW t (deW (bQ bi i)) false false (wyW k)).2) (dsB bi i + 1) i k := by rw [bE, hnb]
                  refine GS.run [] 2 rfl ?_
                  refine GS.wayS (host := "SidelessTown") rfl lk_ways ?_
                  refine GS.run [] 1 rfl ?_
                  refine GS.cS oX11_at (c_atW (d + 5) σ75 k (by omega)) rfl rfl rfl rfl (Nat.le_of_ble_eq_true rfl) (by omega) ?_
                  refine GS.run [] 3 rfl ?_
                  refine GS.cS oX11_at ((c_at (d + 5) σ75 61 144 (nI i) rfl).eq (congrArg (fun z => some (Value.int z)) (v_get (by omega) (by omega) (hb75.2.1 i (by omega)).2.1)) rfl) rfl rfl rfl rfl (Nat.le_of_ble_eq_true rfl) (by omega) ?_
                  rw [(x5 i k2).2]
                  refine GS.run [] 2 rfl ?_
                  rw [nI_1]
                  refine GS.run [] 0 rfl ?_
                  refine GS.callV oX6_note (c_snote (d + 4) σ75 t (bE (nbS t) (bQ bi i) (dsB bi i + 1) i k bi) (goW t (deW (bQ bi i)) false false (wyW k)).2 (nI i) (nI (wyW k)) (dsB bi i + 1) i k hw (goW_wf hw hoS) k75 hb75 x1 (fun _ => ⟨rfl, rfl⟩)) rfl rfl rfl rfl rfl rfl rfl (Nat.le_of_ble_eq_true rfl) (by omega) (fun v101 σ101 hq101 => ?_)
                  obtain ⟨rfl, b101, s101⟩ := hq101
                  rw [← hBE] at b101
                  have e63 : σ101 63 = σ75 63 := s101 63 (by decide)
                  refine GS.run [] 2 rfl ?_
                  rw [show nI k + 1 = nI (k + 1) from nI_1 k]
                  first
                    | exact ih52 _ (by omega) (k + 1) σ101 (by omega) ((hsk.trans (s6.sub (by decide))).trans (s101.sub (by decide))) b101 (by rw [e63]; exact k75.2.2.2.1) (by rw [e63]; exact k75.2.2.2.2) rfl
                    | exact ih52 _ (by omega) (k + 1) σ75 (by omega) (hsk.trans (s6.sub (by decide))) (by rw [hBE]; exact hb75) k75.2.2.2.1 k75.2.2.2.2 rfl
          exact loop52 _ 0 σi (Nat.zero_le _) hsi hbi h4 h5 rfl
  have hmx0 : ∀ j, j < bC (bN b0 (14 * c) 0 0 0) → dsB (bN b0 (14 * c) 0 0 0) j ≤ dsB (bN b0 (14 * c) 0 0 0) 0 + 1 := fun j hj => by
    have hC : bC (bN b0 (14 * c) 0 0 0) = 1 := by rw [bN_new b0_D]; rfl
    rw [hC] at hj
    rw [show j = 0 by omega]
    exact Nat.le_succ _
  exact loop34 _ 0 σ29 _ Value.null (Nat.zero_le _) sa b29 (wfS_1 hw hc) orB_1 (fun _ => hmx0) (by rw [e63]; exact k20.2.2.2.1) (by rw [e63]; exact k20.2.2.2.2) rfl rfl
