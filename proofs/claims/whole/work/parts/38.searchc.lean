def frN (t : Tn) (w : Wk) : Nat := match w.2.1 with
  | none => 0
  | some j => tB t w.1 j + 1
def cdC (t : Tn) (w : Wk) : Nat := 18 * w.1 + 2 * frN t w + zW w.2.2
def ccS (t : Tn) (s : Nat) : Nat := cdC t (deW s)
theorem cdW_deW {s : Nat} : cdW (deW s) = s := by
  unfold cdW deW
  have hz : zW (decide (s % 2 = 1)) = s % 2 := by
    rcases Nat.mod_two_eq_zero_or_one s with h | h <;> rw [h] <;> rfl
  have hf : fW (if s % 14 / 2 = 0 then none else some (s % 14 / 2 - 1)) = s % 14 / 2 := by
    by_cases h : s % 14 / 2 = 0
    · rw [if_pos h, h]; rfl
    · rw [if_neg h]; show s % 14 / 2 - 1 + 1 = s % 14 / 2; omega
  show 14 * (s / 14) + 2 * fW (if s % 14 / 2 = 0 then none else some (s % 14 / 2 - 1)) + zW (decide (s % 2 = 1)) = s
  rw [hz, hf]
  omega
theorem frN_lt {t : Tn} {w : Wk} (hw : wfT t) (hW : wfW t w) : frN t w < 9 := by
  have h8 := hw.1
  unfold frN
  cases e : w.2.1 with
  | none => exact Nat.zero_lt_succ _
  | some j =>
    have := ((hw.2.2 w.1 hW.1).2.2.2.2.1 j (hW.2 j e)).1
    show tB t w.1 j + 1 < 9
    omega
theorem cdC_lt {t : Tn} {w : Wk} (hw : wfT t) (hW : wfW t w) : cdC t w < 144 := by
  have h1 := frN_lt hw hW
  have h2 := zW_lt (z := w.2.2)
  have h3 := hW.1
  have h8 := hw.1
  unfold cdC
  omega
theorem cdC_inj {t : Tn} {w u : Wk} (hw : wfT t) (hW : wfW t w) (hU : wfW t u) (h : cdC t w = cdC t u) : w = u := by
  have h1 := frN_lt hw hW
  have h2 := zW_lt (z := w.2.2)
  have h3 := frN_lt hw hU
  have h4 := zW_lt (z := u.2.2)
  unfold cdC at h
  have e1 : w.1 = u.1 := by omega
  have e2 : frN t w = frN t u := by omega
  have e3 : zW w.2.2 = zW u.2.2 := by omega
  obtain ⟨c, o, z⟩ := w
  obtain ⟨c', o', z'⟩ := u
  have e1 : c = c' := e1
  subst e1
  have e3 : zW z = zW z' := e3
  have hz : z = z' := by cases z <;> cases z' <;> first | rfl | cases e3
  subst hz
  cases o with
  | none => cases o' with
    | none => rfl
    | some j => have e2 : 0 = tB t c j + 1 := e2; omega
  | some j => cases o' with
    | none => have e2 : tB t c j + 1 = 0 := e2; omega
    | some i =>
      have e2 : tB t c j + 1 = tB t c i + 1 := e2
      have := (hw.2.2 c hW.1).2.2.2.2.2.1 j i (hW.2 j rfl) (hU.2 i rfl) (by omega)
      rw [this]
theorem ccS_inj {t : Tn} {s p : Nat} (hw : wfT t) (h1 : okS t s) (h2 : okS t p) (h : ccS t s = ccS t p) : s = p := by
  have := cdC_inj hw h1 h2 h
  rw [← cdW_deW (s := s), this, cdW_deW]
def scV (σ : am_S) (t : Tn) (b : Bf) : Prop := σ 57 7 = nI (bC b) ∧ (∀ j, j < bC b → σ 58 j = nI (ccS t (bQ b j)) ∧ σ 61 j = nI (dsB b j) ∧ (0 < j → σ 59 j = nI (bP b (bQ b j)) ∧ σ 60 j = nI (wyW (bW b (bQ b j))))) ∧ ∀ s, s < 112 → okS t s → σ 62 (ccS t s) = am_b ((bD b s).isSome = true)
theorem c_came_63 (d : Nat) (σ : am_S)  : CallS mX9_cameFrom (d) [.ref 63] σ (am_det (some (.int (σ 63 2))) σ) := by
  refine CallS.of kX9_cameFrom pX9_cameFrom [.ref 63] rfl (Nat.le_of_ble_eq_true rfl) ?_
  refine GS.run [] 2 rfl ?_
  refine GS.iret rfl rfl (rfl) ?_
  exact ⟨rfl, rfl⟩
theorem c_hand_63 (d : Nat) (σ : am_S) (z : Bool) (h : σ 63 3 = bI z) : CallS mX9_hasHand (d) [.ref 63] σ (am_det (some (.int (bI z))) σ) := by
  refine CallS.of kX9_hasHand pX9_hasHand [.ref 63] rfl (Nat.le_of_ble_eq_true rfl) ?_
  refine GS.run [] 2 rfl ?_
  rw [h]
  refine GS.run [] 0 rfl ?_
  refine GS.iret rfl rfl (nar_bI _) ?_
  exact ⟨rfl, rfl⟩
theorem he_92 {x y z : Nat} : (nI x * 9 + nI y) * 2 + nI z = nI (18 * x + 2 * y + z) := by
  rw [show (9 : Int32) = nI 9 from rfl, show (2 : Int32) = nI 2 from rfl, pk_mul, nI_add, pk_mul, nI_add]
  congr 1
  omega
theorem okS_c {t : Tn} {u : Wk} (hw : wfT t) (hU : wfW t u) : okS t (cdW u) ∧ cdW u < 112 ∧ ccS t (cdW u) = cdC t u := by
  have h := deW_cdW (wfW_6 hw hU)
  exact ⟨by rw [okS, h]; exact hU, cdW_lt hw hU, by unfold ccS; rw [h]⟩
theorem c_snote (d : Nat) (σ : am_S) (t : Tn) (b : Bf) (u : Wk) (vi vw : Int32) (dd p w : Nat) (hw : wfT t) (hU : wfW t u) (hk : wkC 63 σ t u false false) (hb : scV σ t b) (hwb : wfB 112 (okS t) b) (hv : 0 < bC b → vi = nI p ∧ vw = nI (wyW w)) : CallS mX6_note (d + 1) [.ref 57, .int vi, .int vw, .int (nI dd)] σ (fun r σ' => r = none ∧ scV σ' t (bN b (cdW u) dd p w) ∧ same [57, 58, 59, 60, 61, 62] σ σ') := by
  refine CallS.of kX6_note pX6_note [.ref 57, .int vi, .int vw, .int (nI dd), .retAddr 0, .retAddr 0] rfl (Nat.le_of_ble_eq_true rfl) ?_
  have h8 := hw.1
  obtain ⟨h1, h2, h3, -, -⟩ := hk
  obtain ⟨o1, o2, o3⟩ := okS_c hw hU
  have hcl := cdC_lt hw hU
  have hu1 := hU.1
  have hseen := hb.2.2 (cdW u) o2 o1
  rw [o3] at hseen
  rcases (Option.eq_none_or_eq_some u.2.1) with ho | ⟨j, ho⟩
  · have hf : frI t u = -1000000 := by unfold frI; rw [ho]
    have hn : frN t u = 0 := by unfold frN; rw [ho]
    rw [hf] at h2
    refine GS.run [] 2 rfl ?_
    refine GS.cV oX9_cameFrom ((c_came_63 d σ).eq (congrArg (fun z => some (Value.int z)) (h2)) rfl) rfl rfl rfl rfl rfl rfl rfl (Nat.le_of_ble_eq_true rfl) (by omega) ?_
    refine GS.run [] 1 rfl ?_
    refine GS.icmp_ne rfl (fun q => absurd (rfl) q) (fun c9 => ?_)
    refine GS.run [] 5 rfl ?_
    refine GS.cV oX9_place ((c_place_63 d σ).eq (congrArg (fun z => some (Value.int z)) (h1)) rfl) rfl rfl rfl rfl rfl rfl rfl (Nat.le_of_ble_eq_true rfl) (by omega) ?_
    refine GS.run [] 8 rfl ?_
    refine GS.cV oX9_hasHand (c_hand_63 d σ u.2.2 h3) rfl rfl rfl rfl rfl rfl rfl (Nat.le_of_ble_eq_true rfl) (by omega) ?_
    refine GS.if_eq rfl (fun c49 => ?_) (fun c49 => ?_)
    · have hz : zW u.2.2 = 0 := by rw [bI0.mp c49]; rfl
      refine GS.run [] 2 rfl ?_
      first
        | rw [show (nI u.1 * 9 + 0) * 2 + 0 = nI (cdC t u) by unfold cdC; rw [hn, hz]; exact he_92 (y := 0) (z := 0)]
        | rw [show (nI u.1 * 9 + 0) * 2 + 1 = nI (cdC t u) by unfold cdC; rw [hn, hz]; exact he_92 (y := 0) (z := 1)]
        | rw [show (nI u.1 * 9 + (nI (tB t u.1 j) + 1)) * 2 + 0 = nI (cdC t u) by unfold cdC; rw [hn, hz, nI_1]; exact he_92 (z := 0)]
        | rw [show (nI u.1 * 9 + (nI (tB t u.1 j) + 1)) * 2 + 1 = nI (cdC t u) by unfold cdC; rw [hn, hz, nI_1]; exact he_92 (z := 1)]
      refine GS.run [] 0 rfl ?_
      refine GS.run [] 4 rfl ?_
      refine GS.cS oX11_at ((c_at d σ 62 144 (nI (cdC t u)) rfl).eq (congrArg (fun z => some (Value.int z)) (v_get (by omega) (by omega) hseen)) rfl) rfl rfl rfl rfl (Nat.le_of_ble_eq_true rfl) (by omega) ?_
      refine GS.if_eq rfl (fun c69 => ?_) (fun c69 => ?_)
      · have k1 : ¬ (bD b (cdW u)).isSome = true := am_b0.mp c69
        have hlt := wfB_lt hwb o2 k1
        refine GS.run [] 4 rfl ?_
        refine GS.cS oX11_put (c_put d σ 62 144 (nI (cdC t u)) 1 rfl) rfl rfl rfl rfl (Nat.le_of_ble_eq_true rfl) (by omega) ?_
        rw [am_put_nI (by omega) (by omega)]
        generalize hS1 : am_s1 σ 62 (upd (σ 62) (cdC t u) 1) = σ1
        have q1 : σ1 57 7 = nI (bC b) := by rw [← hS1]; exact hb.1
        refine GS.run [] 5 rfl ?_
        rw [q1]
        refine GS.run [] 0 rfl ?_
        refine GS.cS oX11_put (c_put d σ1 58 144 (nI (bC b)) (nI (cdC t u)) rfl) rfl rfl rfl rfl (Nat.le_of_ble_eq_true rfl) (by omega) ?_
        rw [am_put_nI (by omega) (by omega)]
        generalize hS2 : am_s1 σ1 58 (upd (σ1 58) (bC b) (nI (cdC t u))) = σ2
        have q2 : σ2 57 7 = nI (bC b) := by rw [← hS2]; exact q1
        refine GS.run [] 5 rfl ?_
        rw [q2]
        refine GS.run [] 0 rfl ?_
        refine GS.cS oX11_put (c_put d σ2 59 144 (nI (bC b)) vi rfl) rfl rfl rfl rfl (Nat.le_of_ble_eq_true rfl) (by omega) ?_
        rw [am_put_nI (by omega) (by omega)]
        generalize hS3 : am_s1 σ2 59 (upd (σ2 59) (bC b) vi) = σ3
        have q3 : σ3 57 7 = nI (bC b) := by rw [← hS3]; exact q2
        refine GS.run [] 5 rfl ?_
        rw [q3]
        refine GS.run [] 0 rfl ?_
        refine GS.cS oX11_put (c_put d σ3 60 144 (nI (bC b)) vw rfl) rfl rfl rfl rfl (Nat.le_of_ble_eq_true rfl) (by omega) ?_
        rw [am_put_nI (by omega) (by omega)]
        generalize hS4 : am_s1 σ3 60 (upd (σ3 60) (bC b) vw) = σ4
        have q4 : σ4 57 7 = nI (bC b) := by rw [← hS4]; exact q3
        refine GS.run [] 5 rfl ?_
        rw [q4]
        refine GS.run [] 0 rfl ?_
        refine GS.cS oX11_put (c_put d σ4 61 144 (nI (bC b)) (nI dd) rfl) rfl rfl rfl rfl (Nat.le_of_ble_eq_true rfl) (by omega) ?_
        rw [am_put_nI (by omega) (by omega)]
        refine GS.run [] 6 rfl ?_
        refine GS.vret rfl rfl ?_
        subst hS4 hS3 hS2 hS1
        refine ⟨rfl, ?_, (((((same.rf.s1 (by decide)).s1 (by decide)).s1 (by decide)).s1 (by decide)).s1 (by decide)).s1 (by decide)⟩
        rw [bN_new k1]
        refine ⟨(congrArg (· + 1) hb.1).trans (nI_1 _), fun j hj => ?_, fun s hs hos => ?_⟩
        · have hj2 : j < bC b + 1 := hj
          have hds : dsB (bC b + 1, va_up (bQ b) (bC b) (cdW u), va_up (bD b) (cdW u) (some dd), va_up (bP b) (cdW u) p, va_up (bW b) (cdW u) w) j = if j = bC b then dd else dsB b j := by
            unfold dsB
            show (va_up (bD b) (cdW u) (some dd) (va_up (bQ b) (bC b) (cdW u) j)).getD 0 = _
            by_cases e : j = bC b
            · rw [if_pos e, e, va_eq, va_eq]; rfl
            · rw [if_neg e, va_ne _ _ e, va_ne]
              intro z
              obtain ⟨-, -, f, f1, -⟩ := hwb.2.1 j (by omega)
              exact k1 (by rw [← z, f1]; rfl)
          rw [hds]
          show upd (σ 58) (bC b) (nI (cdC t u)) j = nI (ccS t (va_up (bQ b) (bC b) (cdW u) j)) ∧ upd (σ 61) (bC b) (nI dd) j = _ ∧ (0 < j → upd (σ 59) (bC b) vi j = nI (va_up (bP b) (cdW u) p (va_up (bQ b) (bC b) (cdW u) j)) ∧ upd (σ 60) (bC b) vw j = nI (wyW (va_up (bW b) (cdW u) w (va_up (bQ b) (bC b) (cdW u) j))))
          by_cases e : j = bC b
          · subst e
            rw [upd_eq, upd_eq, upd_eq, upd_eq, va_eq, va_eq, va_eq, if_pos rfl, o3]
            exact ⟨rfl, rfl, fun h => hv h⟩
          · have hne : bQ b j ≠ cdW u := fun z => by
              obtain ⟨-, -, f, f1, -⟩ := hwb.2.1 j (by omega)
              exact k1 (by rw [← z, f1]; rfl)
            rw [upd_ne _ _ e, upd_ne _ _ e, upd_ne _ _ e, upd_ne _ _ e, va_ne _ _ e, va_ne _ _ hne, va_ne _ _ hne, if_neg e]
            exact hb.2.1 j (by omega)
        · show upd (σ 62) (cdC t u) 1 (ccS t s) = am_b ((va_up (bD b) (cdW u) (some dd) s).isSome = true)
          by_cases e : s = cdW u
          · rw [e, o3, upd_eq, va_eq]; rfl
          · rw [upd_ne _ _ (fun z => e (ccS_inj hw hos o1 (z.trans o3.symm))), va_ne _ _ e]
            exact hb.2.2 s hs hos
      · have k1 : (bD b (cdW u)).isSome = true := am_bT c69
        refine GS.vret rfl rfl ?_
        rw [bN_old k1]
        exact ⟨rfl, hb, same.rf⟩
    · have hz : zW u.2.2 = 1 := by rw [bI1.mp c49]; rfl
      refine GS.run [] 3 rfl ?_
      first
        | rw [show (nI u.1 * 9 + 0) * 2 + 0 = nI (cdC t u) by unfold cdC; rw [hn, hz]; exact he_92 (y := 0) (z := 0)]
        | rw [show (nI u.1 * 9 + 0) * 2 + 1 = nI (cdC t u) by unfold cdC; rw [hn, hz]; exact he_92 (y := 0) (z := 1)]
        | rw [show (nI u.1 * 9 + (nI (tB t u.1 j) + 1)) * 2 + 0 = nI (cdC t u) by unfold cdC; rw [hn, hz, nI_1]; exact he_92 (z := 0)]
        | rw [show (nI u.1 * 9 + (nI (tB t u.1 j) + 1)) * 2 + 1 = nI (cdC t u) by unfold cdC; rw [hn, hz, nI_1]; exact he_92 (z := 1)]
      refine GS.run [] 0 rfl ?_
      refine GS.run [] 4 rfl ?_
      refine GS.cS oX11_at ((c_at d σ 62 144 (nI (cdC t u)) rfl).eq (congrArg (fun z => some (Value.int z)) (v_get (by omega) (by omega) hseen)) rfl) rfl rfl rfl rfl (Nat.le_of_ble_eq_true rfl) (by omega) ?_
      refine GS.if_eq rfl (fun c69 => ?_) (fun c69 => ?_)
      · have k1 : ¬ (bD b (cdW u)).isSome = true := am_b0.mp c69
        have hlt := wfB_lt hwb o2 k1
        refine GS.run [] 4 rfl ?_
        refine GS.cS oX11_put (c_put d σ 62 144 (nI (cdC t u)) 1 rfl) rfl rfl rfl rfl (Nat.le_of_ble_eq_true rfl) (by omega) ?_
        rw [am_put_nI (by omega) (by omega)]
        generalize hS1 : am_s1 σ 62 (upd (σ 62) (cdC t u) 1) = σ1
        have q1 : σ1 57 7 = nI (bC b) := by rw [← hS1]; exact hb.1
        refine GS.run [] 5 rfl ?_
        rw [q1]
        refine GS.run [] 0 rfl ?_
        refine GS.cS oX11_put (c_put d σ1 58 144 (nI (bC b)) (nI (cdC t u)) rfl) rfl rfl rfl rfl (Nat.le_of_ble_eq_true rfl) (by omega) ?_
        rw [am_put_nI (by omega) (by omega)]
        generalize hS2 : am_s1 σ1 58 (upd (σ1 58) (bC b) (nI (cdC t u))) = σ2
        have q2 : σ2 57 7 = nI (bC b) := by rw [← hS2]; exact q1
        refine GS.run [] 5 rfl ?_
        rw [q2]
        refine GS.run [] 0 rfl ?_
        refine GS.cS oX11_put (c_put d σ2 59 144 (nI (bC b)) vi rfl) rfl rfl rfl rfl (Nat.le_of_ble_eq_true rfl) (by omega) ?_
        rw [am_put_nI (by omega) (by omega)]
        generalize hS3 : am_s1 σ2 59 (upd (σ2 59) (bC b) vi) = σ3
        have q3 : σ3 57 7 = nI (bC b) := by rw [← hS3]; exact q2
        refine GS.run [] 5 rfl ?_
        rw [q3]
        refine GS.run [] 0 rfl ?_
        refine GS.cS oX11_put (c_put d σ3 60 144 (nI (bC b)) vw rfl) rfl rfl rfl rfl (Nat.le_of_ble_eq_true rfl) (by omega) ?_
        rw [am_put_nI (by omega) (by omega)]
        generalize hS4 : am_s1 σ3 60 (upd (σ3 60) (bC b) vw) = σ4
        have q4 : σ4 57 7 = nI (bC b) := by rw [← hS4]; exact q3
        refine GS.run [] 5 rfl ?_
        rw [q4]
        refine GS.run [] 0 rfl ?_
        refine GS.cS oX11_put (c_put d σ4 61 144 (nI (bC b)) (nI dd) rfl) rfl rfl rfl rfl (Nat.le_of_ble_eq_true rfl) (by omega) ?_
        rw [am_put_nI (by omega) (by omega)]
        refine GS.run [] 6 rfl ?_
        refine GS.vret rfl rfl ?_
        subst hS4 hS3 hS2 hS1
        refine ⟨rfl, ?_, (((((same.rf.s1 (by decide)).s1 (by decide)).s1 (by decide)).s1 (by decide)).s1 (by decide)).s1 (by decide)⟩
        rw [bN_new k1]
        refine ⟨(congrArg (· + 1) hb.1).trans (nI_1 _), fun j hj => ?_, fun s hs hos => ?_⟩
        · have hj2 : j < bC b + 1 := hj
          have hds : dsB (bC b + 1, va_up (bQ b) (bC b) (cdW u), va_up (bD b) (cdW u) (some dd), va_up (bP b) (cdW u) p, va_up (bW b) (cdW u) w) j = if j = bC b then dd else dsB b j := by
            unfold dsB
            show (va_up (bD b) (cdW u) (some dd) (va_up (bQ b) (bC b) (cdW u) j)).getD 0 = _
            by_cases e : j = bC b
            · rw [if_pos e, e, va_eq, va_eq]; rfl
            · rw [if_neg e, va_ne _ _ e, va_ne]
              intro z
              obtain ⟨-, -, f, f1, -⟩ := hwb.2.1 j (by omega)
              exact k1 (by rw [← z, f1]; rfl)
          rw [hds]
          show upd (σ 58) (bC b) (nI (cdC t u)) j = nI (ccS t (va_up (bQ b) (bC b) (cdW u) j)) ∧ upd (σ 61) (bC b) (nI dd) j = _ ∧ (0 < j → upd (σ 59) (bC b) vi j = nI (va_up (bP b) (cdW u) p (va_up (bQ b) (bC b) (cdW u) j)) ∧ upd (σ 60) (bC b) vw j = nI (wyW (va_up (bW b) (cdW u) w (va_up (bQ b) (bC b) (cdW u) j))))
          by_cases e : j = bC b
          · subst e
            rw [upd_eq, upd_eq, upd_eq, upd_eq, va_eq, va_eq, va_eq, if_pos rfl, o3]
            exact ⟨rfl, rfl, fun h => hv h⟩
          · have hne : bQ b j ≠ cdW u := fun z => by
              obtain ⟨-, -, f, f1, -⟩ := hwb.2.1 j (by omega)
              exact k1 (by rw [← z, f1]; rfl)
            rw [upd_ne _ _ e, upd_ne _ _ e, upd_ne _ _ e, upd_ne _ _ e, va_ne _ _ e, va_ne _ _ hne, va_ne _ _ hne, if_neg e]
            exact hb.2.1 j (by omega)
        · show upd (σ 62) (cdC t u) 1 (ccS t s) = am_b ((va_up (bD b) (cdW u) (some dd) s).isSome = true)
          by_cases e : s = cdW u
          · rw [e, o3, upd_eq, va_eq]; rfl
          · rw [upd_ne _ _ (fun z => e (ccS_inj hw hos o1 (z.trans o3.symm))), va_ne _ _ e]
            exact hb.2.2 s hs hos
      · have k1 : (bD b (cdW u)).isSome = true := am_bT c69
        refine GS.vret rfl rfl ?_
        rw [bN_old k1]
        exact ⟨rfl, hb, same.rf⟩
  · have hjl := hU.2 j ho
    have htb := ((hw.2.2 u.1 hU.1).2.2.2.2.1 j hjl).1
    have hf : frI t u = nI (tB t u.1 j) := by unfold frI; rw [ho]
    have hn : frN t u = tB t u.1 j + 1 := by unfold frN; rw [ho]
    rw [hf] at h2
    refine GS.run [] 2 rfl ?_
    refine GS.cV oX9_cameFrom ((c_came_63 d σ).eq (congrArg (fun z => some (Value.int z)) (h2)) rfl) rfl rfl rfl rfl rfl rfl rfl (Nat.le_of_ble_eq_true rfl) (by omega) ?_
    refine GS.run [] 1 rfl ?_
    refine GS.icmp_ne rfl (fun c9 => ?_) (fun q => absurd q (nI_ne_none (by omega)))
    refine GS.run [] 2 rfl ?_
    refine GS.cV oX9_cameFrom ((c_came_63 d σ).eq (congrArg (fun z => some (Value.int z)) (h2)) rfl) rfl rfl rfl rfl rfl rfl rfl (Nat.le_of_ble_eq_true rfl) (by omega) ?_
    refine GS.run [] 5 rfl ?_
    refine GS.cV oX9_place ((c_place_63 d σ).eq (congrArg (fun z => some (Value.int z)) (h1)) rfl) rfl rfl rfl rfl rfl rfl rfl (Nat.le_of_ble_eq_true rfl) (by omega) ?_
    refine GS.run [] 8 rfl ?_
    refine GS.cV oX9_hasHand (c_hand_63 d σ u.2.2 h3) rfl rfl rfl rfl rfl rfl rfl (Nat.le_of_ble_eq_true rfl) (by omega) ?_
    refine GS.if_eq rfl (fun c49 => ?_) (fun c49 => ?_)
    · have hz : zW u.2.2 = 0 := by rw [bI0.mp c49]; rfl
      refine GS.run [] 2 rfl ?_
      first
        | rw [show (nI u.1 * 9 + 0) * 2 + 0 = nI (cdC t u) by unfold cdC; rw [hn, hz]; exact he_92 (y := 0) (z := 0)]
        | rw [show (nI u.1 * 9 + 0) * 2 + 1 = nI (cdC t u) by unfold cdC; rw [hn, hz]; exact he_92 (y := 0) (z := 1)]
        | rw [show (nI u.1 * 9 + (nI (tB t u.1 j) + 1)) * 2 + 0 = nI (cdC t u) by unfold cdC; rw [hn, hz, nI_1]; exact he_92 (z := 0)]
        | rw [show (nI u.1 * 9 + (nI (tB t u.1 j) + 1)) * 2 + 1 = nI (cdC t u) by unfold cdC; rw [hn, hz, nI_1]; exact he_92 (z := 1)]
      refine GS.run [] 0 rfl ?_
      refine GS.run [] 4 rfl ?_
      refine GS.cS oX11_at ((c_at d σ 62 144 (nI (cdC t u)) rfl).eq (congrArg (fun z => some (Value.int z)) (v_get (by omega) (by omega) hseen)) rfl) rfl rfl rfl rfl (Nat.le_of_ble_eq_true rfl) (by omega) ?_
      refine GS.if_eq rfl (fun c69 => ?_) (fun c69 => ?_)
      · have k1 : ¬ (bD b (cdW u)).isSome = true := am_b0.mp c69
        have hlt := wfB_lt hwb o2 k1
        refine GS.run [] 4 rfl ?_
        refine GS.cS oX11_put (c_put d σ 62 144 (nI (cdC t u)) 1 rfl) rfl rfl rfl rfl (Nat.le_of_ble_eq_true rfl) (by omega) ?_
        rw [am_put_nI (by omega) (by omega)]
        generalize hS1 : am_s1 σ 62 (upd (σ 62) (cdC t u) 1) = σ1
        have q1 : σ1 57 7 = nI (bC b) := by rw [← hS1]; exact hb.1
        refine GS.run [] 5 rfl ?_
        rw [q1]
        refine GS.run [] 0 rfl ?_
        refine GS.cS oX11_put (c_put d σ1 58 144 (nI (bC b)) (nI (cdC t u)) rfl) rfl rfl rfl rfl (Nat.le_of_ble_eq_true rfl) (by omega) ?_
        rw [am_put_nI (by omega) (by omega)]
        generalize hS2 : am_s1 σ1 58 (upd (σ1 58) (bC b) (nI (cdC t u))) = σ2
        have q2 : σ2 57 7 = nI (bC b) := by rw [← hS2]; exact q1
        refine GS.run [] 5 rfl ?_
        rw [q2]
        refine GS.run [] 0 rfl ?_
        refine GS.cS oX11_put (c_put d σ2 59 144 (nI (bC b)) vi rfl) rfl rfl rfl rfl (Nat.le_of_ble_eq_true rfl) (by omega) ?_
        rw [am_put_nI (by omega) (by omega)]
        generalize hS3 : am_s1 σ2 59 (upd (σ2 59) (bC b) vi) = σ3
        have q3 : σ3 57 7 = nI (bC b) := by rw [← hS3]; exact q2
        refine GS.run [] 5 rfl ?_
        rw [q3]
        refine GS.run [] 0 rfl ?_
        refine GS.cS oX11_put (c_put d σ3 60 144 (nI (bC b)) vw rfl) rfl rfl rfl rfl (Nat.le_of_ble_eq_true rfl) (by omega) ?_
        rw [am_put_nI (by omega) (by omega)]
        generalize hS4 : am_s1 σ3 60 (upd (σ3 60) (bC b) vw) = σ4
        have q4 : σ4 57 7 = nI (bC b) := by rw [← hS4]; exact q3
        refine GS.run [] 5 rfl ?_
        rw [q4]
        refine GS.run [] 0 rfl ?_
        refine GS.cS oX11_put (c_put d σ4 61 144 (nI (bC b)) (nI dd) rfl) rfl rfl rfl rfl (Nat.le_of_ble_eq_true rfl) (by omega) ?_
        rw [am_put_nI (by omega) (by omega)]
        refine GS.run [] 6 rfl ?_
        refine GS.vret rfl rfl ?_
        subst hS4 hS3 hS2 hS1
        refine ⟨rfl, ?_, (((((same.rf.s1 (by decide)).s1 (by decide)).s1 (by decide)).s1 (by decide)).s1 (by decide)).s1 (by decide)⟩
        rw [bN_new k1]
        refine ⟨(congrArg (· + 1) hb.1).trans (nI_1 _), fun j hj => ?_, fun s hs hos => ?_⟩
        · have hj2 : j < bC b + 1 := hj
          have hds : dsB (bC b + 1, va_up (bQ b) (bC b) (cdW u), va_up (bD b) (cdW u) (some dd), va_up (bP b) (cdW u) p, va_up (bW b) (cdW u) w) j = if j = bC b then dd else dsB b j := by
            unfold dsB
            show (va_up (bD b) (cdW u) (some dd) (va_up (bQ b) (bC b) (cdW u) j)).getD 0 = _
            by_cases e : j = bC b
            · rw [if_pos e, e, va_eq, va_eq]; rfl
            · rw [if_neg e, va_ne _ _ e, va_ne]
              intro z
              obtain ⟨-, -, f, f1, -⟩ := hwb.2.1 j (by omega)
              exact k1 (by rw [← z, f1]; rfl)
          rw [hds]
          show upd (σ 58) (bC b) (nI (cdC t u)) j = nI (ccS t (va_up (bQ b) (bC b) (cdW u) j)) ∧ upd (σ 61) (bC b) (nI dd) j = _ ∧ (0 < j → upd (σ 59) (bC b) vi j = nI (va_up (bP b) (cdW u) p (va_up (bQ b) (bC b) (cdW u) j)) ∧ upd (σ 60) (bC b) vw j = nI (wyW (va_up (bW b) (cdW u) w (va_up (bQ b) (bC b) (cdW u) j))))
          by_cases e : j = bC b
          · subst e
            rw [upd_eq, upd_eq, upd_eq, upd_eq, va_eq, va_eq, va_eq, if_pos rfl, o3]
            exact ⟨rfl, rfl, fun h => hv h⟩
          · have hne : bQ b j ≠ cdW u := fun z => by
              obtain ⟨-, -, f, f1, -⟩ := hwb.2.1 j (by omega)
              exact k1 (by rw [← z, f1]; rfl)
            rw [upd_ne _ _ e, upd_ne _ _ e, upd_ne _ _ e, upd_ne _ _ e, va_ne _ _ e, va_ne _ _ hne, va_ne _ _ hne, if_neg e]
            exact hb.2.1 j (by omega)
        · show upd (σ 62) (cdC t u) 1 (ccS t s) = am_b ((va_up (bD b) (cdW u) (some dd) s).isSome = true)
          by_cases e : s = cdW u
          · rw [e, o3, upd_eq, va_eq]; rfl
          · rw [upd_ne _ _ (fun z => e (ccS_inj hw hos o1 (z.trans o3.symm))), va_ne _ _ e]
            exact hb.2.2 s hs hos
      · have k1 : (bD b (cdW u)).isSome = true := am_bT c69
        refine GS.vret rfl rfl ?_
        rw [bN_old k1]
        exact ⟨rfl, hb, same.rf⟩
    · have hz : zW u.2.2 = 1 := by rw [bI1.mp c49]; rfl
      refine GS.run [] 3 rfl ?_
      first
        | rw [show (nI u.1 * 9 + 0) * 2 + 0 = nI (cdC t u) by unfold cdC; rw [hn, hz]; exact he_92 (y := 0) (z := 0)]
        | rw [show (nI u.1 * 9 + 0) * 2 + 1 = nI (cdC t u) by unfold cdC; rw [hn, hz]; exact he_92 (y := 0) (z := 1)]
        | rw [show (nI u.1 * 9 + (nI (tB t u.1 j) + 1)) * 2 + 0 = nI (cdC t u) by unfold cdC; rw [hn, hz, nI_1]; exact he_92 (z := 0)]
        | rw [show (nI u.1 * 9 + (nI (tB t u.1 j) + 1)) * 2 + 1 = nI (cdC t u) by unfold cdC; rw [hn, hz, nI_1]; exact he_92 (z := 1)]
      refine GS.run [] 0 rfl ?_
      refine GS.run [] 4 rfl ?_
      refine GS.cS oX11_at ((c_at d σ 62 144 (nI (cdC t u)) rfl).eq (congrArg (fun z => some (Value.int z)) (v_get (by omega) (by omega) hseen)) rfl) rfl rfl rfl rfl (Nat.le_of_ble_eq_true rfl) (by omega) ?_
      refine GS.if_eq rfl (fun c69 => ?_) (fun c69 => ?_)
      · have k1 : ¬ (bD b (cdW u)).isSome = true := am_b0.mp c69
        have hlt := wfB_lt hwb o2 k1
        refine GS.run [] 4 rfl ?_
        refine GS.cS oX11_put (c_put d σ 62 144 (nI (cdC t u)) 1 rfl) rfl rfl rfl rfl (Nat.le_of_ble_eq_true rfl) (by omega) ?_
        rw [am_put_nI (by omega) (by omega)]
        generalize hS1 : am_s1 σ 62 (upd (σ 62) (cdC t u) 1) = σ1
        have q1 : σ1 57 7 = nI (bC b) := by rw [← hS1]; exact hb.1
        refine GS.run [] 5 rfl ?_
        rw [q1]
        refine GS.run [] 0 rfl ?_
        refine GS.cS oX11_put (c_put d σ1 58 144 (nI (bC b)) (nI (cdC t u)) rfl) rfl rfl rfl rfl (Nat.le_of_ble_eq_true rfl) (by omega) ?_
        rw [am_put_nI (by omega) (by omega)]
        generalize hS2 : am_s1 σ1 58 (upd (σ1 58) (bC b) (nI (cdC t u))) = σ2
        have q2 : σ2 57 7 = nI (bC b) := by rw [← hS2]; exact q1
        refine GS.run [] 5 rfl ?_
        rw [q2]
        refine GS.run [] 0 rfl ?_
        refine GS.cS oX11_put (c_put d σ2 59 144 (nI (bC b)) vi rfl) rfl rfl rfl rfl (Nat.le_of_ble_eq_true rfl) (by omega) ?_
        rw [am_put_nI (by omega) (by omega)]
        generalize hS3 : am_s1 σ2 59 (upd (σ2 59) (bC b) vi) = σ3
        have q3 : σ3 57 7 = nI (bC b) := by rw [← hS3]; exact q2
        refine GS.run [] 5 rfl ?_
        rw [q3]
        refine GS.run [] 0 rfl ?_
        refine GS.cS oX11_put (c_put d σ3 60 144 (nI (bC b)) vw rfl) rfl rfl rfl rfl (Nat.le_of_ble_eq_true rfl) (by omega) ?_
        rw [am_put_nI (by omega) (by omega)]
        generalize hS4 : am_s1 σ3 60 (upd (σ3 60) (bC b) vw) = σ4
        have q4 : σ4 57 7 = nI (bC b) := by rw [← hS4]; exact q3
        refine GS.run [] 5 rfl ?_
        rw [q4]
        refine GS.run [] 0 rfl ?_
        refine GS.cS oX11_put (c_put d σ4 61 144 (nI (bC b)) (nI dd) rfl) rfl rfl rfl rfl (Nat.le_of_ble_eq_true rfl) (by omega) ?_
        rw [am_put_nI (by omega) (by omega)]
        refine GS.run [] 6 rfl ?_
        refine GS.vret rfl rfl ?_
        subst hS4 hS3 hS2 hS1
        refine ⟨rfl, ?_, (((((same.rf.s1 (by decide)).s1 (by decide)).s1 (by decide)).s1 (by decide)).s1 (by decide)).s1 (by decide)⟩
        rw [bN_new k1]
        refine ⟨(congrArg (· + 1) hb.1).trans (nI_1 _), fun j hj => ?_, fun s hs hos => ?_⟩
        · have hj2 : j < bC b + 1 := hj
          have hds : dsB (bC b + 1, va_up (bQ b) (bC b) (cdW u), va_up (bD b) (cdW u) (some dd), va_up (bP b) (cdW u) p, va_up (bW b) (cdW u) w) j = if j = bC b then dd else dsB b j := by
            unfold dsB
            show (va_up (bD b) (cdW u) (some dd) (va_up (bQ b) (bC b) (cdW u) j)).getD 0 = _
            by_cases e : j = bC b
            · rw [if_pos e, e, va_eq, va_eq]; rfl
            · rw [if_neg e, va_ne _ _ e, va_ne]
              intro z
              obtain ⟨-, -, f, f1, -⟩ := hwb.2.1 j (by omega)
              exact k1 (by rw [← z, f1]; rfl)
          rw [hds]
          show upd (σ 58) (bC b) (nI (cdC t u)) j = nI (ccS t (va_up (bQ b) (bC b) (cdW u) j)) ∧ upd (σ 61) (bC b) (nI dd) j = _ ∧ (0 < j → upd (σ 59) (bC b) vi j = nI (va_up (bP b) (cdW u) p (va_up (bQ b) (bC b) (cdW u) j)) ∧ upd (σ 60) (bC b) vw j = nI (wyW (va_up (bW b) (cdW u) w (va_up (bQ b) (bC b) (cdW u) j))))
          by_cases e : j = bC b
          · subst e
            rw [upd_eq, upd_eq, upd_eq, upd_eq, va_eq, va_eq, va_eq, if_pos rfl, o3]
            exact ⟨rfl, rfl, fun h => hv h⟩
          · have hne : bQ b j ≠ cdW u := fun z => by
              obtain ⟨-, -, f, f1, -⟩ := hwb.2.1 j (by omega)
              exact k1 (by rw [← z, f1]; rfl)
            rw [upd_ne _ _ e, upd_ne _ _ e, upd_ne _ _ e, upd_ne _ _ e, va_ne _ _ e, va_ne _ _ hne, va_ne _ _ hne, if_neg e]
            exact hb.2.1 j (by omega)
        · show upd (σ 62) (cdC t u) 1 (ccS t s) = am_b ((va_up (bD b) (cdW u) (some dd) s).isSome = true)
          by_cases e : s = cdW u
          · rw [e, o3, upd_eq, va_eq]; rfl
          · rw [upd_ne _ _ (fun z => e (ccS_inj hw hos o1 (z.trans o3.symm))), va_ne _ _ e]
            exact hb.2.2 s hs hos
      · have k1 : (bD b (cdW u)).isSome = true := am_bT c69
        refine GS.vret rfl rfl ?_
        rw [bN_old k1]
        exact ⟨rfl, hb, same.rf⟩
theorem c_standAt (d : Nat) (σ : am_S) (t : Tn) (b : Bf) (i : Nat) (hw : wfT t) (hb : scV σ t b) (hwb : wfB 112 (okS t) b) (hi : i < bC b) (h4 : σ 63 4 = bI false) (h5 : σ 63 5 = zI (sd false false)) : CallS mX6_standAt (d + 1) [.ref 57, .int (nI i)] σ (fun r σ' => r = none ∧ wkC 63 σ' t (deW (bQ b i)) false false ∧ same [63] σ σ') := by
  refine CallS.of kX6_standAt pX6_standAt [.ref 57, .int (nI i), .retAddr 0, .retAddr 0] rfl (Nat.le_of_ble_eq_true rfl) ?_
  have h8 := hw.1
  have h64 := wfB_C hwb
  have hoS := (hwb.2.1 i hi).2.1
  have hfl := frN_lt hw hoS
  have hzl := zW_lt (z := (deW (bQ b i)).2.2)
  have hcl := cdC_lt hw hoS
  have hu1 := hoS.1
  have hC : ccS t (bQ b i) = 18 * (deW (bQ b i)).1 + 2 * frN t (deW (bQ b i)) + zW (deW (bQ b i)).2.2 := rfl
  have e1 : ccS t (bQ b i) / 2 / 9 = (deW (bQ b i)).1 := by omega
  have e2 : ccS t (bQ b i) / 2 % 9 = frN t (deW (bQ b i)) := by omega
  have e3 : ccS t (bQ b i) % 2 = zW (deW (bQ b i)).2.2 := by omega
  refine GS.run [] 3 rfl ?_
  refine GS.cS oX11_at ((c_at d σ 58 144 (nI i) rfl).eq (congrArg (fun z => some (Value.int z)) (v_get (by omega) (by omega) (hb.2.1 i hi).1)) rfl) rfl rfl rfl rfl (Nat.le_of_ble_eq_true rfl) (by omega) ?_
  refine GS.run [] 3 rfl ?_
  refine GS.idiv rfl (by decide) ?_
  rw [show (2 : Int32) = nI 2 from rfl, pk_div (by omega) (by omega) (by omega)]
  refine GS.run [] 1 rfl ?_
  refine GS.irem rfl (by decide) ?_
  rw [show (9 : Int32) = nI 9 from rfl, pk_rem (by omega) (by omega) (by omega)]
  refine GS.run [] 1 rfl ?_
  rcases (Option.eq_none_or_eq_some (deW (bQ b i)).2.1) with ho | ⟨j, ho⟩
  · have hn : frN t (deW (bQ b i)) = 0 := by unfold frN; rw [ho]
    have hf : frI t (deW (bQ b i)) = -1000000 := by unfold frI; rw [ho]
    rw [hn] at e2
    rw [e2]
    refine GS.run [] 0 rfl ?_
    refine GS.run [] 4 rfl ?_
    refine GS.idiv rfl (by decide) ?_
    rw [show (2 : Int32) = nI 2 from rfl, pk_div (by omega) (by omega) (by omega)]
    refine GS.run [] 1 rfl ?_
    refine GS.idiv rfl (by decide) ?_
    rw [show (9 : Int32) = nI 9 from rfl, pk_div (by omega) (by omega) (by omega), e1]
    refine GS.run [] 1 rfl ?_
    refine GS.if_ne rfl (fun q => absurd (rfl) q) (fun c27 => ?_)
    refine GS.run [] 4 rfl ?_
    refine GS.irem rfl (by decide) ?_
    rw [show (2 : Int32) = nI 2 from rfl, pk_rem (by omega) (by omega) (by omega), e3]
    refine GS.run [] 1 rfl ?_
    refine GS.icmp_ne rfl (fun c42 => ?_) (fun c42 => ?_)
    · have hz : (deW (bQ b i)).2.2 = false := by
        cases e : (deW (bQ b i)).2.2 with
        | false => rfl
        | true => rw [e] at c42; exact absurd rfl c42
      refine GS.run [] 1 rfl ?_
      first
        | rw [show nI (tB t (deW (bQ b i)).1 j + 1) - 1 = nI (tB t (deW (bQ b i)).1 j) from pk_sub (a := tB t (deW (bQ b i)).1 j + 1) (b := 1) (by omega), ← hf]
        | rw [← hf]
      first
        | rw [show (1 : Int32) = bI (deW (bQ b i)).2.2 by rw [hz]; rfl]
        | rw [show (Value.int 0) = Value.int (bI (deW (bQ b i)).2.2) by rw [hz]; rfl]
      refine GS.run [] 0 rfl ?_
      refine GS.callV oX9_stand (c_stand_63 d σ (nI (deW (bQ b i)).1) (frI t (deW (bQ b i))) (deW (bQ b i)).2.2) rfl rfl rfl rfl rfl rfl rfl (Nat.le_of_ble_eq_true rfl) (by omega) (fun v50 σ50 hq50 => ?_)
      obtain ⟨rfl, s50, w1, w2, w3, w4, w5⟩ := hq50
      refine GS.vret rfl rfl ?_
      exact ⟨rfl, ⟨w1, w2, w3, w4.trans h4, w5.trans h5⟩, s50⟩
    · have hz : (deW (bQ b i)).2.2 = true := by
        cases e : (deW (bQ b i)).2.2 with
        | true => rfl
        | false => rw [e] at c42; exact absurd c42 (by decide)
      refine GS.run [] 2 rfl ?_
      first
        | rw [show nI (tB t (deW (bQ b i)).1 j + 1) - 1 = nI (tB t (deW (bQ b i)).1 j) from pk_sub (a := tB t (deW (bQ b i)).1 j + 1) (b := 1) (by omega), ← hf]
        | rw [← hf]
      first
        | rw [show (1 : Int32) = bI (deW (bQ b i)).2.2 by rw [hz]; rfl]
        | rw [show (Value.int 0) = Value.int (bI (deW (bQ b i)).2.2) by rw [hz]; rfl]
      refine GS.run [] 0 rfl ?_
      refine GS.callV oX9_stand (c_stand_63 d σ (nI (deW (bQ b i)).1) (frI t (deW (bQ b i))) (deW (bQ b i)).2.2) rfl rfl rfl rfl rfl rfl rfl (Nat.le_of_ble_eq_true rfl) (by omega) (fun v50 σ50 hq50 => ?_)
      obtain ⟨rfl, s50, w1, w2, w3, w4, w5⟩ := hq50
      refine GS.vret rfl rfl ?_
      exact ⟨rfl, ⟨w1, w2, w3, w4.trans h4, w5.trans h5⟩, s50⟩
  · have hn : frN t (deW (bQ b i)) = tB t (deW (bQ b i)).1 j + 1 := by unfold frN; rw [ho]
    have hf : frI t (deW (bQ b i)) = nI (tB t (deW (bQ b i)).1 j) := by unfold frI; rw [ho]
    rw [hn] at e2
    rw [e2]
    refine GS.run [] 0 rfl ?_
    refine GS.run [] 4 rfl ?_
    refine GS.idiv rfl (by decide) ?_
    rw [show (2 : Int32) = nI 2 from rfl, pk_div (by omega) (by omega) (by omega)]
    refine GS.run [] 1 rfl ?_
    refine GS.idiv rfl (by decide) ?_
    rw [show (9 : Int32) = nI 9 from rfl, pk_div (by omega) (by omega) (by omega), e1]
    refine GS.run [] 1 rfl ?_
    refine GS.if_ne rfl (fun c27 => ?_) (fun q => absurd q (fun q => absurd ((nI_eq (b := 0) (by omega) (by omega)).mp q) (by omega)))
    refine GS.run [] 5 rfl ?_
    refine GS.irem rfl (by decide) ?_
    rw [show (2 : Int32) = nI 2 from rfl, pk_rem (by omega) (by omega) (by omega), e3]
    refine GS.run [] 1 rfl ?_
    refine GS.icmp_ne rfl (fun c42 => ?_) (fun c42 => ?_)
    · have hz : (deW (bQ b i)).2.2 = false := by
        cases e : (deW (bQ b i)).2.2 with
        | false => rfl
        | true => rw [e] at c42; exact absurd rfl c42
      refine GS.run [] 1 rfl ?_
      first
        | rw [show nI (tB t (deW (bQ b i)).1 j + 1) - 1 = nI (tB t (deW (bQ b i)).1 j) from pk_sub (a := tB t (deW (bQ b i)).1 j + 1) (b := 1) (by omega), ← hf]
        | rw [← hf]
      first
        | rw [show (1 : Int32) = bI (deW (bQ b i)).2.2 by rw [hz]; rfl]
        | rw [show (Value.int 0) = Value.int (bI (deW (bQ b i)).2.2) by rw [hz]; rfl]
      refine GS.run [] 0 rfl ?_
      refine GS.callV oX9_stand (c_stand_63 d σ (nI (deW (bQ b i)).1) (frI t (deW (bQ b i))) (deW (bQ b i)).2.2) rfl rfl rfl rfl rfl rfl rfl (Nat.le_of_ble_eq_true rfl) (by omega) (fun v50 σ50 hq50 => ?_)
      obtain ⟨rfl, s50, w1, w2, w3, w4, w5⟩ := hq50
      refine GS.vret rfl rfl ?_
      exact ⟨rfl, ⟨w1, w2, w3, w4.trans h4, w5.trans h5⟩, s50⟩
    · have hz : (deW (bQ b i)).2.2 = true := by
        cases e : (deW (bQ b i)).2.2 with
        | true => rfl
        | false => rw [e] at c42; exact absurd c42 (by decide)
      refine GS.run [] 2 rfl ?_
      first
        | rw [show nI (tB t (deW (bQ b i)).1 j + 1) - 1 = nI (tB t (deW (bQ b i)).1 j) from pk_sub (a := tB t (deW (bQ b i)).1 j + 1) (b := 1) (by omega), ← hf]
        | rw [← hf]
      first
        | rw [show (1 : Int32) = bI (deW (bQ b i)).2.2 by rw [hz]; rfl]
        | rw [show (Value.int 0) = Value.int (bI (deW (bQ b i)).2.2) by rw [hz]; rfl]
      refine GS.run [] 0 rfl ?_
      refine GS.callV oX9_stand (c_stand_63 d σ (nI (deW (bQ b i)).1) (frI t (deW (bQ b i))) (deW (bQ b i)).2.2) rfl rfl rfl rfl rfl rfl rfl (Nat.le_of_ble_eq_true rfl) (by omega) (fun v50 σ50 hq50 => ?_)
      obtain ⟨rfl, s50, w1, w2, w3, w4, w5⟩ := hq50
      refine GS.vret rfl rfl ?_
      exact ⟨rfl, ⟨w1, w2, w3, w4.trans h4, w5.trans h5⟩, s50⟩
theorem lk_ways : Cond.fieldLinkNest mX6_spread.1.cls 63 RX11 "WAYS" "[I" "SidelessTown" ∈ lw_tbl := lw_m4 (i := 155) rfl
section GSW
variable {X : am_X0} {M : am_M} {d : Nat} {Q : Option Value → am_S → Prop} {pc nx : Nat} {L L' st st' : List Value} {σ σ' : am_S} {x : List Nat} {y : Nat} {v : Value}
theorem GS.wayS {a : Nat} {host : String} (hj : am_at M pc = some (.getstatic a, nx, x, y, v)) (hlk : Cond.fieldLinkNest M.1.cls a RX11 "WAYS" "[I" host ∈ lw_tbl) (kk : GS X M d Q nx L (.ref 3000 :: st) σ) : GS X M d Q pc L st σ := G.wayS hj hlk kk
theorem GS.wayL {a : Int32} (hj : am_at M pc = some (.iaload, nx, x, y, v)) (hin : vp_in a 17) (kk : GS X M d Q nx L (.int (am_ways.getD a.toNatClampNeg 0) :: st) σ) : GS X M d Q pc L (.int a :: .ref 3000 :: st) σ := G.wayL hj hin kk
theorem GS.wayN (hj : am_at M pc = some (.arraylength, nx, x, y, v)) (kk : GS X M d Q nx L (.int 17 :: st) σ) : GS X M d Q pc L (.ref 3000 :: st) σ := G.wayN hj kk
end GSW
theorem ways_k : ∀ k : Fin 17, am_ways.getD k.val 0 = nI (wyW k.val) := by decide +kernel
theorem c_atW (d : Nat) (σ : am_S) (k : Nat) (hk : k < 17) : CallS mX11_at d [.ref 3000, .int (nI k)] σ (am_det (some (.int (nI (wyW k)))) σ) := by
  refine CallS.of kX11_at pX11_at [.ref 3000, .int (nI k)] rfl (Nat.le_of_ble_eq_true rfl) ?_
  refine GS.run [] 1 rfl ?_
  refine GS.if_lt rfl (fun c1 => absurd ((nI_ltI (b := 0) (by omega) (by omega)).mp c1) (by omega)) (fun _ => ?_)
  refine GS.run [] 2 rfl ?_
  refine GS.wayN rfl ?_
  refine GS.icmp_ge rfl (fun c7 => absurd ((nI_leI (a := 17) (by omega) (by omega)).mp c7) (by omega)) (fun _ => ?_)
  refine GS.run [] 2 rfl ?_
  refine GS.wayL rfl (am_in.mpr ⟨by rw [nI_toInt (by omega)]; omega, by rw [nI_toInt (by omega)]; omega⟩) ?_
  refine GS.run [] 1 rfl ?_
  refine GS.iret rfl rfl rfl ?_
  refine ⟨congrArg (fun z => some (Value.int z)) ?_, rfl⟩
  rw [nI_clamp (by omega)]
  exact ways_k ⟨k, hk⟩
