def frN (t : Tn) (w : Wk) : Nat := match w.2.1 with
  | none => 0
  | some j => tB t w.1 j + 1
def cdC (t : Tn) (w : Wk) : Nat := 18 * w.1 + 2 * frN t w + zW w.2.2
def ccS (t : Tn) (s : Nat) : Nat := cdC t (deW s)
theorem cdW_deW {s : Nat} : cdW (deW s) = s := by
  unfold cdW deW
  have hz : zW (decide (s % 2 = 1)) = s % 2 := by
    rcases Nat.mod_two_eq_zero_or_one s with h | h <;> rw [h] <;> rfl
  have hf : fW (if s % 14 / 2 = 0 then none else some (s % 14 / 2 - 1)) = s % 14 / 2 := by
    by_cases h : s % 14 / 2 = 0
    · rw [if_pos h, h]; rfl
    · rw [if_neg h]; show s % 14 / 2 - 1 + 1 = s % 14 / 2; omega
  show 14 * (s / 14) + 2 * fW (if s % 14 / 2 = 0 then none else some (s % 14 / 2 - 1)) + zW (decide (s % 2 = 1)) = s
  rw [hz, hf]
  omega
theorem frN_lt {t : Tn} {w : Wk} (hw : wfT t) (hW : wfW t w) : frN t w < 9 := by
  have h8 := hw.1
  unfold frN
  cases e : w.2.1 with
  | none => exact Nat.zero_lt_succ _
  | some j =>
    have := ((hw.2.2 w.1 hW.1).2.2.2.2.1 j (hW.2 j e)).1
    show tB t w.1 j + 1 < 9
    omega
theorem cdC_lt {t : Tn} {w : Wk} (hw : wfT t) (hW : wfW t w) : cdC t w < 144 := by
  have h1 := frN_lt hw hW
  have h2 := zW_lt (z := w.2.2)
  have h3 := hW.1
  have h8 := hw.1
  unfold cdC
  omega
theorem cdC_inj {t : Tn} {w u : Wk} (hw : wfT t) (hW : wfW t w) (hU : wfW t u) (h : cdC t w = cdC t u) : w = u := by
  have h1 := frN_lt hw hW
  have h2 := zW_lt (z := w.2.2)
  have h3 := frN_lt hw hU
  have h4 := zW_lt (z := u.2.2)
  unfold cdC at h
  have e1 : w.1 = u.1 := by omega
  have e2 : frN t w = frN t u := by omega
  have e3 : zW w.2.2 = zW u.2.2 := by omega
  obtain ⟨c, o, z⟩ := w
  obtain ⟨c', o', z'⟩ := u
  have e1 : c = c' := e1
  subst e1
  have e3 : zW z = zW z' := e3
  have hz : z = z' := by cases z <;> cases z' <;> first | rfl | cases e3
  subst hz
  cases o with
  | none => cases o' with
    | none => rfl
    | some j => have e2 : 0 = tB t c j + 1 := e2; omega
  | some j => cases o' with
    | none => have e2 : tB t c j + 1 = 0 := e2; omega
    | some i =>
      have e2 : tB t c j + 1 = tB t c i + 1 := e2
      have := (hw.2.2 c hW.1).2.2.2.2.2.1 j i (hW.2 j rfl) (hU.2 i rfl) (by omega)
      rw [this]
theorem ccS_inj {t : Tn} {s p : Nat} (hw : wfT t) (h1 : okS t s) (h2 : okS t p) (h : ccS t s = ccS t p) : s = p := by
  have := cdC_inj hw h1 h2 h
  rw [← cdW_deW (s := s), this, cdW_deW]
def scV (σ : am_S) (t : Tn) (b : Bf) : Prop := σ 57 7 = nI (bC b) ∧ (∀ j, j < bC b → σ 58 j = nI (ccS t (bQ b j)) ∧ σ 61 j = nI (dsB b j) ∧ (0 < j → σ 59 j = nI (bP b (bQ b j)) ∧ σ 60 j = nI (wyW (bW b (bQ b j))))) ∧ ∀ s, s < 112 → okS t s → σ 62 (ccS t s) = am_b ((bD b s).isSome = true)
theorem c_came_63 (d : Nat) (σ : am_S)  : CallS mX9_cameFrom (d) [.ref 63] σ (am_det (some (.int (σ 63 2))) σ) := by
  refine CallS.of kX9_cameFrom pX9_cameFrom [.ref 63] rfl (Nat.le_of_ble_eq_true rfl) ?_
  refine GS.run [] 2 rfl ?_
  refine GS.iret rfl rfl (rfl) ?_
  exact ⟨rfl, rfl⟩
theorem c_hand_63 (d : Nat) (σ : am_S) (z : Bool) (h : σ 63 3 = bI z) : CallS mX9_hasHand (d) [.ref 63] σ (am_det (some (.int (bI z))) σ) := by
  refine CallS.of kX9_hasHand pX9_hasHand [.ref 63] rfl (Nat.le_of_ble_eq_true rfl) ?_
  refine GS.run [] 2 rfl ?_
  rw [h]
  refine GS.run [] 0 rfl ?_
  refine GS.iret rfl rfl (nar_bI _) ?_
  exact ⟨rfl, rfl⟩
