def plI (o : Option Nat) : Int32 := match o with
  | none => -1
  | some x => nI x
def frV (σ : am_S) (b : Bf) : Prop := σ 69 32 = nI (bC b) ∧ (∀ j, j < bC b → σ 83 j = nI (12 * (bQ b j / 8) + bQ b j % 8)) ∧ ∀ x y, x < 8 → y < 8 → σ 82 (12 * x + y) = plI (bD b (8 * x + y))
theorem he_p {x y : Nat} : (12 : Int32) * nI x + nI y = nI (12 * x + y) := by rw [show (12 : Int32) = nI 12 from rfl, pk_mul, nI_add]
theorem c_plainTo (d : Nat) (σ : am_S) (t : Tn) (c w : Nat) (ht : townM 73 0 σ t) (hw : wfT t) (hc : c < tN t) (hww : w < 12) : CallS mX12_plainTo (d + 1) [.ref 69, .int (nI c), .int (nI (pwd w))] σ (am_det (some (.int (plI (gl t c w)))) σ) := by
  refine CallS.of kX12_plainTo pX12_plainTo [.ref 69, .int (nI c), .int (nI (pwd w)), .retAddr 0] rfl (Nat.le_of_ble_eq_true rfl) ?_
  have h8 := hw.1
  rcases cut12 hww with rfl | rfl | ⟨m, hm, rfl⟩
  · have hgl : gl t c 0 = (slope t c true).map (tB t c) := rfl
    have hlt : ∀ k, slope t c true = some k → k < tD t c := fun k => slope_lt
    refine GS.run [] 2 rfl ?_
    refine GS.icmp_ge rfl (fun q => absurd q (by decide)) (fun c2 => ?_)
    refine GS.run [] 3 rfl ?_
    refine GS.if_ne rfl (fun q => absurd (rfl) q) (fun c8 => ?_)
    refine GS.run [] 2 rfl ?_
    refine GS.cV oX12_slope (c_mslope d σ t c true ht hw hc) rfl rfl rfl rfl rfl rfl rfl (Nat.le_of_ble_eq_true rfl) (by omega) ?_
    refine GS.run [] 1 rfl ?_
    rw [hgl]
    cases ho : slope t c true
    · refine GS.run [] 2 rfl ?_
      refine GS.if_ge rfl (fun q => absurd q (by decide)) (fun c33 => ?_)
      refine GS.run [] 2 rfl ?_
      refine GS.iret rfl rfl (rfl) ?_
      exact ⟨rfl, rfl⟩
    · rename_i k
      have hk := hlt k ho
      have h6 := (hw.2.2 c hc).2.2.2.1
      refine GS.run [] 2 rfl ?_
      refine GS.if_ge rfl (fun c33 => ?_) (fun q => absurd (nI_pos' (by omega)) q)
      refine GS.run [] 9 rfl ?_
      refine GS.ald (50 + 6 * c + k) rfl rfl (he_to) (by omega) ?_
      rw [m_to ht hc hk]
      refine GS.iret rfl rfl (rfl) ?_
      exact ⟨rfl, rfl⟩
  · have hgl : gl t c 1 = (slope t c false).map (tB t c) := rfl
    have hlt : ∀ k, slope t c false = some k → k < tD t c := fun k => slope_lt
    refine GS.run [] 2 rfl ?_
    refine GS.icmp_ge rfl (fun q => absurd q (by decide)) (fun c2 => ?_)
    refine GS.run [] 3 rfl ?_
    refine GS.if_ne rfl (fun c8 => ?_) (fun q => absurd q (by decide))
    refine GS.run [] 1 rfl ?_
    refine GS.cV oX12_slope (c_mslope d σ t c false ht hw hc) rfl rfl rfl rfl rfl rfl rfl (Nat.le_of_ble_eq_true rfl) (by omega) ?_
    refine GS.run [] 1 rfl ?_
    rw [hgl]
    cases ho : slope t c false
    · refine GS.run [] 2 rfl ?_
      refine GS.if_ge rfl (fun q => absurd q (by decide)) (fun c33 => ?_)
      refine GS.run [] 2 rfl ?_
      refine GS.iret rfl rfl (rfl) ?_
      exact ⟨rfl, rfl⟩
    · rename_i k
      have hk := hlt k ho
      have h6 := (hw.2.2 c hc).2.2.2.1
      refine GS.run [] 2 rfl ?_
      refine GS.if_ge rfl (fun c33 => ?_) (fun q => absurd (nI_pos' (by omega)) q)
      refine GS.run [] 9 rfl ?_
      refine GS.ald (50 + 6 * c + k) rfl rfl (he_to) (by omega) ?_
      rw [m_to ht hc hk]
      refine GS.iret rfl rfl (rfl) ?_
      exact ⟨rfl, rfl⟩
  · have hpb : pwd (m + 2) < 1000 := by unfold pwd; rw [if_neg (by omega)]; omega
    have hgl : gl t c (m + 2) = (markedK t c m).map (tB t c) := by unfold gl; rw [if_neg (by omega), if_neg (by omega), Nat.add_sub_cancel]
    have hlt : ∀ k, markedK t c m = some k → k < tD t c := fun k => markedK_lt
    refine GS.run [] 2 rfl ?_
    refine GS.icmp_ge rfl (fun c2 => ?_) (fun q => absurd ((nI_leI (a := 3) (by omega) (by omega)).mpr (by unfold pwd; rw [if_neg (by omega)]; omega)) q)
    refine GS.run [] 5 rfl ?_
    rw [show nI (pwd (m + 2)) - 20 = nI m by unfold pwd; rw [if_neg (by omega)]; rw [show nI (18 + (m + 2)) - 20 = nI (18 + (m + 2) - 20) from pk_sub (a := 18 + (m + 2)) (b := 20) (by omega)]; congr 1; omega]
    refine GS.run [] 0 rfl ?_
    refine GS.cV oX12_marked (c_mmarked d σ t c m ht hw hc (by omega)) rfl rfl rfl rfl rfl rfl rfl (Nat.le_of_ble_eq_true rfl) (by omega) ?_
    rw [hgl]
    cases ho : markedK t c m
    · refine GS.run [] 2 rfl ?_
      refine GS.if_ge rfl (fun q => absurd q (by decide)) (fun c33 => ?_)
      refine GS.run [] 2 rfl ?_
      refine GS.iret rfl rfl (rfl) ?_
      exact ⟨rfl, rfl⟩
    · rename_i k
      have hk := hlt k ho
      have h6 := (hw.2.2 c hc).2.2.2.1
      refine GS.run [] 2 rfl ?_
      refine GS.if_ge rfl (fun c33 => ?_) (fun q => absurd (nI_pos' (by omega)) q)
      refine GS.run [] 9 rfl ?_
      refine GS.ald (50 + 6 * c + k) rfl rfl (he_to) (by omega) ?_
      rw [m_to ht hc hk]
      refine GS.iret rfl rfl (rfl) ?_
      exact ⟨rfl, rfl⟩
