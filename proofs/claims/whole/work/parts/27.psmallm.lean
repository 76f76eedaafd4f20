theorem p_status_m (d : Nat) (σ : am_S)  : CallS mX12_status (d) [.ref 69] σ (am_det (some (.int (σ 69 1))) (am_s1 σ 69 (upd (σ 69) 0 0))) := by
  refine CallS.of kX12_status pX12_status [.ref 69] rfl (Nat.le_of_ble_eq_true rfl) ?_
  refine GS.run [] 5 rfl ?_
  refine GS.iret rfl rfl (rfl) ?_
  exact ⟨rfl, rfl⟩
theorem p_fault_m (d : Nat) (σ : am_S)  : CallS mX12_fault (d) [.ref 69] σ (am_det (some (.int (σ 69 12))) (am_s1 σ 69 (upd (σ 69) 0 0))) := by
  refine CallS.of kX12_fault pX12_fault [.ref 69] rfl (Nat.le_of_ble_eq_true rfl) ?_
  refine GS.run [] 5 rfl ?_
  refine GS.iret rfl rfl (rfl) ?_
  exact ⟨rfl, rfl⟩
theorem p_word_m (d : Nat) (σ : am_S) (s : Sy) (k : Int32) (hy : sayM 75 0 σ s) (hys : wfS s) : CallS mX12_word (d) [.ref 69, .int k] σ (am_det (some (.int (qWord s k))) (am_s1 σ 69 (upd (σ 69) 0 0))) := by
  refine CallS.of kX12_word pX12_word [.ref 69, .int k] rfl (Nat.le_of_ble_eq_true rfl) ?_
  have hy0 : sayM 75 0 (am_s1 σ 69 (upd (σ 69) 0 0)) s := hy
  have h12 := hys.1
  refine GS.run [] 4 rfl ?_
  refine GS.if_ge rfl (fun c6 => ?_) (fun c6 => ?_)
  · have hk : ¬ k.toInt < 0 := by rw [tI_le, tI_0] at c6; omega
    refine GS.run [] 4 rfl ?_
    refine GS.ald (0) rfl rfl (rfl) (by omega) ?_
    rw [m_len hy0]
    refine GS.icmp_ge rfl (fun c21 => ?_) (fun c21 => ?_)
    · have h2 : ¬ k.toInt < (s.1 : Int) := by rw [tI_le, nI_toInt (by omega)] at c21; omega
      refine GS.run [] 1 rfl ?_
      refine GS.iret rfl rfl (rfl) ?_
      refine ⟨congrArg (fun z => some (Value.int z)) ?_, rfl⟩
      unfold qWord
      first
        | rw [if_pos hk]
        | rw [if_neg hk, if_neg h2]
        | rw [if_neg hk, if_pos h2, ec]
    · have h2 : k.toInt < (s.1 : Int) := by rw [tI_le, nI_toInt (by omega)] at c21; omega
      obtain ⟨a, ha, rfl⟩ := okn_nat (n := s.1) ⟨by omega, h2⟩
      have ec : cn (nI a) = a := cn_nI (by omega)
      refine GS.run [] 5 rfl ?_
      refine GS.ald (1 + a) rfl rfl (he_1) (by omega) ?_
      rw [m_word hy0 ha]
      refine GS.run [] 1 rfl ?_
      refine GS.iret rfl rfl (rfl) ?_
      refine ⟨congrArg (fun z => some (Value.int z)) ?_, rfl⟩
      unfold qWord
      first
        | rw [if_pos hk]
        | rw [if_neg hk, if_neg h2]
        | rw [if_neg hk, if_pos h2, ec]
  · have hk : k.toInt < 0 := by rw [tI_le, tI_0] at c6; omega
    refine GS.run [] 2 rfl ?_
    refine GS.iret rfl rfl (rfl) ?_
    refine ⟨congrArg (fun z => some (Value.int z)) ?_, rfl⟩
    unfold qWord
    first
      | rw [if_pos hk]
      | rw [if_neg hk, if_neg h2]
      | rw [if_neg hk, if_pos h2, ec]
theorem p_trace_m (d : Nat) (σ : am_S) (x : Tr) (i : Int32) (hx : traceV 69 40 88 σ x) (h16 : x.1 ≤ 16) : CallS mX12_trace (d + 1) [.ref 69, .int i] σ (am_det (some (.int (qTrace x i))) (am_s1 σ 69 (upd (σ 69) 0 0))) := by
  refine CallS.of kX12_trace pX12_trace [.ref 69, .int i] rfl (Nat.le_of_ble_eq_true rfl) ?_
  refine GS.run [] 8 rfl ?_
  rw [show (am_s1 σ 69 (upd (σ 69) 0 0)) 69 40 = nI x.1 from hx.1]
  refine GS.run [] 0 rfl ?_
  refine GS.run [] 3 rfl ?_
  refine GS.cS oX12_in (c_inI d (am_s1 σ 69 (upd (σ 69) 0 0)) i 0 (nI x.1 - 1).toInt64 (okn i x.1) (by rw [l_m1 (by omega), show (0 : Int64).toInt = 0 from rfl]; omega)) rfl rfl rfl rfl (Nat.le_of_ble_eq_true rfl) (by omega) ?_
  refine GS.if_eq rfl (fun c18 => ?_) (fun c18 => ?_)
  · have hk : ¬ okn i x.1 := am_b0.mp c18
    refine GS.run [] 1 rfl ?_
    refine GS.iret rfl rfl (rfl) ?_
    refine ⟨congrArg (fun z => some (Value.int z)) ?_, rfl⟩
    unfold qTrace
    first
      | rw [if_neg hk]
      | rw [if_pos hk, ec]
  · have hk := am_bT c18
    obtain ⟨a, ha, rfl⟩ := okn_nat hk
    have ec : cn (nI a) = a := cn_nI (by omega)
    refine GS.run [] 3 rfl ?_
    refine GS.ald (a) rfl rfl (rfl) (by omega) ?_
    rw [show (am_s1 σ 69 (upd (σ 69) 0 0)) 88 a = x.2 a from hx.2 a ha]
    refine GS.run [] 1 rfl ?_
    refine GS.iret rfl rfl (rfl) ?_
    refine ⟨congrArg (fun z => some (Value.int z)) ?_, rfl⟩
    unfold qTrace
    first
      | rw [if_neg hk]
      | rw [if_pos hk, ec]
theorem p_count_m (d : Nat) (σ : am_S) (r : Rw) (t : Tn) (s : Sy) (p : Tp) (c : Int32) (hr : rowsV 70 71 72 σ r) (hwf : wfR r) (ht : townM 73 0 σ t) (hw : wfT t) (hy : sayM 75 0 σ s) (hp : σ 69 11 = nI p.1) : CallS mX12_count (d) [.ref 69, .int c] σ (am_det (some (.int (qCount r t s p c))) (am_s1 σ 69 (upd (σ 69) 0 0))) := by
  refine CallS.of kX12_count pX12_count [.ref 69, .int c, .retAddr 0, .retAddr 0] rfl (Nat.le_of_ble_eq_true rfl) ?_
  have ht0 : townM 73 0 (am_s1 σ 69 (upd (σ 69) 0 0)) t := ht
  have hy0 : sayM 75 0 (am_s1 σ 69 (upd (σ 69) 0 0)) s := hy
  have hr0 : rowsV 70 71 72 (am_s1 σ 69 (upd (σ 69) 0 0)) r := hr
  have h8 := hw.1
  refine GS.run [] 6 rfl ?_
  rcases six c with rfl | rfl | rfl | rfl | rfl | rfl | hc
  · refine GS.tabIn (t := 48) rfl (by decide) (by decide) (rfl) ?_
    refine GS.run [] 2 rfl ?_
    have loop50 : ∀ (fu : Nat) (j : Nat) (hj : j ≤ 8), 8 - j = fu → GS none mX12_count (d) (am_det (some (.int (qCount r t s p 0))) (am_s1 σ 69 (upd (σ 69) 0 0))) 50 [.ref 69, .int 0, .int (nI (rwF r j)), .int (nI j)] [] (am_s1 σ 69 (upd (σ 69) 0 0)) := by
      intro fu
      induction fu using Nat.strongRecOn with
      | ind fu ih50 =>
        intro j hj hfu
        refine GS.run [] 2 rfl ?_
        refine GS.icmp_ge rfl (fun c53 => ?_) (fun c53 => ?_)
        · have e : 8 = j := by have := (nI_leI (a := 8) (by omega) (by omega)).mp c53; omega
          subst e
          refine GS.run [] 1 rfl ?_
          refine GS.iret rfl rfl (rfl) ?_
          exact ⟨rfl, rfl⟩
        · have hlt : j < 8 := (nI_gtI (a := 8) (by omega) (by omega)).mp c53
          refine GS.run [] 4 rfl ?_
          refine GS.ald (j) rfl rfl (rfl) (by omega) ?_
          rw [show (am_s1 σ 69 (upd (σ 69) 0 0)) 70 j = r.1 j from (hr j hlt).1]
          refine GS.if_lt rfl (fun c63 => ?_) (fun c63 => ?_)
          · have hl : (r.1 j).toInt < 0 := by rw [tI_lt, tI_0] at c63; exact c63
            refine GS.run [] 5 rfl ?_
            first
              | (rw [show nI (rwF r j) + 1 = nI (rwF r (j + 1)) by rw [rwF, if_neg hl, nI_1], nI_1]; exact ih50 _ (by omega) (j + 1) (by omega) rfl)
              | (rw [show nI (rwF r j) + 0 = nI (rwF r (j + 1)) by rw [rwF, if_pos hl]; exact nI_add _ 0, nI_1]; exact ih50 _ (by omega) (j + 1) (by omega) rfl)
          · have hl : ¬ (r.1 j).toInt < 0 := by rw [tI_lt, tI_0] at c63; exact c63
            refine GS.run [] 6 rfl ?_
            first
              | (rw [show nI (rwF r j) + 1 = nI (rwF r (j + 1)) by rw [rwF, if_neg hl, nI_1], nI_1]; exact ih50 _ (by omega) (j + 1) (by omega) rfl)
              | (rw [show nI (rwF r j) + 0 = nI (rwF r (j + 1)) by rw [rwF, if_pos hl]; exact nI_add _ 0, nI_1]; exact ih50 _ (by omega) (j + 1) (by omega) rfl)
    exact loop50 _ 0 (Nat.zero_le _) rfl
  · refine GS.tabIn (t := 81) rfl (by decide) (by decide) (rfl) ?_
    refine GS.run [] 3 rfl ?_
    refine GS.ald (0) rfl rfl (rfl) (by omega) ?_
    rw [m_n ht0]
    refine GS.iret rfl rfl (rfl) ?_
    exact ⟨rfl, rfl⟩
  · refine GS.tabIn (t := 88) rfl (by decide) (by decide) (rfl) ?_
    refine GS.run [] 3 rfl ?_
    refine GS.ald (1) rfl rfl (rfl) (by omega) ?_
    rw [show (am_s1 σ 69 (upd (σ 69) 0 0)) 73 1 = nI (tS t) from ht.2.1]
    refine GS.iret rfl rfl (rfl) ?_
    exact ⟨rfl, rfl⟩
  · refine GS.tabIn (t := 95) rfl (by decide) (by decide) (rfl) ?_
    refine GS.run [] 2 rfl ?_
    have loop97 : ∀ (fu : Nat) (j : Nat) (hj : j ≤ tN t), tN t - j = fu → GS none mX12_count (d) (am_det (some (.int (qCount r t s p 3))) (am_s1 σ 69 (upd (σ 69) 0 0))) 97 [.ref 69, .int 3, .int (nI (wlF t j)), .int (nI j)] [] (am_s1 σ 69 (upd (σ 69) 0 0)) := by
      intro fu
      induction fu using Nat.strongRecOn with
      | ind fu ih97 =>
        intro j hj hfu
        refine GS.run [] 4 rfl ?_
        refine GS.ald (0) rfl rfl (rfl) (by omega) ?_
        rw [m_n ht0]
        refine GS.icmp_ge rfl (fun c104 => ?_) (fun c104 => ?_)
        · have e : tN t = j := by have := (nI_leI (by omega) (by omega)).mp c104; omega
          subst e
          refine GS.run [] 1 rfl ?_
          refine GS.iret rfl rfl (rfl) ?_
          exact ⟨rfl, rfl⟩
        · have hlt : j < tN t := (nI_gtI (by omega) (by omega)).mp c104
          refine GS.run [] 6 rfl ?_
          refine GS.ald (26 + j) rfl rfl (he_26) (by omega) ?_
          rw [m_wl ht0 hlt]
          refine GS.run [] 4 rfl ?_
          rw [show nI (wlF t j) + nI (tW t j) = nI (wlF t (j + 1)) by
            have h1 := (hw.2.2 j hlt).2.2.1
            rw [wlF, nI_add]
            by_cases h : tW t j = 1
            · rw [if_pos h, h]
            · rw [if_neg h, show tW t j = 0 by omega]; rfl, nI_1]
          exact ih97 _ (by omega) (j + 1) (by omega) rfl
    exact loop97 _ 0 (Nat.zero_le _) rfl
  · refine GS.tabIn (t := 127) rfl (by decide) (by decide) (rfl) ?_
    refine GS.run [] 3 rfl ?_
    refine GS.ald (0) rfl rfl (rfl) (by omega) ?_
    rw [m_len hy0]
    refine GS.iret rfl rfl (rfl) ?_
    exact ⟨rfl, rfl⟩
  · refine GS.tabIn (t := 134) rfl (by decide) (by decide) (rfl) ?_
    refine GS.run [] 2 rfl ?_
    refine GS.iret rfl rfl (rfl) ?_
    exact ⟨congrArg (fun z => some (Value.int z)) hp, rfl⟩
  · refine GS.tabOut rfl (hc) ?_
    refine GS.run [] 1 rfl ?_
    refine GS.iret rfl rfl (rfl) ?_
    refine ⟨congrArg (fun z => some (Value.int z)) ?_, rfl⟩
    have h : ∀ m : Int32, 0 ≤ m.toInt → m.toInt ≤ 5 → ¬ c = m := fun m h1 h2 e => by rw [e] at hc; omega
    unfold qCount
    rw [if_neg (h 0 (by decide) (by decide)), if_neg (h 1 (by decide) (by decide)), if_neg (h 2 (by decide) (by decide)), if_neg (h 3 (by decide) (by decide)), if_neg (h 4 (by decide) (by decide)), if_neg (h 5 (by decide) (by decide))]
def wA (w : Nat) : Nat := if 20 ≤ w then 2 else w
theorem fit_r {m : Int32} (h : 0 ≤ m.toInt ∧ m.toInt ≤ 5 ∨ ¬ (0 ≤ m.toInt ∧ m.toInt ≤ 5)) : True := trivial
theorem c_mwordAt (d : Nat) (σ : am_S) (s : Sy) (k : Nat) (hy : sayM 75 0 σ s) (hys : wfS s) (hk : k < s.1) : CallS mX12_wordAt (d) [.ref 69, .int (nI k)] σ (am_det (some (.int (nI (wA (s.2 k))))) σ) := by
  refine CallS.of kX12_wordAt pX12_wordAt [.ref 69, .int (nI k)] rfl (Nat.le_of_ble_eq_true rfl) ?_
  have h12 := hys.1
  have h29 := isW_29 (hys.2 k hk)
  refine GS.run [] 5 rfl ?_
  refine GS.ald (1 + k) rfl rfl (he_1) (by omega) ?_
  rw [m_word hy hk]
  refine GS.run [] 1 rfl ?_
  refine GS.icmp_lt rfl (fun c10 => ?_) (fun c10 => ?_)
  · have h : ¬ 20 ≤ s.2 k := by have := (nI_ltI (b := 20) (by omega) (by omega)).mp c10; omega
    refine GS.run [] 5 rfl ?_
    refine GS.ald (1 + k) rfl rfl (he_1) (by omega) ?_
    rw [m_word hy hk]
    refine GS.iret rfl rfl (rfl) ?_
    exact ⟨by unfold wA; first | rw [if_pos h] ; rfl | rw [if_neg h], rfl⟩
  · have h : 20 ≤ s.2 k := (nI_leI (a := 20) (by omega) (by omega)).mp (Int32.not_lt.mp c10)
    refine GS.run [] 2 rfl ?_
    refine GS.iret rfl rfl (rfl) ?_
    exact ⟨by unfold wA; first | rw [if_pos h] ; rfl | rw [if_neg h], rfl⟩
theorem c_kindOf (d : Nat) (σ : am_S) (s : Sy) (k : Nat) (hy : sayM 75 0 σ s) (hys : wfS s) (hk : k < s.1) : CallS mX12_kindOf (d + 1) [.ref 69, .int (nI k)] σ (am_det (some (.int (nI (kdF (s.2 k))))) σ) := by
  refine CallS.of kX12_kindOf pX12_kindOf [.ref 69, .int (nI k), .retAddr 0] rfl (Nat.le_of_ble_eq_true rfl) ?_
  refine GS.run [] 2 rfl ?_
  refine GS.cV oX12_wordAt (c_mwordAt d σ s k hy hys hk) rfl rfl rfl rfl rfl rfl rfl (Nat.le_of_ble_eq_true rfl) (by omega) ?_
  have hv := hys.2 k hk
  generalize s.2 k = v at hv ⊢
  have hv2 : v = 0 ∨ v = 1 ∨ v = 3 ∨ v = 4 ∨ v = 5 ∨ v = 6 ∨ v = 7 ∨ (wA v = 2 ∧ kdF v = 2) := by
    unfold isW at hv
    rcases hv with hv | hv
    · omega
    · right; right; right; right; right; right; right
      unfold wA kdF
      rw [if_pos hv.1, if_neg (by omega), if_pos hv.1]
      exact ⟨rfl, rfl⟩
  rcases hv2 with rfl | rfl | rfl | rfl | rfl | rfl | rfl | ⟨q1, q2⟩
  · refine GS.run [] 3 rfl ?_
    refine GS.icmp_ne rfl (fun c8 => ?_) (fun c8 => ?_)
    · refine GS.run [] 2 rfl ?_
      refine GS.icmp_ge rfl (fun c17 => ?_) (fun c17 => ?_)
      · refine GS.run [] 2 rfl ?_
        refine GS.icmp_ge rfl (fun c26 => ?_) (fun c26 => ?_)
        · refine GS.run [] 2 rfl ?_
          refine GS.icmp_ge rfl (fun c36 => ?_) (fun c36 => ?_)
          · refine GS.run [] 1 rfl ?_
            refine GS.iret rfl rfl (rfl) ?_
            first
              | exact ⟨rfl, rfl⟩
              | exact absurd c8 (by decide)
              | exact absurd rfl c8
              | exact absurd c17 (by decide)
              | exact absurd c26 (by decide)
              | exact absurd c36 (by decide)
          · refine GS.run [] 2 rfl ?_
            refine GS.iret rfl rfl (rfl) ?_
            first
              | exact ⟨rfl, rfl⟩
              | exact absurd c8 (by decide)
              | exact absurd rfl c8
              | exact absurd c17 (by decide)
              | exact absurd c26 (by decide)
              | exact absurd c36 (by decide)
        · refine GS.run [] 2 rfl ?_
          refine GS.iret rfl rfl (rfl) ?_
          first
            | exact ⟨rfl, rfl⟩
            | exact absurd c8 (by decide)
            | exact absurd rfl c8
            | exact absurd c17 (by decide)
            | exact absurd c26 (by decide)
            | exact absurd c36 (by decide)
      · refine GS.run [] 2 rfl ?_
        refine GS.iret rfl rfl (rfl) ?_
        first
          | exact ⟨rfl, rfl⟩
          | exact absurd c8 (by decide)
          | exact absurd rfl c8
          | exact absurd c17 (by decide)
          | exact absurd c26 (by decide)
          | exact absurd c36 (by decide)
    · refine GS.run [] 2 rfl ?_
      refine GS.iret rfl rfl (rfl) ?_
      first
        | exact ⟨rfl, rfl⟩
        | exact absurd c8 (by decide)
        | exact absurd rfl c8
        | exact absurd c17 (by decide)
        | exact absurd c26 (by decide)
        | exact absurd c36 (by decide)
  · refine GS.run [] 3 rfl ?_
    refine GS.icmp_ne rfl (fun c8 => ?_) (fun c8 => ?_)
    · refine GS.run [] 2 rfl ?_
      refine GS.icmp_ge rfl (fun c17 => ?_) (fun c17 => ?_)
      · refine GS.run [] 2 rfl ?_
        refine GS.icmp_ge rfl (fun c26 => ?_) (fun c26 => ?_)
        · refine GS.run [] 2 rfl ?_
          refine GS.icmp_ge rfl (fun c36 => ?_) (fun c36 => ?_)
          · refine GS.run [] 1 rfl ?_
            refine GS.iret rfl rfl (rfl) ?_
            first
              | exact ⟨rfl, rfl⟩
              | exact absurd c8 (by decide)
              | exact absurd rfl c8
              | exact absurd c17 (by decide)
              | exact absurd c26 (by decide)
              | exact absurd c36 (by decide)
          · refine GS.run [] 2 rfl ?_
            refine GS.iret rfl rfl (rfl) ?_
            first
              | exact ⟨rfl, rfl⟩
              | exact absurd c8 (by decide)
              | exact absurd rfl c8
              | exact absurd c17 (by decide)
              | exact absurd c26 (by decide)
              | exact absurd c36 (by decide)
        · refine GS.run [] 2 rfl ?_
          refine GS.iret rfl rfl (rfl) ?_
          first
            | exact ⟨rfl, rfl⟩
            | exact absurd c8 (by decide)
            | exact absurd rfl c8
            | exact absurd c17 (by decide)
            | exact absurd c26 (by decide)
            | exact absurd c36 (by decide)
      · refine GS.run [] 2 rfl ?_
        refine GS.iret rfl rfl (rfl) ?_
        first
          | exact ⟨rfl, rfl⟩
          | exact absurd c8 (by decide)
          | exact absurd rfl c8
          | exact absurd c17 (by decide)
          | exact absurd c26 (by decide)
          | exact absurd c36 (by decide)
    · refine GS.run [] 2 rfl ?_
      refine GS.iret rfl rfl (rfl) ?_
      first
        | exact ⟨rfl, rfl⟩
        | exact absurd c8 (by decide)
        | exact absurd rfl c8
        | exact absurd c17 (by decide)
        | exact absurd c26 (by decide)
        | exact absurd c36 (by decide)
  · refine GS.run [] 3 rfl ?_
    refine GS.icmp_ne rfl (fun c8 => ?_) (fun c8 => ?_)
    · refine GS.run [] 2 rfl ?_
      refine GS.icmp_ge rfl (fun c17 => ?_) (fun c17 => ?_)
      · refine GS.run [] 2 rfl ?_
        refine GS.icmp_ge rfl (fun c26 => ?_) (fun c26 => ?_)
        · refine GS.run [] 2 rfl ?_
          refine GS.icmp_ge rfl (fun c36 => ?_) (fun c36 => ?_)
          · refine GS.run [] 1 rfl ?_
            refine GS.iret rfl rfl (rfl) ?_
            first
              | exact ⟨rfl, rfl⟩
              | exact absurd c8 (by decide)
              | exact absurd rfl c8
              | exact absurd c17 (by decide)
              | exact absurd c26 (by decide)
              | exact absurd c36 (by decide)
          · refine GS.run [] 2 rfl ?_
            refine GS.iret rfl rfl (rfl) ?_
            first
              | exact ⟨rfl, rfl⟩
              | exact absurd c8 (by decide)
              | exact absurd rfl c8
              | exact absurd c17 (by decide)
              | exact absurd c26 (by decide)
              | exact absurd c36 (by decide)
        · refine GS.run [] 2 rfl ?_
          refine GS.iret rfl rfl (rfl) ?_
          first
            | exact ⟨rfl, rfl⟩
            | exact absurd c8 (by decide)
            | exact absurd rfl c8
            | exact absurd c17 (by decide)
            | exact absurd c26 (by decide)
            | exact absurd c36 (by decide)
      · refine GS.run [] 2 rfl ?_
        refine GS.iret rfl rfl (rfl) ?_
        first
          | exact ⟨rfl, rfl⟩
          | exact absurd c8 (by decide)
          | exact absurd rfl c8
          | exact absurd c17 (by decide)
          | exact absurd c26 (by decide)
          | exact absurd c36 (by decide)
    · refine GS.run [] 2 rfl ?_
      refine GS.iret rfl rfl (rfl) ?_
      first
        | exact ⟨rfl, rfl⟩
        | exact absurd c8 (by decide)
        | exact absurd rfl c8
        | exact absurd c17 (by decide)
        | exact absurd c26 (by decide)
        | exact absurd c36 (by decide)
  · refine GS.run [] 3 rfl ?_
    refine GS.icmp_ne rfl (fun c8 => ?_) (fun c8 => ?_)
    · refine GS.run [] 2 rfl ?_
      refine GS.icmp_ge rfl (fun c17 => ?_) (fun c17 => ?_)
      · refine GS.run [] 2 rfl ?_
        refine GS.icmp_ge rfl (fun c26 => ?_) (fun c26 => ?_)
        · refine GS.run [] 2 rfl ?_
          refine GS.icmp_ge rfl (fun c36 => ?_) (fun c36 => ?_)
          · refine GS.run [] 1 rfl ?_
            refine GS.iret rfl rfl (rfl) ?_
            first
              | exact ⟨rfl, rfl⟩
              | exact absurd c8 (by decide)
              | exact absurd rfl c8
              | exact absurd c17 (by decide)
              | exact absurd c26 (by decide)
              | exact absurd c36 (by decide)
          · refine GS.run [] 2 rfl ?_
            refine GS.iret rfl rfl (rfl) ?_
            first
              | exact ⟨rfl, rfl⟩
              | exact absurd c8 (by decide)
              | exact absurd rfl c8
              | exact absurd c17 (by decide)
              | exact absurd c26 (by decide)
              | exact absurd c36 (by decide)
        · refine GS.run [] 2 rfl ?_
          refine GS.iret rfl rfl (rfl) ?_
          first
            | exact ⟨rfl, rfl⟩
            | exact absurd c8 (by decide)
            | exact absurd rfl c8
            | exact absurd c17 (by decide)
            | exact absurd c26 (by decide)
            | exact absurd c36 (by decide)
      · refine GS.run [] 2 rfl ?_
        refine GS.iret rfl rfl (rfl) ?_
        first
          | exact ⟨rfl, rfl⟩
          | exact absurd c8 (by decide)
          | exact absurd rfl c8
          | exact absurd c17 (by decide)
          | exact absurd c26 (by decide)
          | exact absurd c36 (by decide)
    · refine GS.run [] 2 rfl ?_
      refine GS.iret rfl rfl (rfl) ?_
      first
        | exact ⟨rfl, rfl⟩
        | exact absurd c8 (by decide)
        | exact absurd rfl c8
        | exact absurd c17 (by decide)
        | exact absurd c26 (by decide)
        | exact absurd c36 (by decide)
  · refine GS.run [] 3 rfl ?_
    refine GS.icmp_ne rfl (fun c8 => ?_) (fun c8 => ?_)
    · refine GS.run [] 2 rfl ?_
      refine GS.icmp_ge rfl (fun c17 => ?_) (fun c17 => ?_)
      · refine GS.run [] 2 rfl ?_
        refine GS.icmp_ge rfl (fun c26 => ?_) (fun c26 => ?_)
        · refine GS.run [] 2 rfl ?_
          refine GS.icmp_ge rfl (fun c36 => ?_) (fun c36 => ?_)
          · refine GS.run [] 1 rfl ?_
            refine GS.iret rfl rfl (rfl) ?_
            first
              | exact ⟨rfl, rfl⟩
              | exact absurd c8 (by decide)
              | exact absurd rfl c8
              | exact absurd c17 (by decide)
              | exact absurd c26 (by decide)
              | exact absurd c36 (by decide)
          · refine GS.run [] 2 rfl ?_
            refine GS.iret rfl rfl (rfl) ?_
            first
              | exact ⟨rfl, rfl⟩
              | exact absurd c8 (by decide)
              | exact absurd rfl c8
              | exact absurd c17 (by decide)
              | exact absurd c26 (by decide)
              | exact absurd c36 (by decide)
        · refine GS.run [] 2 rfl ?_
          refine GS.iret rfl rfl (rfl) ?_
          first
            | exact ⟨rfl, rfl⟩
            | exact absurd c8 (by decide)
            | exact absurd rfl c8
            | exact absurd c17 (by decide)
            | exact absurd c26 (by decide)
            | exact absurd c36 (by decide)
      · refine GS.run [] 2 rfl ?_
        refine GS.iret rfl rfl (rfl) ?_
        first
          | exact ⟨rfl, rfl⟩
          | exact absurd c8 (by decide)
          | exact absurd rfl c8
          | exact absurd c17 (by decide)
          | exact absurd c26 (by decide)
          | exact absurd c36 (by decide)
    · refine GS.run [] 2 rfl ?_
      refine GS.iret rfl rfl (rfl) ?_
      first
        | exact ⟨rfl, rfl⟩
        | exact absurd c8 (by decide)
        | exact absurd rfl c8
        | exact absurd c17 (by decide)
        | exact absurd c26 (by decide)
        | exact absurd c36 (by decide)
  · refine GS.run [] 3 rfl ?_
    refine GS.icmp_ne rfl (fun c8 => ?_) (fun c8 => ?_)
    · refine GS.run [] 2 rfl ?_
      refine GS.icmp_ge rfl (fun c17 => ?_) (fun c17 => ?_)
      · refine GS.run [] 2 rfl ?_
        refine GS.icmp_ge rfl (fun c26 => ?_) (fun c26 => ?_)
        · refine GS.run [] 2 rfl ?_
          refine GS.icmp_ge rfl (fun c36 => ?_) (fun c36 => ?_)
          · refine GS.run [] 1 rfl ?_
            refine GS.iret rfl rfl (rfl) ?_
            first
              | exact ⟨rfl, rfl⟩
              | exact absurd c8 (by decide)
              | exact absurd rfl c8
              | exact absurd c17 (by decide)
              | exact absurd c26 (by decide)
              | exact absurd c36 (by decide)
          · refine GS.run [] 2 rfl ?_
            refine GS.iret rfl rfl (rfl) ?_
            first
              | exact ⟨rfl, rfl⟩
              | exact absurd c8 (by decide)
              | exact absurd rfl c8
              | exact absurd c17 (by decide)
              | exact absurd c26 (by decide)
              | exact absurd c36 (by decide)
        · refine GS.run [] 2 rfl ?_
          refine GS.iret rfl rfl (rfl) ?_
          first
            | exact ⟨rfl, rfl⟩
            | exact absurd c8 (by decide)
            | exact absurd rfl c8
            | exact absurd c17 (by decide)
            | exact absurd c26 (by decide)
            | exact absurd c36 (by decide)
      · refine GS.run [] 2 rfl ?_
        refine GS.iret rfl rfl (rfl) ?_
        first
          | exact ⟨rfl, rfl⟩
          | exact absurd c8 (by decide)
          | exact absurd rfl c8
          | exact absurd c17 (by decide)
          | exact absurd c26 (by decide)
          | exact absurd c36 (by decide)
    · refine GS.run [] 2 rfl ?_
      refine GS.iret rfl rfl (rfl) ?_
      first
        | exact ⟨rfl, rfl⟩
        | exact absurd c8 (by decide)
        | exact absurd rfl c8
        | exact absurd c17 (by decide)
        | exact absurd c26 (by decide)
        | exact absurd c36 (by decide)
  · refine GS.run [] 3 rfl ?_
    refine GS.icmp_ne rfl (fun c8 => ?_) (fun c8 => ?_)
    · refine GS.run [] 2 rfl ?_
      refine GS.icmp_ge rfl (fun c17 => ?_) (fun c17 => ?_)
      · refine GS.run [] 2 rfl ?_
        refine GS.icmp_ge rfl (fun c26 => ?_) (fun c26 => ?_)
        · refine GS.run [] 2 rfl ?_
          refine GS.icmp_ge rfl (fun c36 => ?_) (fun c36 => ?_)
          · refine GS.run [] 1 rfl ?_
            refine GS.iret rfl rfl (rfl) ?_
            first
              | exact ⟨rfl, rfl⟩
              | exact absurd c8 (by decide)
              | exact absurd rfl c8
              | exact absurd c17 (by decide)
              | exact absurd c26 (by decide)
              | exact absurd c36 (by decide)
          · refine GS.run [] 2 rfl ?_
            refine GS.iret rfl rfl (rfl) ?_
            first
              | exact ⟨rfl, rfl⟩
              | exact absurd c8 (by decide)
              | exact absurd rfl c8
              | exact absurd c17 (by decide)
              | exact absurd c26 (by decide)
              | exact absurd c36 (by decide)
        · refine GS.run [] 2 rfl ?_
          refine GS.iret rfl rfl (rfl) ?_
          first
            | exact ⟨rfl, rfl⟩
            | exact absurd c8 (by decide)
            | exact absurd rfl c8
            | exact absurd c17 (by decide)
            | exact absurd c26 (by decide)
            | exact absurd c36 (by decide)
      · refine GS.run [] 2 rfl ?_
        refine GS.iret rfl rfl (rfl) ?_
        first
          | exact ⟨rfl, rfl⟩
          | exact absurd c8 (by decide)
          | exact absurd rfl c8
          | exact absurd c17 (by decide)
          | exact absurd c26 (by decide)
          | exact absurd c36 (by decide)
    · refine GS.run [] 2 rfl ?_
      refine GS.iret rfl rfl (rfl) ?_
      first
        | exact ⟨rfl, rfl⟩
        | exact absurd c8 (by decide)
        | exact absurd rfl c8
        | exact absurd c17 (by decide)
        | exact absurd c26 (by decide)
        | exact absurd c36 (by decide)
  · rw [q1, q2]
    refine GS.run [] 3 rfl ?_
    refine GS.icmp_ne rfl (fun c8 => ?_) (fun c8 => ?_)
    · refine GS.run [] 2 rfl ?_
      refine GS.icmp_ge rfl (fun c17 => ?_) (fun c17 => ?_)
      · refine GS.run [] 2 rfl ?_
        refine GS.icmp_ge rfl (fun c26 => ?_) (fun c26 => ?_)
        · refine GS.run [] 2 rfl ?_
          refine GS.icmp_ge rfl (fun c36 => ?_) (fun c36 => ?_)
          · refine GS.run [] 1 rfl ?_
            refine GS.iret rfl rfl (rfl) ?_
            first
              | exact ⟨rfl, rfl⟩
              | exact absurd c8 (by decide)
              | exact absurd rfl c8
              | exact absurd c17 (by decide)
              | exact absurd c26 (by decide)
              | exact absurd c36 (by decide)
          · refine GS.run [] 2 rfl ?_
            refine GS.iret rfl rfl (rfl) ?_
            first
              | exact ⟨rfl, rfl⟩
              | exact absurd c8 (by decide)
              | exact absurd rfl c8
              | exact absurd c17 (by decide)
              | exact absurd c26 (by decide)
              | exact absurd c36 (by decide)
        · refine GS.run [] 2 rfl ?_
          refine GS.iret rfl rfl (rfl) ?_
          first
            | exact ⟨rfl, rfl⟩
            | exact absurd c8 (by decide)
            | exact absurd rfl c8
            | exact absurd c17 (by decide)
            | exact absurd c26 (by decide)
            | exact absurd c36 (by decide)
      · refine GS.run [] 2 rfl ?_
        refine GS.iret rfl rfl (rfl) ?_
        first
          | exact ⟨rfl, rfl⟩
          | exact absurd c8 (by decide)
          | exact absurd rfl c8
          | exact absurd c17 (by decide)
          | exact absurd c26 (by decide)
          | exact absurd c36 (by decide)
    · refine GS.run [] 2 rfl ?_
      refine GS.iret rfl rfl (rfl) ?_
      first
        | exact ⟨rfl, rfl⟩
        | exact absurd c8 (by decide)
        | exact absurd rfl c8
        | exact absurd c17 (by decide)
        | exact absurd c26 (by decide)
        | exact absurd c36 (by decide)
theorem c_isOf (d : Nat) (σ : am_S) (k v : Nat) (hk : k < 1000) (hv : v < 1000) : CallS mX12_isOf (d) [.int (nI k), .int (nI v)] σ (am_det (some (.int (am_b (isO k v)))) σ) := by
  refine CallS.of kX12_isOf pX12_isOf [.int (nI k), .int (nI v)] rfl (Nat.le_of_ble_eq_true rfl) ?_
  refine GS.run [] 1 rfl ?_
  refine GS.if_eq rfl (fun c1 => ?_) (fun c1 => ?_)
  · refine GS.run [] 2 rfl ?_
    refine GS.iret rfl rfl (rfl) ?_
    refine ⟨congrArg (fun z => some (Value.int z)) ?_, rfl⟩
    have e1 : ∀ a b : Nat, a < 1000 → b < 1000 → (nI a = nI b ↔ a = b) := fun a b h1 h2 => nI_eq (by omega) (by omega)
    simp only [e1 k v hk hv, show (nI v = (0 : Int32) ↔ v = 0) from e1 v 0 (by omega) (by omega), show (nI v = (3 : Int32) ↔ v = 3) from e1 v 3 (by omega) (by omega), show (nI k = (4 : Int32) ↔ k = 4) from e1 _ 4 (by omega) (by omega)] at *
    unfold am_b
    first
      | rw [if_pos (by omega)]
      | rw [if_neg (by omega)]
  · refine GS.run [] 2 rfl ?_
    refine GS.icmp_eq rfl (fun c6 => ?_) (fun c6 => ?_)
    · refine GS.run [] 2 rfl ?_
      refine GS.iret rfl rfl (rfl) ?_
      refine ⟨congrArg (fun z => some (Value.int z)) ?_, rfl⟩
      have e1 : ∀ a b : Nat, a < 1000 → b < 1000 → (nI a = nI b ↔ a = b) := fun a b h1 h2 => nI_eq (by omega) (by omega)
      simp only [e1 k v hk hv, show (nI v = (0 : Int32) ↔ v = 0) from e1 v 0 (by omega) (by omega), show (nI v = (3 : Int32) ↔ v = 3) from e1 v 3 (by omega) (by omega), show (nI k = (4 : Int32) ↔ k = 4) from e1 _ 4 (by omega) (by omega)] at *
      unfold am_b
      first
        | rw [if_pos (by omega)]
        | rw [if_neg (by omega)]
    · refine GS.run [] 2 rfl ?_
      refine GS.icmp_ne rfl (fun c11 => ?_) (fun c11 => ?_)
      · refine GS.run [] 1 rfl ?_
        refine GS.iret rfl rfl (rfl) ?_
        refine ⟨congrArg (fun z => some (Value.int z)) ?_, rfl⟩
        have e1 : ∀ a b : Nat, a < 1000 → b < 1000 → (nI a = nI b ↔ a = b) := fun a b h1 h2 => nI_eq (by omega) (by omega)
        simp only [e1 k v hk hv, show (nI v = (0 : Int32) ↔ v = 0) from e1 v 0 (by omega) (by omega), show (nI v = (3 : Int32) ↔ v = 3) from e1 v 3 (by omega) (by omega), show (nI k = (4 : Int32) ↔ k = 4) from e1 _ 4 (by omega) (by omega)] at *
        unfold am_b
        first
          | rw [if_pos (by omega)]
          | rw [if_neg (by omega)]
      · refine GS.run [] 2 rfl ?_
        refine GS.icmp_ne rfl (fun c16 => ?_) (fun c16 => ?_)
        · refine GS.run [] 1 rfl ?_
          refine GS.iret rfl rfl (rfl) ?_
          refine ⟨congrArg (fun z => some (Value.int z)) ?_, rfl⟩
          have e1 : ∀ a b : Nat, a < 1000 → b < 1000 → (nI a = nI b ↔ a = b) := fun a b h1 h2 => nI_eq (by omega) (by omega)
          simp only [e1 k v hk hv, show (nI v = (0 : Int32) ↔ v = 0) from e1 v 0 (by omega) (by omega), show (nI v = (3 : Int32) ↔ v = 3) from e1 v 3 (by omega) (by omega), show (nI k = (4 : Int32) ↔ k = 4) from e1 _ 4 (by omega) (by omega)] at *
          unfold am_b
          first
            | rw [if_pos (by omega)]
            | rw [if_neg (by omega)]
        · refine GS.run [] 2 rfl ?_
          refine GS.iret rfl rfl (rfl) ?_
          refine ⟨congrArg (fun z => some (Value.int z)) ?_, rfl⟩
          have e1 : ∀ a b : Nat, a < 1000 → b < 1000 → (nI a = nI b ↔ a = b) := fun a b h1 h2 => nI_eq (by omega) (by omega)
          simp only [e1 k v hk hv, show (nI v = (0 : Int32) ↔ v = 0) from e1 v 0 (by omega) (by omega), show (nI v = (3 : Int32) ↔ v = 3) from e1 v 3 (by omega) (by omega), show (nI k = (4 : Int32) ↔ k = 4) from e1 _ 4 (by omega) (by omega)] at *
          unfold am_b
          first
            | rw [if_pos (by omega)]
            | rw [if_neg (by omega)]
theorem p_kind_m (d : Nat) (σ : am_S) (s : Sy) (k : Int32) (hy : sayM 75 0 σ s) (hys : wfS s) : CallS mX12_kind (d + 3) [.ref 69, .int k] σ (am_det (some (.int (qKind s k))) (am_s1 σ 69 (upd (σ 69) 0 0))) := by
  refine CallS.of kX12_kind pX12_kind [.ref 69, .int k] rfl (Nat.le_of_ble_eq_true rfl) ?_
  refine GS.run [] 5 rfl ?_
  refine GS.cV oX12_isWord (c_isWord (d + 1) (am_s1 σ 69 (upd (σ 69) 0 0)) s k hy hys) rfl rfl rfl rfl rfl rfl rfl (Nat.le_of_ble_eq_true rfl) (by omega) ?_
  refine GS.if_eq rfl (fun c10 => ?_) (fun c10 => ?_)
  · have g1 : ¬ okw s k := am_b0.mp c10
    refine GS.run [] 1 rfl ?_
    refine GS.iret rfl rfl (rfl) ?_
    first
      | exact ⟨by unfold qKind; rw [if_neg g1], rfl⟩
      | exact ⟨by unfold qKind; rw [if_pos g1, ec], rfl⟩
  · have g1 : okw s k := am_bT c10
    have h12 := hys.1
    obtain ⟨a, ha, rfl⟩ := okn_nat (n := s.1) g1
    have ec : cn (nI a) = a := cn_nI (by omega)
    refine GS.run [] 2 rfl ?_
    refine GS.cV oX12_kindOf (c_kindOf (d + 1) (am_s1 σ 69 (upd (σ 69) 0 0)) s a hy hys ha) rfl rfl rfl rfl rfl rfl rfl (Nat.le_of_ble_eq_true rfl) (by omega) ?_
    refine GS.run [] 1 rfl ?_
    refine GS.iret rfl rfl (rfl) ?_
    first
      | exact ⟨by unfold qKind; rw [if_neg g1], rfl⟩
      | exact ⟨by unfold qKind; rw [if_pos g1, ec], rfl⟩
theorem p_as_m (d : Nat) (σ : am_S) (s : Sy) (k : Int32) (v : Int32) (f : Int32) (hy : sayM 75 0 σ s) (hys : wfS s) (hf : σ 69 1 = f) : CallS mX12_as (d + 3) [.ref 69, .int k, .int v] σ (fun x σ' => x = some (.int (qAs s f k v).1) ∧ σ' 69 1 = (qAs s f k v).2 ∧ sameM [] [0, 1] σ σ') := by
  refine CallS.of kX12_as pX12_as [.ref 69, .int k, .int v] rfl (Nat.le_of_ble_eq_true rfl) ?_
  refine GS.run [] 5 rfl ?_
  refine GS.cV oX12_isWord (c_isWord (d + 1) (am_s1 σ 69 (upd (σ 69) 0 0)) s k hy hys) rfl rfl rfl rfl rfl rfl rfl (Nat.le_of_ble_eq_true rfl) (by omega) ?_
  refine GS.if_eq rfl (fun c10 => ?_) (fun c10 => ?_)
  · have hbad : ¬ (okw s k ∧ okn v 6) := fun h => am_b0.mp c10 h.1
    refine GS.run [] 1 rfl ?_
    refine GS.iret rfl rfl (rfl) ?_
    exact ⟨by unfold qAs; rw [if_neg hbad], by unfold qAs; rw [if_neg hbad]; exact hf, sameM.rf.fld (by decide)⟩
  · have g1 : okw s k := am_bT c10
    refine GS.run [] 4 rfl ?_
    refine GS.cS oX12_in (c_inI (d + 2) (am_s1 σ 69 (upd (σ 69) 0 0)) v 0 5 (okn v 6) (by rw [show (0 : Int64).toInt = 0 from rfl, show (5 : Int64).toInt = 5 from rfl]; omega)) rfl rfl rfl rfl (Nat.le_of_ble_eq_true rfl) (by omega) ?_
    refine GS.if_ne rfl (fun c22 => ?_) (fun c22 => ?_)
    · have g2 : okn v 6 := am_bT c22
      have h12 := hys.1
      obtain ⟨a, ha, rfl⟩ := okn_nat (n := s.1) g1
      have ec : cn (nI a) = a := cn_nI (by omega)
      obtain ⟨b, hb, rfl⟩ := okn_nat g2
      have eb : cn (nI b) = b := cn_nI (by omega)
      have hy1 : sayM 75 0 (am_s1 (am_s1 σ 69 (upd (σ 69) 0 0)) 69 (upd ((am_s1 σ 69 (upd (σ 69) 0 0)) 69) 1 0)) s := hy
      refine GS.run [] 5 rfl ?_
      refine GS.cV oX12_kindOf (c_kindOf (d + 1) (am_s1 (am_s1 σ 69 (upd (σ 69) 0 0)) 69 (upd ((am_s1 σ 69 (upd (σ 69) 0 0)) 69) 1 0)) s a hy1 hys ha) rfl rfl rfl rfl rfl rfl rfl (Nat.le_of_ble_eq_true rfl) (by omega) ?_
      refine GS.run [] 1 rfl ?_
      refine GS.cS oX12_isOf (c_isOf (d + 2) (am_s1 (am_s1 σ 69 (upd (σ 69) 0 0)) 69 (upd ((am_s1 σ 69 (upd (σ 69) 0 0)) 69) 1 0)) (kdF (s.2 a)) b (by have := kdF_b (v := s.2 a); omega) (by omega)) rfl rfl rfl rfl (Nat.le_of_ble_eq_true rfl) (by omega) ?_
      refine GS.if_eq rfl (fun c42 => ?_) (fun c42 => ?_)
      · have g3 : ¬ isO (kdF (s.2 a)) b := am_b0.mp c42
        refine GS.run [] 2 rfl ?_
        refine GS.cV oX12_finding (c_finding (d + 2) (am_s1 (am_s1 σ 69 (upd (σ 69) 0 0)) 69 (upd ((am_s1 σ 69 (upd (σ 69) 0 0)) 69) 1 0)) 3) rfl rfl rfl rfl rfl rfl rfl (Nat.le_of_ble_eq_true rfl) (by omega) ?_
        refine GS.iret rfl rfl (rfl) ?_
        first
          | (have hq : qAs s f (nI a) (nI b) = (nI (s.2 a), 0) := by unfold qAs; rw [if_pos ⟨g1, g2⟩, ec, eb, if_pos g3]
             rw [hq]; exact ⟨rfl, rfl, (sameM.rf.fld (by decide)).fld (by decide)⟩)
          | (have hq : qAs s f (nI a) (nI b) = (-1000013, 3) := by unfold qAs; rw [if_pos ⟨g1, g2⟩, ec, eb, if_neg g3]
             rw [hq]; exact ⟨rfl, rfl, ((sameM.rf.fld (by decide)).fld (by decide)).fld (by decide)⟩)
      · have g3 : isO (kdF (s.2 a)) b := am_bT c42
        refine GS.run [] 5 rfl ?_
        refine GS.ald (1 + a) rfl rfl (he_1) (by omega) ?_
        rw [m_word hy1 ha]
        refine GS.run [] 1 rfl ?_
        refine GS.iret rfl rfl (rfl) ?_
        first
          | (have hq : qAs s f (nI a) (nI b) = (nI (s.2 a), 0) := by unfold qAs; rw [if_pos ⟨g1, g2⟩, ec, eb, if_pos g3]
             rw [hq]; exact ⟨rfl, rfl, (sameM.rf.fld (by decide)).fld (by decide)⟩)
          | (have hq : qAs s f (nI a) (nI b) = (-1000013, 3) := by unfold qAs; rw [if_pos ⟨g1, g2⟩, ec, eb, if_neg g3]
             rw [hq]; exact ⟨rfl, rfl, ((sameM.rf.fld (by decide)).fld (by decide)).fld (by decide)⟩)
    · have hbad : ¬ (okw s k ∧ okn v 6) := fun h => am_b0.mp c22 h.2
      refine GS.run [] 1 rfl ?_
      refine GS.iret rfl rfl (rfl) ?_
      exact ⟨by unfold qAs; rw [if_neg hbad], by unfold qAs; rw [if_neg hbad]; exact hf, sameM.rf.fld (by decide)⟩
theorem he_corner {c i : Nat} (h : 10 ≤ i) : (50 : Int32) + 6 * nI c + nI i - 10 = nI (50 + 6 * c + (i - 10)) := by
  rw [il_50, il_6, pk_mul, nI_add, nI_add, show (10 : Int32) = nI 10 from rfl, pk_sub (by omega)]
  congr 1
  omega
theorem he_12 {c i : Nat} : (2 : Int32) + 12 * nI i + nI c = nI (2 + 12 * i + c) := by rw [il_2, show (12 : Int32) = nI 12 from rfl, pk_mul, nI_add, nI_add]
def tField (t : Tn) (i : Nat) : Nat → Nat := if i = 0 then tH t else if i = 1 then tM t else if i = 2 then tW t else tD t
theorem m_field {σ : am_S} {t : Tn} {c i : Nat} (h : townM 73 0 σ t) (hc : c < tN t) (hi : i < 4) : σ 73 (2 + 12 * i + c) = nI (tField t i c) := by
  obtain ⟨b1, b2, b3, b4, b5⟩ := h.2.2 c hc
  rw [Nat.zero_add] at b1 b2 b3 b4
  rcases (by omega : i = 0 ∨ i = 1 ∨ i = 2 ∨ i = 3) with rfl | rfl | rfl | rfl
  · exact b1
  · exact b2
  · exact b3
  · exact b4
theorem qCorner_f {t : Tn} {c : Int32} {i : Nat} (h : okc t c) (hi : i < 4) : qCorner t c (nI i) = nI (tField t i (cn c)) := by
  unfold qCorner tField
  rcases (by omega : i = 0 ∨ i = 1 ∨ i = 2 ∨ i = 3) with rfl | rfl | rfl | rfl
  · exact (if_pos h).trans (if_pos (show nI 0 = 0 from rfl))
  · exact (if_pos h).trans ((if_neg (show ¬ nI 1 = 0 by decide)).trans (if_pos (show nI 1 = 1 from rfl)))
  · exact (if_pos h).trans ((if_neg (show ¬ nI 2 = 0 by decide)).trans ((if_neg (show ¬ nI 2 = 1 by decide)).trans (if_pos (show nI 2 = 2 from rfl))))
  · exact (if_pos h).trans ((if_neg (show ¬ nI 3 = 0 by decide)).trans ((if_neg (show ¬ nI 3 = 1 by decide)).trans ((if_neg (show ¬ nI 3 = 2 by decide)).trans (if_pos (show nI 3 = 3 from rfl)))))
theorem qCorner_b {t : Tn} {c i : Int32} (h : okc t c) (hi : ¬ (0 ≤ i.toInt ∧ i.toInt < 4)) : qCorner t c i = if 10 ≤ i.toInt ∧ i.toInt < 16 then (if cn i - 10 < tD t (cn c) then nI (tB t (cn c) (cn i - 10)) else -1000000) else -1000001 := by
  have q : ∀ m : Int32, 0 ≤ m.toInt → m.toInt < 4 → ¬ i = m := fun m h1 h2 e => by rw [e] at hi; omega
  unfold qCorner
  rw [if_pos h, if_neg (q 0 (by decide) (by decide)), if_neg (q 1 (by decide) (by decide)), if_neg (q 2 (by decide) (by decide)), if_neg (q 3 (by decide) (by decide))]
theorem p_corner_m (d : Nat) (σ : am_S) (t : Tn) (c i : Int32) (ht : townM 73 0 σ t) (hw : wfT t) : CallS mX12_corner (d + 3) [.ref 69, .int c, .int i] σ (am_det (some (.int (qCorner t c i))) (am_s1 σ 69 (upd (σ 69) 0 0))) := by
  refine CallS.of kX12_corner pX12_corner [.ref 69, .int c, .int i] rfl (Nat.le_of_ble_eq_true rfl) ?_
  refine GS.run [] 5 rfl ?_
  refine GS.cV oX12_isCorner (c_isCorner (d + 1) (am_s1 σ 69 (upd (σ 69) 0 0)) t c ht hw) rfl rfl rfl rfl rfl rfl rfl (Nat.le_of_ble_eq_true rfl) (by omega) ?_
  refine GS.if_ne rfl (fun c10 => ?_) (fun c10 => ?_)
  · have g1 : okc t c := am_bT c10
    have h8 := hw.1
    obtain ⟨a, ha, rfl⟩ := okc_nat g1
    have ec : cn (nI a) = a := cn_nI (by omega)
    have ht0 : townM 73 0 (am_s1 σ 69 (upd (σ 69) 0 0)) t := ht
    have hd6 := (hw.2.2 a ha).2.2.2.1
    refine GS.run [] 4 rfl ?_
    refine GS.cS oX12_in (c_inI (d + 2) (am_s1 σ 69 (upd (σ 69) 0 0)) i 10 15 (10 ≤ i.toInt ∧ i.toInt < 16) (by rw [show (10 : Int64).toInt = 10 from rfl, show (15 : Int64).toInt = 15 from rfl]; omega)) rfl rfl rfl rfl (Nat.le_of_ble_eq_true rfl) (by omega) ?_
    refine GS.if_eq rfl (fun c27 => ?_) (fun c27 => ?_)
    · have g2 : ¬ (10 ≤ i.toInt ∧ i.toInt < 16) := am_b0.mp c27
      refine GS.run [] 4 rfl ?_
      refine GS.cS oX12_in (c_inI (d + 2) (am_s1 σ 69 (upd (σ 69) 0 0)) i 0 3 (0 ≤ i.toInt ∧ i.toInt < 4) (by rw [show (0 : Int64).toInt = 0 from rfl, show (3 : Int64).toInt = 3 from rfl]; omega)) rfl rfl rfl rfl (Nat.le_of_ble_eq_true rfl) (by omega) ?_
      refine GS.if_eq rfl (fun c78 => ?_) (fun c78 => ?_)
      · have g4 : ¬ (0 ≤ i.toInt ∧ i.toInt < 4) := am_b0.mp c78
        have hq := qCorner_b (i := i) g1 g4
        rw [if_neg g2] at hq
        refine GS.run [] 1 rfl ?_
        refine GS.iret rfl rfl (rfl) ?_
        exact ⟨by rw [hq], rfl⟩
      · have g4 := am_bT c78
        obtain ⟨b, hb, rfl⟩ := okn_nat (n := 4) g4
        have hq := qCorner_f g1 hb
        rw [ec] at hq
        refine GS.run [] 9 rfl ?_
        refine GS.ald (2 + 12 * b + a) rfl rfl (he_12) (by omega) ?_
        rw [m_field ht0 ha hb]
        refine GS.run [] 1 rfl ?_
        refine GS.iret rfl rfl (rfl) ?_
        exact ⟨by rw [hq], rfl⟩
    · have g2 := am_bT c27
      obtain ⟨b, hb, rfl⟩ := nat_of (i := i) (m := 15) (by omega) (by omega)
      have eb : cn (nI b) = b := cn_nI (by omega)
      have hb2 : 10 ≤ b := by have := g2.1; rw [nI_toInt (by omega)] at this; omega
      have hq := qCorner_b (i := nI b) g1 (by omega)
      rw [if_pos g2, ec, eb] at hq
      rw [hq]
      refine GS.run [] 8 rfl ?_
      refine GS.ald (38 + a) rfl rfl (he_38) (by omega) ?_
      rw [m_dg ht0 ha, show nI b - 10 = nI (b - 10) from pk_sub (a := b) (b := 10) hb2]
      refine GS.icmp_ge rfl (fun c43 => ?_) (fun c43 => ?_)
      · have g3 : ¬ b - 10 < tD t a := by have := (nI_leI (by omega) (by omega)).mp c43; omega
        refine GS.run [] 1 rfl ?_
        refine GS.iret rfl rfl (rfl) ?_
        first
          | exact ⟨by rw [if_neg g3], rfl⟩
          | exact ⟨by rw [if_pos g3], rfl⟩
      · have g3 : b - 10 < tD t a := (nI_gtI (by omega) (by omega)).mp c43
        refine GS.run [] 11 rfl ?_
        refine GS.ald (50 + 6 * a + (b - 10)) rfl rfl (he_corner hb2) (by omega) ?_
        rw [m_to ht0 ha g3]
        refine GS.run [] 1 rfl ?_
        refine GS.iret rfl rfl (rfl) ?_
        first
          | exact ⟨by rw [if_neg g3], rfl⟩
          | exact ⟨by rw [if_pos g3], rfl⟩
  · have g1 : ¬ okc t c := am_b0.mp c10
    refine GS.run [] 1 rfl ?_
    refine GS.iret rfl rfl (rfl) ?_
    exact ⟨by unfold qCorner; rw [if_neg g1], rfl⟩
