def bI (b : Bool) : Int32 := match b with
  | true => 1
  | false => 0
def kI (o : Option Nat) : Int32 := match o with
  | none => -1
  | some k => nI k
theorem bI_b {c : Prop} [Decidable c] : am_b c = bI (decide c) := by
  unfold am_b
  by_cases h : c
  · rw [if_pos h, decide_eq_true h]; rfl
  · rw [if_neg h, decide_eq_false h]; rfl
theorem nar_bI (b : Bool) : narrow .boolean (.int (bI b)) = .int (bI b) := by cases b <;> rfl
theorem fit_bI (b : Bool) : fits .boolean (.int (bI b)) = true := by cases b <;> rfl
theorem bI0 {b : Bool} : bI b = 0 ↔ b = false := by cases b <;> simp [bI]
theorem bI1 {b : Bool} : ¬ bI b = 0 ↔ b = true := by cases b <;> simp [bI]
theorem bI_eq {a b : Bool} : bI a = bI b ↔ a = b := by cases a <;> cases b <;> simp [bI]
theorem kI_lt {o : Option Nat} (h : ∀ k, o = some k → k < 2 ^ 31) : kI o < 0 ↔ o = none := by
  cases o with
  | none => simp [kI]
  | some k => simp [kI, nI_pos (h k rfl)]
theorem he_2 {c : Nat} : (2 : Int32) + nI c = nI (2 + c) := nI_add 2 c
theorem he_14 {c : Nat} : (14 : Int32) + nI c = nI (14 + c) := nI_add 14 c
theorem he_26 {c : Nat} : (26 : Int32) + nI c = nI (26 + c) := nI_add 26 c
theorem he_38 {c : Nat} : (38 : Int32) + nI c = nI (38 + c) := nI_add 38 c
theorem he_to {c i : Nat} : (50 : Int32) + 6 * nI c + nI i = nI (50 + 6 * c + i) := by rw [il_50, il_6, pk_mul, nI_add, nI_add]
section VM
variable {σ : am_S} {t : Tn} {c : Nat}
theorem m_n (h : townM 73 0 σ t) : σ 73 0 = nI (tN t) := h.1
theorem m_s (h : townM 73 0 σ t) : σ 73 1 = nI (tS t) := h.2.1
theorem m_ht (h : townM 73 0 σ t) (hc : c < tN t) : σ 73 (2 + c) = nI (tH t c) := by have := (h.2.2 c hc).1; rwa [Nat.zero_add] at this
theorem m_mk (h : townM 73 0 σ t) (hc : c < tN t) : σ 73 (14 + c) = nI (tM t c) := by have := (h.2.2 c hc).2.1; rwa [Nat.zero_add] at this
theorem m_wl (h : townM 73 0 σ t) (hc : c < tN t) : σ 73 (26 + c) = nI (tW t c) := by have := (h.2.2 c hc).2.2.1; rwa [Nat.zero_add] at this
theorem m_dg (h : townM 73 0 σ t) (hc : c < tN t) : σ 73 (38 + c) = nI (tD t c) := by have := (h.2.2 c hc).2.2.2.1; rwa [Nat.zero_add] at this
theorem m_to {i : Nat} (h : townM 73 0 σ t) (hc : c < tN t) (hi : i < tD t c) : σ 73 (50 + 6 * c + i) = nI (tB t c i) := by have := (h.2.2 c hc).2.2.2.2 i hi; rwa [Nat.zero_add] at this
end VM
theorem c_mslope (d : Nat) (σ : am_S) (t : Tn) (c : Nat) (up : Bool) (ht : townM 73 0 σ t) (hw : wfT t) (hc : c < tN t) : CallS mX12_slope (d) [.ref 69, .int (nI c), .int (bI up)] σ (am_det (some (.int (kI (slope t c up)))) σ) := by
  refine CallS.of kX12_slope pX12_slope [.ref 69, .int (nI c), .int (bI up), .retAddr 0, .retAddr 0, .retAddr 0, .retAddr 0, .retAddr 0] rfl (Nat.le_of_ble_eq_true rfl) ?_
  have h6 := (hw.2.2 c hc).2.2.2.1
  have h8 := hw.1
  refine GS.run [] 5 rfl ?_
  refine GS.ald (2 + c) rfl rfl (he_2) (by omega) ?_
  rw [m_ht ht (hc)]
  refine GS.run [] 5 rfl ?_
  have loop15 : ∀ (fu : Nat) (j : Nat) (hj : j ≤ tD t c), tD t c - j = fu → GS none mX12_slope (d) (am_det (some (.int (kI (slope t c up)))) σ) 15 [.ref 69, .int (nI c), .int (bI up), .int (nI (slF t c up j).1), .int (kI (slF t c up j).2), .int (nI j), .retAddr 0, .retAddr 0] [] σ := by
    intro fu
    induction fu using Nat.strongRecOn with
    | ind fu ih15 =>
      intro j hj hfu
      refine GS.run [] 6 rfl ?_
      refine GS.ald (38 + c) rfl rfl (he_38) (by omega) ?_
      rw [m_dg ht (hc)]
      refine GS.icmp_ge rfl (fun c26 => ?_) (fun c26 => ?_)
      · have e : tD t c = j := by have := (nI_leI (by omega) (by omega)).mp c26; omega
        refine GS.run [] 1 rfl ?_
        refine GS.iret rfl rfl (rfl) ?_
        subst e
        exact ⟨rfl, rfl⟩
      · have hlt : j < tD t c := (nI_gtI (by omega) (by omega)).mp c26
        have hn := (hw.2.2 c hc).2.2.2.2.1 j hlt
        have hb0 := slF_h (up := up) hw hc hj
        have hh := (hw.2.2 _ hn.1).1
        refine GS.run [] 12 rfl ?_
        refine GS.ald (50 + 6 * c + j) rfl rfl (he_to) (by omega) ?_
        rw [m_to ht (hc) (hlt)]
        refine GS.run [] 1 rfl ?_
        refine GS.ald (2 + tB t c j) rfl rfl (he_2) (by omega) ?_
        rw [m_ht ht (hn.1)]
        refine GS.run [] 1 rfl ?_
        have join82 : ∀ (b : Bool) (hb : b = bet up (slF t c up j).1 (tH t (tB t c j))), GS none mX12_slope (d) (am_det (some (.int (kI (slope t c up)))) σ) 82 [.ref 69, .int (nI c), .int (bI up), .int (nI (slF t c up j).1), .int (kI (slF t c up j).2), .int (nI j), .int (nI (tH t (tB t c j))), .retAddr 0] [.int (bI b)] σ := by
          intro b hb
          cases b
          · refine GS.run [] 2 rfl ?_
            refine GS.if_eq rfl (fun c86 => ?_) (fun q => absurd (rfl) q)
            refine GS.run [] 2 rfl ?_
            refine GS.icmp_ne rfl (fun c97 => ?_) (fun c97 => ?_)
            · have hs : slF t c up (j + 1) = slF t c up j := by
                rw [slF, if_neg (by rw [← hb]; decide), if_neg (fun z => c97 (by rw [z]))]
              refine GS.run [] 3 rfl ?_
              refine GS.if_eq rfl (fun c110 => ?_) (fun q => absurd (rfl) q)
              refine GS.run [] 4 rfl ?_
              have ih := ih15 _ (by omega) (j + 1) (by omega) rfl
              rw [hs] at ih
              rw [nI_1]
              exact GS.weak (by exact ⟨Or.inr rfl, Or.inr rfl, Or.inr rfl, Or.inr rfl, Or.inr rfl, Or.inr rfl, Or.inl rfl, Or.inl rfl, trivial⟩) ih
            · have hs : slF t c up (j + 1) = ((slF t c up j).1, none) := by
                rw [slF, if_neg (by rw [← hb]; decide), if_pos ((nI_eq (by omega) (by omega)).mp c97)]
              refine GS.run [] 4 rfl ?_
              refine GS.if_eq rfl (fun c110 => ?_) (fun q => absurd (rfl) q)
              refine GS.run [] 4 rfl ?_
              have ih := ih15 _ (by omega) (j + 1) (by omega) rfl
              rw [hs] at ih
              rw [nI_1]
              exact GS.weak (by exact ⟨Or.inr rfl, Or.inr rfl, Or.inr rfl, Or.inr rfl, Or.inr rfl, Or.inr rfl, Or.inl rfl, Or.inl rfl, trivial⟩) ih
          · have hs : slF t c up (j + 1) = (tH t (tB t c j), some j) := by
              rw [slF, if_pos hb.symm]
            refine GS.run [] 2 rfl ?_
            refine GS.if_eq rfl (fun q => absurd q (by decide)) (fun c86 => ?_)
            refine GS.run [] 4 rfl ?_
            refine GS.if_eq rfl (fun q => absurd q (by decide)) (fun c110 => ?_)
            refine GS.run [] 5 rfl ?_
            have ih := ih15 _ (by omega) (j + 1) (by omega) rfl
            rw [hs] at ih
            rw [nI_1]
            exact GS.weak (by exact ⟨Or.inr rfl, Or.inr rfl, Or.inr rfl, Or.inr rfl, Or.inr rfl, Or.inr rfl, Or.inl rfl, Or.inl rfl, trivial⟩) ih
        refine GS.run [] 1 rfl ?_
        refine GS.if_eq rfl (fun c54 => ?_) (fun c54 => ?_)
        · refine GS.run [] 2 rfl ?_
          refine GS.icmp_ge rfl (fun c74 => ?_) (fun c74 => ?_)
          · refine GS.run [] 1 rfl ?_
            refine join82 false ?_
            cases up
            · simp only [bet]; exact (decide_eq_false (fun z => absurd ((nI_leI (by omega) (by omega)).mp c74) (by omega))).symm
            · exact absurd c54 (by decide)
          · refine GS.run [] 2 rfl ?_
            refine join82 true ?_
            cases up
            · simp only [bet]; exact (decide_eq_true (by have := (nI_gtI (by omega) (by omega)).mp c74; omega)).symm
            · exact absurd c54 (by decide)
        · refine GS.run [] 2 rfl ?_
          refine GS.icmp_le rfl (fun c60 => ?_) (fun c60 => ?_)
          · refine GS.run [] 2 rfl ?_
            refine join82 false ?_
            cases up
            · exact absurd rfl c54
            · simp only [bet]; exact (decide_eq_false (fun z => absurd ((nI_leI (by omega) (by omega)).mp c60) (by omega))).symm
          · refine GS.run [] 2 rfl ?_
            refine join82 true ?_
            cases up
            · exact absurd rfl c54
            · simp only [bet]; exact (decide_eq_true ((nI_gtI (by omega) (by omega)).mp c60)).symm
  exact loop15 _ 0 (Nat.zero_le _) rfl
def mkK (q : Nat × Nat) : Option Nat := if q.2 = 0 then none else some q.1
theorem c_mmarked (d : Nat) (σ : am_S) (t : Tn) (c : Nat) (m : Nat) (ht : townM 73 0 σ t) (hw : wfT t) (hc : c < tN t) (hm : m < 1000) : CallS mX12_marked (d) [.ref 69, .int (nI c), .int (nI m)] σ (am_det (some (.int (kI (markedK t c m)))) σ) := by
  refine CallS.of kX12_marked pX12_marked [.ref 69, .int (nI c), .int (nI m), .retAddr 0, .retAddr 0, .retAddr 0, .retAddr 0] rfl (Nat.le_of_ble_eq_true rfl) ?_
  have h6 := (hw.2.2 c hc).2.2.2.1
  have h8 := hw.1
  refine GS.run [] 6 rfl ?_
  have loop8 : ∀ (fu : Nat) (j : Nat) (hj : j ≤ tD t c), tD t c - j = fu → GS none mX12_marked (d) (am_det (some (.int (kI (markedK t c m)))) σ) 8 [.ref 69, .int (nI c), .int (nI m), .int (kI (mkK (mkF t c m j))), .int (nI (mkF t c m j).2), .int (nI j), .retAddr 0] [] σ := by
    intro fu
    induction fu using Nat.strongRecOn with
    | ind fu ih8 =>
      intro j hj hfu
      refine GS.run [] 6 rfl ?_
      refine GS.ald (38 + c) rfl rfl (he_38) (by omega) ?_
      rw [m_dg ht (hc)]
      refine GS.icmp_ge rfl (fun c19 => ?_) (fun c19 => ?_)
      · have e : tD t c = j := by have := (nI_leI (by omega) (by omega)).mp c19; omega
        refine GS.run [] 2 rfl ?_
        refine GS.icmp_ne rfl (fun c92 => ?_) (fun c92 => ?_)
        · refine GS.run [] 1 rfl ?_
          refine GS.iret rfl rfl (rfl) ?_
          have hcl := mkF_le (t := t) (c := c) (m := m) (j := j)
          subst e
          refine ⟨?_, rfl⟩
          unfold markedK
          first
            | (rw [if_pos ((nI_eq (b := 1) (by omega) (by omega)).mp c92)]; simp only [mkK]; rw [if_neg (by have := (nI_eq (b := 1) (by omega) (by omega)).mp c92; omega)]; done)
            | (rw [if_neg (fun z => c92 (by rw [z]; rfl))]; rfl)
        · refine GS.run [] 2 rfl ?_
          refine GS.iret rfl rfl (rfl) ?_
          have hcl := mkF_le (t := t) (c := c) (m := m) (j := j)
          subst e
          refine ⟨?_, rfl⟩
          unfold markedK
          first
            | (rw [if_pos ((nI_eq (b := 1) (by omega) (by omega)).mp c92)]; simp only [mkK]; rw [if_neg (by have := (nI_eq (b := 1) (by omega) (by omega)).mp c92; omega)]; done)
            | (rw [if_neg (fun z => c92 (by rw [z]; rfl))]; rfl)
      · have hlt : j < tD t c := (nI_gtI (by omega) (by omega)).mp c19
        have hn := (hw.2.2 c hc).2.2.2.2.1 j hlt
        have hh := (hw.2.2 _ hn.1).2.1
        refine GS.run [] 12 rfl ?_
        refine GS.ald (50 + 6 * c + j) rfl rfl (he_to) (by omega) ?_
        rw [m_to ht (hc) (hlt)]
        refine GS.run [] 1 rfl ?_
        refine GS.ald (14 + tB t c j) rfl rfl (he_14) (by omega) ?_
        rw [m_mk ht (hn.1)]
        refine GS.run [] 1 rfl ?_
        have join54 : ∀ (b : Bool) (hb : b = decide (tM t (tB t c j) = m)), GS none mX12_marked (d) (am_det (some (.int (kI (markedK t c m)))) σ) 54 [.ref 69, .int (nI c), .int (nI m), .int (kI (mkK (mkF t c m j))), .int (nI (mkF t c m j).2), .int (nI j), .retAddr 0] [.int (bI b)] σ := by
          intro b hb
          cases b
          · have hs : mkF t c m (j + 1) = mkF t c m j := by
              rw [mkF, if_neg (of_decide_eq_false hb.symm)]
            refine GS.run [] 2 rfl ?_
            refine GS.if_eq rfl (fun c58 => ?_) (fun q => absurd (rfl) q)
            refine GS.run [] 4 rfl ?_
            refine GS.if_eq rfl (fun c72 => ?_) (fun q => absurd (rfl) q)
            refine GS.run [] 5 rfl ?_
            have ih := ih8 _ (by omega) (j + 1) (by omega) rfl
            rw [hs] at ih
            simp only [nI_1]
            first
              | exact GS.weak (by exact ⟨Or.inr rfl, Or.inr rfl, Or.inr rfl, Or.inr rfl, Or.inr rfl, Or.inr rfl, Or.inl rfl, trivial⟩) ih
              | (rw [show nI (mkF t c m j).2 + 0 = nI (mkF t c m j).2 from nI_add _ 0]; exact GS.weak (by exact ⟨Or.inr rfl, Or.inr rfl, Or.inr rfl, Or.inr rfl, Or.inr rfl, Or.inr rfl, Or.inl rfl, trivial⟩) ih)
          · have hs : mkF t c m (j + 1) = (j, (mkF t c m j).2 + 1) := by
              rw [mkF, if_pos (of_decide_eq_true hb.symm)]
            refine GS.run [] 2 rfl ?_
            refine GS.if_eq rfl (fun q => absurd q (by decide)) (fun c58 => ?_)
            refine GS.run [] 5 rfl ?_
            refine GS.if_eq rfl (fun q => absurd q (by decide)) (fun c72 => ?_)
            refine GS.run [] 6 rfl ?_
            have ih := ih8 _ (by omega) (j + 1) (by omega) rfl
            rw [hs] at ih
            simp only [nI_1]
            first
              | exact GS.weak (by exact ⟨Or.inr rfl, Or.inr rfl, Or.inr rfl, Or.inr rfl, Or.inr rfl, Or.inr rfl, Or.inl rfl, trivial⟩) ih
              | (rw [show nI (mkF t c m j).2 + 0 = nI (mkF t c m j).2 from nI_add _ 0]; exact GS.weak (by exact ⟨Or.inr rfl, Or.inr rfl, Or.inr rfl, Or.inr rfl, Or.inr rfl, Or.inr rfl, Or.inl rfl, trivial⟩) ih)
        refine GS.icmp_ne rfl (fun c46 => ?_) (fun c46 => ?_)
        · refine GS.run [] 1 rfl ?_
          exact join54 false (decide_eq_false (fun z => c46 (by rw [z]))).symm
        · refine GS.run [] 2 rfl ?_
          exact join54 true (decide_eq_true ((nI_eq (by omega) (by omega)).mp c46)).symm
  exact loop8 _ 0 (Nat.zero_le _) rfl
