theorem keptM.out {i : Nat} {σ σ' : am_S} {q : Kp} (h : keptM i σ q) (hw : wfK q) (e0 : σ' 85 i = σ 85 i) (e1 : ∀ x, x < 122 → σ' 86 (122 * i + x) = σ 86 (122 * i + x)) (e2 : ∀ x, x < 13 → σ' 87 (13 * i + x) = σ 87 (13 * i + x)) : keptM i σ' q := by
  cases q with
  | none => exact e0.trans h
  | some q =>
    obtain ⟨h1, h2, h3⟩ := h
    exact ⟨e0.trans h1, h2.moved hw.1 e1, h3.moved hw.2.1 e2⟩
theorem p_image_m (d : Nat) (σ : am_S) (t : Tn) (s : Sy) (a b : Kp) (k : Int32) (ht : townM 73 0 σ t) (hw : wfT t) (hy : sayM 75 0 σ s) (hys : wfS s) (ha : keptM 0 σ a) (hb : keptM 1 σ b) (hI : σ 69 7 = am_b (¬ tN t = 0)) (wa : wfK a) (wb : wfK b) : CallS mX12_image (d + 1) [.ref 69, .int k] σ (fun x σ' => x = some (.int (qImage t s a b k).1) ∧ keptM 0 σ' (qImage t s a b k).2.1 ∧ keptM 1 σ' (qImage t s a b k).2.2 ∧ sameM [85, 86, 87] [0] σ σ') := by
  refine CallS.of kX12_image pX12_image [.ref 69, .int k, .retAddr 0] rfl (Nat.le_of_ble_eq_true rfl) ?_
  refine GS.run [] 7 rfl ?_
  refine GS.cS oX12_in (c_inB (d) (am_s1 σ 69 (upd (σ 69) 0 0)) k) rfl rfl rfl rfl (Nat.le_of_ble_eq_true rfl) (by omega) ?_
  refine GS.if_ne rfl (fun c12 => ?_) (fun c12 => ?_)
  · have g1 : okb k := am_bT c12
    obtain ⟨m, hm, rfl⟩ := okb_nat g1
    refine GS.run [] 2 rfl ?_
    rw [show (am_s1 σ 69 (upd (σ 69) 0 0)) 69 7 = am_b (¬ tN t = 0) from hI]
    refine GS.if_ne rfl (fun c22 => ?_) (fun c22 => ?_)
    · have g2 : ¬ tN t = 0 := am_bT c22
      refine GS.run [] 2 rfl ?_
      have loop31 : ∀ (fu : Nat) (j : Nat) (hj : j ≤ 122), 122 - j = fu → GS none mX12_image (d + 1) (fun x σ' => x = some (.int (qImage t s a b (nI m)).1) ∧ keptM 0 σ' (qImage t s a b (nI m)).2.1 ∧ keptM 1 σ' (qImage t s a b (nI m)).2.2 ∧ sameM [85, 86, 87] [0] σ σ') 31 [.ref 69, .int (nI m), .int (nI j)] [] (am_s1 (am_s1 σ 69 (upd (σ 69) 0 0)) 86 (cpA (σ 86) (σ 73) (122 * m) j)) := by
        intro fu
        induction fu using Nat.strongRecOn with
        | ind fu ih31 =>
          intro j hj hfu
          refine GS.run [] 2 rfl ?_
          refine GS.icmp_ge rfl (fun c34 => ?_) (fun c34 => ?_)
          · have e : j = 122 := by have := (nI_leI (a := 122) (by omega) (by omega)).mp c34; omega
            subst e
            refine GS.run [] 2 rfl ?_
            have loop62 : ∀ (fu : Nat) (j : Nat) (hj : j ≤ 13), 13 - j = fu → GS none mX12_image (d + 1) (fun x σ' => x = some (.int (qImage t s a b (nI m)).1) ∧ keptM 0 σ' (qImage t s a b (nI m)).2.1 ∧ keptM 1 σ' (qImage t s a b (nI m)).2.2 ∧ sameM [85, 86, 87] [0] σ σ') 62 [.ref 69, .int (nI m), .int (nI j)] [] (am_s1 (am_s1 (am_s1 σ 69 (upd (σ 69) 0 0)) 86 (cpA (σ 86) (σ 73) (122 * m) 122)) 87 (cpA (σ 87) (σ 75) (13 * m) j)) := by
              intro fu
              induction fu using Nat.strongRecOn with
              | ind fu ih62 =>
                intro j hj hfu
                refine GS.run [] 2 rfl ?_
                refine GS.icmp_ge rfl (fun c65 => ?_) (fun c65 => ?_)
                · have e : j = 13 := by have := (nI_leI (a := 13) (by omega) (by omega)).mp c65; omega
                  subst e
                  refine GS.run [] 4 rfl ?_
                  refine GS.zst (m) rfl rfl (rfl) (by omega) ?_
                  refine GS.run [] 1 rfl ?_
                  refine GS.iret rfl rfl (rfl) ?_
                  have hs : ∀ S : am_S, S = am_s1 (am_s1 (am_s1 (am_s1 σ 69 (upd (σ 69) 0 0)) 86 (cpA (σ 86) (σ 73) (122 * m) 122)) 87 (cpA (σ 87) (σ 75) (13 * m) 13)) 85 (upd ((am_s1 (am_s1 (am_s1 σ 69 (upd (σ 69) 0 0)) 86 (cpA (σ 86) (σ 73) (122 * m) 122)) 87 (cpA (σ 87) (σ 75) (13 * m) 13)) 85) m (vp_nar .boolean 1)) → sameM [85, 86, 87] [0] σ S := fun S e => by
                    rw [e]
                    exact (((sameM.rf.fld (by decide)).cell (by decide) (by decide)).cell (by decide) (by decide)).cell (by decide) (by decide)
                  rcases (by omega : m = 0 ∨ m = 1) with rfl | rfl
                  · have hq : qImage t s a b (nI 0) = (1, some (t, s), b) := by unfold qImage; rw [if_pos g1, if_neg g2]; rfl
                    rw [hq]
                    refine ⟨rfl, ⟨rfl, ht.moved hw (fun j hj => ?_), hy.moved hys (fun j hj => ?_)⟩, hb.out wb rfl (fun x hx => cpA_out (Or.inr (by omega))) (fun x hx => cpA_out (Or.inr (by omega))), hs _ rfl⟩
                    · show cpA (σ 86) (σ 73) (122 * 0) 122 (122 * 0 + j) = σ 73 (0 + j)
                      rw [cpA_in hj, Nat.zero_add]
                    · show cpA (σ 87) (σ 75) (13 * 0) 13 (13 * 0 + j) = σ 75 (0 + j)
                      rw [cpA_in hj, Nat.zero_add]
                  · have hq : qImage t s a b (nI 1) = (1, a, some (t, s)) := by unfold qImage; rw [if_pos g1, if_neg g2]; rfl
                    rw [hq]
                    refine ⟨rfl, ha.out wa rfl (fun x hx => cpA_out (Or.inl (by omega))) (fun x hx => cpA_out (Or.inl (by omega))), ⟨rfl, ht.moved hw (fun j hj => ?_), hy.moved hys (fun j hj => ?_)⟩, hs _ rfl⟩
                    · show cpA (σ 86) (σ 73) (122 * 1) 122 (122 * 1 + j) = σ 73 (0 + j)
                      rw [cpA_in hj, Nat.zero_add]
                    · show cpA (σ 87) (σ 75) (13 * 1) 13 (13 * 1 + j) = σ 75 (0 + j)
                      rw [cpA_in hj, Nat.zero_add]
                · have hlt : j < 13 := (nI_gtI (a := 13) (by omega) (by omega)).mp c65
                  refine GS.run [] 10 rfl ?_
                  refine GS.ald (j) rfl rfl (rfl) (by omega) ?_
                  refine GS.ast (13 * m + j) rfl rfl (he_13) (by omega) ?_
                  refine GS.run [] 2 rfl ?_
                  rw [am_s1_s1, nI_1, show upd ((am_s1 (am_s1 (am_s1 σ 69 (upd (σ 69) 0 0)) 86 (cpA (σ 86) (σ 73) (122 * m) 122)) 87 (cpA (σ 87) (σ 75) (13 * m) j)) 87) (13 * m + j) ((am_s1 (am_s1 (am_s1 σ 69 (upd (σ 69) 0 0)) 86 (cpA (σ 86) (σ 73) (122 * m) 122)) 87 (cpA (σ 87) (σ 75) (13 * m) j)) 75 j) = cpA (σ 87) (σ 75) (13 * m) (j + 1) from cpA_s _ _ _ _]
                  exact ih62 _ (by omega) (j + 1) (by omega) rfl
            have e0 := loop62 _ 0 (Nat.zero_le _) rfl
            rw [cpA_0, show (am_s1 (am_s1 (am_s1 σ 69 (upd (σ 69) 0 0)) 86 (cpA (σ 86) (σ 73) (122 * m) 122)) 87 (σ 87)) = (am_s1 (am_s1 σ 69 (upd (σ 69) 0 0)) 86 (cpA (σ 86) (σ 73) (122 * m) 122)) from am_s1_self _ 87] at e0
            exact e0
          · have hlt : j < 122 := (nI_gtI (a := 122) (by omega) (by omega)).mp c34
            refine GS.run [] 10 rfl ?_
            refine GS.ald (j) rfl rfl (rfl) (by omega) ?_
            refine GS.ast (122 * m + j) rfl rfl (he_122) (by omega) ?_
            refine GS.run [] 2 rfl ?_
            rw [am_s1_s1, nI_1, show upd (am_s1 (am_s1 σ 69 (upd (σ 69) 0 0)) 86 (cpA (σ 86) (σ 73) (122 * m) j) 86) (122 * m + j) (am_s1 (am_s1 σ 69 (upd (σ 69) 0 0)) 86 (cpA (σ 86) (σ 73) (122 * m) j) 73 j) = cpA (σ 86) (σ 73) (122 * m) (j + 1) from cpA_s _ _ _ _]
            exact ih31 _ (by omega) (j + 1) (by omega) rfl
      have e0 := loop31 _ 0 (Nat.zero_le _) rfl
      rw [cpA_0, show (am_s1 (am_s1 σ 69 (upd (σ 69) 0 0)) 86 (σ 86)) = (am_s1 σ 69 (upd (σ 69) 0 0)) from am_s1_self _ 86] at e0
      exact e0
    · have g2 : tN t = 0 := Decidable.not_not.mp (am_b0.mp c22)
      refine GS.run [] 1 rfl ?_
      refine GS.iret rfl rfl (rfl) ?_
      have hq : qImage t s a b (nI m) = (-1000002, a, b) := by unfold qImage; rw [if_pos g1, if_pos g2]
      rw [hq]
      exact ⟨rfl, ha, hb, sameM.rf.fld (by decide)⟩
  · have g1 : ¬ okb k := am_b0.mp c12
    refine GS.run [] 1 rfl ?_
    refine GS.iret rfl rfl (rfl) ?_
    have hq : qImage t s a b k = (-1000001, a, b) := by unfold qImage; rw [if_neg g1]
    rw [hq]
    exact ⟨rfl, ha, hb, sameM.rf.fld (by decide)⟩
theorem keptM.has {i : Nat} {σ : am_S} {q : Kp} (h : keptM i σ q) : σ 85 i = am_b (q.isSome = true) := by
  cases q with
  | none => exact h
  | some w => exact h.1
theorem cop_lt {f g : Nat → Int32} {n j : Nat} (h : j < n) : am_cop f g n j = g j := by unfold am_cop; rw [if_pos h]
theorem p_restore_m (d : Nat) (σ : am_S) (t : Tn) (s : Sy) (a b : Kp) (k : Int32) (ht : townM 73 0 σ t) (hw : wfT t) (hy : sayM 75 0 σ s) (hys : wfS s) (ha : keptM 0 σ a) (hb : keptM 1 σ b) (hI : σ 69 7 = am_b (¬ tN t = 0)) (wa : wfK a) (wb : wfK b) : CallS mX12_restore (d + 1) [.ref 69, .int k] σ (fun x σ' => x = some (.int (qRestore t s a b k).1) ∧ townM 73 0 σ' (qRestore t s a b k).2.1 ∧ sayM 75 0 σ' (qRestore t s a b k).2.2 ∧ sameM [73, 75] [0] σ σ') := by
  refine CallS.of kX12_restore pX12_restore [.ref 69, .int k, .retAddr 0] rfl (Nat.le_of_ble_eq_true rfl) ?_
  refine GS.run [] 7 rfl ?_
  refine GS.cS oX12_in (c_inB (d) (am_s1 σ 69 (upd (σ 69) 0 0)) k) rfl rfl rfl rfl (Nat.le_of_ble_eq_true rfl) (by omega) ?_
  refine GS.if_ne rfl (fun c12 => ?_) (fun c12 => ?_)
  · have g1 : okb k := am_bT c12
    obtain ⟨m, hm, rfl⟩ := okb_nat g1
    obtain ⟨c, hc, wc, hcq⟩ : ∃ c, keptM m σ c ∧ wfK c ∧ qRestore t s a b (nI m) = (match c with
      | none => (-1000002, t, s)
      | some q => (1, q.1, q.2)) := by
      rcases (by omega : m = 0 ∨ m = 1) with rfl | rfl
      · refine ⟨a, ha, wa, ?_⟩
        unfold qRestore
        rw [if_pos g1]
        rfl
      · refine ⟨b, hb, wb, ?_⟩
        unfold qRestore
        rw [if_pos g1]
        rfl
    refine GS.run [] 3 rfl ?_
    refine GS.zld (m) rfl rfl (rfl) (by omega) ?_
    rw [show (am_s1 σ 69 (upd (σ 69) 0 0)) 85 m = am_b (c.isSome = true) from hc.has]
    refine GS.if_ne rfl (fun c24 => ?_) (fun c24 => ?_)
    · obtain ⟨w, hn⟩ : ∃ w, c = some w := by
        cases c with
        | none => exact absurd (am_bT c24) (by decide)
        | some w => exact ⟨w, rfl⟩
      subst hn
      refine GS.run [] 2 rfl ?_
      have loop33 : ∀ (fu : Nat) (j : Nat) (hj : j ≤ 122), 122 - j = fu → GS none mX12_restore (d + 1) (fun x σ' => x = some (.int (qRestore t s a b (nI m)).1) ∧ townM 73 0 σ' (qRestore t s a b (nI m)).2.1 ∧ sayM 75 0 σ' (qRestore t s a b (nI m)).2.2 ∧ sameM [73, 75] [0] σ σ') 33 [.ref 69, .int (nI m), .int (nI j)] [] (am_s1 (am_s1 σ 69 (upd (σ 69) 0 0)) 73 (am_cop (σ 73) (fun x => σ 86 (122 * m + x)) j)) := by
        intro fu
        induction fu using Nat.strongRecOn with
        | ind fu ih33 =>
          intro j hj hfu
          refine GS.run [] 2 rfl ?_
          refine GS.icmp_ge rfl (fun c36 => ?_) (fun c36 => ?_)
          · have e : j = 122 := by have := (nI_leI (a := 122) (by omega) (by omega)).mp c36; omega
            subst e
            refine GS.run [] 2 rfl ?_
            have loop64 : ∀ (fu : Nat) (j : Nat) (hj : j ≤ 13), 13 - j = fu → GS none mX12_restore (d + 1) (fun x σ' => x = some (.int (qRestore t s a b (nI m)).1) ∧ townM 73 0 σ' (qRestore t s a b (nI m)).2.1 ∧ sayM 75 0 σ' (qRestore t s a b (nI m)).2.2 ∧ sameM [73, 75] [0] σ σ') 64 [.ref 69, .int (nI m), .int (nI j)] [] (am_s1 (am_s1 (am_s1 σ 69 (upd (σ 69) 0 0)) 73 (am_cop (σ 73) (fun x => σ 86 (122 * m + x)) 122)) 75 (am_cop (σ 75) (fun x => σ 87 (13 * m + x)) j)) := by
              intro fu
              induction fu using Nat.strongRecOn with
              | ind fu ih64 =>
                intro j hj hfu
                refine GS.run [] 2 rfl ?_
                refine GS.icmp_ge rfl (fun c67 => ?_) (fun c67 => ?_)
                · have e : j = 13 := by have := (nI_leI (a := 13) (by omega) (by omega)).mp c67; omega
                  subst e
                  refine GS.run [] 1 rfl ?_
                  refine GS.iret rfl rfl (rfl) ?_
                  rw [hcq]
                  obtain ⟨q1, q2, q3⟩ := hc
                  refine ⟨rfl, q2.moved wc.1 (fun j hj => ?_), q3.moved wc.2.1 (fun j hj => ?_), ((sameM.rf.fld (by decide)).cell (by decide) (by decide)).cell (by decide) (by decide)⟩
                  · show am_cop (σ 73) (fun x => σ 86 (122 * m + x)) 122 (0 + j) = σ 86 (122 * m + j)
                    rw [Nat.zero_add, cop_lt hj]
                  · show am_cop (σ 75) (fun x => σ 87 (13 * m + x)) 13 (0 + j) = σ 87 (13 * m + j)
                    rw [Nat.zero_add, cop_lt hj]
                · have hlt : j < 13 := (nI_gtI (a := 13) (by omega) (by omega)).mp c67
                  refine GS.run [] 10 rfl ?_
                  refine GS.ald (13 * m + j) rfl rfl (he_13) (by omega) ?_
                  refine GS.ast (j) rfl rfl (rfl) (by omega) ?_
                  refine GS.run [] 2 rfl ?_
                  rw [am_s1_s1, nI_1, show upd ((am_s1 (am_s1 (am_s1 σ 69 (upd (σ 69) 0 0)) 73 (am_cop (σ 73) (fun x => σ 86 (122 * m + x)) 122)) 75 (am_cop (σ 75) (fun x => σ 87 (13 * m + x)) j)) 75) j ((am_s1 (am_s1 (am_s1 σ 69 (upd (σ 69) 0 0)) 73 (am_cop (σ 73) (fun x => σ 86 (122 * m + x)) 122)) 75 (am_cop (σ 75) (fun x => σ 87 (13 * m + x)) j)) 87 (13 * m + j)) = am_cop (σ 75) (fun x => σ 87 (13 * m + x)) (j + 1) from am_cop_s _ (fun x => σ 87 (13 * m + x)) _]
                  exact ih64 _ (by omega) (j + 1) (by omega) rfl
            have e0 := loop64 _ 0 (Nat.zero_le _) rfl
            rw [am_cop_0, show (am_s1 (am_s1 (am_s1 σ 69 (upd (σ 69) 0 0)) 73 (am_cop (σ 73) (fun x => σ 86 (122 * m + x)) 122)) 75 (σ 75)) = (am_s1 (am_s1 σ 69 (upd (σ 69) 0 0)) 73 (am_cop (σ 73) (fun x => σ 86 (122 * m + x)) 122)) from am_s1_self _ 75] at e0
            exact e0
          · have hlt : j < 122 := (nI_gtI (a := 122) (by omega) (by omega)).mp c36
            refine GS.run [] 10 rfl ?_
            refine GS.ald (122 * m + j) rfl rfl (he_122) (by omega) ?_
            refine GS.ast (j) rfl rfl (rfl) (by omega) ?_
            refine GS.run [] 2 rfl ?_
            rw [am_s1_s1, nI_1, show upd ((am_s1 (am_s1 σ 69 (upd (σ 69) 0 0)) 73 (am_cop (σ 73) (fun x => σ 86 (122 * m + x)) j)) 73) j ((am_s1 (am_s1 σ 69 (upd (σ 69) 0 0)) 73 (am_cop (σ 73) (fun x => σ 86 (122 * m + x)) j)) 86 (122 * m + j)) = am_cop (σ 73) (fun x => σ 86 (122 * m + x)) (j + 1) from am_cop_s _ (fun x => σ 86 (122 * m + x)) _]
            exact ih33 _ (by omega) (j + 1) (by omega) rfl
      have e0 := loop33 _ 0 (Nat.zero_le _) rfl
      rw [am_cop_0, show (am_s1 (am_s1 σ 69 (upd (σ 69) 0 0)) 73 (σ 73)) = (am_s1 σ 69 (upd (σ 69) 0 0)) from am_s1_self _ 73] at e0
      exact e0
    · have hn : c = none := by
        cases c with
        | some w => exact absurd rfl (am_b0.mp c24)
        | none => rfl
      subst hn
      refine GS.run [] 1 rfl ?_
      refine GS.iret rfl rfl (rfl) ?_
      rw [hcq]
      exact ⟨rfl, ht, hy, sameM.rf.fld (by decide)⟩
  · have g1 : ¬ okb k := am_b0.mp c12
    refine GS.run [] 1 rfl ?_
    refine GS.iret rfl rfl (rfl) ?_
    have hq : qRestore t s a b k = (-1000001, t, s) := by unfold qRestore; rw [if_neg g1]
    rw [hq]
    exact ⟨rfl, ht, hy, sameM.rf.fld (by decide)⟩
theorem sh_a : ∀ k : Fin 8, ((BitVec.signExtend 64 (8#32 * (nI k.val).toBitVec) &&& 63#64).smod 64#64).toNat = 8 * k.val := by decide +kernel
theorem sh_b : ∀ k : Fin 8, (((BitVec.signExtend 64 (8#32 * (nI k.val).toBitVec)).toNat &&& 63) % 64) = 8 * k.val := by decide +kernel
theorem byt_m (v : Int64) : ∀ k, k < 8 → (v >>> ((8 * nI k).toInt64 &&& 63) &&& 255).toInt32 = bytI v k := by
  intro k hk
  unfold bytI
  apply Int32.toBitVec_inj.mp
  apply BitVec.eq_of_getLsbD_eq
  intro i hi
  simp
  rw [sh_a ⟨k, hk⟩, sh_b ⟨k, hk⟩]
  by_cases h : i < 8
  · congr 1
    simp only [BitVec.getLsbD_signExtend, BitVec.getLsbD_sshiftRight, BitVec.getLsbD_ushiftRight]
    have h1 : i < 64 := by omega
    have h2 : 8 * k + i < 64 := by omega
    simp [h1, h2, hi]
  · have e : (255#32).getLsbD i = false := by
      show Nat.testBit 255 i = false
      apply Nat.testBit_lt_two_pow
      exact Nat.lt_of_lt_of_le (by decide : 255 < 2 ^ 8) (Nat.pow_le_pow_right (by omega) (by omega))
    rw [e, Bool.and_false, Bool.and_false]
theorem p_feed_m (d : Nat) (σ : am_S) (p : Tp) (v : Int64) (n : Int32) (hp : tapeV 69 11 77 σ p) (hpw : wfP p) : CallS mX12_feed (d + 1) [.ref 69, .long v, .int n] σ (fun x σ' => x = some (.int (qFeed p v n).1) ∧ tapeV 69 11 77 σ' (qFeed p v n).2 ∧ sameM [77] [0, 11] σ σ') := by
  refine CallS.of kX12_feed pX12_feed [.ref 69, .long v, .retAddr 0, .int n, .retAddr 0] rfl (Nat.le_of_ble_eq_true rfl) ?_
  refine GS.run [] 7 rfl ?_
  refine GS.cS oX12_in (c_inI d (am_s1 σ 69 (upd (σ 69) 0 0)) n 1 8 (okg n) (by rw [show (1 : Int64).toInt = 1 from rfl, show (8 : Int64).toInt = 8 from rfl])) rfl rfl rfl rfl (Nat.le_of_ble_eq_true rfl) (by omega) ?_
  refine GS.if_ne rfl (fun c14 => ?_) (fun c14 => ?_)
  · have g2 : okg n := am_bT c14
    obtain ⟨m, hm1, hm2, rfl⟩ := okg_nat g2
    have em : cn (nI m) = m := cn_nI (by omega)
    have h4 := hpw.1
    refine GS.run [] 4 rfl ?_
    rw [show (am_s1 σ 69 (upd (σ 69) 0 0)) 69 11 = nI p.1 from hp.1, nI_add]
    refine GS.run [] 0 rfl ?_
    refine GS.run [] 1 rfl ?_
    refine GS.icmp_le rfl (fun c29 => ?_) (fun c29 => ?_)
    · have g3 : p.1 + m ≤ 400 := (nI_leI (b := 400) (by omega) (by omega)).mp c29
      refine GS.run [] 4 rfl ?_
      have loop40 : ∀ (fu : Nat) (j : Nat) (σ1 : am_S) (hj : j ≤ m) (e1 : σ1 69 11 = nI (p.1 + (m - j))) (e2 : ∀ i, i < p.1 + (m - j) → σ1 77 i = nI ((tPut p v m).2 i)) (e3 : sameM [77] [0, 11] σ σ1), j = fu → GS none mX12_feed (d + 1) (fun x σ' => x = some (.int (qFeed p v (nI m)).1) ∧ tapeV 69 11 77 σ' (qFeed p v (nI m)).2 ∧ sameM [77] [0, 11] σ σ') 40 [.ref 69, .long v, .retAddr 0, .int (nI m), .int (nI j - 1)] [] σ1 := by
        intro fu
        induction fu using Nat.strongRecOn with
        | ind fu ih40 =>
          intro j σ1 hj e1 e2 e3 hfu
          refine GS.run [] 1 rfl ?_
          refine GS.if_lt rfl (fun c42 => ?_) (fun c42 => ?_)
          · have hj0 : j = 0 := (pred_lt (by omega)).mp c42
            refine GS.run [] 2 rfl ?_
            refine GS.iret rfl rfl (rfl) ?_
            have hq : qFeed p v (nI m) = (nI (p.1 + m), tPut p v m) := by unfold qFeed; rw [if_pos g2, em, if_pos g3]
            rw [hq]
            subst hj0
            exact ⟨congrArg (fun z => some (Value.int z)) e1, ⟨e1, e2⟩, e3⟩
          · have hj0 : 0 < j := by have := mt (pred_lt (j := j) (by omega)).mpr c42; omega
            refine GS.run [] 12 rfl ?_
            rw [e1, show nI j - 1 = nI (j - 1) from pk_sub (a := j) (b := 1) hj0, byt_m v (j - 1) (by omega)]
            refine GS.run [] 0 rfl ?_
            refine GS.ast (p.1 + (m - j)) rfl rfl (rfl) (by omega) ?_
            refine GS.run [] 8 rfl ?_
            rw [show nI (j - 1) + -1 = nI (j - 1) - 1 from (Int32.sub_eq_add_neg _ _).symm]
            refine ih40 _ (by omega) (j - 1) _ (by omega) ?_ ?_ ?_ rfl
            · show σ1 69 11 + 1 = _
              rw [e1, nI_1]
              congr 1
              omega
            · intro i hi
              show upd (σ1 77) (p.1 + (m - j)) _ i = _
              by_cases h : i = p.1 + (m - j)
              · subst h
                rw [upd_eq]
                show _ = nI (if p.1 + (m - j) < p.1 then p.2 _ else byt v (m - 1 - (p.1 + (m - j) - p.1)))
                rw [if_neg (by omega), show m - 1 - (p.1 + (m - j) - p.1) = j - 1 by omega]
                exact byt_eq v (j - 1)
              · rw [upd_ne _ _ h]
                exact e2 i (by omega)
            · exact (e3.cell (by decide) (by decide)).fld (by decide)
      exact loop40 _ m (am_s1 σ 69 (upd (σ 69) 0 0)) (Nat.le_refl _) (by rw [Nat.sub_self]; exact hp.1) (fun i hi => by
        refine (hp.2 i (by omega)).trans ?_
        show nI (p.2 i) = nI (if i < p.1 then p.2 i else _)
        rw [if_pos (by omega)]) (sameM.rf.fld (by decide)) rfl
    · have g3 : ¬ p.1 + m ≤ 400 := by have := (nI_ltI (a := 400) (by omega) (by omega)).mp (Int32.not_le.mp c29); omega
      refine GS.run [] 1 rfl ?_
      refine GS.iret rfl rfl (rfl) ?_
      have hq : qFeed p v (nI m) = (-1000003, p) := by unfold qFeed; rw [if_pos g2, em, if_neg g3]
      rw [hq]
      exact ⟨rfl, hp, sameM.rf.fld (by decide)⟩
  · have hbad : ¬ okg n := am_b0.mp c14
    refine GS.run [] 1 rfl ?_
    refine GS.iret rfl rfl (rfl) ?_
    have hq : qFeed p v n = (-1000001, p) := by unfold qFeed; rw [if_neg hbad]
    rw [hq]
    exact ⟨rfl, hp, sameM.rf.fld (by decide)⟩
theorem c_isWordNo (d : Nat) (σ : am_S) (v : Int32) : CallS mX12_isWordNumber (d + 1) [.int v] σ (am_det (some (.int (am_b (isWI v)))) σ) := by
  refine CallS.of kX12_isWordNumber pX12_isWordNumber [.int v] rfl (Nat.le_of_ble_eq_true rfl) ?_
  refine GS.run [] 4 rfl ?_
  refine GS.cS oX12_in (c_inI d σ v 0 7 (okn v 8) (by rw [show (0 : Int64).toInt = 0 from rfl, show (7 : Int64).toInt = 7 from rfl]; omega)) rfl rfl rfl rfl (Nat.le_of_ble_eq_true rfl) (by omega) ?_
  refine GS.if_eq rfl (fun c9 => ?_) (fun c9 => ?_)
  · have k1 : ¬ (okn v 8 ∧ v ≠ 2) := fun h => am_b0.mp c9 h.1
    refine GS.run [] 4 rfl ?_
    refine GS.cS oX12_in (c_inI d σ v 20 29 (20 ≤ v.toInt ∧ v.toInt < 30) (by rw [show (20 : Int64).toInt = 20 from rfl, show (29 : Int64).toInt = 29 from rfl]; omega)) rfl rfl rfl rfl (Nat.le_of_ble_eq_true rfl) (by omega) ?_
    refine GS.if_eq rfl (fun c28 => ?_) (fun c28 => ?_)
    · have k2 : ¬ (20 ≤ v.toInt ∧ v.toInt < 30) := am_b0.mp c28
      have hn : ¬ isWI v := fun h => h.elim k1 k2
      refine GS.run [] 1 rfl ?_
      refine GS.iret rfl rfl (rfl) ?_
      exact ⟨by unfold am_b; first | rw [if_pos hn] | rw [if_neg hn], rfl⟩
    · have hn : isWI v := Or.inr (am_bT c28)
      refine GS.run [] 2 rfl ?_
      refine GS.iret rfl rfl (rfl) ?_
      exact ⟨by unfold am_b; first | rw [if_pos hn] | rw [if_neg hn], rfl⟩
  · have k0 : okn v 8 := am_bT c9
    refine GS.run [] 2 rfl ?_
    refine GS.icmp_ne rfl (fun c14 => ?_) (fun c14 => ?_)
    · have hn : isWI v := Or.inl ⟨k0, c14⟩
      refine GS.run [] 2 rfl ?_
      refine GS.iret rfl rfl (rfl) ?_
      exact ⟨by unfold am_b; first | rw [if_pos hn] | rw [if_neg hn], rfl⟩
    · have k1 : ¬ (okn v 8 ∧ v ≠ 2) := fun h => h.2 c14
      refine GS.run [] 4 rfl ?_
      refine GS.cS oX12_in (c_inI d σ v 20 29 (20 ≤ v.toInt ∧ v.toInt < 30) (by rw [show (20 : Int64).toInt = 20 from rfl, show (29 : Int64).toInt = 29 from rfl]; omega)) rfl rfl rfl rfl (Nat.le_of_ble_eq_true rfl) (by omega) ?_
      refine GS.if_eq rfl (fun c28 => ?_) (fun c28 => ?_)
      · have k2 : ¬ (20 ≤ v.toInt ∧ v.toInt < 30) := am_b0.mp c28
        have hn : ¬ isWI v := fun h => h.elim k1 k2
        refine GS.run [] 1 rfl ?_
        refine GS.iret rfl rfl (rfl) ?_
        exact ⟨by unfold am_b; first | rw [if_pos hn] | rw [if_neg hn], rfl⟩
      · have hn : isWI v := Or.inr (am_bT c28)
        refine GS.run [] 2 rfl ?_
        refine GS.iret rfl rfl (rfl) ?_
        exact ⟨by unfold am_b; first | rw [if_pos hn] | rw [if_neg hn], rfl⟩
theorem he_item {k i j : Nat} : 40 * nI k + nI i + nI j = nI (40 * k + (i + j)) := by rw [il_40, pk_mul, nI_add, nI_add, Nat.add_assoc]
def wdF (f : Nat → Int32) (m : Nat) (g : Nat → Int32) (j : Nat) : Nat → Int32 := fun x => if x = 0 then nI m else if x ≤ j then g (x - 1) else f x
theorem wdF_0 (f : Nat → Int32) (m : Nat) (g : Nat → Int32) : upd f 0 (nI m) = wdF f m g 0 := by
  funext x
  unfold upd wdF
  by_cases h : x = 0
  · rw [if_pos h, if_pos h]
  · rw [if_neg h, if_neg h, if_neg (by omega)]
theorem wdF_s (f : Nat → Int32) (m : Nat) (g : Nat → Int32) (j : Nat) : upd (wdF f m g j) (1 + j) (g j) = wdF f m g (j + 1) := by
  funext x
  unfold upd wdF
  by_cases h : x = 1 + j
  · rw [if_pos h, if_neg (by omega), if_pos (by omega), h, Nat.add_sub_cancel_left]
  · rw [if_neg h]
    by_cases h0 : x = 0
    · rw [if_pos h0, if_pos h0]
    · rw [if_neg h0, if_neg h0]
      by_cases h2 : x ≤ j
      · rw [if_pos h2, if_pos (by omega)]
      · rw [if_neg h2, if_neg (by omega)]
theorem p_words_m (d : Nat) (σ : am_S) (r : Rw) (s : Sy) (f k i n : Int32) (hr : rowsV 70 71 72 σ r) (hwf : wfR r) (hy : sayM 75 0 σ s) (hys : wfS s) (hf : σ 69 1 = f) : CallS mX12_words (d + 3) [.ref 69, .int k, .int i, .int n] σ (fun x σ' => x = some (.int (qWords r s f k i n).1) ∧ sayM 75 0 σ' (qWords r s f k i n).2.1 ∧ σ' 69 1 = (qWords r s f k i n).2.2 ∧ sameM [75] [0, 1] σ σ') := by
  refine CallS.of kX12_words pX12_words [.ref 69, .int k, .int i, .int n, .retAddr 0] rfl (Nat.le_of_ble_eq_true rfl) ?_
  refine GS.run [] 4 rfl ?_
  refine GS.cS oX12_isRow (c_isRow (d + 1) (am_s1 σ 69 (upd (σ 69) 0 0)) k) rfl rfl rfl rfl (Nat.le_of_ble_eq_true rfl) (by omega) ?_
  refine GS.if_eq rfl (fun c9 => ?_) (fun c9 => ?_)
  · have hbad : ¬ (okr k ∧ okn n 13) := fun h => am_b0.mp c9 h.1
    refine GS.run [] 1 rfl ?_
    refine GS.iret rfl rfl (rfl) ?_
    have hq : qWords r s f k i n = (-1000001, s, f) := by unfold qWords; rw [if_neg hbad]
    rw [hq]
    exact ⟨rfl, hy.kept rfl, hf, sameM.rf.fld (by decide)⟩
  · have g1 : okr k := am_bT c9
    refine GS.run [] 4 rfl ?_
    refine GS.cS oX12_in (c_inI (d + 2) (am_s1 σ 69 (upd (σ 69) 0 0)) n 0 12 (okn n 13) (by rw [show (0 : Int64).toInt = 0 from rfl, show (12 : Int64).toInt = 12 from rfl]; omega)) rfl rfl rfl rfl (Nat.le_of_ble_eq_true rfl) (by omega) ?_
    refine GS.if_ne rfl (fun c21 => ?_) (fun c21 => ?_)
    · have g3 : okn n 13 := am_bT c21
      obtain ⟨a, ha, rfl⟩ := okr_nat g1
      obtain ⟨m, hm, rfl⟩ := okn_nat g3
      have ea : cn (nI a) = a := cn_nI (by omega)
      have em : cn (nI m) = m := cn_nI (by omega)
      have h40 := (hwf a ha).2
      have tm : (nI m).toInt = m := nI_toInt (by omega)
      have ts : (nI (r.2.1 a)).toInt = r.2.1 a := nI_toInt (by omega)
      refine GS.run [] 3 rfl ?_
      refine GS.ald (a) rfl rfl (rfl) (by omega) ?_
      rw [show (am_s1 σ 69 (upd (σ 69) 0 0)) 70 a = r.1 a from m_lane (σ := σ) hr ha]
      refine GS.if_ge rfl (fun c33 => ?_) (fun c33 => ?_)
      · have k1 : ¬ (r.1 a).toInt < 0 := by rw [tI_le, tI_0] at c33; omega
        refine GS.run [] 1 rfl ?_
        refine GS.if_lt rfl (fun c43 => ?_) (fun c43 => ?_)
        · have k2 : beyR (r.2.1 a) i (nI m) := Or.inl (by rw [tI_lt, tI_0] at c43; exact c43)
          refine GS.run [] 2 rfl ?_
          refine GS.cV oX12_finding (c_finding (d + 2) (am_s1 σ 69 (upd (σ 69) 0 0)) 2) rfl rfl rfl rfl rfl rfl rfl (Nat.le_of_ble_eq_true rfl) (by omega) ?_
          refine GS.iret rfl rfl (rfl) ?_
          have hq : qWords r s f (nI a) i (nI m) = (-1000012, s, 2) := by unfold qWords; rw [if_pos ⟨g1, g3⟩, ea, if_neg k1, if_pos k2]
          rw [hq]
          exact ⟨rfl, hy.kept rfl, rfl, (sameM.rf.fld (by decide)).fld (by decide)⟩
        · have k3 : ¬ i.toInt < 0 := by rw [tI_lt, tI_0] at c43; exact c43
          refine GS.run [] 8 rfl ?_
          refine GS.ald (a) rfl rfl (rfl) (by omega) ?_
          rw [show (am_s1 σ 69 (upd (σ 69) 0 0)) 71 a = nI (r.2.1 a) from m_size (σ := σ) hr ha]
          refine GS.run [] 2 rfl ?_
          refine GS.if_le rfl (fun c59 => ?_) (fun c59 => ?_)
          · have k5 := (lg_cmp_le _ _).mp c59
            rw [Int64.le_iff_toInt_le, l_add, Int32.toInt_toInt64, tm, ts] at k5
            have k2 : ¬ beyR (r.2.1 a) i (nI m) := by unfold beyR; omega
            obtain ⟨b, hb, rfl⟩ := nat_of (i := i) (m := 40) (by omega) (by omega)
            have eb : cn (nI b) = b := cn_nI (by omega)
            have tb : (nI b).toInt = b := nI_toInt (by omega)
            have hbm : b + m ≤ r.2.1 a := by omega
            have hq : qWords r s f (nI a) (nI b) (nI m) = if allW r a b m then (nI m, ySet r a b m, 0) else (-1000001, s, f) := by unfold qWords; rw [if_pos ⟨g1, g3⟩, ea, eb, em, if_neg k1, if_neg k2]
            refine GS.run [] 2 rfl ?_
            have loop71 : ∀ (fu : Nat) (j : Nat) (hj : j ≤ m) (hall : ∀ x, x < j → isWI (r.2.2 (40 * a + (b + x)))), m - j = fu → GS none mX12_words (d + 3) (fun x σ' => x = some (.int (qWords r s f (nI a) (nI b) (nI m)).1) ∧ sayM 75 0 σ' (qWords r s f (nI a) (nI b) (nI m)).2.1 ∧ σ' 69 1 = (qWords r s f (nI a) (nI b) (nI m)).2.2 ∧ sameM [75] [0, 1] σ σ') 71 [.ref 69, .int (nI a), .int (nI b), .int (nI m), .int (nI j)] [] (am_s1 σ 69 (upd (σ 69) 0 0)) := by
              intro fu
              induction fu using Nat.strongRecOn with
              | ind fu ih71 =>
                intro j hj hall hfu
                refine GS.run [] 2 rfl ?_
                refine GS.icmp_ge rfl (fun c74 => ?_) (fun c74 => ?_)
                · have e : m = j := by have := (nI_leI (by omega) (by omega)).mp c74; omega
                  subst e
                  refine GS.run [] 7 rfl ?_
                  refine GS.ast (0) rfl rfl (rfl) (by omega) ?_
                  refine GS.run [] 2 rfl ?_
                  have loop121 : ∀ (fu : Nat) (j : Nat) (hj : j ≤ m), m - j = fu → GS none mX12_words (d + 3) (fun x σ' => x = some (.int (qWords r s f (nI a) (nI b) (nI m)).1) ∧ sayM 75 0 σ' (qWords r s f (nI a) (nI b) (nI m)).2.1 ∧ σ' 69 1 = (qWords r s f (nI a) (nI b) (nI m)).2.2 ∧ sameM [75] [0, 1] σ σ') 121 [.ref 69, .int (nI a), .int (nI b), .int (nI m), .int (nI j)] [] (am_s1 (am_s1 (am_s1 σ 69 (upd (σ 69) 0 0)) 69 (upd ((am_s1 σ 69 (upd (σ 69) 0 0)) 69) 1 0)) 75 (wdF (σ 75) m (fun x => r.2.2 (40 * a + (b + x))) j)) := by
                    intro fu
                    induction fu using Nat.strongRecOn with
                    | ind fu ih121 =>
                      intro j hj hfu
                      refine GS.run [] 2 rfl ?_
                      refine GS.icmp_ge rfl (fun c124 => ?_) (fun c124 => ?_)
                      · have e : m = j := by have := (nI_leI (by omega) (by omega)).mp c124; omega
                        subst e
                        refine GS.run [] 1 rfl ?_
                        refine GS.iret rfl rfl (rfl) ?_
                        rw [hq, if_pos hall]
                        refine ⟨rfl, ⟨rfl, fun x hx => ?_⟩, rfl, ((sameM.rf.fld (by decide)).fld (by decide)).cell (by decide) (by decide)⟩
                        have hx2 : x < m := hx
                        show (if 0 + 1 + x = 0 then nI m else if 0 + 1 + x ≤ m then r.2.2 (40 * a + (b + (0 + 1 + x - 1))) else σ 75 (0 + 1 + x)) = nI (cn (r.2.2 (40 * a + (b + x))))
                        rw [if_neg (by omega), if_pos (by omega), show 0 + 1 + x - 1 = x by omega]
                        exact (isWI_n (hall x hx2)).2
                      · have hlt : j < m := (nI_gtI (by omega) (by omega)).mp c124
                        refine GS.run [] 14 rfl ?_
                        refine GS.ald (40 * a + (b + j)) rfl rfl (he_item) (by omega) ?_
                        rw [show (am_s1 (am_s1 (am_s1 σ 69 (upd (σ 69) 0 0)) 69 (upd ((am_s1 σ 69 (upd (σ 69) 0 0)) 69) 1 0)) 75 (wdF (σ 75) m (fun x => r.2.2 (40 * a + (b + x))) j)) 72 (40 * a + (b + j)) = r.2.2 (40 * a + (b + j)) from (hr a ha).2.2 _ (by omega)]
                        refine GS.ast (1 + j) rfl rfl (he_1) (by omega) ?_
                        refine GS.run [] 2 rfl ?_
                        rw [am_s1_s1, nI_1, show upd ((am_s1 (am_s1 (am_s1 σ 69 (upd (σ 69) 0 0)) 69 (upd ((am_s1 σ 69 (upd (σ 69) 0 0)) 69) 1 0)) 75 (wdF (σ 75) m (fun x => r.2.2 (40 * a + (b + x))) j)) 75) (1 + j) (r.2.2 (40 * a + (b + j))) = wdF (σ 75) m (fun x => r.2.2 (40 * a + (b + x))) (j + 1) from wdF_s _ _ (fun x => r.2.2 (40 * a + (b + x))) _]
                        exact ih121 _ (by omega) (j + 1) (by omega) rfl
                  have e0 := loop121 _ 0 (Nat.zero_le _) rfl
                  rw [← wdF_0] at e0
                  exact e0
                · have hlt : j < m := (nI_gtI (by omega) (by omega)).mp c74
                  refine GS.run [] 9 rfl ?_
                  refine GS.ald (40 * a + (b + j)) rfl rfl (he_item) (by omega) ?_
                  rw [show (am_s1 σ 69 (upd (σ 69) 0 0)) 72 (40 * a + (b + j)) = r.2.2 (40 * a + (b + j)) from (hr a ha).2.2 _ (by omega)]
                  refine GS.cS oX12_isWordNumber (c_isWordNo (d + 1) (am_s1 σ 69 (upd (σ 69) 0 0)) (r.2.2 (40 * a + (b + j)))) rfl rfl rfl rfl (Nat.le_of_ble_eq_true rfl) (by omega) ?_
                  refine GS.if_ne rfl (fun c94 => ?_) (fun c94 => ?_)
                  · have g4 : isWI (r.2.2 (40 * a + (b + j))) := am_bT c94
                    refine GS.run [] 2 rfl ?_
                    rw [nI_1]
                    exact ih71 _ (by omega) (j + 1) (by omega) (fun x hx => by
                      by_cases h : x = j
                      · rw [h]; exact g4
                      · exact hall x (by omega)) rfl
                  · have g4 : ¬ isWI (r.2.2 (40 * a + (b + j))) := am_b0.mp c94
                    refine GS.run [] 1 rfl ?_
                    refine GS.iret rfl rfl (rfl) ?_
                    rw [hq, if_neg (fun h : allW r a b m => g4 (h j hlt))]
                    exact ⟨rfl, hy.kept rfl, hf, sameM.rf.fld (by decide)⟩
            exact loop71 _ 0 (Nat.zero_le _) (fun x hx => absurd hx (Nat.not_lt_zero _)) rfl
          · have k5 : ¬ (i.toInt64 + (nI m).toInt64 ≤ (nI (r.2.1 a)).toInt64) := fun z => c59 ((lg_cmp_le _ _).mpr z)
            rw [Int64.le_iff_toInt_le, l_add, Int32.toInt_toInt64, tm, ts] at k5
            have k2 : beyR (r.2.1 a) i (nI m) := Or.inr (Or.inr (by omega))
            refine GS.run [] 2 rfl ?_
            refine GS.cV oX12_finding (c_finding (d + 2) (am_s1 σ 69 (upd (σ 69) 0 0)) 2) rfl rfl rfl rfl rfl rfl rfl (Nat.le_of_ble_eq_true rfl) (by omega) ?_
            refine GS.iret rfl rfl (rfl) ?_
            have hq : qWords r s f (nI a) i (nI m) = (-1000012, s, 2) := by unfold qWords; rw [if_pos ⟨g1, g3⟩, ea, if_neg k1, if_pos k2]
            rw [hq]
            exact ⟨rfl, hy.kept rfl, rfl, (sameM.rf.fld (by decide)).fld (by decide)⟩
      · have k1 : (r.1 a).toInt < 0 := by rw [tI_le, tI_0] at c33; omega
        refine GS.run [] 2 rfl ?_
        refine GS.cV oX12_finding (c_finding (d + 2) (am_s1 σ 69 (upd (σ 69) 0 0)) 1) rfl rfl rfl rfl rfl rfl rfl (Nat.le_of_ble_eq_true rfl) (by omega) ?_
        refine GS.iret rfl rfl (rfl) ?_
        have hq : qWords r s f (nI a) i (nI m) = (-1000011, s, 1) := by unfold qWords; rw [if_pos ⟨g1, g3⟩, ea, if_pos k1]
        rw [hq]
        exact ⟨rfl, hy.kept rfl, rfl, (sameM.rf.fld (by decide)).fld (by decide)⟩
    · have hbad : ¬ (okr k ∧ okn n 13) := fun h => am_b0.mp c21 h.2
      refine GS.run [] 1 rfl ?_
      refine GS.iret rfl rfl (rfl) ?_
      have hq : qWords r s f k i n = (-1000001, s, f) := by unfold qWords; rw [if_neg hbad]
      rw [hq]
      exact ⟨rfl, hy.kept rfl, hf, sameM.rf.fld (by decide)⟩
