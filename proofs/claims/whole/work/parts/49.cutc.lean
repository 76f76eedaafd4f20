theorem c_sortOf (d : Nat) (σ : am_S) (b : Nat) (hb : b < 256) : CallS mX7_sortOf (d) [.int (nI b)] σ (am_det (some (.int (nI (kdB b)))) σ) := by
  refine CallS.of kX7_sortOf pX7_sortOf [.int (nI b)] rfl (Nat.le_of_ble_eq_true rfl) ?_
  refine GS.run [] 2 rfl ?_
  refine GS.icmp_eq rfl (fun c3 => ?_) (fun c3 => ?_)
  · have k1 : b = 32 ∨ b = 10 := Or.inl ((nI_eq (b := 32) (by omega) (by omega)).mp c3)
    refine GS.run [] 1 rfl ?_
    refine GS.iret rfl rfl (rfl) ?_
    unfold kdB
    rw [if_pos k1]
    exact ⟨rfl, rfl⟩
  · have k0 : ¬ b = 32 := fun q => c3 (by rw [q]; rfl)
    refine GS.run [] 2 rfl ?_
    refine GS.icmp_ne rfl (fun c9 => ?_) (fun c9 => ?_)
    · have k1 : ¬ (b = 32 ∨ b = 10) := fun q => q.elim k0 (fun q => c9 (by rw [q]; rfl))
      refine GS.run [] 2 rfl ?_
      refine GS.icmp_lt rfl (fun c17 => ?_) (fun c17 => ?_)
      · have k2 : ¬ (97 ≤ b ∧ b ≤ 122) := fun q => by have := (nI_ltI (b := 97) (by omega) (by omega)).mp c17; omega
        refine GS.run [] 2 rfl ?_
        refine GS.icmp_lt rfl (fun c31 => ?_) (fun c31 => ?_)
        · have k3 : ¬ (48 ≤ b ∧ b ≤ 57) := fun q => by have := (nI_ltI (b := 48) (by omega) (by omega)).mp c31; omega
          refine GS.run [] 2 rfl ?_
          refine GS.icmp_ne rfl (fun c45 => ?_) (fun c45 => ?_)
          · have k4 : ¬ b = 59 := fun q => c45 (by rw [q]; rfl)
            refine GS.run [] 1 rfl ?_
            refine GS.iret rfl rfl (rfl) ?_
            unfold kdB
            rw [if_neg k1, if_neg k2, if_neg k3]
            first
              | (rw [if_pos k4]; exact ⟨rfl, rfl⟩)
              | (rw [if_neg k4]; exact ⟨rfl, rfl⟩)
          · have k4 : b = 59 := (nI_eq (b := 59) (by omega) (by omega)).mp c45
            refine GS.run [] 2 rfl ?_
            refine GS.iret rfl rfl (rfl) ?_
            unfold kdB
            rw [if_neg k1, if_neg k2, if_neg k3]
            first
              | (rw [if_pos k4]; exact ⟨rfl, rfl⟩)
              | (rw [if_neg k4]; exact ⟨rfl, rfl⟩)
        · have k30 : 48 ≤ b := by have := (nI_geI (b := 48) (by omega) (by omega)).mp c31; omega
          refine GS.run [] 2 rfl ?_
          refine GS.icmp_gt rfl (fun c37 => ?_) (fun c37 => ?_)
          · have k3 : ¬ (48 ≤ b ∧ b ≤ 57) := fun q => by have := (nI_ltI (a := 57) (by omega) (by omega)).mp c37; omega
            refine GS.run [] 2 rfl ?_
            refine GS.icmp_ne rfl (fun c45 => ?_) (fun c45 => ?_)
            · have k4 : ¬ b = 59 := fun q => c45 (by rw [q]; rfl)
              refine GS.run [] 1 rfl ?_
              refine GS.iret rfl rfl (rfl) ?_
              unfold kdB
              rw [if_neg k1, if_neg k2, if_neg k3]
              first
                | (rw [if_pos k4]; exact ⟨rfl, rfl⟩)
                | (rw [if_neg k4]; exact ⟨rfl, rfl⟩)
            · have k4 : b = 59 := (nI_eq (b := 59) (by omega) (by omega)).mp c45
              refine GS.run [] 2 rfl ?_
              refine GS.iret rfl rfl (rfl) ?_
              unfold kdB
              rw [if_neg k1, if_neg k2, if_neg k3]
              first
                | (rw [if_pos k4]; exact ⟨rfl, rfl⟩)
                | (rw [if_neg k4]; exact ⟨rfl, rfl⟩)
          · have k3 : 48 ≤ b ∧ b ≤ 57 := ⟨k30, by have := (nI_geI (a := 57) (by omega) (by omega)).mp c37; omega⟩
            refine GS.run [] 1 rfl ?_
            refine GS.iret rfl rfl (rfl) ?_
            unfold kdB
            rw [if_neg k1, if_neg k2, if_pos k3]
            exact ⟨rfl, rfl⟩
      · have k20 : 97 ≤ b := by have := (nI_geI (b := 97) (by omega) (by omega)).mp c17; omega
        refine GS.run [] 2 rfl ?_
        refine GS.icmp_gt rfl (fun c23 => ?_) (fun c23 => ?_)
        · have k2 : ¬ (97 ≤ b ∧ b ≤ 122) := fun q => by have := (nI_ltI (a := 122) (by omega) (by omega)).mp c23; omega
          refine GS.run [] 2 rfl ?_
          refine GS.icmp_lt rfl (fun c31 => ?_) (fun c31 => ?_)
          · have k3 : ¬ (48 ≤ b ∧ b ≤ 57) := fun q => by have := (nI_ltI (b := 48) (by omega) (by omega)).mp c31; omega
            refine GS.run [] 2 rfl ?_
            refine GS.icmp_ne rfl (fun c45 => ?_) (fun c45 => ?_)
            · have k4 : ¬ b = 59 := fun q => c45 (by rw [q]; rfl)
              refine GS.run [] 1 rfl ?_
              refine GS.iret rfl rfl (rfl) ?_
              unfold kdB
              rw [if_neg k1, if_neg k2, if_neg k3]
              first
                | (rw [if_pos k4]; exact ⟨rfl, rfl⟩)
                | (rw [if_neg k4]; exact ⟨rfl, rfl⟩)
            · have k4 : b = 59 := (nI_eq (b := 59) (by omega) (by omega)).mp c45
              refine GS.run [] 2 rfl ?_
              refine GS.iret rfl rfl (rfl) ?_
              unfold kdB
              rw [if_neg k1, if_neg k2, if_neg k3]
              first
                | (rw [if_pos k4]; exact ⟨rfl, rfl⟩)
                | (rw [if_neg k4]; exact ⟨rfl, rfl⟩)
          · have k30 : 48 ≤ b := by have := (nI_geI (b := 48) (by omega) (by omega)).mp c31; omega
            refine GS.run [] 2 rfl ?_
            refine GS.icmp_gt rfl (fun c37 => ?_) (fun c37 => ?_)
            · have k3 : ¬ (48 ≤ b ∧ b ≤ 57) := fun q => by have := (nI_ltI (a := 57) (by omega) (by omega)).mp c37; omega
              refine GS.run [] 2 rfl ?_
              refine GS.icmp_ne rfl (fun c45 => ?_) (fun c45 => ?_)
              · have k4 : ¬ b = 59 := fun q => c45 (by rw [q]; rfl)
                refine GS.run [] 1 rfl ?_
                refine GS.iret rfl rfl (rfl) ?_
                unfold kdB
                rw [if_neg k1, if_neg k2, if_neg k3]
                first
                  | (rw [if_pos k4]; exact ⟨rfl, rfl⟩)
                  | (rw [if_neg k4]; exact ⟨rfl, rfl⟩)
              · have k4 : b = 59 := (nI_eq (b := 59) (by omega) (by omega)).mp c45
                refine GS.run [] 2 rfl ?_
                refine GS.iret rfl rfl (rfl) ?_
                unfold kdB
                rw [if_neg k1, if_neg k2, if_neg k3]
                first
                  | (rw [if_pos k4]; exact ⟨rfl, rfl⟩)
                  | (rw [if_neg k4]; exact ⟨rfl, rfl⟩)
            · have k3 : 48 ≤ b ∧ b ≤ 57 := ⟨k30, by have := (nI_geI (a := 57) (by omega) (by omega)).mp c37; omega⟩
              refine GS.run [] 1 rfl ?_
              refine GS.iret rfl rfl (rfl) ?_
              unfold kdB
              rw [if_neg k1, if_neg k2, if_pos k3]
              exact ⟨rfl, rfl⟩
        · have k2 : 97 ≤ b ∧ b ≤ 122 := ⟨k20, by have := (nI_geI (a := 122) (by omega) (by omega)).mp c23; omega⟩
          refine GS.run [] 1 rfl ?_
          refine GS.iret rfl rfl (rfl) ?_
          unfold kdB
          rw [if_neg k1, if_pos k2]
          exact ⟨rfl, rfl⟩
    · have k1 : b = 32 ∨ b = 10 := Or.inr ((nI_eq (b := 10) (by omega) (by omega)).mp c9)
      refine GS.run [] 1 rfl ?_
      refine GS.iret rfl rfl (rfl) ?_
      unfold kdB
      rw [if_pos k1]
      exact ⟨rfl, rfl⟩
theorem c_behindRun (d : Nat) (σ : am_S) (p : Tp) (ht : tapeV 5 1 6 σ p) (hp : wfP p) (i : Nat) (hi : i < p.1) : CallS mX7_behindRun (d + 2) [.ref 5, .int (nI i), .int (nI (kdB (p.2 i)))] σ (am_det (some (.int (nI (tkE p i)))) σ) := by
  refine CallS.of kX7_behindRun pX7_behindRun [.ref 5, .int (nI i), .int (nI (kdB (p.2 i))), .retAddr 0] rfl (Nat.le_of_ble_eq_true rfl) ?_
  have h400 := hp.1
  have hk5 := (kdB_le (b := p.2 i)).1
  refine GS.run [] 4 rfl ?_
  have loop4 : ∀ (fu : Nat) (x : Nat) (hx1 : i + 1 ≤ x) (hx2 : x ≤ p.1) (hr : ∀ y, i + 1 ≤ y → y < x → kdB (p.2 y) = kdB (p.2 i)) (hno : ¬ (kdB (p.2 i) = 1 ∨ kdB (p.2 i) = 2) → x = i + 1), p.1 - x = fu → GS none mX7_behindRun (d + 2) (am_det (some (.int (nI (tkE p i)))) σ) 4 [.ref 5, .int (nI i), .int (nI (kdB (p.2 i))), .int (nI x)] [] σ := by
    intro fu
    induction fu using Nat.strongRecOn with
    | ind fu ih4 =>
      intro x hx1 hx2 hr hno hfu
      refine GS.run [] 3 rfl ?_
      rw [ht.1]
      refine GS.run [] 0 rfl ?_
      refine GS.icmp_ge rfl (fun c9 => ?_) (fun c9 => ?_)
      · have e0 : x = p.1 := by have := (nI_leI (by omega) (by omega)).mp c9; omega
        have hE : tkE p i = x := by
          unfold tkE
          by_cases q : kdB (p.2 i) = 1 ∨ kdB (p.2 i) = 2
          · rw [if_pos q]; exact stp_is hx1 hx2 (fun y h1 h2 => isK_t.mpr (hr y h1 h2)) (fun h => absurd h (by omega))
          · rw [if_neg q]; exact (hno q).symm
        refine GS.run [] 1 rfl ?_
        refine GS.iret rfl rfl (rfl) ?_
        rw [hE]
        exact ⟨rfl, rfl⟩
      · have hl : x < p.1 := (nI_gtI (by omega) (by omega)).mp c9
        have hxb := hp.2 x hl
        refine GS.run [] 2 rfl ?_
        refine GS.icmp_eq rfl (fun c14 => ?_) (fun c14 => ?_)
        · have k1 : kdB (p.2 i) = 1 ∨ kdB (p.2 i) = 2 := Or.inl ((nI_eq (b := 1) (by omega) (by omega)).mp c14)
          refine GS.run [] 3 rfl ?_
          refine GS.cS oX11_at ((c_at (d + 1) σ 6 400 (nI x) rfl).eq (congrArg (fun z => some (Value.int z)) (v_get (by omega) (by omega) (ht.2 x hl))) rfl) rfl rfl rfl rfl (Nat.le_of_ble_eq_true rfl) (by omega) ?_
          refine GS.cS oX7_sortOf (c_sortOf (d + 1) σ (p.2 x) hxb) rfl rfl rfl rfl (Nat.le_of_ble_eq_true rfl) (by omega) ?_
          refine GS.run [] 1 rfl ?_
          have hx5 := (kdB_le (b := p.2 x)).1
          refine GS.run [] 0 rfl ?_
          refine GS.icmp_ne rfl (fun c34 => ?_) (fun c34 => ?_)
          · have k2 : ¬ kdB (p.2 x) = kdB (p.2 i) := fun q => c34 (by rw [q])
            have hE : tkE p i = x := by unfold tkE; rw [if_pos k1]; exact stp_is hx1 hx2 (fun y h1 h2 => isK_t.mpr (hr y h1 h2)) (fun _ => isK_f.mpr k2)
            refine GS.run [] 1 rfl ?_
            refine GS.iret rfl rfl (rfl) ?_
            rw [hE]
            exact ⟨rfl, rfl⟩
          · have k2 : kdB (p.2 x) = kdB (p.2 i) := (nI_eq (by omega) (by omega)).mp c34
            refine GS.run [] 2 rfl ?_
            rw [show nI x + 1 = nI (x + 1) from nI_1 x]
            exact ih4 _ (by omega) (x + 1) (by omega) (by omega) (fun y h1 h2 => by
              by_cases e : y = x
              · rw [e]; exact k2
              · exact hr y h1 (by omega)) (fun q => absurd k1 q) rfl
        · have k0 : ¬ kdB (p.2 i) = 1 := fun q => c14 (by rw [q]; rfl)
          refine GS.run [] 2 rfl ?_
          refine GS.icmp_ne rfl (fun c19 => ?_) (fun c19 => ?_)
          · have k1 : ¬ (kdB (p.2 i) = 1 ∨ kdB (p.2 i) = 2) := fun q => q.elim k0 (fun q => c19 (by rw [q]; rfl))
            have hE : tkE p i = x := by unfold tkE; rw [if_neg k1]; exact (hno k1).symm
            refine GS.run [] 1 rfl ?_
            refine GS.iret rfl rfl (rfl) ?_
            rw [hE]
            exact ⟨rfl, rfl⟩
          · have k1 : kdB (p.2 i) = 1 ∨ kdB (p.2 i) = 2 := Or.inr ((nI_eq (b := 2) (by omega) (by omega)).mp c19)
            refine GS.run [] 3 rfl ?_
            refine GS.cS oX11_at ((c_at (d + 1) σ 6 400 (nI x) rfl).eq (congrArg (fun z => some (Value.int z)) (v_get (by omega) (by omega) (ht.2 x hl))) rfl) rfl rfl rfl rfl (Nat.le_of_ble_eq_true rfl) (by omega) ?_
            refine GS.cS oX7_sortOf (c_sortOf (d + 1) σ (p.2 x) hxb) rfl rfl rfl rfl (Nat.le_of_ble_eq_true rfl) (by omega) ?_
            refine GS.run [] 1 rfl ?_
            have hx5 := (kdB_le (b := p.2 x)).1
            refine GS.run [] 0 rfl ?_
            refine GS.icmp_ne rfl (fun c34 => ?_) (fun c34 => ?_)
            · have k2 : ¬ kdB (p.2 x) = kdB (p.2 i) := fun q => c34 (by rw [q])
              have hE : tkE p i = x := by unfold tkE; rw [if_pos k1]; exact stp_is hx1 hx2 (fun y h1 h2 => isK_t.mpr (hr y h1 h2)) (fun _ => isK_f.mpr k2)
              refine GS.run [] 1 rfl ?_
              refine GS.iret rfl rfl (rfl) ?_
              rw [hE]
              exact ⟨rfl, rfl⟩
            · have k2 : kdB (p.2 x) = kdB (p.2 i) := (nI_eq (by omega) (by omega)).mp c34
              refine GS.run [] 2 rfl ?_
              rw [show nI x + 1 = nI (x + 1) from nI_1 x]
              exact ih4 _ (by omega) (x + 1) (by omega) (by omega) (fun y h1 h2 => by
                by_cases e : y = x
                · rw [e]; exact k2
                · exact hr y h1 (by omega)) (fun q => absurd k1 q) rfl
  rw [nI_1]
  exact loop4 _ (i + 1) (Nat.le_refl _) (by omega) (fun y h1 h2 => by omega) (fun _ => rfl) rfl
theorem c_spelling (d : Nat) (σ : am_S) (k : Nat) (hk : k < 11) : CallS mX7_spelling (d) [.int (nI k)] σ (am_det (some (.ref (1000 + k))) σ) := by
  refine CallS.of kX7_spelling pX7_spelling [.int (nI k)] rfl (Nat.le_of_ble_eq_true rfl) ?_
  have hk2 : k = 0 ∨ k = 1 ∨ k = 2 ∨ k = 3 ∨ k = 4 ∨ k = 5 ∨ k = 6 ∨ k = 7 ∨ k = 8 ∨ k = 9 ∨ k = 10 := by omega
  rcases hk2 with rfl | rfl | rfl | rfl | rfl | rfl | rfl | rfl | rfl | rfl | rfl
  · refine GS.run [] 1 rfl ?_
    refine GS.tabIn (t := 60) rfl (by decide) (by decide) (rfl) ?_
    refine GS.run [] 1 rfl ?_
    refine GS.aret rfl rfl (Or.inl ⟨_, rfl⟩) ?_
    exact ⟨rfl, rfl⟩
  · refine GS.run [] 1 rfl ?_
    refine GS.tabIn (t := 63) rfl (by decide) (by decide) (rfl) ?_
    refine GS.run [] 1 rfl ?_
    refine GS.aret rfl rfl (Or.inl ⟨_, rfl⟩) ?_
    exact ⟨rfl, rfl⟩
  · refine GS.run [] 1 rfl ?_
    refine GS.tabIn (t := 66) rfl (by decide) (by decide) (rfl) ?_
    refine GS.run [] 1 rfl ?_
    refine GS.aret rfl rfl (Or.inl ⟨_, rfl⟩) ?_
    exact ⟨rfl, rfl⟩
  · refine GS.run [] 1 rfl ?_
    refine GS.tabIn (t := 69) rfl (by decide) (by decide) (rfl) ?_
    refine GS.run [] 1 rfl ?_
    refine GS.aret rfl rfl (Or.inl ⟨_, rfl⟩) ?_
    exact ⟨rfl, rfl⟩
  · refine GS.run [] 1 rfl ?_
    refine GS.tabIn (t := 72) rfl (by decide) (by decide) (rfl) ?_
    refine GS.run [] 1 rfl ?_
    refine GS.aret rfl rfl (Or.inl ⟨_, rfl⟩) ?_
    exact ⟨rfl, rfl⟩
  · refine GS.run [] 1 rfl ?_
    refine GS.tabIn (t := 75) rfl (by decide) (by decide) (rfl) ?_
    refine GS.run [] 1 rfl ?_
    refine GS.aret rfl rfl (Or.inl ⟨_, rfl⟩) ?_
    exact ⟨rfl, rfl⟩
  · refine GS.run [] 1 rfl ?_
    refine GS.tabIn (t := 78) rfl (by decide) (by decide) (rfl) ?_
    refine GS.run [] 1 rfl ?_
    refine GS.aret rfl rfl (Or.inl ⟨_, rfl⟩) ?_
    exact ⟨rfl, rfl⟩
  · refine GS.run [] 1 rfl ?_
    refine GS.tabIn (t := 81) rfl (by decide) (by decide) (rfl) ?_
    refine GS.run [] 1 rfl ?_
    refine GS.aret rfl rfl (Or.inl ⟨_, rfl⟩) ?_
    exact ⟨rfl, rfl⟩
  · refine GS.run [] 1 rfl ?_
    refine GS.tabIn (t := 84) rfl (by decide) (by decide) (rfl) ?_
    refine GS.run [] 1 rfl ?_
    refine GS.aret rfl rfl (Or.inl ⟨_, rfl⟩) ?_
    exact ⟨rfl, rfl⟩
  · refine GS.run [] 1 rfl ?_
    refine GS.tabIn (t := 87) rfl (by decide) (by decide) (rfl) ?_
    refine GS.run [] 1 rfl ?_
    refine GS.aret rfl rfl (Or.inl ⟨_, rfl⟩) ?_
    exact ⟨rfl, rfl⟩
  · refine GS.run [] 1 rfl ?_
    refine GS.tabIn (t := 90) rfl (by decide) (by decide) (rfl) ?_
    refine GS.run [] 1 rfl ?_
    refine GS.aret rfl rfl (Or.inl ⟨_, rfl⟩) ?_
    exact ⟨rfl, rfl⟩
theorem c_isSpelt (d : Nat) (σ : am_S) (p : Tp) (ht : tapeV 5 1 6 σ p) (hp : wfP p) (k s n : Nat) (hk : k < 11) (hs : s + n ≤ p.1) : CallS mX7_isSpelt (d + 5) [.ref 5, .ref (1000 + k), .int (nI s), .int (nI n)] σ (am_det (some (.int (bI (spB p s n k)))) σ) := by
  refine CallS.of kX7_isSpelt pX7_isSpelt [.ref 5, .ref (1000 + k), .int (nI s), .int (nI n), .retAddr 0] rfl (Nat.le_of_ble_eq_true rfl) ?_
  have h400 := hp.1
  have h6 : am_lens.getD k 0 ≤ 6 := jlen_6 ⟨k, by omega⟩
  refine GS.run [] 1 rfl ?_
  refine GS.cT oJ0_length_8abf5 (c_jlen (d + 3) σ k (by omega)) rfl rfl rfl rfl (by omega) rfl (Nat.le_of_ble_eq_true rfl) (by omega) ?_
  refine GS.run [] 1 rfl ?_
  refine GS.icmp_eq rfl (fun c5 => ?_) (fun c5 => ?_)
  · have k1 : am_lens.getD k 0 = n := (nI_eq (by omega) (by omega)).mp c5
    refine GS.run [] 2 rfl ?_
    have loop13 : ∀ (fu : Nat) (i : Nat) (hi : i ≤ am_lens.getD k 0) (hT : al (fun i => decide (jB k i = p.2 (s + i))) i = true), am_lens.getD k 0 - i = fu → GS none mX7_isSpelt (d + 5) (am_det (some (.int (bI (spB p s n k)))) σ) 13 [.ref 5, .ref (1000 + k), .int (nI s), .int (nI n), .int (nI i)] [] σ := by
      intro fu
      induction fu using Nat.strongRecOn with
      | ind fu ih13 =>
        intro i hi hT hfu
        refine GS.run [] 2 rfl ?_
        refine GS.cT oJ0_length_8abf5 (c_jlen (d + 3) σ k (by omega)) rfl rfl rfl rfl (by omega) rfl (Nat.le_of_ble_eq_true rfl) (by omega) ?_
        refine GS.icmp_ge rfl (fun c19 => ?_) (fun c19 => ?_)
        · have e0 : i = am_lens.getD k 0 := by have := (nI_leI (by omega) (by omega)).mp c19; omega
          have hE : spB p s n k = true := by unfold spB; rw [decide_eq_true k1, ← e0, hT]; rfl
          refine GS.run [] 1 rfl ?_
          refine GS.iret rfl rfl (rfl) ?_
          rw [hE]
          exact ⟨rfl, rfl⟩
        · have hl : i < am_lens.getD k 0 := (nI_gtI (by omega) (by omega)).mp c19
          obtain ⟨j1, j2, -⟩ := jB_ok ⟨k, by omega⟩ ⟨i, by omega⟩ hl
          have j2 : jB k i < 128 := j2
          have hb := hp.2 (s + i) (by omega)
          refine GS.run [] 2 rfl ?_
          refine GS.cT oJ0_charAt_5068e (c_jchar d σ k i (by omega) hl) rfl rfl rfl rfl (by omega) rfl (Nat.le_of_ble_eq_true rfl) (by omega) ?_
          refine GS.run [] 5 rfl ?_
          rw [nI_add]
          refine GS.run [] 0 rfl ?_
          refine GS.cS oX11_at ((c_at (d + 4) σ 6 400 (nI (s + i)) rfl).eq (congrArg (fun z => some (Value.int z)) (v_get (by omega) (by omega) (ht.2 (s + i) (by omega)))) rfl) rfl rfl rfl rfl (Nat.le_of_ble_eq_true rfl) (by omega) ?_
          refine GS.icmp_eq rfl (fun c39 => ?_) (fun c39 => ?_)
          · have k2 : jB k i = p.2 (s + i) := (nI_eq (by omega) (by omega)).mp c39
            refine GS.run [] 2 rfl ?_
            rw [nI_1]
            exact ih13 _ (by omega) (i + 1) (by omega) (by rw [al, hT, decide_eq_true k2]; rfl) rfl
          · have k2 : ¬ jB k i = p.2 (s + i) := fun q => c39 (by rw [q])
            have hE : spB p s n k = false := by
              unfold spB
              rw [decide_eq_true k1, Bool.true_and]
              refine al_f (e := i + 1) ?_ (by omega)
              rw [al, hT, decide_eq_false k2]; rfl
            refine GS.run [] 1 rfl ?_
            refine GS.iret rfl rfl (rfl) ?_
            rw [hE]
            exact ⟨rfl, rfl⟩
    exact loop13 _ 0 (Nat.zero_le _) rfl rfl
  · have k1 : ¬ am_lens.getD k 0 = n := fun q => c5 (by rw [q])
    have hE : spB p s n k = false := by unfold spB; rw [decide_eq_false k1]; rfl
    refine GS.run [] 1 rfl ?_
    refine GS.iret rfl rfl (rfl) ?_
    rw [hE]
    exact ⟨rfl, rfl⟩
theorem c_nameOf (d : Nat) (σ : am_S) (p : Tp) (ht : tapeV 5 1 6 σ p) (hp : wfP p) (s n : Nat) (hs : s + n ≤ p.1) : CallS mX7_nameOf (d + 6) [.ref 5, .int (nI s), .int (nI n)] σ (am_det (some (.int (nlI (nmO p s n)))) σ) := by
  refine CallS.of kX7_nameOf pX7_nameOf [.ref 5, .int (nI s), .int (nI n), .retAddr 0] rfl (Nat.le_of_ble_eq_true rfl) ?_
  have h400 := hp.1
  refine GS.run [] 2 rfl ?_
  have loop2 : ∀ (fu : Nat) (k : Nat) (hk : k ≤ 11) (hno : ∀ i, i < k → spB p s n i = false), 11 - k = fu → GS none mX7_nameOf (d + 6) (am_det (some (.int (nlI (nmO p s n)))) σ) 2 [.ref 5, .int (nI s), .int (nI n), .int (nI k)] [] σ := by
    intro fu
    induction fu using Nat.strongRecOn with
    | ind fu ih2 =>
      intro k hk hno hfu
      refine GS.run [] 2 rfl ?_
      refine GS.icmp_ge rfl (fun c5 => ?_) (fun c5 => ?_)
      · have e0 : k = 11 := by have := (nI_leI (a := 11) (by omega) (by omega)).mp c5; omega
        subst e0
        refine GS.run [] 1 rfl ?_
        refine GS.iret rfl rfl (rfl) ?_
        unfold nmO
        rw [ufst_isN hno]
        exact ⟨rfl, rfl⟩
      · have hl : k < 11 := (nI_gtI (a := 11) (by omega) (by omega)).mp c5
        refine GS.run [] 2 rfl ?_
        refine GS.cS oX7_spelling (c_spelling (d + 5) σ k hl) rfl rfl rfl rfl (Nat.le_of_ble_eq_true rfl) (by omega) ?_
        refine GS.run [] 2 rfl ?_
        refine GS.cV oX7_isSpelt (c_isSpelt d σ p ht hp k s n hl hs) rfl rfl rfl rfl rfl rfl rfl (Nat.le_of_ble_eq_true rfl) (by omega) ?_
        refine GS.if_eq rfl (fun c18 => ?_) (fun c18 => ?_)
        · have k1 : spB p s n k = false := bI0.mp c18
          refine GS.run [] 2 rfl ?_
          rw [show nI k + 1 = nI (k + 1) from nI_1 k]
          exact ih2 _ (by omega) (k + 1) (by omega) (fun i hi => by
            by_cases e : i = k
            · rw [e]; exact k1
            · exact hno i (by omega)) rfl
        · have k1 : spB p s n k = true := bI1.mp c18
          refine GS.run [] 1 rfl ?_
          refine GS.iret rfl rfl (rfl) ?_
          unfold nmO
          rw [ufst_is k1 hno hl]
          exact ⟨rfl, rfl⟩
  exact loop2 _ 0 (Nat.zero_le _) (fun i hi => absurd hi (Nat.not_lt_zero _)) rfl
theorem dg_nI {v b : Nat} (hb : 48 ≤ b) : nI v * 10 + nI b - 48 = nI (10 * v + (b - 48)) := by
  rw [zI_n, zI_n b, show (10 : Int32) = zI 10 from rfl, show (48 : Int32) = zI 48 from rfl, zI_mul, zI_add, zI_sub, zI_n]
  congr 1
  omega
theorem c_numberOf (d : Nat) (σ : am_S) (p : Tp) (ht : tapeV 5 1 6 σ p) (hp : wfP p) (s n : Nat) (hs : s + n ≤ p.1) (hdg : ∀ x, s ≤ x → x < s + n → kdB (p.2 x) = 2) : CallS mX7_numberOf (d + 1) [.ref 5, .int (nI s), .int (nI n)] σ (am_det (some (.int (nI (dgV p s (min n 3))))) σ) := by
  refine CallS.of kX7_numberOf pX7_numberOf [.ref 5, .int (nI s), .int (nI n), .retAddr 0, .retAddr 0] rfl (Nat.le_of_ble_eq_true rfl) ?_
  have h400 := hp.1
  refine GS.run [] 4 rfl ?_
  have loop5 : ∀ (fu : Nat) (k : Nat) (hk : k ≤ min n 3), 3 - k = fu → GS none mX7_numberOf (d + 1) (am_det (some (.int (nI (dgV p s (min n 3))))) σ) 5 [.ref 5, .int (nI s), .int (nI n), .int (nI (dgV p s k)), .int (nI k)] [] σ := by
    intro fu
    induction fu using Nat.strongRecOn with
    | ind fu ih5 =>
      intro k hk hfu
      refine GS.run [] 2 rfl ?_
      refine GS.icmp_ge rfl (fun c8 => ?_) (fun c8 => ?_)
      · have e0 : k = min n 3 := by have := (nI_leI (by omega) (by omega)).mp c8; omega
        subst e0
        refine GS.run [] 1 rfl ?_
        refine GS.iret rfl rfl (rfl) ?_
        exact ⟨rfl, rfl⟩
      · have hl : k < n := (nI_gtI (by omega) (by omega)).mp c8
        refine GS.run [] 2 rfl ?_
        refine GS.icmp_ge rfl (fun c14 => ?_) (fun c14 => ?_)
        · have e0 : k = min n 3 := by have := (nI_leI (a := 3) (by omega) (by omega)).mp c14; omega
          subst e0
          refine GS.run [] 1 rfl ?_
          refine GS.iret rfl rfl (rfl) ?_
          exact ⟨rfl, rfl⟩
        · have hl3 : k < 3 := (nI_gtI (a := 3) (by omega) (by omega)).mp c14
          have hkd := kd_2 (hdg (s + k) (by omega) (by omega))
          refine GS.run [] 8 rfl ?_
          rw [nI_add]
          refine GS.run [] 0 rfl ?_
          refine GS.cS oX11_at ((c_at d σ 6 400 (nI (s + k)) rfl).eq (congrArg (fun z => some (Value.int z)) (v_get (by omega) (by omega) (ht.2 (s + k) (by omega)))) rfl) rfl rfl rfl rfl (Nat.le_of_ble_eq_true rfl) (by omega) ?_
          refine GS.run [] 6 rfl ?_
          rw [show nI k + 1 = nI (k + 1) from nI_1 k, dg_nI hkd.1]
          exact ih5 _ (by omega) (k + 1) (by omega) rfl
  exact loop5 _ 0 (Nat.zero_le _) rfl
theorem c_tnote (d : Nat) (σ : am_S) (p : Tp) (ht : tapeV 5 1 6 σ p) (hp : wfP p) (j s sort n : Nat) (hj : j ≤ 400) (hs : s ≤ 400) (hn4 : n ≤ 400) (hsrt : sort ≤ 4) (h5 : σ 5 5 = nI j) (hn : sort = 1 ∨ sort = 2 → s + n ≤ p.1) (hdg : sort = 2 → ∀ x, s ≤ x → x < s + n → kdB (p.2 x) = 2) : CallS mX7_note (d + 7) [.ref 5, .int (nI s), .int (nI sort), .int (nI n)] σ (fun r σ' => r = none ∧ σ' 5 5 = nI (j + 1) ∧ (∀ i, i ≠ 5 → σ' 5 i = σ 5 i) ∧ σ' 7 = upd (σ 7) j (nI s) ∧ σ' 8 = upd (σ 8) j (nI (if sort = 2 ∧ 3 < n then 4 else sort)) ∧ σ' 9 = upd (σ 9) j (if sort = 1 then nlI (nmO p s n) else if sort = 2 then nI (dgV p s (min n 3)) else -1) ∧ same [5, 7, 8, 9] σ σ') := by
  refine CallS.of kX7_note pX7_note [.ref 5, .int (nI s), .int (nI sort), .int (nI n), .retAddr 0] rfl (Nat.le_of_ble_eq_true rfl) ?_
  have h400 := hp.1
  refine GS.run [] 2 rfl ?_
  refine GS.icmp_ne rfl (fun c2 => ?_) (fun c2 => ?_)
  · have k2 : ¬ sort = 2 := fun q => c2 (by rw [q]; rfl)
    have hv8 : nI sort = nI (if sort = 2 ∧ 3 < n then 4 else sort) := by rw [if_neg (fun q => k2 q.1)]
    refine GS.run [] 6 rfl ?_
    rw [show σ 5 5 = nI j from h5]
    refine GS.run [] 0 rfl ?_
    refine GS.run [] 1 rfl ?_
    refine GS.cS oX11_put (c_put (d + 6) σ 7 401 (nI j) (nI s) rfl) rfl rfl rfl rfl (Nat.le_of_ble_eq_true rfl) (by omega) ?_
    rw [am_put_nI (by omega) (by omega)]
    have a7 : am_s1 σ 7 (upd (σ 7) j (nI s)) 7 = upd (σ 7) j (nI s) := am_s1_eq _ _ _
    have b7 : ∀ q, q ≠ 7 → am_s1 σ 7 (upd (σ 7) j (nI s)) q = σ q := fun q hq => am_s1_ne _ _ hq
    generalize am_s1 σ 7 (upd (σ 7) j (nI s)) = σ1 at a7 b7 ⊢
    refine GS.run [] 4 rfl ?_
    rw [show σ1 5 5 = nI j from by rw [b7 5 (by decide)]; exact h5]
    refine GS.run [] 0 rfl ?_
    refine GS.run [] 1 rfl ?_
    refine GS.if_eq rfl (fun c39 => ?_) (fun q => absurd (rfl) q)
    refine GS.run [] 1 rfl ?_
    refine GS.cS oX11_put (c_put (d + 6) σ1 8 401 (nI j) (nI sort) rfl) rfl rfl rfl rfl (Nat.le_of_ble_eq_true rfl) (by omega) ?_
    rw [am_put_nI (by omega) (by omega)]
    have a8 : am_s1 σ1 8 (upd (σ1 8) j ((nI sort))) 8 = upd (σ1 8) j ((nI sort)) := am_s1_eq _ _ _
    have b8 : ∀ q, q ≠ 8 → am_s1 σ1 8 (upd (σ1 8) j ((nI sort))) q = σ1 q := fun q hq => am_s1_ne _ _ hq
    generalize am_s1 σ1 8 (upd (σ1 8) j ((nI sort))) = σ2 at a8 b8 ⊢
    rw [hv8] at a8
    have ht2 : tapeV 5 1 6 σ2 p := ⟨by rw [b8 5 (by decide), b7 5 (by decide)]; exact ht.1, fun i hi => by rw [b8 6 (by decide), b7 6 (by decide)]; exact ht.2 i hi⟩
    have h52 : σ2 5 5 = nI j := by rw [b8 5 (by decide), b7 5 (by decide)]; exact h5
    refine GS.run [] 2 rfl ?_
    refine GS.icmp_ne rfl (fun c52 => ?_) (fun c52 => ?_)
    · have k1 : ¬ sort = 1 := fun q => c52 (by rw [q]; rfl)
      refine GS.run [] 4 rfl ?_
      rw [show σ2 5 5 = nI j from h52]
      refine GS.run [] 0 rfl ?_
      refine GS.run [] 2 rfl ?_
      refine GS.icmp_ne rfl (fun c85 => ?_) (fun c85 => ?_)
      · have k22 : ¬ sort = 2 := fun q => c85 (by rw [q]; rfl)
        have hv9 : (-1 : Int32) = (if sort = 1 then nlI (nmO p s n) else if sort = 2 then nI (dgV p s (min n 3)) else -1) := by rw [if_neg k1, if_neg k22]
        refine GS.run [] 1 rfl ?_
        refine GS.cS oX11_put (c_put (d + 6) σ2 9 401 (nI j) _ rfl) rfl rfl rfl rfl (Nat.le_of_ble_eq_true rfl) (by omega) ?_
        rw [am_put_nI (by omega) (by omega)]
        have a9 : am_s1 σ2 9 (upd (σ2 9) j (-1)) 9 = upd (σ2 9) j (-1) := am_s1_eq _ _ _
        have b9 : ∀ q, q ≠ 9 → am_s1 σ2 9 (upd (σ2 9) j (-1)) q = σ2 q := fun q hq => am_s1_ne _ _ hq
        generalize am_s1 σ2 9 (upd (σ2 9) j (-1)) = σ3 at a9 b9 ⊢
        rw [hv9] at a9
        refine GS.run [] 3 rfl ?_
        rw [show σ3 5 5 = nI j by rw [b9 5 (by decide)]; exact h52]
        refine GS.run [] 0 rfl ?_
        refine GS.run [] 3 rfl ?_
        refine GS.vret rfl rfl ?_
        have e5 : σ3 5 = σ 5 := by rw [b9 5 (by decide), b8 5 (by decide), b7 5 (by decide)]
        refine ⟨rfl, ?_, fun i hi => ?_, ?_, ?_, ?_, fun q hq => ?_⟩
        · rw [am_s1_eq, upd_eq]; exact nI_1 j
        · rw [am_s1_eq, upd_ne _ _ hi, e5]
        · rw [am_s1_ne _ _ (by decide), b9 7 (by decide), b8 7 (by decide)]; exact a7
        · rw [am_s1_ne _ _ (by decide), b9 8 (by decide), a8, b7 8 (by decide)]
        · rw [am_s1_ne _ _ (by decide), a9, b8 9 (by decide), b7 9 (by decide)]
        · have h : q ≠ 5 ∧ q ≠ 7 ∧ q ≠ 8 ∧ q ≠ 9 := by simpa using hq
          rw [am_s1_ne _ _ h.1, b9 q h.2.2.2, b8 q h.2.2.1, b7 q h.2.1]
      · have k22 : sort = 2 := (nI_eq (b := 2) (by omega) (by omega)).mp c85
        have hv9 : nI (dgV p s (min n 3)) = (if sort = 1 then nlI (nmO p s n) else if sort = 2 then nI (dgV p s (min n 3)) else -1) := by rw [if_neg k1, if_pos k22]
        refine GS.run [] 3 rfl ?_
        refine GS.cV oX7_numberOf (c_numberOf (d + 5) σ2 p ht2 hp s n (hn (Or.inr k22)) (hdg k22)) rfl rfl rfl rfl rfl rfl rfl (Nat.le_of_ble_eq_true rfl) (by omega) ?_
        refine GS.run [] 1 rfl ?_
        refine GS.cS oX11_put (c_put (d + 6) σ2 9 401 (nI j) _ rfl) rfl rfl rfl rfl (Nat.le_of_ble_eq_true rfl) (by omega) ?_
        rw [am_put_nI (by omega) (by omega)]
        have a9 : am_s1 σ2 9 (upd (σ2 9) j (nI (dgV p s (min n 3)))) 9 = upd (σ2 9) j (nI (dgV p s (min n 3))) := am_s1_eq _ _ _
        have b9 : ∀ q, q ≠ 9 → am_s1 σ2 9 (upd (σ2 9) j (nI (dgV p s (min n 3)))) q = σ2 q := fun q hq => am_s1_ne _ _ hq
        generalize am_s1 σ2 9 (upd (σ2 9) j (nI (dgV p s (min n 3)))) = σ3 at a9 b9 ⊢
        rw [hv9] at a9
        refine GS.run [] 3 rfl ?_
        rw [show σ3 5 5 = nI j by rw [b9 5 (by decide)]; exact h52]
        refine GS.run [] 0 rfl ?_
        refine GS.run [] 3 rfl ?_
        refine GS.vret rfl rfl ?_
        have e5 : σ3 5 = σ 5 := by rw [b9 5 (by decide), b8 5 (by decide), b7 5 (by decide)]
        refine ⟨rfl, ?_, fun i hi => ?_, ?_, ?_, ?_, fun q hq => ?_⟩
        · rw [am_s1_eq, upd_eq]; exact nI_1 j
        · rw [am_s1_eq, upd_ne _ _ hi, e5]
        · rw [am_s1_ne _ _ (by decide), b9 7 (by decide), b8 7 (by decide)]; exact a7
        · rw [am_s1_ne _ _ (by decide), b9 8 (by decide), a8, b7 8 (by decide)]
        · rw [am_s1_ne _ _ (by decide), a9, b8 9 (by decide), b7 9 (by decide)]
        · have h : q ≠ 5 ∧ q ≠ 7 ∧ q ≠ 8 ∧ q ≠ 9 := by simpa using hq
          rw [am_s1_ne _ _ h.1, b9 q h.2.2.2, b8 q h.2.2.1, b7 q h.2.1]
    · have k1 : sort = 1 := (nI_eq (b := 1) (by omega) (by omega)).mp c52
      have hv9 : nlI (nmO p s n) = (if sort = 1 then nlI (nmO p s n) else if sort = 2 then nI (dgV p s (min n 3)) else -1) := by rw [if_pos k1]
      refine GS.run [] 4 rfl ?_
      rw [show σ2 5 5 = nI j from h52]
      refine GS.run [] 0 rfl ?_
      refine GS.run [] 3 rfl ?_
      refine GS.cV oX7_nameOf (c_nameOf d σ2 p ht2 hp s n (hn (Or.inl k1))) rfl rfl rfl rfl rfl rfl rfl (Nat.le_of_ble_eq_true rfl) (by omega) ?_
      refine GS.cS oX11_put (c_put (d + 6) σ2 9 401 (nI j) _ rfl) rfl rfl rfl rfl (Nat.le_of_ble_eq_true rfl) (by omega) ?_
      rw [am_put_nI (by omega) (by omega)]
      have a9 : am_s1 σ2 9 (upd (σ2 9) j (nlI (nmO p s n))) 9 = upd (σ2 9) j (nlI (nmO p s n)) := am_s1_eq _ _ _
      have b9 : ∀ q, q ≠ 9 → am_s1 σ2 9 (upd (σ2 9) j (nlI (nmO p s n))) q = σ2 q := fun q hq => am_s1_ne _ _ hq
      generalize am_s1 σ2 9 (upd (σ2 9) j (nlI (nmO p s n))) = σ3 at a9 b9 ⊢
      rw [hv9] at a9
      refine GS.run [] 4 rfl ?_
      rw [show σ3 5 5 = nI j by rw [b9 5 (by decide)]; exact h52]
      refine GS.run [] 0 rfl ?_
      refine GS.run [] 3 rfl ?_
      refine GS.vret rfl rfl ?_
      have e5 : σ3 5 = σ 5 := by rw [b9 5 (by decide), b8 5 (by decide), b7 5 (by decide)]
      refine ⟨rfl, ?_, fun i hi => ?_, ?_, ?_, ?_, fun q hq => ?_⟩
      · rw [am_s1_eq, upd_eq]; exact nI_1 j
      · rw [am_s1_eq, upd_ne _ _ hi, e5]
      · rw [am_s1_ne _ _ (by decide), b9 7 (by decide), b8 7 (by decide)]; exact a7
      · rw [am_s1_ne _ _ (by decide), b9 8 (by decide), a8, b7 8 (by decide)]
      · rw [am_s1_ne _ _ (by decide), a9, b8 9 (by decide), b7 9 (by decide)]
      · have h : q ≠ 5 ∧ q ≠ 7 ∧ q ≠ 8 ∧ q ≠ 9 := by simpa using hq
        rw [am_s1_ne _ _ h.1, b9 q h.2.2.2, b8 q h.2.2.1, b7 q h.2.1]
  · have k2 : sort = 2 := (nI_eq (b := 2) (by omega) (by omega)).mp c2
    refine GS.run [] 2 rfl ?_
    refine GS.icmp_le rfl (fun c7 => ?_) (fun c7 => ?_)
    · have k3 : ¬ 3 < n := by have := (nI_leI (b := 3) (by omega) (by omega)).mp c7; omega
      have hv8 : nI sort = nI (if sort = 2 ∧ 3 < n then 4 else sort) := by rw [if_neg (fun q => k3 q.2)]
      refine GS.run [] 6 rfl ?_
      rw [show σ 5 5 = nI j from h5]
      refine GS.run [] 0 rfl ?_
      refine GS.run [] 1 rfl ?_
      refine GS.cS oX11_put (c_put (d + 6) σ 7 401 (nI j) (nI s) rfl) rfl rfl rfl rfl (Nat.le_of_ble_eq_true rfl) (by omega) ?_
      rw [am_put_nI (by omega) (by omega)]
      have a7 : am_s1 σ 7 (upd (σ 7) j (nI s)) 7 = upd (σ 7) j (nI s) := am_s1_eq _ _ _
      have b7 : ∀ q, q ≠ 7 → am_s1 σ 7 (upd (σ 7) j (nI s)) q = σ q := fun q hq => am_s1_ne _ _ hq
      generalize am_s1 σ 7 (upd (σ 7) j (nI s)) = σ1 at a7 b7 ⊢
      refine GS.run [] 4 rfl ?_
      rw [show σ1 5 5 = nI j from by rw [b7 5 (by decide)]; exact h5]
      refine GS.run [] 0 rfl ?_
      refine GS.run [] 1 rfl ?_
      refine GS.if_eq rfl (fun c39 => ?_) (fun q => absurd (rfl) q)
      refine GS.run [] 1 rfl ?_
      refine GS.cS oX11_put (c_put (d + 6) σ1 8 401 (nI j) (nI sort) rfl) rfl rfl rfl rfl (Nat.le_of_ble_eq_true rfl) (by omega) ?_
      rw [am_put_nI (by omega) (by omega)]
      have a8 : am_s1 σ1 8 (upd (σ1 8) j ((nI sort))) 8 = upd (σ1 8) j ((nI sort)) := am_s1_eq _ _ _
      have b8 : ∀ q, q ≠ 8 → am_s1 σ1 8 (upd (σ1 8) j ((nI sort))) q = σ1 q := fun q hq => am_s1_ne _ _ hq
      generalize am_s1 σ1 8 (upd (σ1 8) j ((nI sort))) = σ2 at a8 b8 ⊢
      rw [hv8] at a8
      have ht2 : tapeV 5 1 6 σ2 p := ⟨by rw [b8 5 (by decide), b7 5 (by decide)]; exact ht.1, fun i hi => by rw [b8 6 (by decide), b7 6 (by decide)]; exact ht.2 i hi⟩
      have h52 : σ2 5 5 = nI j := by rw [b8 5 (by decide), b7 5 (by decide)]; exact h5
      refine GS.run [] 2 rfl ?_
      refine GS.icmp_ne rfl (fun c52 => ?_) (fun c52 => ?_)
      · have k1 : ¬ sort = 1 := fun q => c52 (by rw [q]; rfl)
        refine GS.run [] 4 rfl ?_
        rw [show σ2 5 5 = nI j from h52]
        refine GS.run [] 0 rfl ?_
        refine GS.run [] 2 rfl ?_
        refine GS.icmp_ne rfl (fun c85 => ?_) (fun c85 => ?_)
        · have k22 : ¬ sort = 2 := fun q => c85 (by rw [q]; rfl)
          have hv9 : (-1 : Int32) = (if sort = 1 then nlI (nmO p s n) else if sort = 2 then nI (dgV p s (min n 3)) else -1) := by rw [if_neg k1, if_neg k22]
          refine GS.run [] 1 rfl ?_
          refine GS.cS oX11_put (c_put (d + 6) σ2 9 401 (nI j) _ rfl) rfl rfl rfl rfl (Nat.le_of_ble_eq_true rfl) (by omega) ?_
          rw [am_put_nI (by omega) (by omega)]
          have a9 : am_s1 σ2 9 (upd (σ2 9) j (-1)) 9 = upd (σ2 9) j (-1) := am_s1_eq _ _ _
          have b9 : ∀ q, q ≠ 9 → am_s1 σ2 9 (upd (σ2 9) j (-1)) q = σ2 q := fun q hq => am_s1_ne _ _ hq
          generalize am_s1 σ2 9 (upd (σ2 9) j (-1)) = σ3 at a9 b9 ⊢
          rw [hv9] at a9
          refine GS.run [] 3 rfl ?_
          rw [show σ3 5 5 = nI j by rw [b9 5 (by decide)]; exact h52]
          refine GS.run [] 0 rfl ?_
          refine GS.run [] 3 rfl ?_
          refine GS.vret rfl rfl ?_
          have e5 : σ3 5 = σ 5 := by rw [b9 5 (by decide), b8 5 (by decide), b7 5 (by decide)]
          refine ⟨rfl, ?_, fun i hi => ?_, ?_, ?_, ?_, fun q hq => ?_⟩
          · rw [am_s1_eq, upd_eq]; exact nI_1 j
          · rw [am_s1_eq, upd_ne _ _ hi, e5]
          · rw [am_s1_ne _ _ (by decide), b9 7 (by decide), b8 7 (by decide)]; exact a7
          · rw [am_s1_ne _ _ (by decide), b9 8 (by decide), a8, b7 8 (by decide)]
          · rw [am_s1_ne _ _ (by decide), a9, b8 9 (by decide), b7 9 (by decide)]
          · have h : q ≠ 5 ∧ q ≠ 7 ∧ q ≠ 8 ∧ q ≠ 9 := by simpa using hq
            rw [am_s1_ne _ _ h.1, b9 q h.2.2.2, b8 q h.2.2.1, b7 q h.2.1]
        · have k22 : sort = 2 := (nI_eq (b := 2) (by omega) (by omega)).mp c85
          have hv9 : nI (dgV p s (min n 3)) = (if sort = 1 then nlI (nmO p s n) else if sort = 2 then nI (dgV p s (min n 3)) else -1) := by rw [if_neg k1, if_pos k22]
          refine GS.run [] 3 rfl ?_
          refine GS.cV oX7_numberOf (c_numberOf (d + 5) σ2 p ht2 hp s n (hn (Or.inr k22)) (hdg k22)) rfl rfl rfl rfl rfl rfl rfl (Nat.le_of_ble_eq_true rfl) (by omega) ?_
          refine GS.run [] 1 rfl ?_
          refine GS.cS oX11_put (c_put (d + 6) σ2 9 401 (nI j) _ rfl) rfl rfl rfl rfl (Nat.le_of_ble_eq_true rfl) (by omega) ?_
          rw [am_put_nI (by omega) (by omega)]
          have a9 : am_s1 σ2 9 (upd (σ2 9) j (nI (dgV p s (min n 3)))) 9 = upd (σ2 9) j (nI (dgV p s (min n 3))) := am_s1_eq _ _ _
          have b9 : ∀ q, q ≠ 9 → am_s1 σ2 9 (upd (σ2 9) j (nI (dgV p s (min n 3)))) q = σ2 q := fun q hq => am_s1_ne _ _ hq
          generalize am_s1 σ2 9 (upd (σ2 9) j (nI (dgV p s (min n 3)))) = σ3 at a9 b9 ⊢
          rw [hv9] at a9
          refine GS.run [] 3 rfl ?_
          rw [show σ3 5 5 = nI j by rw [b9 5 (by decide)]; exact h52]
          refine GS.run [] 0 rfl ?_
          refine GS.run [] 3 rfl ?_
          refine GS.vret rfl rfl ?_
          have e5 : σ3 5 = σ 5 := by rw [b9 5 (by decide), b8 5 (by decide), b7 5 (by decide)]
          refine ⟨rfl, ?_, fun i hi => ?_, ?_, ?_, ?_, fun q hq => ?_⟩
          · rw [am_s1_eq, upd_eq]; exact nI_1 j
          · rw [am_s1_eq, upd_ne _ _ hi, e5]
          · rw [am_s1_ne _ _ (by decide), b9 7 (by decide), b8 7 (by decide)]; exact a7
          · rw [am_s1_ne _ _ (by decide), b9 8 (by decide), a8, b7 8 (by decide)]
          · rw [am_s1_ne _ _ (by decide), a9, b8 9 (by decide), b7 9 (by decide)]
          · have h : q ≠ 5 ∧ q ≠ 7 ∧ q ≠ 8 ∧ q ≠ 9 := by simpa using hq
            rw [am_s1_ne _ _ h.1, b9 q h.2.2.2, b8 q h.2.2.1, b7 q h.2.1]
      · have k1 : sort = 1 := (nI_eq (b := 1) (by omega) (by omega)).mp c52
        have hv9 : nlI (nmO p s n) = (if sort = 1 then nlI (nmO p s n) else if sort = 2 then nI (dgV p s (min n 3)) else -1) := by rw [if_pos k1]
        refine GS.run [] 4 rfl ?_
        rw [show σ2 5 5 = nI j from h52]
        refine GS.run [] 0 rfl ?_
        refine GS.run [] 3 rfl ?_
        refine GS.cV oX7_nameOf (c_nameOf d σ2 p ht2 hp s n (hn (Or.inl k1))) rfl rfl rfl rfl rfl rfl rfl (Nat.le_of_ble_eq_true rfl) (by omega) ?_
        refine GS.cS oX11_put (c_put (d + 6) σ2 9 401 (nI j) _ rfl) rfl rfl rfl rfl (Nat.le_of_ble_eq_true rfl) (by omega) ?_
        rw [am_put_nI (by omega) (by omega)]
        have a9 : am_s1 σ2 9 (upd (σ2 9) j (nlI (nmO p s n))) 9 = upd (σ2 9) j (nlI (nmO p s n)) := am_s1_eq _ _ _
        have b9 : ∀ q, q ≠ 9 → am_s1 σ2 9 (upd (σ2 9) j (nlI (nmO p s n))) q = σ2 q := fun q hq => am_s1_ne _ _ hq
        generalize am_s1 σ2 9 (upd (σ2 9) j (nlI (nmO p s n))) = σ3 at a9 b9 ⊢
        rw [hv9] at a9
        refine GS.run [] 4 rfl ?_
        rw [show σ3 5 5 = nI j by rw [b9 5 (by decide)]; exact h52]
        refine GS.run [] 0 rfl ?_
        refine GS.run [] 3 rfl ?_
        refine GS.vret rfl rfl ?_
        have e5 : σ3 5 = σ 5 := by rw [b9 5 (by decide), b8 5 (by decide), b7 5 (by decide)]
        refine ⟨rfl, ?_, fun i hi => ?_, ?_, ?_, ?_, fun q hq => ?_⟩
        · rw [am_s1_eq, upd_eq]; exact nI_1 j
        · rw [am_s1_eq, upd_ne _ _ hi, e5]
        · rw [am_s1_ne _ _ (by decide), b9 7 (by decide), b8 7 (by decide)]; exact a7
        · rw [am_s1_ne _ _ (by decide), b9 8 (by decide), a8, b7 8 (by decide)]
        · rw [am_s1_ne _ _ (by decide), a9, b8 9 (by decide), b7 9 (by decide)]
        · have h : q ≠ 5 ∧ q ≠ 7 ∧ q ≠ 8 ∧ q ≠ 9 := by simpa using hq
          rw [am_s1_ne _ _ h.1, b9 q h.2.2.2, b8 q h.2.2.1, b7 q h.2.1]
    · have k3 : 3 < n := (nI_gtI (b := 3) (by omega) (by omega)).mp c7
      have hv8 : (4 : Int32) = nI (if sort = 2 ∧ 3 < n then 4 else sort) := by rw [if_pos ⟨k2, k3⟩]; rfl
      refine GS.run [] 7 rfl ?_
      rw [show σ 5 5 = nI j from h5]
      refine GS.run [] 0 rfl ?_
      refine GS.run [] 1 rfl ?_
      refine GS.cS oX11_put (c_put (d + 6) σ 7 401 (nI j) (nI s) rfl) rfl rfl rfl rfl (Nat.le_of_ble_eq_true rfl) (by omega) ?_
      rw [am_put_nI (by omega) (by omega)]
      have a7 : am_s1 σ 7 (upd (σ 7) j (nI s)) 7 = upd (σ 7) j (nI s) := am_s1_eq _ _ _
      have b7 : ∀ q, q ≠ 7 → am_s1 σ 7 (upd (σ 7) j (nI s)) q = σ q := fun q hq => am_s1_ne _ _ hq
      generalize am_s1 σ 7 (upd (σ 7) j (nI s)) = σ1 at a7 b7 ⊢
      refine GS.run [] 4 rfl ?_
      rw [show σ1 5 5 = nI j from by rw [b7 5 (by decide)]; exact h5]
      refine GS.run [] 0 rfl ?_
      refine GS.run [] 1 rfl ?_
      refine GS.if_eq rfl (fun q => absurd q (by decide)) (fun c39 => ?_)
      refine GS.run [] 2 rfl ?_
      refine GS.cS oX11_put (c_put (d + 6) σ1 8 401 (nI j) 4 rfl) rfl rfl rfl rfl (Nat.le_of_ble_eq_true rfl) (by omega) ?_
      rw [am_put_nI (by omega) (by omega)]
      have a8 : am_s1 σ1 8 (upd (σ1 8) j (4)) 8 = upd (σ1 8) j (4) := am_s1_eq _ _ _
      have b8 : ∀ q, q ≠ 8 → am_s1 σ1 8 (upd (σ1 8) j (4)) q = σ1 q := fun q hq => am_s1_ne _ _ hq
      generalize am_s1 σ1 8 (upd (σ1 8) j (4)) = σ2 at a8 b8 ⊢
      rw [hv8] at a8
      have ht2 : tapeV 5 1 6 σ2 p := ⟨by rw [b8 5 (by decide), b7 5 (by decide)]; exact ht.1, fun i hi => by rw [b8 6 (by decide), b7 6 (by decide)]; exact ht.2 i hi⟩
      have h52 : σ2 5 5 = nI j := by rw [b8 5 (by decide), b7 5 (by decide)]; exact h5
      refine GS.run [] 2 rfl ?_
      refine GS.icmp_ne rfl (fun c52 => ?_) (fun c52 => ?_)
      · have k1 : ¬ sort = 1 := fun q => c52 (by rw [q]; rfl)
        refine GS.run [] 4 rfl ?_
        rw [show σ2 5 5 = nI j from h52]
        refine GS.run [] 0 rfl ?_
        refine GS.run [] 2 rfl ?_
        refine GS.icmp_ne rfl (fun c85 => ?_) (fun c85 => ?_)
        · have k22 : ¬ sort = 2 := fun q => c85 (by rw [q]; rfl)
          have hv9 : (-1 : Int32) = (if sort = 1 then nlI (nmO p s n) else if sort = 2 then nI (dgV p s (min n 3)) else -1) := by rw [if_neg k1, if_neg k22]
          refine GS.run [] 1 rfl ?_
          refine GS.cS oX11_put (c_put (d + 6) σ2 9 401 (nI j) _ rfl) rfl rfl rfl rfl (Nat.le_of_ble_eq_true rfl) (by omega) ?_
          rw [am_put_nI (by omega) (by omega)]
          have a9 : am_s1 σ2 9 (upd (σ2 9) j (-1)) 9 = upd (σ2 9) j (-1) := am_s1_eq _ _ _
          have b9 : ∀ q, q ≠ 9 → am_s1 σ2 9 (upd (σ2 9) j (-1)) q = σ2 q := fun q hq => am_s1_ne _ _ hq
          generalize am_s1 σ2 9 (upd (σ2 9) j (-1)) = σ3 at a9 b9 ⊢
          rw [hv9] at a9
          refine GS.run [] 3 rfl ?_
          rw [show σ3 5 5 = nI j by rw [b9 5 (by decide)]; exact h52]
          refine GS.run [] 0 rfl ?_
          refine GS.run [] 3 rfl ?_
          refine GS.vret rfl rfl ?_
          have e5 : σ3 5 = σ 5 := by rw [b9 5 (by decide), b8 5 (by decide), b7 5 (by decide)]
          refine ⟨rfl, ?_, fun i hi => ?_, ?_, ?_, ?_, fun q hq => ?_⟩
          · rw [am_s1_eq, upd_eq]; exact nI_1 j
          · rw [am_s1_eq, upd_ne _ _ hi, e5]
          · rw [am_s1_ne _ _ (by decide), b9 7 (by decide), b8 7 (by decide)]; exact a7
          · rw [am_s1_ne _ _ (by decide), b9 8 (by decide), a8, b7 8 (by decide)]
          · rw [am_s1_ne _ _ (by decide), a9, b8 9 (by decide), b7 9 (by decide)]
          · have h : q ≠ 5 ∧ q ≠ 7 ∧ q ≠ 8 ∧ q ≠ 9 := by simpa using hq
            rw [am_s1_ne _ _ h.1, b9 q h.2.2.2, b8 q h.2.2.1, b7 q h.2.1]
        · have k22 : sort = 2 := (nI_eq (b := 2) (by omega) (by omega)).mp c85
          have hv9 : nI (dgV p s (min n 3)) = (if sort = 1 then nlI (nmO p s n) else if sort = 2 then nI (dgV p s (min n 3)) else -1) := by rw [if_neg k1, if_pos k22]
          refine GS.run [] 3 rfl ?_
          refine GS.cV oX7_numberOf (c_numberOf (d + 5) σ2 p ht2 hp s n (hn (Or.inr k22)) (hdg k22)) rfl rfl rfl rfl rfl rfl rfl (Nat.le_of_ble_eq_true rfl) (by omega) ?_
          refine GS.run [] 1 rfl ?_
          refine GS.cS oX11_put (c_put (d + 6) σ2 9 401 (nI j) _ rfl) rfl rfl rfl rfl (Nat.le_of_ble_eq_true rfl) (by omega) ?_
          rw [am_put_nI (by omega) (by omega)]
          have a9 : am_s1 σ2 9 (upd (σ2 9) j (nI (dgV p s (min n 3)))) 9 = upd (σ2 9) j (nI (dgV p s (min n 3))) := am_s1_eq _ _ _
          have b9 : ∀ q, q ≠ 9 → am_s1 σ2 9 (upd (σ2 9) j (nI (dgV p s (min n 3)))) q = σ2 q := fun q hq => am_s1_ne _ _ hq
          generalize am_s1 σ2 9 (upd (σ2 9) j (nI (dgV p s (min n 3)))) = σ3 at a9 b9 ⊢
          rw [hv9] at a9
          refine GS.run [] 3 rfl ?_
          rw [show σ3 5 5 = nI j by rw [b9 5 (by decide)]; exact h52]
          refine GS.run [] 0 rfl ?_
          refine GS.run [] 3 rfl ?_
          refine GS.vret rfl rfl ?_
          have e5 : σ3 5 = σ 5 := by rw [b9 5 (by decide), b8 5 (by decide), b7 5 (by decide)]
          refine ⟨rfl, ?_, fun i hi => ?_, ?_, ?_, ?_, fun q hq => ?_⟩
          · rw [am_s1_eq, upd_eq]; exact nI_1 j
          · rw [am_s1_eq, upd_ne _ _ hi, e5]
          · rw [am_s1_ne _ _ (by decide), b9 7 (by decide), b8 7 (by decide)]; exact a7
          · rw [am_s1_ne _ _ (by decide), b9 8 (by decide), a8, b7 8 (by decide)]
          · rw [am_s1_ne _ _ (by decide), a9, b8 9 (by decide), b7 9 (by decide)]
          · have h : q ≠ 5 ∧ q ≠ 7 ∧ q ≠ 8 ∧ q ≠ 9 := by simpa using hq
            rw [am_s1_ne _ _ h.1, b9 q h.2.2.2, b8 q h.2.2.1, b7 q h.2.1]
      · have k1 : sort = 1 := (nI_eq (b := 1) (by omega) (by omega)).mp c52
        have hv9 : nlI (nmO p s n) = (if sort = 1 then nlI (nmO p s n) else if sort = 2 then nI (dgV p s (min n 3)) else -1) := by rw [if_pos k1]
        refine GS.run [] 4 rfl ?_
        rw [show σ2 5 5 = nI j from h52]
        refine GS.run [] 0 rfl ?_
        refine GS.run [] 3 rfl ?_
        refine GS.cV oX7_nameOf (c_nameOf d σ2 p ht2 hp s n (hn (Or.inl k1))) rfl rfl rfl rfl rfl rfl rfl (Nat.le_of_ble_eq_true rfl) (by omega) ?_
        refine GS.cS oX11_put (c_put (d + 6) σ2 9 401 (nI j) _ rfl) rfl rfl rfl rfl (Nat.le_of_ble_eq_true rfl) (by omega) ?_
        rw [am_put_nI (by omega) (by omega)]
        have a9 : am_s1 σ2 9 (upd (σ2 9) j (nlI (nmO p s n))) 9 = upd (σ2 9) j (nlI (nmO p s n)) := am_s1_eq _ _ _
        have b9 : ∀ q, q ≠ 9 → am_s1 σ2 9 (upd (σ2 9) j (nlI (nmO p s n))) q = σ2 q := fun q hq => am_s1_ne _ _ hq
        generalize am_s1 σ2 9 (upd (σ2 9) j (nlI (nmO p s n))) = σ3 at a9 b9 ⊢
        rw [hv9] at a9
        refine GS.run [] 4 rfl ?_
        rw [show σ3 5 5 = nI j by rw [b9 5 (by decide)]; exact h52]
        refine GS.run [] 0 rfl ?_
        refine GS.run [] 3 rfl ?_
        refine GS.vret rfl rfl ?_
        have e5 : σ3 5 = σ 5 := by rw [b9 5 (by decide), b8 5 (by decide), b7 5 (by decide)]
        refine ⟨rfl, ?_, fun i hi => ?_, ?_, ?_, ?_, fun q hq => ?_⟩
        · rw [am_s1_eq, upd_eq]; exact nI_1 j
        · rw [am_s1_eq, upd_ne _ _ hi, e5]
        · rw [am_s1_ne _ _ (by decide), b9 7 (by decide), b8 7 (by decide)]; exact a7
        · rw [am_s1_ne _ _ (by decide), b9 8 (by decide), a8, b7 8 (by decide)]
        · rw [am_s1_ne _ _ (by decide), a9, b8 9 (by decide), b7 9 (by decide)]
        · have h : q ≠ 5 ∧ q ≠ 7 ∧ q ≠ 8 ∧ q ≠ 9 := by simpa using hq
          rw [am_s1_ne _ _ h.1, b9 q h.2.2.2, b8 q h.2.2.1, b7 q h.2.1]
theorem tkS_is {p : Tp} {j i : Nat} (h1 : cP p j ≤ i) (h2 : i ≤ p.1) (h3 : ∀ x, cP p j ≤ x → x < i → kdB (p.2 x) = 5) (h4 : i < p.1 → ¬ kdB (p.2 i) = 5) : tkS p j = i := stp_is h1 h2 (fun x a b => isK_t.mpr (h3 x a b)) (fun h => isK_f.mpr (h4 h))
theorem tkC_v {p : Tp} {j i n : Nat} (hS : tkS p j = i) (hi : i < p.1) (hn : n = tkE p i - i) : tkC p j = (if kdB (p.2 i) = 2 ∧ 3 < n then 4 else kdB (p.2 i)) ∧ tkVI p j = (if kdB (p.2 i) = 1 then nlI (nmO p i n) else if kdB (p.2 i) = 2 then nI (dgV p i (min n 3)) else -1) := by
  subst hn
  unfold tkC tkVI tkL
  rw [hS, if_pos hi, if_pos hi]
  exact ⟨rfl, rfl⟩
theorem tkC_e {p : Tp} {j : Nat} (hS : tkS p j = p.1) : tkC p j = 0 ∧ tkVI p j = -1 := by
  unfold tkC tkVI
  rw [hS, if_neg (Nat.lt_irrefl _), if_neg (Nat.lt_irrefl _)]
  exact ⟨rfl, rfl⟩
theorem c_cut (d : Nat) (σ : am_S) (p : Tp) (ht : tapeV 5 1 6 σ p) (hp : wfP p) : CallS mX7_cut (d + 8) [.ref 5] σ (fun r σ' => r = none ∧ tokC σ' p ∧ σ' 5 6 = 0 ∧ (∀ i, i ≠ 5 → i ≠ 6 → σ' 5 i = σ 5 i) ∧ same [5, 7, 8, 9] σ σ') := by
  refine CallS.of kX7_cut pX7_cut [.ref 5, .retAddr 0, .retAddr 0, .retAddr 0] rfl (Nat.le_of_ble_eq_true rfl) ?_
  have h400 := hp.1
  refine GS.run [] 10 rfl ?_
  have loop14 : ∀ (fu : Nat) (i j : Nat) (σi : am_S) (v3 : Value) (hi : i ≤ p.1) (hlv : live p j) (hs : same [5, 7, 8, 9] σ σi) (h5 : σi 5 5 = nI j) (h6 : σi 5 6 = 0) (hf : ∀ x, x ≠ 5 → x ≠ 6 → σi 5 x = σ 5 x) (hbl : ∀ x, cP p j ≤ x → x < i → kdB (p.2 x) = 5) (htk : ∀ j', j' < j → σi 7 j' = nI (tkS p j') ∧ σi 8 j' = nI (tkC p j') ∧ σi 9 j' = tkVI p j'), p.1 - i = fu → GS none mX7_cut (d + 8) (fun r σ' => r = none ∧ tokC σ' p ∧ σ' 5 6 = 0 ∧ (∀ i, i ≠ 5 → i ≠ 6 → σ' 5 i = σ 5 i) ∧ same [5, 7, 8, 9] σ σ') 14 [.ref 5, .int (nI (cP p j)), .int (nI i), .retAddr 0] [] σi := by
    intro fu
    induction fu using Nat.strongRecOn with
    | ind fu ih14 =>
      intro i j σi v3 hi hlv hs h5 h6 hf hbl htk hfu
      refine GS.run [] 3 rfl ?_
      have hti : tapeV 5 1 6 σi p := ⟨(hf 1 (by decide) (by decide)).trans ht.1, fun x hx => (congrFun (hs 6 (by decide)) x).trans (ht.2 x hx)⟩
      have hj4 := live_400 hlv hp
      rw [hti.1]
      refine GS.run [] 0 rfl ?_
      refine GS.icmp_ge rfl (fun c19 => ?_) (fun c19 => ?_)
      · have e0 : i = p.1 := by have := (nI_leI (by omega) (by omega)).mp c19; omega
        subst e0
        have hS : tkS p j = p.1 := tkS_is cP_le (Nat.le_refl _) hbl (fun h => absurd h (Nat.lt_irrefl _))
        refine GS.run [] 5 rfl ?_
        rw [show σi 5 1 = nI p.1 from hti.1]
        refine GS.run [] 0 rfl ?_
        refine GS.callV oX7_note (c_tnote d σi p hti hp j p.1 0 0 hj4 (by omega) (by omega) (by omega) h5 (fun q => by omega) (fun q => by omega)) rfl rfl rfl rfl rfl rfl rfl (Nat.le_of_ble_eq_true rfl) (by omega) (fun v73 σ73 hq73 => ?_)
        obtain ⟨rfl, f5, f5o, f7, f8, f9, fs⟩ := hq73
        obtain ⟨hC, hV⟩ := tkC_e hS
        refine GS.vret rfl rfl ?_
        refine ⟨rfl, fun j' hj' => ?_, (f5o 6 (by decide)).trans h6, fun x h1 h2 => (f5o x h1).trans (hf x h1 h2), hs.trans fs⟩
        have hle : j' ≤ j := by
          rcases Nat.lt_or_ge j j' with q | q
          · have := hj' j q
            omega
          · exact q
        rw [f7, f8, f9]
        by_cases e : j' = j
        · rw [e, upd_eq, upd_eq, upd_eq, hS, hC, hV]
          exact ⟨rfl, rfl, rfl⟩
        · rw [upd_ne _ _ e, upd_ne _ _ e, upd_ne _ _ e]
          exact htk j' (by omega)
      · have hl : i < p.1 := (nI_gtI (by omega) (by omega)).mp c19
        have hib := hp.2 i hl
        have hk5 := (kdB_le (b := p.2 i))
        have hcl := cP_le (p := p) (j := j)
        refine GS.run [] 3 rfl ?_
        refine GS.cS oX11_at ((c_at (d + 7) σi 6 400 (nI i) rfl).eq (congrArg (fun z => some (Value.int z)) (v_get (by omega) (by omega) (hti.2 i hl))) rfl) rfl rfl rfl rfl (Nat.le_of_ble_eq_true rfl) (by omega) ?_
        refine GS.cS oX7_sortOf (c_sortOf (d + 7) σi (p.2 i) hib) rfl rfl rfl rfl (Nat.le_of_ble_eq_true rfl) (by omega) ?_
        refine GS.run [] 3 rfl ?_
        refine GS.icmp_lt rfl (fun c36 => ?_) (fun c36 => ?_)
        · have k1 : i < cP p j := (nI_ltI (by omega) (by omega)).mp c36
          have hbl2 : ∀ x, cP p j ≤ x → x < i + 1 → kdB (p.2 x) = 5 := fun x h1 h2 => by omega
          refine GS.run [] 2 rfl ?_
          rw [show nI i + 1 = nI (i + 1) from nI_1 i]
          first
            | exact GS.weak (by exact ⟨Or.inr rfl, Or.inr rfl, Or.inr rfl, Or.inl rfl, trivial⟩) (ih14 _ (by omega) (i + 1) (j + 1) σ57 Value.null (by omega) (live_s hlv (by rw [hS]; exact hl)) (hs.trans fs) f5 ((f5o 6 (by decide)).trans h6) (fun x h1 h2 => (f5o x h1).trans (hf x h1 h2)) hbl2 htk2 rfl)
            | exact GS.weak (by exact ⟨Or.inr rfl, Or.inr rfl, Or.inr rfl, Or.inl rfl, trivial⟩) (ih14 _ (by omega) (i + 1) j σi Value.null (by omega) hlv hs h5 h6 hf hbl2 htk rfl)
        · have k1 : cP p j ≤ i := (nI_geI (by omega) (by omega)).mp c36
          refine GS.run [] 2 rfl ?_
          refine GS.icmp_eq rfl (fun c41 => ?_) (fun c41 => ?_)
          · have k2 : kdB (p.2 i) = 5 := (nI_eq (b := 5) (by omega) (by omega)).mp c41
            have hbl2 : ∀ x, cP p j ≤ x → x < i + 1 → kdB (p.2 x) = 5 := fun x h1 h2 => by
              by_cases e : x = i
              · rw [e]; exact k2
              · exact hbl x h1 (by omega)
            refine GS.run [] 2 rfl ?_
            rw [show nI i + 1 = nI (i + 1) from nI_1 i]
            first
              | exact GS.weak (by exact ⟨Or.inr rfl, Or.inr rfl, Or.inr rfl, Or.inl rfl, trivial⟩) (ih14 _ (by omega) (i + 1) (j + 1) σ57 Value.null (by omega) (live_s hlv (by rw [hS]; exact hl)) (hs.trans fs) f5 ((f5o 6 (by decide)).trans h6) (fun x h1 h2 => (f5o x h1).trans (hf x h1 h2)) hbl2 htk2 rfl)
              | exact GS.weak (by exact ⟨Or.inr rfl, Or.inr rfl, Or.inr rfl, Or.inl rfl, trivial⟩) (ih14 _ (by omega) (i + 1) j σi Value.null (by omega) hlv hs h5 h6 hf hbl2 htk rfl)
          · have k2 : ¬ kdB (p.2 i) = 5 := fun q => c41 (by rw [q]; rfl)
            have hS : tkS p j = i := tkS_is k1 (by omega) hbl (fun _ => k2)
            obtain ⟨he1, he2⟩ := tkE_lt hl
            obtain ⟨hC, hV⟩ := tkC_v hS hl rfl
            refine GS.run [] 3 rfl ?_
            refine GS.cV oX7_behindRun (c_behindRun (d + 5) σi p hti hp i hl) rfl rfl rfl rfl rfl rfl rfl (Nat.le_of_ble_eq_true rfl) (by omega) ?_
            refine GS.run [] 7 rfl ?_
            rw [show nI (tkE p i) - nI i = nI (tkE p i - i) from pk_sub (by omega)]
            refine GS.run [] 0 rfl ?_
            refine GS.callV oX7_note (c_tnote d σi p hti hp j i (kdB (p.2 i)) (tkE p i - i) hj4 (by omega) (by omega) (by omega) h5 (fun _ => by omega) (fun q x h1 h2 => (tkE_run hl h1 (by omega)).trans q)) rfl rfl rfl rfl rfl rfl rfl (Nat.le_of_ble_eq_true rfl) (by omega) (fun v57 σ57 hq57 => ?_)
            obtain ⟨rfl, f5, f5o, f7, f8, f9, fs⟩ := hq57
            have hE : cP p (j + 1) = tkE p i := by rw [cP_s (by rw [hS]; exact hl), hS]
            rw [← hE]
            have hbl2 : ∀ x, cP p (j + 1) ≤ x → x < i + 1 → kdB (p.2 x) = 5 := fun x h1 h2 => by omega
            have htk2 : ∀ j', j' < j + 1 → σ57 7 j' = nI (tkS p j') ∧ σ57 8 j' = nI (tkC p j') ∧ σ57 9 j' = tkVI p j' := fun j' hj' => by
              rw [f7, f8, f9]
              by_cases e : j' = j
              · rw [e, upd_eq, upd_eq, upd_eq, hS, hC, hV]
                exact ⟨rfl, rfl, rfl⟩
              · rw [upd_ne _ _ e, upd_ne _ _ e, upd_ne _ _ e]
                exact htk j' (by omega)
            refine GS.run [] 2 rfl ?_
            rw [show nI i + 1 = nI (i + 1) from nI_1 i]
            first
              | exact GS.weak (by exact ⟨Or.inr rfl, Or.inr rfl, Or.inr rfl, Or.inl rfl, trivial⟩) (ih14 _ (by omega) (i + 1) (j + 1) σ57 Value.null (by omega) (live_s hlv (by rw [hS]; exact hl)) (hs.trans fs) f5 ((f5o 6 (by decide)).trans h6) (fun x h1 h2 => (f5o x h1).trans (hf x h1 h2)) hbl2 htk2 rfl)
              | exact GS.weak (by exact ⟨Or.inr rfl, Or.inr rfl, Or.inr rfl, Or.inl rfl, trivial⟩) (ih14 _ (by omega) (i + 1) j σi Value.null (by omega) hlv hs h5 h6 hf hbl2 htk rfl)
  refine loop14 _ 0 0 _ Value.null (Nat.zero_le _) (fun i hi => absurd hi (Nat.not_lt_zero _)) ((same.rf.s1 (by decide)).s1 (by decide)) rfl rfl (fun x h1 h2 => ?_) (fun x h1 h2 => absurd h2 (Nat.not_lt_zero _)) (fun j' hj' => absurd hj' (Nat.not_lt_zero _)) rfl
  rw [am_s1_eq, upd_ne _ _ h2, am_s1_eq, upd_ne _ _ h1]
