def laidV (σ : am_S) (p : Nat → Nat) (k : Nat) : Prop := ∀ e, e < k → σ 84 e = nI (p e)
theorem al_f {P : Nat → Bool} {e c : Nat} (h : al P e = false) (he : e ≤ c) : al P c = false := by
  rw [Bool.eq_false_iff] at h ⊢
  exact fun q => h (al_iff.mpr (fun i hi => al_iff.mp q i (by omega)))
theorem b_eq0 {b : Bool} (h : bI b = 0) : b = false := bI0.mp h
theorem c_isNear (d : Nat) (σ : am_S) (t : Tn) (a b : Nat) (ht : townM 73 0 σ t) (hw : wfT t) (ha : a < tN t) (hb : b < 1000) : CallS mX12_isNear (d) [.ref 69, .int (nI a), .int (nI b)] σ (am_det (some (.int (bI (adB t a b)))) σ) := by
  refine CallS.of kX12_isNear pX12_isNear [.ref 69, .int (nI a), .int (nI b), .retAddr 0, .retAddr 0] rfl (Nat.le_of_ble_eq_true rfl) ?_
  have h8 := hw.1
  have h6 := (hw.2.2 a ha).2.2.2.1
  refine GS.run [] 4 rfl ?_
  have loop5 : ∀ (fu : Nat) (k : Nat) (hk : k ≤ tD t a), tD t a - k = fu → GS none mX12_isNear (d) (am_det (some (.int (bI (adB t a b)))) σ) 5 [.ref 69, .int (nI a), .int (nI b), .int (bI (ay (fun i => decide (tB t a i = b)) k)), .int (nI k)] [] σ := by
    intro fu
    induction fu using Nat.strongRecOn with
    | ind fu ih5 =>
      intro k hk hfu
      refine GS.run [] 6 rfl ?_
      refine GS.ald (38 + a) rfl rfl (he_38) (by omega) ?_
      rw [m_dg ht ha]
      refine GS.icmp_ge rfl (fun c16 => ?_) (fun c16 => ?_)
      · have e0 : k = tD t a := by have := (nI_leI (by omega) (by omega)).mp c16; omega
        subst e0
        refine GS.run [] 1 rfl ?_
        refine GS.iret rfl rfl (nar_bI _) ?_
        exact ⟨rfl, rfl⟩
      · have hl : k < tD t a := (nI_gtI (by omega) (by omega)).mp c16
        have hbl := ((hw.2.2 a ha).2.2.2.2.1 k hl).1
        refine GS.run [] 1 rfl ?_
        refine GS.if_ne rfl (fun c20 => ?_) (fun c20 => ?_)
        · have hE : (1 : Int32) = bI (ay (fun i => decide (tB t a i = b)) (k + 1)) := by rw [ay, bI1.mp c20]; rfl
          refine GS.run [] 5 rfl ?_
          rw [show nI k + 1 = nI (k + 1) from nI_1 k, hE]
          exact ih5 _ (by omega) (k + 1) (by omega) rfl
        · have hF : ay (fun i => decide (tB t a i = b)) k = false := by
            cases q : ay (fun i => decide (tB t a i = b)) k with
            | false => rfl
            | true => rw [q] at c20; exact absurd c20 (by decide)
          refine GS.run [] 9 rfl ?_
          refine GS.ald (50 + 6 * a + k) rfl rfl (he_to) (by omega) ?_
          rw [m_to ht ha hl]
          refine GS.run [] 1 rfl ?_
          refine GS.icmp_ne rfl (fun c39 => ?_) (fun c39 => ?_)
          · have k1 : ¬ tB t a k = b := fun q => c39 (by rw [q])
            have hE : (0 : Int32) = bI (ay (fun i => decide (tB t a i = b)) (k + 1)) := by rw [ay, hF, decide_eq_false k1]; rfl
            refine GS.run [] 4 rfl ?_
            rw [show nI k + 1 = nI (k + 1) from nI_1 k, hE]
            exact ih5 _ (by omega) (k + 1) (by omega) rfl
          · have k1 : tB t a k = b := (nI_eq (by omega) (by omega)).mp c39
            have hE : (1 : Int32) = bI (ay (fun i => decide (tB t a i = b)) (k + 1)) := by rw [ay, hF, decide_eq_true k1]; rfl
            refine GS.run [] 5 rfl ?_
            rw [show nI k + 1 = nI (k + 1) from nI_1 k, hE]
            exact ih5 _ (by omega) (k + 1) (by omega) rfl
  exact loop5 _ 0 (Nat.zero_le _) rfl
theorem c_mfits (d : Nat) (σ : am_S) (t : Tn) (p : Nat → Nat) (c x : Nat) (ht : townM 73 0 σ t) (hw : wfT t) (hc : c < tN t) (hx : x < tN t) (hp : ∀ e, e < c → p e < tN t) (hv : laidV σ p c) : CallS mX12_fits (d + 1) [.ref 69, .int (nI c), .int (nI x)] σ (am_det (some (.int (bI (fiB t p c x)))) σ) := by
  refine CallS.of kX12_fits pX12_fits [.ref 69, .int (nI c), .int (nI x), .retAddr 0, .retAddr 0] rfl (Nat.le_of_ble_eq_true rfl) ?_
  have h8 := hw.1
  have wc := hw.2.2 c hc
  have wx := hw.2.2 x hx
  have b1 := wc.1
  have b2 := wc.2.1
  have b3 := wc.2.2.2.1
  have b4 := wx.1
  have b5 := wx.2.1
  have b6 := wx.2.2.2.1
  have b7 := wc.2.2.1
  have b8 := wx.2.2.1
  refine GS.run [] 5 rfl ?_
  refine GS.ald (2 + c) rfl rfl (he_2) (by omega) ?_
  rw [m_ht ht hc]
  refine GS.run [] 5 rfl ?_
  refine GS.ald (2 + x) rfl rfl (he_2) (by omega) ?_
  rw [m_ht ht hx]
  refine GS.icmp_ne rfl (fun c16 => ?_) (fun c16 => ?_)
  · have hk0 : decide (akin t c x) = false := decide_eq_false (fun h => c16 (by rw [h.1]))
    refine GS.run [] 4 rfl ?_
    have loop91 : ∀ (fu : Nat) (e : Nat) (he : e ≤ c), c - e = fu → GS none mX12_fits (d + 1) (am_det (some (.int (bI (fiB t p c x)))) σ) 91 [.ref 69, .int (nI c), .int (nI x), .int (bI (decide (akin t c x) && al (fun e => decide (p e ≠ x) && (adB t e c == adB t (p e) x)) e)), .int (nI e)] [] σ := by
      intro fu
      induction fu using Nat.strongRecOn with
      | ind fu ih91 =>
        intro e he hfu
        refine GS.run [] 2 rfl ?_
        refine GS.icmp_ge rfl (fun c94 => ?_) (fun c94 => ?_)
        · have e0 : e = c := by have := (nI_leI (by omega) (by omega)).mp c94; omega
          subst e0
          refine GS.run [] 1 rfl ?_
          refine GS.iret rfl rfl (nar_bI _) ?_
          first
            | exact ⟨rfl, rfl⟩
            | (unfold fiB; rw [hF, ← hF0]; exact ⟨rfl, rfl⟩)
        · have hl : e < c := (nI_gtI (by omega) (by omega)).mp c94
          have hpe := hp e hl
          refine GS.run [] 1 rfl ?_
          refine GS.if_eq rfl (fun c98 => ?_) (fun c98 => ?_)
          · have hF : (decide (akin t c x) && al (fun e => decide (p e ≠ x) && (adB t e c == adB t (p e) x)) c) = false := by
              have h1 := bI0.mp c98
              rw [Bool.and_eq_false_iff] at h1 ⊢
              exact h1.imp_right (fun q => al_f q (by omega))
            have hF0 := b_eq0 c98
            refine GS.run [] 1 rfl ?_
            refine GS.iret rfl rfl (nar_bI _) ?_
            first
              | exact ⟨rfl, rfl⟩
              | (unfold fiB; rw [hF, ← hF0]; exact ⟨rfl, rfl⟩)
          · have hT : (decide (akin t c x) && al (fun e => decide (p e ≠ x) && (adB t e c == adB t (p e) x)) e) = true := bI1.mp c98
            refine GS.run [] 3 rfl ?_
            refine GS.ald (e) rfl rfl (rfl) (by omega) ?_
            rw [hv e hl]
            refine GS.run [] 1 rfl ?_
            refine GS.icmp_eq rfl (fun c109 => ?_) (fun c109 => ?_)
            · have k1 : p e = x := (nI_eq (by omega) (by omega)).mp c109
              have hE : (0 : Int32) = bI (decide (akin t c x) && al (fun e => decide (p e ≠ x) && (adB t e c == adB t (p e) x)) (e + 1)) := by
                rw [Bool.and_eq_true] at hT
                rw [al, hT.1, hT.2, decide_eq_false (fun q => q k1)]; rfl
              refine GS.run [] 4 rfl ?_
              rw [show nI e + 1 = nI (e + 1) from nI_1 e, hE]
              exact ih91 _ (by omega) (e + 1) (by omega) rfl
            · have k1 : p e ≠ x := fun q => c109 (by rw [q])
              refine GS.run [] 3 rfl ?_
              refine GS.cV oX12_isNear (c_isNear d σ t e c ht hw (by omega) (by omega)) rfl rfl rfl rfl rfl rfl rfl (Nat.le_of_ble_eq_true rfl) (by omega) ?_
              refine GS.run [] 4 rfl ?_
              refine GS.ald (e) rfl rfl (rfl) (by omega) ?_
              rw [hv e hl]
              refine GS.run [] 1 rfl ?_
              refine GS.cV oX12_isNear (c_isNear d σ t (p e) x ht hw hpe (by omega)) rfl rfl rfl rfl rfl rfl rfl (Nat.le_of_ble_eq_true rfl) (by omega) ?_
              refine GS.icmp_ne rfl (fun c131 => ?_) (fun c131 => ?_)
              · have hE : (0 : Int32) = bI (decide (akin t c x) && al (fun e => decide (p e ≠ x) && (adB t e c == adB t (p e) x)) (e + 1)) := by
                  rw [Bool.and_eq_true] at hT
                  rw [al, hT.1, hT.2, decide_eq_true k1, show (adB t e c == adB t (p e) x) = false from beq_eq_false_iff_ne.mpr (fun q => c131 (by rw [q]))]; rfl
                refine GS.run [] 4 rfl ?_
                rw [show nI e + 1 = nI (e + 1) from nI_1 e, hE]
                exact ih91 _ (by omega) (e + 1) (by omega) rfl
              · have hE : (1 : Int32) = bI (decide (akin t c x) && al (fun e => decide (p e ≠ x) && (adB t e c == adB t (p e) x)) (e + 1)) := by
                  rw [Bool.and_eq_true] at hT
                  rw [al, hT.1, hT.2, decide_eq_true k1, show (adB t e c == adB t (p e) x) = true from beq_iff_eq.mpr (bI_inj c131)]; rfl
                refine GS.run [] 5 rfl ?_
                rw [show nI e + 1 = nI (e + 1) from nI_1 e, hE]
                exact ih91 _ (by omega) (e + 1) (by omega) rfl
    have hl91 := loop91 _ 0 (Nat.zero_le _) rfl
    rw [hk0] at hl91
    exact hl91
  · have k16 : tH t c = tH t x := (nI_eq (by omega) (by omega)).mp c16
    refine GS.run [] 5 rfl ?_
    refine GS.ald (14 + c) rfl rfl (he_14) (by omega) ?_
    rw [m_mk ht hc]
    refine GS.run [] 5 rfl ?_
    refine GS.ald (14 + x) rfl rfl (he_14) (by omega) ?_
    rw [m_mk ht hx]
    refine GS.icmp_ne rfl (fun c37 => ?_) (fun c37 => ?_)
    · have hk0 : decide (akin t c x) = false := decide_eq_false (fun h => c37 (by rw [h.2.1]))
      refine GS.run [] 4 rfl ?_
      have loop91 : ∀ (fu : Nat) (e : Nat) (he : e ≤ c), c - e = fu → GS none mX12_fits (d + 1) (am_det (some (.int (bI (fiB t p c x)))) σ) 91 [.ref 69, .int (nI c), .int (nI x), .int (bI (decide (akin t c x) && al (fun e => decide (p e ≠ x) && (adB t e c == adB t (p e) x)) e)), .int (nI e)] [] σ := by
        intro fu
        induction fu using Nat.strongRecOn with
        | ind fu ih91 =>
          intro e he hfu
          refine GS.run [] 2 rfl ?_
          refine GS.icmp_ge rfl (fun c94 => ?_) (fun c94 => ?_)
          · have e0 : e = c := by have := (nI_leI (by omega) (by omega)).mp c94; omega
            subst e0
            refine GS.run [] 1 rfl ?_
            refine GS.iret rfl rfl (nar_bI _) ?_
            first
              | exact ⟨rfl, rfl⟩
              | (unfold fiB; rw [hF, ← hF0]; exact ⟨rfl, rfl⟩)
          · have hl : e < c := (nI_gtI (by omega) (by omega)).mp c94
            have hpe := hp e hl
            refine GS.run [] 1 rfl ?_
            refine GS.if_eq rfl (fun c98 => ?_) (fun c98 => ?_)
            · have hF : (decide (akin t c x) && al (fun e => decide (p e ≠ x) && (adB t e c == adB t (p e) x)) c) = false := by
                have h1 := bI0.mp c98
                rw [Bool.and_eq_false_iff] at h1 ⊢
                exact h1.imp_right (fun q => al_f q (by omega))
              have hF0 := b_eq0 c98
              refine GS.run [] 1 rfl ?_
              refine GS.iret rfl rfl (nar_bI _) ?_
              first
                | exact ⟨rfl, rfl⟩
                | (unfold fiB; rw [hF, ← hF0]; exact ⟨rfl, rfl⟩)
            · have hT : (decide (akin t c x) && al (fun e => decide (p e ≠ x) && (adB t e c == adB t (p e) x)) e) = true := bI1.mp c98
              refine GS.run [] 3 rfl ?_
              refine GS.ald (e) rfl rfl (rfl) (by omega) ?_
              rw [hv e hl]
              refine GS.run [] 1 rfl ?_
              refine GS.icmp_eq rfl (fun c109 => ?_) (fun c109 => ?_)
              · have k1 : p e = x := (nI_eq (by omega) (by omega)).mp c109
                have hE : (0 : Int32) = bI (decide (akin t c x) && al (fun e => decide (p e ≠ x) && (adB t e c == adB t (p e) x)) (e + 1)) := by
                  rw [Bool.and_eq_true] at hT
                  rw [al, hT.1, hT.2, decide_eq_false (fun q => q k1)]; rfl
                refine GS.run [] 4 rfl ?_
                rw [show nI e + 1 = nI (e + 1) from nI_1 e, hE]
                exact ih91 _ (by omega) (e + 1) (by omega) rfl
              · have k1 : p e ≠ x := fun q => c109 (by rw [q])
                refine GS.run [] 3 rfl ?_
                refine GS.cV oX12_isNear (c_isNear d σ t e c ht hw (by omega) (by omega)) rfl rfl rfl rfl rfl rfl rfl (Nat.le_of_ble_eq_true rfl) (by omega) ?_
                refine GS.run [] 4 rfl ?_
                refine GS.ald (e) rfl rfl (rfl) (by omega) ?_
                rw [hv e hl]
                refine GS.run [] 1 rfl ?_
                refine GS.cV oX12_isNear (c_isNear d σ t (p e) x ht hw hpe (by omega)) rfl rfl rfl rfl rfl rfl rfl (Nat.le_of_ble_eq_true rfl) (by omega) ?_
                refine GS.icmp_ne rfl (fun c131 => ?_) (fun c131 => ?_)
                · have hE : (0 : Int32) = bI (decide (akin t c x) && al (fun e => decide (p e ≠ x) && (adB t e c == adB t (p e) x)) (e + 1)) := by
                    rw [Bool.and_eq_true] at hT
                    rw [al, hT.1, hT.2, decide_eq_true k1, show (adB t e c == adB t (p e) x) = false from beq_eq_false_iff_ne.mpr (fun q => c131 (by rw [q]))]; rfl
                  refine GS.run [] 4 rfl ?_
                  rw [show nI e + 1 = nI (e + 1) from nI_1 e, hE]
                  exact ih91 _ (by omega) (e + 1) (by omega) rfl
                · have hE : (1 : Int32) = bI (decide (akin t c x) && al (fun e => decide (p e ≠ x) && (adB t e c == adB t (p e) x)) (e + 1)) := by
                    rw [Bool.and_eq_true] at hT
                    rw [al, hT.1, hT.2, decide_eq_true k1, show (adB t e c == adB t (p e) x) = true from beq_iff_eq.mpr (bI_inj c131)]; rfl
                  refine GS.run [] 5 rfl ?_
                  rw [show nI e + 1 = nI (e + 1) from nI_1 e, hE]
                  exact ih91 _ (by omega) (e + 1) (by omega) rfl
      have hl91 := loop91 _ 0 (Nat.zero_le _) rfl
      rw [hk0] at hl91
      exact hl91
    · have k37 : tM t c = tM t x := (nI_eq (by omega) (by omega)).mp c37
      refine GS.run [] 5 rfl ?_
      refine GS.ald (26 + c) rfl rfl (he_26) (by omega) ?_
      rw [m_wl ht hc]
      refine GS.run [] 5 rfl ?_
      refine GS.ald (26 + x) rfl rfl (he_26) (by omega) ?_
      rw [m_wl ht hx]
      refine GS.icmp_ne rfl (fun c58 => ?_) (fun c58 => ?_)
      · have hk0 : decide (akin t c x) = false := decide_eq_false (fun h => c58 (by rw [h.2.2.1]))
        refine GS.run [] 4 rfl ?_
        have loop91 : ∀ (fu : Nat) (e : Nat) (he : e ≤ c), c - e = fu → GS none mX12_fits (d + 1) (am_det (some (.int (bI (fiB t p c x)))) σ) 91 [.ref 69, .int (nI c), .int (nI x), .int (bI (decide (akin t c x) && al (fun e => decide (p e ≠ x) && (adB t e c == adB t (p e) x)) e)), .int (nI e)] [] σ := by
          intro fu
          induction fu using Nat.strongRecOn with
          | ind fu ih91 =>
            intro e he hfu
            refine GS.run [] 2 rfl ?_
            refine GS.icmp_ge rfl (fun c94 => ?_) (fun c94 => ?_)
            · have e0 : e = c := by have := (nI_leI (by omega) (by omega)).mp c94; omega
              subst e0
              refine GS.run [] 1 rfl ?_
              refine GS.iret rfl rfl (nar_bI _) ?_
              first
                | exact ⟨rfl, rfl⟩
                | (unfold fiB; rw [hF, ← hF0]; exact ⟨rfl, rfl⟩)
            · have hl : e < c := (nI_gtI (by omega) (by omega)).mp c94
              have hpe := hp e hl
              refine GS.run [] 1 rfl ?_
              refine GS.if_eq rfl (fun c98 => ?_) (fun c98 => ?_)
              · have hF : (decide (akin t c x) && al (fun e => decide (p e ≠ x) && (adB t e c == adB t (p e) x)) c) = false := by
                  have h1 := bI0.mp c98
                  rw [Bool.and_eq_false_iff] at h1 ⊢
                  exact h1.imp_right (fun q => al_f q (by omega))
                have hF0 := b_eq0 c98
                refine GS.run [] 1 rfl ?_
                refine GS.iret rfl rfl (nar_bI _) ?_
                first
                  | exact ⟨rfl, rfl⟩
                  | (unfold fiB; rw [hF, ← hF0]; exact ⟨rfl, rfl⟩)
              · have hT : (decide (akin t c x) && al (fun e => decide (p e ≠ x) && (adB t e c == adB t (p e) x)) e) = true := bI1.mp c98
                refine GS.run [] 3 rfl ?_
                refine GS.ald (e) rfl rfl (rfl) (by omega) ?_
                rw [hv e hl]
                refine GS.run [] 1 rfl ?_
                refine GS.icmp_eq rfl (fun c109 => ?_) (fun c109 => ?_)
                · have k1 : p e = x := (nI_eq (by omega) (by omega)).mp c109
                  have hE : (0 : Int32) = bI (decide (akin t c x) && al (fun e => decide (p e ≠ x) && (adB t e c == adB t (p e) x)) (e + 1)) := by
                    rw [Bool.and_eq_true] at hT
                    rw [al, hT.1, hT.2, decide_eq_false (fun q => q k1)]; rfl
                  refine GS.run [] 4 rfl ?_
                  rw [show nI e + 1 = nI (e + 1) from nI_1 e, hE]
                  exact ih91 _ (by omega) (e + 1) (by omega) rfl
                · have k1 : p e ≠ x := fun q => c109 (by rw [q])
                  refine GS.run [] 3 rfl ?_
                  refine GS.cV oX12_isNear (c_isNear d σ t e c ht hw (by omega) (by omega)) rfl rfl rfl rfl rfl rfl rfl (Nat.le_of_ble_eq_true rfl) (by omega) ?_
                  refine GS.run [] 4 rfl ?_
                  refine GS.ald (e) rfl rfl (rfl) (by omega) ?_
                  rw [hv e hl]
                  refine GS.run [] 1 rfl ?_
                  refine GS.cV oX12_isNear (c_isNear d σ t (p e) x ht hw hpe (by omega)) rfl rfl rfl rfl rfl rfl rfl (Nat.le_of_ble_eq_true rfl) (by omega) ?_
                  refine GS.icmp_ne rfl (fun c131 => ?_) (fun c131 => ?_)
                  · have hE : (0 : Int32) = bI (decide (akin t c x) && al (fun e => decide (p e ≠ x) && (adB t e c == adB t (p e) x)) (e + 1)) := by
                      rw [Bool.and_eq_true] at hT
                      rw [al, hT.1, hT.2, decide_eq_true k1, show (adB t e c == adB t (p e) x) = false from beq_eq_false_iff_ne.mpr (fun q => c131 (by rw [q]))]; rfl
                    refine GS.run [] 4 rfl ?_
                    rw [show nI e + 1 = nI (e + 1) from nI_1 e, hE]
                    exact ih91 _ (by omega) (e + 1) (by omega) rfl
                  · have hE : (1 : Int32) = bI (decide (akin t c x) && al (fun e => decide (p e ≠ x) && (adB t e c == adB t (p e) x)) (e + 1)) := by
                      rw [Bool.and_eq_true] at hT
                      rw [al, hT.1, hT.2, decide_eq_true k1, show (adB t e c == adB t (p e) x) = true from beq_iff_eq.mpr (bI_inj c131)]; rfl
                    refine GS.run [] 5 rfl ?_
                    rw [show nI e + 1 = nI (e + 1) from nI_1 e, hE]
                    exact ih91 _ (by omega) (e + 1) (by omega) rfl
        have hl91 := loop91 _ 0 (Nat.zero_le _) rfl
        rw [hk0] at hl91
        exact hl91
      · have k58 : tW t c = tW t x := (nI_eq (by omega) (by omega)).mp c58
        refine GS.run [] 5 rfl ?_
        refine GS.ald (38 + c) rfl rfl (he_38) (by omega) ?_
        rw [m_dg ht hc]
        refine GS.run [] 5 rfl ?_
        refine GS.ald (38 + x) rfl rfl (he_38) (by omega) ?_
        rw [m_dg ht hx]
        refine GS.icmp_ne rfl (fun c79 => ?_) (fun c79 => ?_)
        · have hk0 : decide (akin t c x) = false := decide_eq_false (fun h => c79 (by rw [h.2.2.2]))
          refine GS.run [] 4 rfl ?_
          have loop91 : ∀ (fu : Nat) (e : Nat) (he : e ≤ c), c - e = fu → GS none mX12_fits (d + 1) (am_det (some (.int (bI (fiB t p c x)))) σ) 91 [.ref 69, .int (nI c), .int (nI x), .int (bI (decide (akin t c x) && al (fun e => decide (p e ≠ x) && (adB t e c == adB t (p e) x)) e)), .int (nI e)] [] σ := by
            intro fu
            induction fu using Nat.strongRecOn with
            | ind fu ih91 =>
              intro e he hfu
              refine GS.run [] 2 rfl ?_
              refine GS.icmp_ge rfl (fun c94 => ?_) (fun c94 => ?_)
              · have e0 : e = c := by have := (nI_leI (by omega) (by omega)).mp c94; omega
                subst e0
                refine GS.run [] 1 rfl ?_
                refine GS.iret rfl rfl (nar_bI _) ?_
                first
                  | exact ⟨rfl, rfl⟩
                  | (unfold fiB; rw [hF, ← hF0]; exact ⟨rfl, rfl⟩)
              · have hl : e < c := (nI_gtI (by omega) (by omega)).mp c94
                have hpe := hp e hl
                refine GS.run [] 1 rfl ?_
                refine GS.if_eq rfl (fun c98 => ?_) (fun c98 => ?_)
                · have hF : (decide (akin t c x) && al (fun e => decide (p e ≠ x) && (adB t e c == adB t (p e) x)) c) = false := by
                    have h1 := bI0.mp c98
                    rw [Bool.and_eq_false_iff] at h1 ⊢
                    exact h1.imp_right (fun q => al_f q (by omega))
                  have hF0 := b_eq0 c98
                  refine GS.run [] 1 rfl ?_
                  refine GS.iret rfl rfl (nar_bI _) ?_
                  first
                    | exact ⟨rfl, rfl⟩
                    | (unfold fiB; rw [hF, ← hF0]; exact ⟨rfl, rfl⟩)
                · have hT : (decide (akin t c x) && al (fun e => decide (p e ≠ x) && (adB t e c == adB t (p e) x)) e) = true := bI1.mp c98
                  refine GS.run [] 3 rfl ?_
                  refine GS.ald (e) rfl rfl (rfl) (by omega) ?_
                  rw [hv e hl]
                  refine GS.run [] 1 rfl ?_
                  refine GS.icmp_eq rfl (fun c109 => ?_) (fun c109 => ?_)
                  · have k1 : p e = x := (nI_eq (by omega) (by omega)).mp c109
                    have hE : (0 : Int32) = bI (decide (akin t c x) && al (fun e => decide (p e ≠ x) && (adB t e c == adB t (p e) x)) (e + 1)) := by
                      rw [Bool.and_eq_true] at hT
                      rw [al, hT.1, hT.2, decide_eq_false (fun q => q k1)]; rfl
                    refine GS.run [] 4 rfl ?_
                    rw [show nI e + 1 = nI (e + 1) from nI_1 e, hE]
                    exact ih91 _ (by omega) (e + 1) (by omega) rfl
                  · have k1 : p e ≠ x := fun q => c109 (by rw [q])
                    refine GS.run [] 3 rfl ?_
                    refine GS.cV oX12_isNear (c_isNear d σ t e c ht hw (by omega) (by omega)) rfl rfl rfl rfl rfl rfl rfl (Nat.le_of_ble_eq_true rfl) (by omega) ?_
                    refine GS.run [] 4 rfl ?_
                    refine GS.ald (e) rfl rfl (rfl) (by omega) ?_
                    rw [hv e hl]
                    refine GS.run [] 1 rfl ?_
                    refine GS.cV oX12_isNear (c_isNear d σ t (p e) x ht hw hpe (by omega)) rfl rfl rfl rfl rfl rfl rfl (Nat.le_of_ble_eq_true rfl) (by omega) ?_
                    refine GS.icmp_ne rfl (fun c131 => ?_) (fun c131 => ?_)
                    · have hE : (0 : Int32) = bI (decide (akin t c x) && al (fun e => decide (p e ≠ x) && (adB t e c == adB t (p e) x)) (e + 1)) := by
                        rw [Bool.and_eq_true] at hT
                        rw [al, hT.1, hT.2, decide_eq_true k1, show (adB t e c == adB t (p e) x) = false from beq_eq_false_iff_ne.mpr (fun q => c131 (by rw [q]))]; rfl
                      refine GS.run [] 4 rfl ?_
                      rw [show nI e + 1 = nI (e + 1) from nI_1 e, hE]
                      exact ih91 _ (by omega) (e + 1) (by omega) rfl
                    · have hE : (1 : Int32) = bI (decide (akin t c x) && al (fun e => decide (p e ≠ x) && (adB t e c == adB t (p e) x)) (e + 1)) := by
                        rw [Bool.and_eq_true] at hT
                        rw [al, hT.1, hT.2, decide_eq_true k1, show (adB t e c == adB t (p e) x) = true from beq_iff_eq.mpr (bI_inj c131)]; rfl
                      refine GS.run [] 5 rfl ?_
                      rw [show nI e + 1 = nI (e + 1) from nI_1 e, hE]
                      exact ih91 _ (by omega) (e + 1) (by omega) rfl
          have hl91 := loop91 _ 0 (Nat.zero_le _) rfl
          rw [hk0] at hl91
          exact hl91
        · have k79 : tD t c = tD t x := (nI_eq (by omega) (by omega)).mp c79
          have hk0 : decide (akin t c x) = true := decide_eq_true ⟨k16, k37, k58, k79⟩
          refine GS.run [] 5 rfl ?_
          have loop91 : ∀ (fu : Nat) (e : Nat) (he : e ≤ c), c - e = fu → GS none mX12_fits (d + 1) (am_det (some (.int (bI (fiB t p c x)))) σ) 91 [.ref 69, .int (nI c), .int (nI x), .int (bI (decide (akin t c x) && al (fun e => decide (p e ≠ x) && (adB t e c == adB t (p e) x)) e)), .int (nI e)] [] σ := by
            intro fu
            induction fu using Nat.strongRecOn with
            | ind fu ih91 =>
              intro e he hfu
              refine GS.run [] 2 rfl ?_
              refine GS.icmp_ge rfl (fun c94 => ?_) (fun c94 => ?_)
              · have e0 : e = c := by have := (nI_leI (by omega) (by omega)).mp c94; omega
                subst e0
                refine GS.run [] 1 rfl ?_
                refine GS.iret rfl rfl (nar_bI _) ?_
                first
                  | exact ⟨rfl, rfl⟩
                  | (unfold fiB; rw [hF, ← hF0]; exact ⟨rfl, rfl⟩)
              · have hl : e < c := (nI_gtI (by omega) (by omega)).mp c94
                have hpe := hp e hl
                refine GS.run [] 1 rfl ?_
                refine GS.if_eq rfl (fun c98 => ?_) (fun c98 => ?_)
                · have hF : (decide (akin t c x) && al (fun e => decide (p e ≠ x) && (adB t e c == adB t (p e) x)) c) = false := by
                    have h1 := bI0.mp c98
                    rw [Bool.and_eq_false_iff] at h1 ⊢
                    exact h1.imp_right (fun q => al_f q (by omega))
                  have hF0 := b_eq0 c98
                  refine GS.run [] 1 rfl ?_
                  refine GS.iret rfl rfl (nar_bI _) ?_
                  first
                    | exact ⟨rfl, rfl⟩
                    | (unfold fiB; rw [hF, ← hF0]; exact ⟨rfl, rfl⟩)
                · have hT : (decide (akin t c x) && al (fun e => decide (p e ≠ x) && (adB t e c == adB t (p e) x)) e) = true := bI1.mp c98
                  refine GS.run [] 3 rfl ?_
                  refine GS.ald (e) rfl rfl (rfl) (by omega) ?_
                  rw [hv e hl]
                  refine GS.run [] 1 rfl ?_
                  refine GS.icmp_eq rfl (fun c109 => ?_) (fun c109 => ?_)
                  · have k1 : p e = x := (nI_eq (by omega) (by omega)).mp c109
                    have hE : (0 : Int32) = bI (decide (akin t c x) && al (fun e => decide (p e ≠ x) && (adB t e c == adB t (p e) x)) (e + 1)) := by
                      rw [Bool.and_eq_true] at hT
                      rw [al, hT.1, hT.2, decide_eq_false (fun q => q k1)]; rfl
                    refine GS.run [] 4 rfl ?_
                    rw [show nI e + 1 = nI (e + 1) from nI_1 e, hE]
                    exact ih91 _ (by omega) (e + 1) (by omega) rfl
                  · have k1 : p e ≠ x := fun q => c109 (by rw [q])
                    refine GS.run [] 3 rfl ?_
                    refine GS.cV oX12_isNear (c_isNear d σ t e c ht hw (by omega) (by omega)) rfl rfl rfl rfl rfl rfl rfl (Nat.le_of_ble_eq_true rfl) (by omega) ?_
                    refine GS.run [] 4 rfl ?_
                    refine GS.ald (e) rfl rfl (rfl) (by omega) ?_
                    rw [hv e hl]
                    refine GS.run [] 1 rfl ?_
                    refine GS.cV oX12_isNear (c_isNear d σ t (p e) x ht hw hpe (by omega)) rfl rfl rfl rfl rfl rfl rfl (Nat.le_of_ble_eq_true rfl) (by omega) ?_
                    refine GS.icmp_ne rfl (fun c131 => ?_) (fun c131 => ?_)
                    · have hE : (0 : Int32) = bI (decide (akin t c x) && al (fun e => decide (p e ≠ x) && (adB t e c == adB t (p e) x)) (e + 1)) := by
                        rw [Bool.and_eq_true] at hT
                        rw [al, hT.1, hT.2, decide_eq_true k1, show (adB t e c == adB t (p e) x) = false from beq_eq_false_iff_ne.mpr (fun q => c131 (by rw [q]))]; rfl
                      refine GS.run [] 4 rfl ?_
                      rw [show nI e + 1 = nI (e + 1) from nI_1 e, hE]
                      exact ih91 _ (by omega) (e + 1) (by omega) rfl
                    · have hE : (1 : Int32) = bI (decide (akin t c x) && al (fun e => decide (p e ≠ x) && (adB t e c == adB t (p e) x)) (e + 1)) := by
                        rw [Bool.and_eq_true] at hT
                        rw [al, hT.1, hT.2, decide_eq_true k1, show (adB t e c == adB t (p e) x) = true from beq_iff_eq.mpr (bI_inj c131)]; rfl
                      refine GS.run [] 5 rfl ?_
                      rw [show nI e + 1 = nI (e + 1) from nI_1 e, hE]
                      exact ih91 _ (by omega) (e + 1) (by omega) rfl
          have hl91 := loop91 _ 0 (Nat.zero_le _) rfl
          rw [hk0] at hl91
          exact hl91
theorem b_and {a b : Bool} : bI (a && b) = if bI a = 0 then 0 else bI b := by cases a <;> cases b <;> rfl
theorem pl_mI {g : Bool} {a k n : Nat} (ha : a < n) (hk : k < n) (hn : n ≤ 6) : (if g = true then (nI a - nI k + nI n) - (nI a - nI k + nI n) / nI n * nI n else (nI a + nI k) - (nI a + nI k) / nI n * nI n) = nI (pl g a k n) := by
  cases g with
  | true =>
    rw [if_pos rfl]
    have : nI a - nI k + nI n = nI (a + n - k) := by
      rw [zI_n a, zI_n k, zI_n n, zI_sub, zI_add, zI_n]
      congr 1
      omega
    rw [this, pk_rem (by omega) (by omega) (by omega)]
    rfl
  | false =>
    rw [if_neg Bool.false_ne_true, nI_add, pk_rem (by omega) (by omega) (by omega)]
    rfl
theorem c_turnsAbout (d : Nat) (σ : am_S) (t : Tn) (g : Bool) (p : Nat → Nat) (c : Nat) (ht : townM 73 0 σ t) (hw : wfT t) (hc : c < tN t) (hp : pwO t p (tN t)) (hv : laidV σ p (tN t)) : CallS mX12_turnsAbout (d) [.ref 69, .int (nI c), .int (bI g)] σ (am_det (some (.int (bI (ooB t g p c)))) σ) := by
  refine CallS.of kX12_turnsAbout pX12_turnsAbout [.ref 69, .int (nI c), .int (bI g), .retAddr 0, .retAddr 0, .retAddr 0, .retAddr 0, .retAddr 0, .retAddr 0, .retAddr 0] rfl (Nat.le_of_ble_eq_true rfl) ?_
  have h8 := hw.1
  have h6 := (hw.2.2 c hc).2.2.2.1
  have hpc := (hp c hc).1
  have hD : tD t c = tD t (p c) := (hp c hc).2.1.2.2.2
  refine GS.run [] 5 rfl ?_
  refine GS.ald (38 + c) rfl rfl (he_38) (by omega) ?_
  rw [m_dg ht hc]
  refine GS.run [] 4 rfl ?_
  refine GS.ald (c) rfl rfl (rfl) (by omega) ?_
  rw [hv c hc]
  refine GS.run [] 2 rfl ?_
  refine GS.if_ne rfl (fun c19 => ?_) (fun c19 => ?_)
  · have hk0 : decide (tD t c = 0) = false := decide_eq_false (fun h => c19 (by rw [h]; rfl))
    refine GS.run [] 4 rfl ?_
    have loop32 : ∀ (fu : Nat) (a : Nat) (v7 v8 v9 : Value) (ha : a ≤ tD t c), tD t c - a = fu → GS none mX12_turnsAbout (d) (am_det (some (.int (bI (ooB t g p c)))) σ) 32 [.ref 69, .int (nI c), .int (bI g), .int (nI (tD t c)), .int (nI (p c)), .int (bI (decide (tD t c = 0) || ay (fun a => al (fun k => decide (tB t (p c) (pl g a k (tD t c)) = p (tB t c k))) (tD t c)) a)), .int (nI a), .retAddr 0, .retAddr 0, .retAddr 0] [] σ := by
      intro fu
      induction fu using Nat.strongRecOn with
      | ind fu ih32 =>
        intro a v7 v8 v9 ha hfu
        refine GS.run [] 2 rfl ?_
        refine GS.icmp_ge rfl (fun c35 => ?_) (fun c35 => ?_)
        · have e0 : a = tD t c := by have := (nI_leI (by omega) (by omega)).mp c35; omega
          subst e0
          refine GS.run [] 1 rfl ?_
          refine GS.iret rfl rfl (nar_bI _) ?_
          exact ⟨rfl, rfl⟩
        · have hl : a < tD t c := (nI_gtI (by omega) (by omega)).mp c35
          refine GS.run [] 4 rfl ?_
          have loop44 : ∀ (fu : Nat) (k : Nat) (v9 : Value) (hk : k ≤ tD t c), tD t c - k = fu → GS none mX12_turnsAbout (d) (am_det (some (.int (bI (ooB t g p c)))) σ) 44 [.ref 69, .int (nI c), .int (bI g), .int (nI (tD t c)), .int (nI (p c)), .int (bI (decide (tD t c = 0) || ay (fun a => al (fun k => decide (tB t (p c) (pl g a k (tD t c)) = p (tB t c k))) (tD t c)) a)), .int (nI a), .int (bI (al (fun k => decide (tB t (p c) (pl g a k (tD t c)) = p (tB t c k))) k)), .int (nI k), .retAddr 0] [] σ := by
            intro fu
            induction fu using Nat.strongRecOn with
            | ind fu ih44 =>
              intro k v9 hk hfu
              refine GS.run [] 2 rfl ?_
              refine GS.icmp_ge rfl (fun c47 => ?_) (fun c47 => ?_)
              · have e0 : k = tD t c := by have := (nI_leI (by omega) (by omega)).mp c47; omega
                subst e0
                refine GS.run [] 1 rfl ?_
                refine GS.if_ne rfl (fun c134 => ?_) (fun c134 => ?_)
                · have hE : (1 : Int32) = bI (decide (tD t c = 0) || ay (fun a => al (fun k => decide (tB t (p c) (pl g a k (tD t c)) = p (tB t c k))) (tD t c)) (a + 1)) := by
                    have h1 := bI1.mp c134
                    rw [ay, ← Bool.or_assoc, h1]; rfl
                  refine GS.run [] 5 rfl ?_
                  rw [show nI a + 1 = nI (a + 1) from nI_1 a, hE]
                  exact GS.weak (by exact ⟨Or.inr rfl, Or.inr rfl, Or.inr rfl, Or.inr rfl, Or.inr rfl, Or.inr rfl, Or.inr rfl, Or.inl rfl, Or.inl rfl, Or.inl rfl, trivial⟩) (ih32 _ (by omega) (a + 1) Value.null Value.null Value.null (by omega) rfl)
                · have hF : (decide (tD t c = 0) || ay (fun a => al (fun k => decide (tB t (p c) (pl g a k (tD t c)) = p (tB t c k))) (tD t c)) a) = false := by
                    cases q : (decide (tD t c = 0) || ay (fun a => al (fun k => decide (tB t (p c) (pl g a k (tD t c)) = p (tB t c k))) (tD t c)) a) with
                    | false => rfl
                    | true => rw [q] at c134; exact absurd c134 (by decide)
                  refine GS.run [] 1 rfl ?_
                  refine GS.if_eq rfl (fun c139 => ?_) (fun c139 => ?_)
                  · have hE : (0 : Int32) = bI (decide (tD t c = 0) || ay (fun a => al (fun k => decide (tB t (p c) (pl g a k (tD t c)) = p (tB t c k))) (tD t c)) (a + 1)) := by rw [ay, ← Bool.or_assoc, hF, bI0.mp c139]; rfl
                    refine GS.run [] 4 rfl ?_
                    rw [show nI a + 1 = nI (a + 1) from nI_1 a, hE]
                    exact GS.weak (by exact ⟨Or.inr rfl, Or.inr rfl, Or.inr rfl, Or.inr rfl, Or.inr rfl, Or.inr rfl, Or.inr rfl, Or.inl rfl, Or.inl rfl, Or.inl rfl, trivial⟩) (ih32 _ (by omega) (a + 1) Value.null Value.null Value.null (by omega) rfl)
                  · have hE : (1 : Int32) = bI (decide (tD t c = 0) || ay (fun a => al (fun k => decide (tB t (p c) (pl g a k (tD t c)) = p (tB t c k))) (tD t c)) (a + 1)) := by rw [ay, ← Bool.or_assoc, hF, bI1.mp c139]; rfl
                    refine GS.run [] 5 rfl ?_
                    rw [show nI a + 1 = nI (a + 1) from nI_1 a, hE]
                    exact GS.weak (by exact ⟨Or.inr rfl, Or.inr rfl, Or.inr rfl, Or.inr rfl, Or.inr rfl, Or.inr rfl, Or.inr rfl, Or.inl rfl, Or.inl rfl, Or.inl rfl, trivial⟩) (ih32 _ (by omega) (a + 1) Value.null Value.null Value.null (by omega) rfl)
              · have hl2 : k < tD t c := (nI_gtI (by omega) (by omega)).mp c47
                have hpm := pl_mI (g := g) hl hl2 h6
                have hb1 := ((hw.2.2 c hc).2.2.2.2.1 k hl2).1
                have hpl := pl_lt (g := g) (o := a) (k := k) (n := tD t c) (by omega)
                refine GS.run [] 1 rfl ?_
                refine GS.if_eq rfl (fun c51 => ?_) (fun c51 => ?_)
                · rw [if_neg (by rw [bI0.mp c51]; exact Bool.false_ne_true)] at hpm
                  refine GS.run [] 4 rfl ?_
                  refine GS.irem rfl (by intro q; have := (nI_eq (b := 0) (by omega) (by omega)).mp q; omega) ?_
                  rw [hpm]
                  refine GS.run [] 2 rfl ?_
                  refine GS.if_eq rfl (fun c77 => ?_) (fun c77 => ?_)
                  · have hE : (0 : Int32) = bI (al (fun k => decide (tB t (p c) (pl g a k (tD t c)) = p (tB t c k))) (k + 1)) := by rw [al, bI0.mp c77]; rfl
                    refine GS.run [] 4 rfl ?_
                    rw [show nI k + 1 = nI (k + 1) from nI_1 k, hE]
                    exact GS.weak (by exact ⟨Or.inr rfl, Or.inr rfl, Or.inr rfl, Or.inr rfl, Or.inr rfl, Or.inr rfl, Or.inr rfl, Or.inr rfl, Or.inr rfl, Or.inl rfl, trivial⟩) (ih44 _ (by omega) (k + 1) Value.null (by omega) rfl)
                  · have hT : al (fun k => decide (tB t (p c) (pl g a k (tD t c)) = p (tB t c k))) k = true := bI1.mp c77
                    refine GS.run [] 9 rfl ?_
                    refine GS.ald (50 + 6 * p c + pl _ a k (tD t c)) rfl rfl (he_to) (by omega) ?_
                    rw [m_to ht hpc (by omega)]
                    refine GS.run [] 11 rfl ?_
                    refine GS.ald (50 + 6 * c + k) rfl rfl (he_to) (by omega) ?_
                    rw [m_to ht hc hl2]
                    refine GS.ald (tB t c k) rfl rfl (rfl) (by omega) ?_
                    rw [hv _ hb1]
                    have hq1 := ((hw.2.2 (p c) hpc).2.2.2.2.1 _ (by rw [← hD]; exact hpl)).1
                    have hq2 := (hp _ hb1).1
                    refine GS.run [] 0 rfl ?_
                    refine GS.icmp_ne rfl (fun c116 => ?_) (fun c116 => ?_)
                    · have k1 : ¬ tB t (p c) (pl _ a k (tD t c)) = p (tB t c k) := fun q => c116 (by rw [q])
                      have hE : (0 : Int32) = bI (al (fun k => decide (tB t (p c) (pl g a k (tD t c)) = p (tB t c k))) (k + 1)) := by rw [al, hT, decide_eq_false k1]; rfl
                      refine GS.run [] 4 rfl ?_
                      rw [show nI k + 1 = nI (k + 1) from nI_1 k, hE]
                      exact GS.weak (by exact ⟨Or.inr rfl, Or.inr rfl, Or.inr rfl, Or.inr rfl, Or.inr rfl, Or.inr rfl, Or.inr rfl, Or.inr rfl, Or.inr rfl, Or.inl rfl, trivial⟩) (ih44 _ (by omega) (k + 1) Value.null (by omega) rfl)
                    · have k1 : tB t (p c) (pl _ a k (tD t c)) = p (tB t c k) := (nI_eq (by omega) (by omega)).mp c116
                      have hE : (1 : Int32) = bI (al (fun k => decide (tB t (p c) (pl g a k (tD t c)) = p (tB t c k))) (k + 1)) := by rw [al, hT, decide_eq_true k1]; rfl
                      refine GS.run [] 5 rfl ?_
                      rw [show nI k + 1 = nI (k + 1) from nI_1 k, hE]
                      exact GS.weak (by exact ⟨Or.inr rfl, Or.inr rfl, Or.inr rfl, Or.inr rfl, Or.inr rfl, Or.inr rfl, Or.inr rfl, Or.inr rfl, Or.inr rfl, Or.inl rfl, trivial⟩) (ih44 _ (by omega) (k + 1) Value.null (by omega) rfl)
                · rw [if_pos (bI1.mp c51)] at hpm
                  refine GS.run [] 6 rfl ?_
                  refine GS.irem rfl (by intro q; have := (nI_eq (b := 0) (by omega) (by omega)).mp q; omega) ?_
                  rw [hpm]
                  refine GS.run [] 3 rfl ?_
                  refine GS.if_eq rfl (fun c77 => ?_) (fun c77 => ?_)
                  · have hE : (0 : Int32) = bI (al (fun k => decide (tB t (p c) (pl g a k (tD t c)) = p (tB t c k))) (k + 1)) := by rw [al, bI0.mp c77]; rfl
                    refine GS.run [] 4 rfl ?_
                    rw [show nI k + 1 = nI (k + 1) from nI_1 k, hE]
                    exact GS.weak (by exact ⟨Or.inr rfl, Or.inr rfl, Or.inr rfl, Or.inr rfl, Or.inr rfl, Or.inr rfl, Or.inr rfl, Or.inr rfl, Or.inr rfl, Or.inl rfl, trivial⟩) (ih44 _ (by omega) (k + 1) Value.null (by omega) rfl)
                  · have hT : al (fun k => decide (tB t (p c) (pl g a k (tD t c)) = p (tB t c k))) k = true := bI1.mp c77
                    refine GS.run [] 9 rfl ?_
                    refine GS.ald (50 + 6 * p c + pl _ a k (tD t c)) rfl rfl (he_to) (by omega) ?_
                    rw [m_to ht hpc (by omega)]
                    refine GS.run [] 11 rfl ?_
                    refine GS.ald (50 + 6 * c + k) rfl rfl (he_to) (by omega) ?_
                    rw [m_to ht hc hl2]
                    refine GS.ald (tB t c k) rfl rfl (rfl) (by omega) ?_
                    rw [hv _ hb1]
                    have hq1 := ((hw.2.2 (p c) hpc).2.2.2.2.1 _ (by rw [← hD]; exact hpl)).1
                    have hq2 := (hp _ hb1).1
                    refine GS.run [] 0 rfl ?_
                    refine GS.icmp_ne rfl (fun c116 => ?_) (fun c116 => ?_)
                    · have k1 : ¬ tB t (p c) (pl _ a k (tD t c)) = p (tB t c k) := fun q => c116 (by rw [q])
                      have hE : (0 : Int32) = bI (al (fun k => decide (tB t (p c) (pl g a k (tD t c)) = p (tB t c k))) (k + 1)) := by rw [al, hT, decide_eq_false k1]; rfl
                      refine GS.run [] 4 rfl ?_
                      rw [show nI k + 1 = nI (k + 1) from nI_1 k, hE]
                      exact GS.weak (by exact ⟨Or.inr rfl, Or.inr rfl, Or.inr rfl, Or.inr rfl, Or.inr rfl, Or.inr rfl, Or.inr rfl, Or.inr rfl, Or.inr rfl, Or.inl rfl, trivial⟩) (ih44 _ (by omega) (k + 1) Value.null (by omega) rfl)
                    · have k1 : tB t (p c) (pl _ a k (tD t c)) = p (tB t c k) := (nI_eq (by omega) (by omega)).mp c116
                      have hE : (1 : Int32) = bI (al (fun k => decide (tB t (p c) (pl g a k (tD t c)) = p (tB t c k))) (k + 1)) := by rw [al, hT, decide_eq_true k1]; rfl
                      refine GS.run [] 5 rfl ?_
                      rw [show nI k + 1 = nI (k + 1) from nI_1 k, hE]
                      exact GS.weak (by exact ⟨Or.inr rfl, Or.inr rfl, Or.inr rfl, Or.inr rfl, Or.inr rfl, Or.inr rfl, Or.inr rfl, Or.inr rfl, Or.inr rfl, Or.inl rfl, trivial⟩) (ih44 _ (by omega) (k + 1) Value.null (by omega) rfl)
          exact loop44 _ 0 Value.null (Nat.zero_le _) rfl
    have hl32 := loop32 _ 0 Value.null Value.null Value.null (Nat.zero_le _) rfl
    rw [hk0] at hl32
    exact hl32
  · have hk0 : decide (tD t c = 0) = true := decide_eq_true ((nI_eq (b := 0) (by omega) (by omega)).mp c19)
    refine GS.run [] 5 rfl ?_
    have loop32 : ∀ (fu : Nat) (a : Nat) (v7 v8 v9 : Value) (ha : a ≤ tD t c), tD t c - a = fu → GS none mX12_turnsAbout (d) (am_det (some (.int (bI (ooB t g p c)))) σ) 32 [.ref 69, .int (nI c), .int (bI g), .int (nI (tD t c)), .int (nI (p c)), .int (bI (decide (tD t c = 0) || ay (fun a => al (fun k => decide (tB t (p c) (pl g a k (tD t c)) = p (tB t c k))) (tD t c)) a)), .int (nI a), .retAddr 0, .retAddr 0, .retAddr 0] [] σ := by
      intro fu
      induction fu using Nat.strongRecOn with
      | ind fu ih32 =>
        intro a v7 v8 v9 ha hfu
        refine GS.run [] 2 rfl ?_
        refine GS.icmp_ge rfl (fun c35 => ?_) (fun c35 => ?_)
        · have e0 : a = tD t c := by have := (nI_leI (by omega) (by omega)).mp c35; omega
          subst e0
          refine GS.run [] 1 rfl ?_
          refine GS.iret rfl rfl (nar_bI _) ?_
          exact ⟨rfl, rfl⟩
        · have hl : a < tD t c := (nI_gtI (by omega) (by omega)).mp c35
          refine GS.run [] 4 rfl ?_
          have loop44 : ∀ (fu : Nat) (k : Nat) (v9 : Value) (hk : k ≤ tD t c), tD t c - k = fu → GS none mX12_turnsAbout (d) (am_det (some (.int (bI (ooB t g p c)))) σ) 44 [.ref 69, .int (nI c), .int (bI g), .int (nI (tD t c)), .int (nI (p c)), .int (bI (decide (tD t c = 0) || ay (fun a => al (fun k => decide (tB t (p c) (pl g a k (tD t c)) = p (tB t c k))) (tD t c)) a)), .int (nI a), .int (bI (al (fun k => decide (tB t (p c) (pl g a k (tD t c)) = p (tB t c k))) k)), .int (nI k), .retAddr 0] [] σ := by
            intro fu
            induction fu using Nat.strongRecOn with
            | ind fu ih44 =>
              intro k v9 hk hfu
              refine GS.run [] 2 rfl ?_
              refine GS.icmp_ge rfl (fun c47 => ?_) (fun c47 => ?_)
              · have e0 : k = tD t c := by have := (nI_leI (by omega) (by omega)).mp c47; omega
                subst e0
                refine GS.run [] 1 rfl ?_
                refine GS.if_ne rfl (fun c134 => ?_) (fun c134 => ?_)
                · have hE : (1 : Int32) = bI (decide (tD t c = 0) || ay (fun a => al (fun k => decide (tB t (p c) (pl g a k (tD t c)) = p (tB t c k))) (tD t c)) (a + 1)) := by
                    have h1 := bI1.mp c134
                    rw [ay, ← Bool.or_assoc, h1]; rfl
                  refine GS.run [] 5 rfl ?_
                  rw [show nI a + 1 = nI (a + 1) from nI_1 a, hE]
                  exact GS.weak (by exact ⟨Or.inr rfl, Or.inr rfl, Or.inr rfl, Or.inr rfl, Or.inr rfl, Or.inr rfl, Or.inr rfl, Or.inl rfl, Or.inl rfl, Or.inl rfl, trivial⟩) (ih32 _ (by omega) (a + 1) Value.null Value.null Value.null (by omega) rfl)
                · have hF : (decide (tD t c = 0) || ay (fun a => al (fun k => decide (tB t (p c) (pl g a k (tD t c)) = p (tB t c k))) (tD t c)) a) = false := by
                    cases q : (decide (tD t c = 0) || ay (fun a => al (fun k => decide (tB t (p c) (pl g a k (tD t c)) = p (tB t c k))) (tD t c)) a) with
                    | false => rfl
                    | true => rw [q] at c134; exact absurd c134 (by decide)
                  refine GS.run [] 1 rfl ?_
                  refine GS.if_eq rfl (fun c139 => ?_) (fun c139 => ?_)
                  · have hE : (0 : Int32) = bI (decide (tD t c = 0) || ay (fun a => al (fun k => decide (tB t (p c) (pl g a k (tD t c)) = p (tB t c k))) (tD t c)) (a + 1)) := by rw [ay, ← Bool.or_assoc, hF, bI0.mp c139]; rfl
                    refine GS.run [] 4 rfl ?_
                    rw [show nI a + 1 = nI (a + 1) from nI_1 a, hE]
                    exact GS.weak (by exact ⟨Or.inr rfl, Or.inr rfl, Or.inr rfl, Or.inr rfl, Or.inr rfl, Or.inr rfl, Or.inr rfl, Or.inl rfl, Or.inl rfl, Or.inl rfl, trivial⟩) (ih32 _ (by omega) (a + 1) Value.null Value.null Value.null (by omega) rfl)
                  · have hE : (1 : Int32) = bI (decide (tD t c = 0) || ay (fun a => al (fun k => decide (tB t (p c) (pl g a k (tD t c)) = p (tB t c k))) (tD t c)) (a + 1)) := by rw [ay, ← Bool.or_assoc, hF, bI1.mp c139]; rfl
                    refine GS.run [] 5 rfl ?_
                    rw [show nI a + 1 = nI (a + 1) from nI_1 a, hE]
                    exact GS.weak (by exact ⟨Or.inr rfl, Or.inr rfl, Or.inr rfl, Or.inr rfl, Or.inr rfl, Or.inr rfl, Or.inr rfl, Or.inl rfl, Or.inl rfl, Or.inl rfl, trivial⟩) (ih32 _ (by omega) (a + 1) Value.null Value.null Value.null (by omega) rfl)
              · have hl2 : k < tD t c := (nI_gtI (by omega) (by omega)).mp c47
                have hpm := pl_mI (g := g) hl hl2 h6
                have hb1 := ((hw.2.2 c hc).2.2.2.2.1 k hl2).1
                have hpl := pl_lt (g := g) (o := a) (k := k) (n := tD t c) (by omega)
                refine GS.run [] 1 rfl ?_
                refine GS.if_eq rfl (fun c51 => ?_) (fun c51 => ?_)
                · rw [if_neg (by rw [bI0.mp c51]; exact Bool.false_ne_true)] at hpm
                  refine GS.run [] 4 rfl ?_
                  refine GS.irem rfl (by intro q; have := (nI_eq (b := 0) (by omega) (by omega)).mp q; omega) ?_
                  rw [hpm]
                  refine GS.run [] 2 rfl ?_
                  refine GS.if_eq rfl (fun c77 => ?_) (fun c77 => ?_)
                  · have hE : (0 : Int32) = bI (al (fun k => decide (tB t (p c) (pl g a k (tD t c)) = p (tB t c k))) (k + 1)) := by rw [al, bI0.mp c77]; rfl
                    refine GS.run [] 4 rfl ?_
                    rw [show nI k + 1 = nI (k + 1) from nI_1 k, hE]
                    exact GS.weak (by exact ⟨Or.inr rfl, Or.inr rfl, Or.inr rfl, Or.inr rfl, Or.inr rfl, Or.inr rfl, Or.inr rfl, Or.inr rfl, Or.inr rfl, Or.inl rfl, trivial⟩) (ih44 _ (by omega) (k + 1) Value.null (by omega) rfl)
                  · have hT : al (fun k => decide (tB t (p c) (pl g a k (tD t c)) = p (tB t c k))) k = true := bI1.mp c77
                    refine GS.run [] 9 rfl ?_
                    refine GS.ald (50 + 6 * p c + pl _ a k (tD t c)) rfl rfl (he_to) (by omega) ?_
                    rw [m_to ht hpc (by omega)]
                    refine GS.run [] 11 rfl ?_
                    refine GS.ald (50 + 6 * c + k) rfl rfl (he_to) (by omega) ?_
                    rw [m_to ht hc hl2]
                    refine GS.ald (tB t c k) rfl rfl (rfl) (by omega) ?_
                    rw [hv _ hb1]
                    have hq1 := ((hw.2.2 (p c) hpc).2.2.2.2.1 _ (by rw [← hD]; exact hpl)).1
                    have hq2 := (hp _ hb1).1
                    refine GS.run [] 0 rfl ?_
                    refine GS.icmp_ne rfl (fun c116 => ?_) (fun c116 => ?_)
                    · have k1 : ¬ tB t (p c) (pl _ a k (tD t c)) = p (tB t c k) := fun q => c116 (by rw [q])
                      have hE : (0 : Int32) = bI (al (fun k => decide (tB t (p c) (pl g a k (tD t c)) = p (tB t c k))) (k + 1)) := by rw [al, hT, decide_eq_false k1]; rfl
                      refine GS.run [] 4 rfl ?_
                      rw [show nI k + 1 = nI (k + 1) from nI_1 k, hE]
                      exact GS.weak (by exact ⟨Or.inr rfl, Or.inr rfl, Or.inr rfl, Or.inr rfl, Or.inr rfl, Or.inr rfl, Or.inr rfl, Or.inr rfl, Or.inr rfl, Or.inl rfl, trivial⟩) (ih44 _ (by omega) (k + 1) Value.null (by omega) rfl)
                    · have k1 : tB t (p c) (pl _ a k (tD t c)) = p (tB t c k) := (nI_eq (by omega) (by omega)).mp c116
                      have hE : (1 : Int32) = bI (al (fun k => decide (tB t (p c) (pl g a k (tD t c)) = p (tB t c k))) (k + 1)) := by rw [al, hT, decide_eq_true k1]; rfl
                      refine GS.run [] 5 rfl ?_
                      rw [show nI k + 1 = nI (k + 1) from nI_1 k, hE]
                      exact GS.weak (by exact ⟨Or.inr rfl, Or.inr rfl, Or.inr rfl, Or.inr rfl, Or.inr rfl, Or.inr rfl, Or.inr rfl, Or.inr rfl, Or.inr rfl, Or.inl rfl, trivial⟩) (ih44 _ (by omega) (k + 1) Value.null (by omega) rfl)
                · rw [if_pos (bI1.mp c51)] at hpm
                  refine GS.run [] 6 rfl ?_
                  refine GS.irem rfl (by intro q; have := (nI_eq (b := 0) (by omega) (by omega)).mp q; omega) ?_
                  rw [hpm]
                  refine GS.run [] 3 rfl ?_
                  refine GS.if_eq rfl (fun c77 => ?_) (fun c77 => ?_)
                  · have hE : (0 : Int32) = bI (al (fun k => decide (tB t (p c) (pl g a k (tD t c)) = p (tB t c k))) (k + 1)) := by rw [al, bI0.mp c77]; rfl
                    refine GS.run [] 4 rfl ?_
                    rw [show nI k + 1 = nI (k + 1) from nI_1 k, hE]
                    exact GS.weak (by exact ⟨Or.inr rfl, Or.inr rfl, Or.inr rfl, Or.inr rfl, Or.inr rfl, Or.inr rfl, Or.inr rfl, Or.inr rfl, Or.inr rfl, Or.inl rfl, trivial⟩) (ih44 _ (by omega) (k + 1) Value.null (by omega) rfl)
                  · have hT : al (fun k => decide (tB t (p c) (pl g a k (tD t c)) = p (tB t c k))) k = true := bI1.mp c77
                    refine GS.run [] 9 rfl ?_
                    refine GS.ald (50 + 6 * p c + pl _ a k (tD t c)) rfl rfl (he_to) (by omega) ?_
                    rw [m_to ht hpc (by omega)]
                    refine GS.run [] 11 rfl ?_
                    refine GS.ald (50 + 6 * c + k) rfl rfl (he_to) (by omega) ?_
                    rw [m_to ht hc hl2]
                    refine GS.ald (tB t c k) rfl rfl (rfl) (by omega) ?_
                    rw [hv _ hb1]
                    have hq1 := ((hw.2.2 (p c) hpc).2.2.2.2.1 _ (by rw [← hD]; exact hpl)).1
                    have hq2 := (hp _ hb1).1
                    refine GS.run [] 0 rfl ?_
                    refine GS.icmp_ne rfl (fun c116 => ?_) (fun c116 => ?_)
                    · have k1 : ¬ tB t (p c) (pl _ a k (tD t c)) = p (tB t c k) := fun q => c116 (by rw [q])
                      have hE : (0 : Int32) = bI (al (fun k => decide (tB t (p c) (pl g a k (tD t c)) = p (tB t c k))) (k + 1)) := by rw [al, hT, decide_eq_false k1]; rfl
                      refine GS.run [] 4 rfl ?_
                      rw [show nI k + 1 = nI (k + 1) from nI_1 k, hE]
                      exact GS.weak (by exact ⟨Or.inr rfl, Or.inr rfl, Or.inr rfl, Or.inr rfl, Or.inr rfl, Or.inr rfl, Or.inr rfl, Or.inr rfl, Or.inr rfl, Or.inl rfl, trivial⟩) (ih44 _ (by omega) (k + 1) Value.null (by omega) rfl)
                    · have k1 : tB t (p c) (pl _ a k (tD t c)) = p (tB t c k) := (nI_eq (by omega) (by omega)).mp c116
                      have hE : (1 : Int32) = bI (al (fun k => decide (tB t (p c) (pl g a k (tD t c)) = p (tB t c k))) (k + 1)) := by rw [al, hT, decide_eq_true k1]; rfl
                      refine GS.run [] 5 rfl ?_
                      rw [show nI k + 1 = nI (k + 1) from nI_1 k, hE]
                      exact GS.weak (by exact ⟨Or.inr rfl, Or.inr rfl, Or.inr rfl, Or.inr rfl, Or.inr rfl, Or.inr rfl, Or.inr rfl, Or.inr rfl, Or.inr rfl, Or.inl rfl, trivial⟩) (ih44 _ (by omega) (k + 1) Value.null (by omega) rfl)
          exact loop44 _ 0 Value.null (Nat.zero_le _) rfl
    have hl32 := loop32 _ 0 Value.null Value.null Value.null (Nat.zero_le _) rfl
    rw [hk0] at hl32
    exact hl32
theorem c_isWay (d : Nat) (σ : am_S) (t : Tn) (g : Bool) (p : Nat → Nat) (ht : townM 73 0 σ t) (hw : wfT t) (hp : pwO t p (tN t)) (hv : laidV σ p (tN t)) : CallS mX12_isWay (d + 1) [.ref 69, .int (bI g)] σ (am_det (some (.int (bI (iwB t g p)))) σ) := by
  refine CallS.of kX12_isWay pX12_isWay [.ref 69, .int (bI g), .retAddr 0, .retAddr 0] rfl (Nat.le_of_ble_eq_true rfl) ?_
  have h8 := hw.1
  refine GS.run [] 4 rfl ?_
  have loop4 : ∀ (fu : Nat) (c : Nat) (hc : c ≤ tN t), tN t - c = fu → GS none mX12_isWay (d + 1) (am_det (some (.int (bI (iwB t g p)))) σ) 4 [.ref 69, .int (bI g), .int (bI (al (ooB t g p) c)), .int (nI c)] [] σ := by
    intro fu
    induction fu using Nat.strongRecOn with
    | ind fu ih4 =>
      intro c hc hfu
      refine GS.run [] 4 rfl ?_
      refine GS.ald (0) rfl rfl (rfl) (by omega) ?_
      rw [m_n ht]
      refine GS.icmp_ge rfl (fun c11 => ?_) (fun c11 => ?_)
      · have e0 : c = tN t := by have := (nI_leI (by omega) (by omega)).mp c11; omega
        subst e0
        refine GS.run [] 1 rfl ?_
        refine GS.iret rfl rfl (nar_bI _) ?_
        exact ⟨rfl, rfl⟩
      · have hl : c < tN t := (nI_gtI (by omega) (by omega)).mp c11
        refine GS.run [] 1 rfl ?_
        refine GS.if_eq rfl (fun c15 => ?_) (fun c15 => ?_)
        · have hE : (0 : Int32) = bI (al (ooB t g p) (c + 1)) := by rw [al, bI0.mp c15]; rfl
          refine GS.run [] 4 rfl ?_
          rw [show nI c + 1 = nI (c + 1) from nI_1 c, hE]
          exact ih4 _ (by omega) (c + 1) (by omega) rfl
        · have hT : al (ooB t g p) c = true := bI1.mp c15
          refine GS.run [] 3 rfl ?_
          refine GS.cV oX12_turnsAbout (c_turnsAbout d σ t g p c ht hw hl hp hv) rfl rfl rfl rfl rfl rfl rfl (Nat.le_of_ble_eq_true rfl) (by omega) ?_
          refine GS.if_eq rfl (fun c24 => ?_) (fun c24 => ?_)
          · have hE : (0 : Int32) = bI (al (ooB t g p) (c + 1)) := by rw [al, hT, bI0.mp c24]; rfl
            refine GS.run [] 4 rfl ?_
            rw [show nI c + 1 = nI (c + 1) from nI_1 c, hE]
            exact ih4 _ (by omega) (c + 1) (by omega) rfl
          · have hE : (1 : Int32) = bI (al (ooB t g p) (c + 1)) := by rw [al, hT, bI1.mp c24]; rfl
            refine GS.run [] 5 rfl ?_
            rw [show nI c + 1 = nI (c + 1) from nI_1 c, hE]
            exact ih4 _ (by omega) (c + 1) (by omega) rfl
  exact loop4 _ 0 (Nat.zero_le _) rfl
def fxI (p : Nat → Nat) : Nat → Int32
  | 0 => 0
  | c + 1 => fxI p c ||| (if p c = c then (1 : Int32) <<< (nI c &&& 31) else 0)
theorem c_fixedNow (d : Nat) (σ : am_S) (t : Tn) (p : Nat → Nat) (ht : townM 73 0 σ t) (hw : wfT t) (hp : pwO t p (tN t)) (hv : laidV σ p (tN t)) : CallS mX12_fixedNow (d) [.ref 69] σ (am_det (some (.int (fxI p (tN t)))) σ) := by
  refine CallS.of kX12_fixedNow pX12_fixedNow [.ref 69, .retAddr 0, .retAddr 0] rfl (Nat.le_of_ble_eq_true rfl) ?_
  have h8 := hw.1
  refine GS.run [] 4 rfl ?_
  have loop4 : ∀ (fu : Nat) (c : Nat) (hc : c ≤ tN t), tN t - c = fu → GS none mX12_fixedNow (d) (am_det (some (.int (fxI p (tN t)))) σ) 4 [.ref 69, .int (fxI p c), .int (nI c)] [] σ := by
    intro fu
    induction fu using Nat.strongRecOn with
    | ind fu ih4 =>
      intro c hc hfu
      refine GS.run [] 4 rfl ?_
      refine GS.ald (0) rfl rfl (rfl) (by omega) ?_
      rw [m_n ht]
      refine GS.icmp_ge rfl (fun c11 => ?_) (fun c11 => ?_)
      · have e0 : c = tN t := by have := (nI_leI (by omega) (by omega)).mp c11; omega
        subst e0
        refine GS.run [] 1 rfl ?_
        refine GS.iret rfl rfl (rfl) ?_
        exact ⟨rfl, rfl⟩
      · have hl : c < tN t := (nI_gtI (by omega) (by omega)).mp c11
        have hpc := (hp c hl).1
        refine GS.run [] 4 rfl ?_
        refine GS.ald (c) rfl rfl (rfl) (by omega) ?_
        rw [hv c hl]
        refine GS.run [] 1 rfl ?_
        refine GS.icmp_ne rfl (fun c22 => ?_) (fun c22 => ?_)
        · have k1 : ¬ p c = c := fun q => c22 (by rw [q])
          have hE : fxI p c ||| 0 = fxI p (c + 1) := by rw [fxI, if_neg k1]
          refine GS.run [] 5 rfl ?_
          rw [show nI c + 1 = nI (c + 1) from nI_1 c, hE]
          exact ih4 _ (by omega) (c + 1) (by omega) rfl
        · have k1 : p c = c := (nI_eq (by omega) (by omega)).mp c22
          have hE : fxI p c ||| ((1 : Int32) <<< (nI c &&& 31)) = fxI p (c + 1) := by rw [fxI, if_pos k1]
          refine GS.run [] 8 rfl ?_
          rw [show nI c + 1 = nI (c + 1) from nI_1 c, hE]
          exact ih4 _ (by omega) (c + 1) (by omega) rfl
  exact loop4 _ 0 (Nat.zero_le _) rfl
