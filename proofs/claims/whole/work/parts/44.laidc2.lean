def preO (p : Nat → Nat) (k : Nat) : Nat → Option Nat := fun i => if i < k then some (p i) else none
theorem preO_lt {p : Nat → Nat} {k i : Nat} (h : i < k) : preO p k i = some (p i) := if_pos h
theorem preO_ge {p : Nat → Nat} {k i : Nat} (h : ¬ i < k) : preO p k i = none := if_neg h
theorem preO_pok {t : Tn} {p : Nat → Nat} {k : Nat} (hw : wfT t) (hk : k ≤ tN t) (h : pwO t p k) : pokP t (preO p k) := by
  intro c d hc hd
  by_cases q : c < k
  · rw [preO_lt q] at hd
    cases hd
    refine ⟨(h c q).1, (h c q).2.1, fun e d' he hd' hne => ?_⟩
    by_cases q2 : e < k
    · rw [preO_lt q2] at hd'
      cases hd'
      exact ⟨fun z => hne (pwO_inj h q q2 z), pwO_adj hw hk h q q2⟩
    · rw [preO_ge q2] at hd'; cases hd'
  · rw [preO_ge q] at hd; cases hd
theorem preO_ext {t : Tn} {p w : Nat → Nat} {k : Nat} (hk : k ≤ tN t) : extP t (preO p k) w ↔ ∀ i, i < k → w i = p i := by
  refine ⟨fun h i hi => h i _ (by omega) (preO_lt hi), fun h c d hc hd => ?_⟩
  by_cases q : c < k
  · rw [preO_lt q] at hd; cases hd; exact h c q
  · rw [preO_ge q] at hd; cases hd
theorem preO_can {t : Tn} {g : Bool} {p : Nat → Nat} {k x : Nat} {b : Bool} (hw : wfT t) (hk : k < tN t) (h : pwO t p k) (hx : x < tN t) (hb : b = true ↔ canP t g (preO p k) k x) : b = gB t g p k x := by
  rw [Bool.eq_iff_iff, hb, gB_iff hw hk h hx]
  refine ⟨fun ⟨w, w1, w2, w3⟩ => ⟨w, w1, (preO_ext (by omega)).mp w2, w3⟩, fun ⟨w, w1, w2, w3⟩ => ⟨w, w1, (preO_ext (by omega)).mpr w2, w3⟩⟩
theorem preO_s {p : Nat → Nat} {k : Nat} : va_up (preO p k) k (some (p k)) = preO p (k + 1) := by
  funext i
  by_cases e : i = k
  · rw [e, va_eq, preO_lt (Nat.lt_succ_self k)]
  · rw [va_ne _ _ e]
    by_cases q : i < k
    · rw [preO_lt q, preO_lt (by omega)]
    · rw [preO_ge q, preO_ge (by omega)]
theorem preO_u {p : Nat → Nat} {k d : Nat} : va_up (preO p k) k (some d) = preO (va_up p k d) (k + 1) := by
  funext i
  by_cases e : i = k
  · rw [e, va_eq, preO_lt (Nat.lt_succ_self k), va_eq]
  · rw [va_ne _ _ e]
    by_cases q : i < k
    · rw [preO_lt q, preO_lt (by omega), va_ne _ _ e]
    · rw [preO_ge q, preO_ge (by omega)]
theorem preO_d {p : Nat → Nat} {k : Nat} : va_up (preO p (k + 1)) k none = preO p k := by
  funext i
  by_cases e : i = k
  · rw [e, va_eq, preO_ge (Nat.lt_irrefl k)]
  · rw [va_ne _ _ e]
    by_cases q : i < k
    · rw [preO_lt q, preO_lt (by omega)]
    · rw [preO_ge q, preO_ge (by omega)]
def layOK (σ : am_S) (t : Tn) : Prop := σ 64 3 = bI (!(wys t true).isEmpty) ∧ ∀ j, j ≤ tN t → σ 66 j = nI (bkF t (tN t - j))
def layC (σ : am_S) (t : Tn) : Prop := σ 64 4 = 0 ∨ (σ 64 4 = 1 ∧ layOK σ t)
theorem ay_wys {t : Tn} (hw : wfT t) (hn : 0 < tN t) : ay (gB t true (fun i => i) 0) (tN t) = !(wys t true).isEmpty := by
  have h0 : pwO t (fun i => i) 0 := fun c hc => absurd hc (Nat.not_lt_zero _)
  cases e : (wys t true).isEmpty with
  | false =>
    obtain ⟨w, h⟩ := (wys_ex hw).mp e
    exact ay_iff.mpr ⟨w 0, (h.1 0 hn).1, (gB_iff hw hn h0 (h.1 0 hn).1).mpr ⟨w, h, fun i hi => absurd hi (Nat.not_lt_zero _), rfl⟩⟩
  | true =>
    show ay (gB t true (fun i => i) 0) (tN t) = false
    rw [Bool.eq_false_iff]
    intro q
    obtain ⟨x, hx, hg⟩ := ay_iff.mp q
    obtain ⟨w, h, -⟩ := (gB_iff hw hn h0 hx).mp hg
    have := (wys_ex hw).mpr ⟨w, h⟩
    rw [e] at this
    cases this
theorem wys_f {t : Tn} (hw : wfT t) : (wys t false).length = bkF t (tN t) := by
  rw [wys_len hw, if_neg]
  rw [(wys_ex hw).mpr ⟨_, Wy_id⟩]
  exact Bool.false_ne_true
theorem wys_b {t : Tn} {g : Bool} (hw : wfT t) : (wys t g).length ≤ 16777216 := by
  rw [wys_len hw]
  split
  · exact Nat.zero_le _
  · exact bkF_b hw hw.1
theorem onV_0 {σ : am_S} {t : Tn} {p : Nat → Nat} (hw : wfT t) : onV (am_s1 σ 65 (am_fill (σ 65) 8 (-1000000))) t (preO p 0) := fun c hc => by
  have h8 := hw.1
  rw [am_s1_eq, preO_ge (Nat.not_lt_zero _)]
  unfold am_fill
  rw [if_pos (by omega)]
  rfl
theorem onV.kept {σ σ' : am_S} {t : Tn} {on : Nat → Option Nat} (h : onV σ t on) (e : σ' 65 = σ 65) : onV σ' t on := fun c hc => by rw [e]; exact h c hc
theorem nI_m1z {m : Nat} : nI m + -1 = zI ((m : Int) - 1) := by rw [zI_n, show (-1 : Int32) = zI (-1) from rfl, zI_add]; rfl
theorem c_countAll (d : Nat) (σ : am_S) (t : Tn) (ht : townC 10 σ t) (hw : wfT t) (hn : 0 < tN t) (hl : layC σ t) : CallS mX3_countAll (d + 20) [.ref 64] σ (fun r σ' => r = none ∧ σ' 64 4 = 1 ∧ layOK σ' t ∧ same [64, 65, 66] σ σ') := by
  refine CallS.of kX3_countAll pX3_countAll [.ref 64, .retAddr 0, .retAddr 0, .retAddr 0] rfl (Nat.le_of_ble_eq_true rfl) ?_
  have h8 := hw.1
  have h00 : pwO t (fun i => i) 0 := fun c hc => absurd hc (Nat.not_lt_zero _)
  refine GS.run [] 2 rfl ?_
  rcases hl with h4 | ⟨h4, hok⟩
  · rw [h4]
    refine GS.run [] 0 rfl ?_
    refine GS.if_eq rfl (fun c4 => ?_) (fun q => absurd (rfl) q)
    refine GS.run [] 3 rfl ?_
    refine GS.cS oX11_fill (c_fill (d + 19) σ 65 8 (-1000000) rfl) rfl rfl rfl rfl (Nat.le_of_ble_eq_true rfl) (by omega) ?_
    have ho0 := onV_0 (σ := σ) (p := fun i => i) hw
    have s0 : same [64, 65, 66] σ (am_s1 σ 65 (am_fill (σ 65) 8 (-1000000))) := same.rf.s1 (by decide)
    refine GS.run [] 2 rfl ?_
    generalize hS0 : am_s1 σ 65 (am_fill (σ 65) 8 (-1000000)) = σ0 at ho0 s0 ⊢
    refine GS.run [] 0 rfl ?_
    refine GS.putZ rfl rfl rfl (rfl) (rfl) rfl ?_
    refine GS.run [] 2 rfl ?_
    have loop24 : ∀ (fu : Nat) (x : Nat) (σx : am_S) (hx : x ≤ tN t) (hsx : same [64, 65, 66] σ σx) (hox : onV σx t (preO (fun i => i) 0)) (h3x : σx 64 3 = bI (ay (gB t true (fun i => i) 0) x)), tN t - x = fu → GS none mX3_countAll (d + 20) (fun r σ' => r = none ∧ σ' 64 4 = 1 ∧ layOK σ' t ∧ same [64, 65, 66] σ σ') 24 [.ref 64, .int (nI x), .retAddr 0, .retAddr 0] [] σx := by
      intro fu
      induction fu using Nat.strongRecOn with
      | ind fu ih24 =>
        intro x σx hx hsx hox h3x hfu
        refine GS.run [] 3 rfl ?_
        have htx := (ht.kept (fun j hj => hsx _ (by simp; omega)))
        refine GS.run [] 0 rfl ?_
        refine GS.cV oX8_corners ((c_corners_10 (d + 19) σx).eq (congrArg (fun z => some (Value.int z)) (htx.1)) rfl) rfl rfl rfl rfl rfl rfl rfl (Nat.le_of_ble_eq_true rfl) (by omega) ?_
        refine GS.icmp_ge rfl (fun c32 => ?_) (fun c32 => ?_)
        · have e0 : x = tN t := by have := (nI_leI (by omega) (by omega)).mp c32; omega
          subst e0
          rw [ay_wys hw hn] at h3x
          refine GS.run [] 2 rfl ?_
          have loop70 : ∀ (fu : Nat) (y : Nat) (σy : am_S) (hy : y ≤ tN t) (hsy : same [64, 65, 66] σ σy) (hoy : onV σy t (preO (fun i => i) y)) (h3y : σy 64 3 = bI (!(wys t true).isEmpty)), tN t - y = fu → GS none mX3_countAll (d + 20) (fun r σ' => r = none ∧ σ' 64 4 = 1 ∧ layOK σ' t ∧ same [64, 65, 66] σ σ') 70 [.ref 64, .int (nI y), .retAddr 0, .retAddr 0] [] σy := by
            intro fu
            induction fu using Nat.strongRecOn with
            | ind fu ih70 =>
              intro y σy hy hsy hoy h3y hfu
              refine GS.run [] 3 rfl ?_
              have hty := (ht.kept (fun j hj => hsy _ (by simp; omega)))
              refine GS.run [] 0 rfl ?_
              refine GS.cV oX8_corners ((c_corners_10 (d + 19) σy).eq (congrArg (fun z => some (Value.int z)) (hty.1)) rfl) rfl rfl rfl rfl rfl rfl rfl (Nat.le_of_ble_eq_true rfl) (by omega) ?_
              refine GS.icmp_ge rfl (fun c78 => ?_) (fun c78 => ?_)
              · have e0 : y = tN t := by have := (nI_leI (by omega) (by omega)).mp c78; omega
                subst e0
                refine GS.run [] 4 rfl ?_
                refine GS.cV oX8_corners ((c_corners_10 (d + 19) σy).eq (congrArg (fun z => some (Value.int z)) (hty.1)) rfl) rfl rfl rfl rfl rfl rfl rfl (Nat.le_of_ble_eq_true rfl) (by omega) ?_
                refine GS.run [] 1 rfl ?_
                refine GS.cS oX11_put (c_put (d + 19) σy 66 9 (nI (tN t)) 1 rfl) rfl rfl rfl rfl (Nat.le_of_ble_eq_true rfl) (by omega) ?_
                rw [am_put_nI (by omega) (by omega)]
                have hbk : ∀ j, tN t ≤ j → j ≤ tN t → upd (σy 66) (tN t) 1 j = nI (bkF t (tN t - j)) := fun j h1 h2 => by
                  have : j = tN t := by omega
                  subst this
                  rw [upd_eq, Nat.sub_self, bkF]; rfl
                generalize hS1 : am_s1 σy 66 (upd (σy 66) (tN t) 1) = σ1
                have s1 : same [64, 65, 66] σ σ1 := by rw [← hS1]; exact hsy.s1 (by decide)
                have ho1 : onV σ1 t (preO (fun i => i) (tN t)) := by rw [← hS1]; exact hoy.kept (am_s1_ne _ _ (by decide))
                have h31 : σ1 64 3 = bI (!(wys t true).isEmpty) := by rw [← hS1, am_s1_ne _ _ (by decide)]; exact h3y
                have hb1 : ∀ j, tN t ≤ j → j ≤ tN t → σ1 66 j = nI (bkF t (tN t - j)) := by rw [← hS1, am_s1_eq]; exact hbk
                have ht1 := (ht.kept (fun j hj => s1 _ (by simp; omega)))
                clear hS1
                refine GS.run [] 2 rfl ?_
                refine GS.cV oX8_corners ((c_corners_10 (d + 19) σ1).eq (congrArg (fun z => some (Value.int z)) (ht1.1)) rfl) rfl rfl rfl rfl rfl rfl rfl (Nat.le_of_ble_eq_true rfl) (by omega) ?_
                refine GS.run [] 3 rfl ?_
                have loop121 : ∀ (fu : Nat) (k : Nat) (σk : am_S) (v2 v3 : Value) (hk : k ≤ tN t) (hsk : same [64, 65, 66] σ σk) (hok : onV σk t (preO (fun i => i) k)) (h3k : σk 64 3 = bI (!(wys t true).isEmpty)) (hbk2 : ∀ j, k ≤ j → j ≤ tN t → σk 66 j = nI (bkF t (tN t - j))), k = fu → GS none mX3_countAll (d + 20) (fun r σ' => r = none ∧ σ' 64 4 = 1 ∧ layOK σ' t ∧ same [64, 65, 66] σ σ') 121 [.ref 64, .int (zI ((k : Int) - 1)), .retAddr 0, .retAddr 0] [] σk := by
                  intro fu
                  induction fu using Nat.strongRecOn with
                  | ind fu ih121 =>
                    intro k σk v2 v3 hk hsk hok h3k hbk2 hfu
                    refine GS.run [] 1 rfl ?_
                    rcases k with _ | m
                    · refine GS.if_lt rfl (fun c122 => ?_) (fun q => absurd (by decide) q)
                      refine GS.run [] 2 rfl ?_
                      refine GS.putZ rfl rfl rfl (rfl) (rfl) rfl ?_
                      refine GS.vret rfl rfl ?_
                      refine ⟨rfl, rfl, ⟨h3k, fun j hj => hbk2 j (Nat.zero_le _) hj⟩, hsk.s1 (by decide)⟩
                    · rw [zI_m1]
                      have hm : m < tN t := by omega
                      have hidm : pwO t (fun i => i) m := pwO_mono Wy_id.1 (by omega)
                      refine GS.if_lt rfl (fun q => absurd q (Int32.not_lt.mpr (nI_pos' (by omega)))) (fun c122 => ?_)
                      refine GS.run [] 4 rfl ?_
                      refine GS.cS oX11_put (c_put (d + 19) σk 65 8 (nI m) (-1000000) rfl) rfl rfl rfl rfl (Nat.le_of_ble_eq_true rfl) (by omega) ?_
                      rw [am_put_nI (by omega) (by omega)]
                      have ho2 : onV (am_s1 σk 65 (upd (σk 65) m (-1000000))) t (preO (fun i => i) m) := by rw [← preO_d]; exact onV_up (x := none) hok
                      generalize hS2 : am_s1 σk 65 (upd (σk 65) m (-1000000)) = σ2 at ho2 ⊢
                      have s2 : same [64, 65, 66] σ σ2 := by rw [← hS2]; exact hsk.s1 (by decide)
                      have h32 : σ2 64 3 = bI (!(wys t true).isEmpty) := by rw [← hS2, am_s1_ne _ _ (by decide)]; exact h3k
                      have hb2 : ∀ j, m + 1 ≤ j → j ≤ tN t → σ2 66 j = nI (bkF t (tN t - j)) := by rw [← hS2, am_s1_ne _ _ (by decide)]; exact hbk2
                      have ht2 := (ht.kept (fun j hj => s2 _ (by simp; omega)))
                      clear hS2
                      refine GS.run [] 4 rfl ?_
                      have loop139 : ∀ (fu : Nat) (x : Nat) (hx : x ≤ tN t), tN t - x = fu → GS none mX3_countAll (d + 20) (fun r σ' => r = none ∧ σ' 64 4 = 1 ∧ layOK σ' t ∧ same [64, 65, 66] σ σ') 139 [.ref 64, .int (nI m), .int (nI (cnB (gB t false (fun i => i) m) x)), .int (nI x)] [] σ2 := by
                        intro fu
                        induction fu using Nat.strongRecOn with
                        | ind fu ih139 =>
                          intro x hx hfu
                          refine GS.run [] 3 rfl ?_
                          refine GS.cV oX8_corners ((c_corners_10 (d + 19) σ2).eq (congrArg (fun z => some (Value.int z)) (ht2.1)) rfl) rfl rfl rfl rfl rfl rfl rfl (Nat.le_of_ble_eq_true rfl) (by omega) ?_
                          refine GS.icmp_ge rfl (fun c147 => ?_) (fun c147 => ?_)
                          · have e0 : x = tN t := by have := (nI_leI (by omega) (by omega)).mp c147; omega
                            subst e0
                            refine GS.run [] 9 rfl ?_
                            rw [nI_1]
                            refine GS.run [] 0 rfl ?_
                            refine GS.cS oX11_at ((c_at (d + 19) σ2 66 9 (nI (m + 1)) rfl).eq (congrArg (fun z => some (Value.int z)) (v_get (by omega) (by omega) (hb2 (m + 1) (Nat.le_refl _) (by omega)))) rfl) rfl rfl rfl rfl (Nat.le_of_ble_eq_true rfl) (by omega) ?_
                            refine GS.run [] 1 rfl ?_
                            rw [pk_mul]
                            refine GS.run [] 0 rfl ?_
                            refine GS.cS oX11_put (c_put (d + 19) σ2 66 9 (nI m) _ rfl) rfl rfl rfl rfl (Nat.le_of_ble_eq_true rfl) (by omega) ?_
                            rw [am_put_nI (by omega) (by omega)]
                            have hbm : cnB (gB t false (fun i => i) m) (tN t) * bkF t (tN t - (m + 1)) = bkF t (tN t - m) := by
                              rw [show tN t - m = tN t - (m + 1) + 1 by omega, bkF, show tN t - (tN t - (m + 1) + 1) = m by omega]
                            rw [hbm]
                            have hb3 : ∀ j, m ≤ j → j ≤ tN t → upd (σ2 66) m (nI (bkF t (tN t - m))) j = nI (bkF t (tN t - j)) := fun j h1 h2 => by
                              by_cases e : j = m
                              · rw [e]; exact upd_eq _ _ _
                              · rw [upd_ne _ _ e]; exact hb2 j (by omega) h2
                            generalize hS3 : am_s1 σ2 66 (upd (σ2 66) m (nI (bkF t (tN t - m)))) = σ3
                            have s3 : same [64, 65, 66] σ σ3 := by rw [← hS3]; exact s2.s1 (by decide)
                            have ho3 : onV σ3 t (preO (fun i => i) m) := by rw [← hS3]; exact ho2.kept (am_s1_ne _ _ (by decide))
                            have h33 : σ3 64 3 = bI (!(wys t true).isEmpty) := by rw [← hS3, am_s1_ne _ _ (by decide)]; exact h32
                            have hb4 : ∀ j, m ≤ j → j ≤ tN t → σ3 66 j = nI (bkF t (tN t - j)) := by rw [← hS3, am_s1_eq]; exact hb3
                            clear hS3
                            refine GS.run [] 2 rfl ?_
                            rw [nI_m1z]
                            exact GS.weak (by exact ⟨Or.inr rfl, Or.inr rfl, Or.inl rfl, Or.inl rfl, trivial⟩) (ih121 m (by omega) m _ Value.null Value.null (by omega) s3 ho3 h33 hb4 rfl)
                          · have hx2 : x < tN t := (nI_gtI (by omega) (by omega)).mp c147
                            refine GS.run [] 6 rfl ?_
                            refine GS.callV oX3_canLay (c_can (d + 1) σ2 t (preO (fun i => i) m) false m x ht2 hw ho2 (preO_pok hw (by omega) hidm) (preO_ge (Nat.lt_irrefl m)) hm hx2) rfl rfl rfl rfl rfl rfl rfl (Nat.le_of_ble_eq_true rfl) (by omega) (fun v156 σ156 hq156 => ?_)
                            obtain ⟨hs156, b, rfl, hb⟩ := hq156
                            obtain rfl := hs156.symm
                            have hbg := preO_can hw hm hidm hx2 hb
                            subst hbg
                            refine GS.if_eq rfl (fun c159 => ?_) (fun c159 => ?_)
                            · have hE : nI (cnB (gB t false (fun i => i) m) x) + 0 = nI (cnB (gB t false (fun i => i) m) (x + 1)) := by rw [cnB, bI0.mp c159]; exact Int32.add_zero _
                              refine GS.run [] 5 rfl ?_
                              rw [show nI x + 1 = nI (x + 1) from nI_1 x, hE]
                              exact ih139 _ (by omega) (x + 1) (by omega) rfl
                            · have hE : nI (cnB (gB t false (fun i => i) m) x) + 1 = nI (cnB (gB t false (fun i => i) m) (x + 1)) := by rw [cnB, bI1.mp c159]; exact nI_1 _
                              refine GS.run [] 6 rfl ?_
                              rw [show nI x + 1 = nI (x + 1) from nI_1 x, hE]
                              exact ih139 _ (by omega) (x + 1) (by omega) rfl
                      exact loop139 _ 0 (Nat.zero_le _) rfl
                rw [show nI (tN t) - 1 = zI ((tN t : Int) - 1) by rw [zI_n, show (1 : Int32) = zI 1 from rfl, zI_sub]]
                exact loop121 _ (tN t) _ Value.null Value.null (Nat.le_refl _) s1 ho1 h31 hb1 rfl
              · have hy2 : y < tN t := (nI_gtI (by omega) (by omega)).mp c78
                refine GS.run [] 4 rfl ?_
                refine GS.cS oX11_put (c_put (d + 19) σy 65 8 (nI y) (nI y) rfl) rfl rfl rfl rfl (Nat.le_of_ble_eq_true rfl) (by omega) ?_
                rw [am_put_nI (by omega) (by omega)]
                refine GS.run [] 2 rfl ?_
                rw [nI_1]
                exact ih70 _ (by omega) (y + 1) _ (by omega) (hsy.s1 (by decide)) (by rw [← preO_s]; exact onV_up (x := some y) hoy) h3y rfl
          exact loop70 _ 0 _ (Nat.zero_le _) hsx hox h3x rfl
        · have hx2 : x < tN t := (nI_gtI (by omega) (by omega)).mp c32
          refine GS.run [] 3 rfl ?_
          rw [h3x]
          refine GS.run [] 0 rfl ?_
          refine GS.if_ne rfl (fun c40 => ?_) (fun c40 => ?_)
          · have hE : (1 : Int32) = bI (ay (gB t true (fun i => i) 0) (x + 1)) := by rw [ay, bI1.mp c40]; rfl
            refine GS.run [] 2 rfl ?_
            refine GS.putZ rfl rfl rfl (rfl) (rfl) rfl ?_
            refine GS.run [] 2 rfl ?_
            rw [nI_1]
            exact ih24 _ (by omega) (x + 1) _ (by omega) (hsx.s1 (by decide)) (hox.kept (am_s1_ne _ _ (by decide))) (by rw [am_s1_eq, upd_eq]; exact hE) rfl
          · have hF : ay (gB t true (fun i => i) 0) x = false := by
              cases q : ay (gB t true (fun i => i) 0) x with
              | false => rfl
              | true => rw [q] at c40; exact absurd c40 (by decide)
            refine GS.run [] 5 rfl ?_
            refine GS.callV oX3_canLay (c_can (d + 1) σx t (preO (fun i => i) 0) true 0 x htx hw hox (preO_pok hw (Nat.zero_le _) h00) (preO_ge (Nat.lt_irrefl 0)) hn hx2) rfl rfl rfl rfl rfl rfl rfl (Nat.le_of_ble_eq_true rfl) (by omega) (fun v48 σ48 hq48 => ?_)
            obtain ⟨hs48, b, rfl, hb⟩ := hq48
            obtain rfl := hs48.symm
            have hbg := preO_can hw hn h00 hx2 hb
            subst hbg
            refine GS.if_eq rfl (fun c51 => ?_) (fun c51 => ?_)
            · have hE : (0 : Int32) = bI (ay (gB t true (fun i => i) 0) (x + 1)) := by rw [ay, hF, bI0.mp c51]; rfl
              refine GS.run [] 1 rfl ?_
              refine GS.putZ rfl rfl rfl (rfl) (rfl) rfl ?_
              refine GS.run [] 2 rfl ?_
              rw [nI_1]
              exact ih24 _ (by omega) (x + 1) _ (by omega) (hsx.s1 (by decide)) (hox.kept (am_s1_ne _ _ (by decide))) (by rw [am_s1_eq, upd_eq]; exact hE) rfl
            · have hE : (1 : Int32) = bI (ay (gB t true (fun i => i) 0) (x + 1)) := by rw [ay, hF, bI1.mp c51]; rfl
              refine GS.run [] 2 rfl ?_
              refine GS.putZ rfl rfl rfl (rfl) (rfl) rfl ?_
              refine GS.run [] 2 rfl ?_
              rw [nI_1]
              exact ih24 _ (by omega) (x + 1) _ (by omega) (hsx.s1 (by decide)) (hox.kept (am_s1_ne _ _ (by decide))) (by rw [am_s1_eq, upd_eq]; exact hE) rfl
    exact loop24 _ 0 _ (Nat.zero_le _) (s0.s1 (by decide)) (ho0.kept (am_s1_ne _ _ (by decide))) rfl rfl
  · rw [h4]
    refine GS.run [] 0 rfl ?_
    refine GS.if_eq rfl (fun q => absurd q (by decide)) (fun c4 => ?_)
    refine GS.vret rfl rfl ?_
    exact ⟨rfl, h4, hok, same.rf⟩
theorem c_hmWays (d : Nat) (σ : am_S) (t : Tn) (g : Bool) (hw : wfT t) (hl : layOK σ t) : CallS mX3_howMany (d + 1) [.ref 64, .int (rdI g)] σ (am_det (some (.int (nI (wys t g).length))) σ) := by
  refine CallS.of kX3_howMany pX3_howMany [.ref 64, .int (rdI g)] rfl (Nat.le_of_ble_eq_true rfl) ?_
  rcases g with _ | _
  · refine GS.run [] 2 rfl ?_
    refine GS.icmp_eq rfl (fun c2 => ?_) (fun q => absurd (rfl) q)
    refine GS.run [] 3 rfl ?_
    refine GS.cS oX11_at ((c_at d σ 66 9 0 rfl).eq (congrArg (fun z => some (Value.int z)) (v_get (k := 0) (by omega) (by omega) (hl.2 0 (Nat.zero_le _)))) rfl) rfl rfl rfl rfl (Nat.le_of_ble_eq_true rfl) (by omega) ?_
    refine GS.run [] 1 rfl ?_
    refine GS.iret rfl rfl (rfl) ?_
    first
      | (rw [hE]; exact ⟨rfl, rfl⟩)
      | (rw [wys_f hw]; exact ⟨rfl, rfl⟩)
  · refine GS.run [] 2 rfl ?_
    refine GS.icmp_eq rfl (fun q => absurd q (by decide)) (fun c2 => ?_)
    refine GS.run [] 2 rfl ?_
    rw [hl.1]
    refine GS.run [] 0 rfl ?_
    refine GS.if_eq rfl (fun c9 => ?_) (fun c9 => ?_)
    · have hE : (wys t true).length = 0 := by
        rw [wys_len hw, if_pos]
        have := bI0.mp c9
        cases q : (wys t true).isEmpty with
        | true => rfl
        | false => rw [q] at this; cases this
      refine GS.run [] 1 rfl ?_
      refine GS.iret rfl rfl (rfl) ?_
      first
        | (rw [hE]; exact ⟨rfl, rfl⟩)
        | (rw [wys_f hw]; exact ⟨rfl, rfl⟩)
    · have hE : (wys t true).length = bkF t (tN t) := by
        rw [wys_len hw, if_neg]
        have := bI1.mp c9
        cases q : (wys t true).isEmpty with
        | false => exact Bool.false_ne_true
        | true => rw [q] at this; cases this
      refine GS.run [] 3 rfl ?_
      refine GS.cS oX11_at ((c_at d σ 66 9 0 rfl).eq (congrArg (fun z => some (Value.int z)) (v_get (k := 0) (by omega) (by omega) (hl.2 0 (Nat.zero_le _)))) rfl) rfl rfl rfl rfl (Nat.le_of_ble_eq_true rfl) (by omega) ?_
      refine GS.run [] 1 rfl ?_
      refine GS.iret rfl rfl (rfl) ?_
      first
        | (rw [hE]; exact ⟨rfl, rfl⟩)
        | (rw [wys_f hw]; exact ⟨rfl, rfl⟩)
def wyI (t : Tn) (g : Bool) (i : Int32) (c : Nat) : Int32 := match (wys t g)[cn i]? with
  | none => -1000000
  | some w => nI (w c)
theorem ws_no {A : Type} {F : Nat → List A} {j d : Nat} (h : (F d).length = 0) : ws F (j + 1) d = ws F j (d + 1) := by
  rw [ws, List.eq_nil_of_length_eq_zero h, List.nil_append]
theorem ws_lt {A : Type} {F : Nat → List A} {j d r : Nat} (h : r < (F d).length) : (ws F (j + 1) d)[r]? = (F d)[r]? := by
  rw [ws, List.getElem?_append_left h]
theorem ws_ge {A : Type} {F : Nat → List A} {j d r : Nat} (h : (F d).length ≤ r) : (ws F (j + 1) d)[r]? = (ws F j (d + 1))[r - (F d).length]? := by
  rw [ws, List.getElem?_append_right h]
def wF (t : Tn) (g : Bool) (p : Nat → Nat) (k : Nat) : Nat → List (Nat → Nat) := fun d => if fiB t p k d = true then wl t g (tN t - (k + 1)) (k + 1) (va_up p k d) else []
theorem wF_len {t : Tn} {g : Bool} {p : Nat → Nat} {k d : Nat} (hw : wfT t) (hk : k < tN t) (hp : pwO t p k) (hd : d < tN t) : (wF t g p k d).length = if gB t g p k d = true then bkF t (tN t - (k + 1)) else 0 := by
  unfold wF
  by_cases e : gB t g p k d = true
  · rw [if_pos e]
    obtain ⟨w, w1, w2, w3⟩ := (gB_iff hw hk hp hd).mp e
    have hf : fiB t p k d = true := by unfold gB at e; rw [Bool.and_eq_true] at e; exact e.1
    rw [if_pos hf]
    exact wl_len hw (by omega) (pwO_up hp hd hf) w1 (fun i hi => by
      by_cases q : i = k
      · rw [q, va_eq]; exact w3
      · rw [va_ne _ _ q]; exact w2 i (by omega))
  · rw [if_neg e]
    unfold gB at e
    by_cases hf : fiB t p k d = true
    · rw [if_pos hf]
      rw [hf, Bool.true_and] at e
      cases q : wl t g (tN t - (k + 1)) (k + 1) (va_up p k d) with
      | nil => rfl
      | cons x l => rw [q] at e; exact absurd rfl e
    · rw [if_neg hf]; rfl
theorem wl_wF {t : Tn} {g : Bool} {p : Nat → Nat} {k : Nat} (hk : k < tN t) : wl t g (tN t - k) k p = ws (wF t g p k) (tN t) 0 := by
  rw [show tN t - k = tN t - (k + 1) + 1 by omega, wl]
  rfl
theorem gB_fi {t : Tn} {g : Bool} {p : Nat → Nat} {k d : Nat} (h : gB t g p k d = true) : fiB t p k d = true := by unfold gB at h; rw [Bool.and_eq_true] at h; exact h.1
theorem c_whereLaid (d : Nat) (σ : am_S) (t : Tn) (g : Bool) (i : Int32) (c : Nat) (ht : townC 10 σ t) (hw : wfT t) (hl : layOK σ t) (hi : 0 ≤ i.toInt) (hc : c < tN t) : CallS mX3_whereLaid (d + 19) [.ref 64, .int (rdI g), .int i, .int (nI c)] σ (fun r σ' => r = some (.int (wyI t g i c)) ∧ same [65] σ σ') := by
  refine CallS.of kX3_whereLaid pX3_whereLaid [.ref 64, .int (rdI g), .int i, .int (nI c), .retAddr 0, .retAddr 0, .retAddr 0] rfl (Nat.le_of_ble_eq_true rfl) ?_
  have h8 := hw.1
  have hwb := wys_b (g := g) hw
  refine GS.run [] 3 rfl ?_
  refine GS.cV oX3_howMany (c_hmWays (d + 17) σ t g hw hl) rfl rfl rfl rfl rfl rfl rfl (Nat.le_of_ble_eq_true rfl) (by omega) ?_
  refine GS.icmp_lt rfl (fun c6 => ?_) (fun c6 => ?_)
  · have hlt : i.toInt < ((wys t g).length : Int) := by have := tI_lt.mp c6; rwa [nI_toInt (by omega)] at this
    obtain ⟨r, hr, rfl⟩ : ∃ r, r < (wys t g).length ∧ i = nI r := ⟨i.toInt.toNat, by omega, by rw [zI_n, Int.toNat_of_nonneg hi, zI_of]⟩
    have hcr : cn (nI r) = r := by unfold cn; rw [nI_toInt (by omega)]; omega
    have hE : wyI t g (nI r) c = nI ((wys t g)[r] c) := by
      unfold wyI
      rw [hcr, List.getElem?_eq_getElem hr]
    have hT0 : (wl t g (tN t - 0) 0 (fun i => i))[r]? = some (wys t g)[r] := List.getElem?_eq_getElem hr
    generalize (wys t g)[r] = w at hE hT0
    refine GS.run [] 3 rfl ?_
    refine GS.cS oX11_fill (c_fill (d + 18) σ 65 8 (-1000000) rfl) rfl rfl rfl rfl (Nat.le_of_ble_eq_true rfl) (by omega) ?_
    have ho0 := onV_0 (σ := σ) (p := fun i => i) hw
    have s0 : same [65] σ (am_s1 σ 65 (am_fill (σ 65) 8 (-1000000))) := same.rf.s1 (by decide)
    generalize am_s1 σ 65 (am_fill (σ 65) 8 (-1000000)) = σ0 at ho0 s0 ⊢
    refine GS.run [] 4 rfl ?_
    have loop27 : ∀ (fu : Nat) (k rest : Nat) (σk : am_S) (p : Nat → Nat) (v6 : Value) (hk : k ≤ c + 1) (hrb : rest < 16777217) (hsk : same [65] σ σk) (hpk : pwO t p k) (hok : onV σk t (preO p k)) (hT : (wl t g (tN t - k) k p)[rest]? = some w), c + 1 - k = fu → GS none mX3_whereLaid (d + 19) (fun r' σ' => r' = some (.int (wyI t g (nI r) c)) ∧ same [65] σ σ') 27 [.ref 64, .int (rdI g), .int (nI r), .int (nI c), .int (nI rest), .int (nI k), .retAddr 0] [] σk := by
      intro fu
      induction fu using Nat.strongRecOn with
      | ind fu ih27 =>
        intro k rest σk p v6 hk hrb hsk hpk hok hT hfu
        refine GS.run [] 2 rfl ?_
        refine GS.icmp_gt rfl (fun c30 => ?_) (fun c30 => ?_)
        · have e0 : k = c + 1 := by have := (nI_gtI (a := k) (b := c) (by omega) (by omega)); have := (nI_ltI (a := c) (b := k) (by omega) (by omega)).mp c30; omega
          subst e0
          have hmem := wl_mem hw (by omega) hpk (List.mem_of_getElem? hT)
          have hwc : w c = p c := hmem.2 c (Nat.lt_succ_self c)
          refine GS.run [] 3 rfl ?_
          refine GS.cS oX11_at ((c_at (d + 18) σk 65 8 (nI c) rfl).eq (congrArg (fun z => some (Value.int z)) ((v_get (by omega) (by omega) (hok c hc)).trans (congrArg fkI (preO_lt (Nat.lt_succ_self c))))) rfl) rfl rfl rfl rfl (Nat.le_of_ble_eq_true rfl) (by omega) ?_
          refine GS.iret rfl rfl (rfl) ?_
          rw [hwc] at hE
          exact ⟨congrArg (fun z => some (Value.int z)) hE.symm, hsk⟩
        · have hkc : k ≤ c := by have := (nI_geI (a := c) (b := k) (by omega) (by omega)).mp c30; omega
          refine GS.run [] 3 rfl ?_
          have htk := (ht.kept (fun j hj => hsk _ (by simp; omega)))
          refine GS.run [] 0 rfl ?_
          refine GS.cV oX8_corners ((c_corners_10 (d + 18) σk).eq (congrArg (fun z => some (Value.int z)) (htk.1)) rfl) rfl rfl rfl rfl rfl rfl rfl (Nat.le_of_ble_eq_true rfl) (by omega) ?_
          refine GS.icmp_ge rfl (fun q => absurd q (Int32.not_le.mpr ((nI_ltI (by omega) (by omega)).mpr (by omega)))) (fun c42 => ?_)
          refine GS.run [] 2 rfl ?_
          have loop48 : ∀ (fu : Nat) (x rest : Nat) (σx : am_S) (hx : x ≤ tN t) (hrx : rest < 16777217) (hsx : same [65] σ σx) (hm : (onV σx t (preO p k) ∧ (ws (wF t g p k) (tN t - x) x)[rest]? = some w) ∨ (∃ e, e < tN t ∧ fiB t p k e = true ∧ onV σx t (preO (va_up p k e) (k + 1)) ∧ (wl t g (tN t - (k + 1)) (k + 1) (va_up p k e))[rest]? = some w)), tN t - x = fu → GS none mX3_whereLaid (d + 19) (fun r' σ' => r' = some (.int (wyI t g (nI r) c)) ∧ same [65] σ σ') 48 [.ref 64, .int (rdI g), .int (nI r), .int (nI c), .int (nI rest), .int (nI k), .int (nI x)] [] σx := by
            intro fu
            induction fu using Nat.strongRecOn with
            | ind fu ih48 =>
              intro x rest σx hx hrx hsx hm hfu
              refine GS.run [] 3 rfl ?_
              have htx := (ht.kept (fun j hj => hsx _ (by simp; omega)))
              refine GS.run [] 0 rfl ?_
              refine GS.cV oX8_corners ((c_corners_10 (d + 18) σx).eq (congrArg (fun z => some (Value.int z)) (htx.1)) rfl) rfl rfl rfl rfl rfl rfl rfl (Nat.le_of_ble_eq_true rfl) (by omega) ?_
              rcases hm with ⟨hox, hTx⟩ | ⟨e, he, hfe, hox, hTx⟩
              · refine GS.icmp_ge rfl (fun c57 => ?_) (fun c57 => ?_)
                · exfalso
                  have e0 : x = tN t := by have := (nI_leI (by omega) (by omega)).mp c57; omega
                  rw [e0, Nat.sub_self, ws] at hTx
                  cases hTx -- end
                · have hx2 : x < tN t := (nI_gtI (by omega) (by omega)).mp c57
                  refine GS.run [] 3 rfl ?_
                  refine GS.cS oX11_at ((c_at (d + 18) σx 65 8 (nI k) rfl).eq (congrArg (fun z => some (Value.int z)) ((v_get (by omega) (by omega) (hox k (by omega))).trans (congrArg fkI (preO_ge (Nat.lt_irrefl k))))) rfl) rfl rfl rfl rfl (Nat.le_of_ble_eq_true rfl) (by omega) ?_
                  refine GS.run [] 1 rfl ?_
                  refine GS.icmp_ne rfl (fun q => absurd (rfl) q) (fun c71 => ?_)
                  refine GS.run [] 5 rfl ?_
                  refine GS.callV oX3_canLay (c_can d σx t (preO p k) g k x htx hw hox (preO_pok hw (by omega) hpk) (preO_ge (Nat.lt_irrefl k)) (by omega) hx2) rfl rfl rfl rfl rfl rfl rfl (Nat.le_of_ble_eq_true rfl) (by omega) (fun v81 σ81 hq81 => ?_)
                  obtain ⟨hs81, b, rfl, hb⟩ := hq81
                  obtain rfl := hs81.symm
                  have hbg := preO_can hw (by omega) hpk hx2 hb
                  subst hbg
                  have hlen := wF_len (g := g) hw (by omega) hpk hx2
                  have hj : tN t - x = tN t - (x + 1) + 1 := by omega
                  rw [hj] at hTx
                  refine GS.if_eq rfl (fun c84 => ?_) (fun c84 => ?_)
                  · have hg : ¬ gB t g p k x = true := by rw [bI0.mp c84]; exact Bool.false_ne_true
                    rw [if_neg hg] at hlen
                    rw [ws_no hlen] at hTx
                    refine GS.run [] 2 rfl ?_
                    rw [show nI x + 1 = nI (x + 1) from nI_1 x]
                    first
                      | exact ih48 _ (by omega) (x + 1) rest σ3 (by omega) hrx s3 (Or.inr ⟨x, hx2, gB_fi hg, ho3, hTx⟩) rfl
                      | (rw [show nI rest - nI (bkF t (tN t - (k + 1))) = nI (rest - bkF t (tN t - (k + 1))) from pk_sub hge]
                         exact ih48 _ (by omega) (x + 1) _ σx (by omega) (by omega) hsx (Or.inl ⟨hox, hTx⟩) rfl)
                      | exact ih48 _ (by omega) (x + 1) rest σx (by omega) hrx hsx (Or.inl ⟨hox, hTx⟩) rfl
                  · have hg : gB t g p k x = true := bI1.mp c84
                    rw [if_pos hg] at hlen
                    have hbb := bkF_b (m := tN t - (k + 1)) hw (by omega)
                    refine GS.run [] 6 rfl ?_
                    rw [nI_1]
                    refine GS.run [] 0 rfl ?_
                    refine GS.cS oX11_at ((c_at (d + 18) σx 66 9 (nI (k + 1)) rfl).eq (congrArg (fun z => some (Value.int z)) (v_get (by omega) (by omega) ((congrFun (hsx 66 (by decide)) _).trans (hl.2 (k + 1) (by omega))))) rfl) rfl rfl rfl rfl (Nat.le_of_ble_eq_true rfl) (by omega) ?_
                    refine GS.icmp_ge rfl (fun c100 => ?_) (fun c100 => ?_)
                    · have hge : bkF t (tN t - (k + 1)) ≤ rest := (nI_leI (by omega) (by omega)).mp c100
                      rw [ws_ge (by rw [hlen]; exact hge), hlen] at hTx
                      refine GS.run [] 6 rfl ?_
                      rw [nI_1]
                      refine GS.run [] 0 rfl ?_
                      refine GS.cS oX11_at ((c_at (d + 18) σx 66 9 (nI (k + 1)) rfl).eq (congrArg (fun z => some (Value.int z)) (v_get (by omega) (by omega) ((congrFun (hsx 66 (by decide)) _).trans (hl.2 (k + 1) (by omega))))) rfl) rfl rfl rfl rfl (Nat.le_of_ble_eq_true rfl) (by omega) ?_
                      refine GS.run [] 4 rfl ?_
                      rw [show nI x + 1 = nI (x + 1) from nI_1 x]
                      first
                        | exact ih48 _ (by omega) (x + 1) rest σ3 (by omega) hrx s3 (Or.inr ⟨x, hx2, gB_fi hg, ho3, hTx⟩) rfl
                        | (rw [show nI rest - nI (bkF t (tN t - (k + 1))) = nI (rest - bkF t (tN t - (k + 1))) from pk_sub hge]
                           exact ih48 _ (by omega) (x + 1) _ σx (by omega) (by omega) hsx (Or.inl ⟨hox, hTx⟩) rfl)
                        | exact ih48 _ (by omega) (x + 1) rest σx (by omega) hrx hsx (Or.inl ⟨hox, hTx⟩) rfl
                    · have hlt2 : rest < bkF t (tN t - (k + 1)) := (nI_gtI (by omega) (by omega)).mp c100
                      rw [ws_lt (by rw [hlen]; exact hlt2)] at hTx
                      rw [show wF t g p k x = wl t g (tN t - (k + 1)) (k + 1) (va_up p k x) from if_pos (gB_fi hg)] at hTx
                      refine GS.run [] 4 rfl ?_
                      refine GS.cS oX11_put (c_put (d + 18) σx 65 8 (nI k) (nI x) rfl) rfl rfl rfl rfl (Nat.le_of_ble_eq_true rfl) (by omega) ?_
                      rw [am_put_nI (by omega) (by omega)]
                      have ho3 : onV (am_s1 σx 65 (upd (σx 65) k (nI x))) t (preO (va_up p k x) (k + 1)) := by rw [← preO_u]; exact onV_up (x := some x) hox
                      have s3 : same [65] σ (am_s1 σx 65 (upd (σx 65) k (nI x))) := hsx.s1 (by decide)
                      generalize am_s1 σx 65 (upd (σx 65) k (nI x)) = σ3 at ho3 s3 ⊢
                      refine GS.run [] 3 rfl ?_
                      rw [show nI x + 1 = nI (x + 1) from nI_1 x]
                      first
                        | exact ih48 _ (by omega) (x + 1) rest σ3 (by omega) hrx s3 (Or.inr ⟨x, hx2, gB_fi hg, ho3, hTx⟩) rfl
                        | (rw [show nI rest - nI (bkF t (tN t - (k + 1))) = nI (rest - bkF t (tN t - (k + 1))) from pk_sub hge]
                           exact ih48 _ (by omega) (x + 1) _ σx (by omega) (by omega) hsx (Or.inl ⟨hox, hTx⟩) rfl)
                        | exact ih48 _ (by omega) (x + 1) rest σx (by omega) hrx hsx (Or.inl ⟨hox, hTx⟩) rfl
              · refine GS.icmp_ge rfl (fun c57 => ?_) (fun c57 => ?_)
                · refine GS.run [] 2 rfl ?_
                  rw [show nI k + 1 = nI (k + 1) from nI_1 k]
                  exact GS.weak (by exact ⟨Or.inr rfl, Or.inr rfl, Or.inr rfl, Or.inr rfl, Or.inr rfl, Or.inr rfl, Or.inl rfl, trivial⟩) (ih27 _ (by omega) (k + 1) rest σx (va_up p k e) Value.null (by omega) hrx hsx (pwO_up hpk he hfe) hox hTx rfl)
                · refine GS.run [] 3 rfl ?_
                  refine GS.cS oX11_at ((c_at (d + 18) σx 65 8 (nI k) rfl).eq (congrArg (fun z => some (Value.int z)) ((v_get (by omega) (by omega) (hox k (by omega))).trans (congrArg fkI ((preO_lt (Nat.lt_succ_self k)).trans (congrArg some (va_eq _ _ _)))))) rfl) rfl rfl rfl rfl (Nat.le_of_ble_eq_true rfl) (by omega) ?_
                  refine GS.run [] 1 rfl ?_
                  refine GS.icmp_ne rfl (fun c71 => ?_) (fun q => absurd q (nI_ne_none (by omega)))
                  refine GS.run [] 2 rfl ?_
                  rw [show nI k + 1 = nI (k + 1) from nI_1 k]
                  exact GS.weak (by exact ⟨Or.inr rfl, Or.inr rfl, Or.inr rfl, Or.inr rfl, Or.inr rfl, Or.inr rfl, Or.inl rfl, trivial⟩) (ih27 _ (by omega) (k + 1) rest σx (va_up p k e) Value.null (by omega) hrx hsx (pwO_up hpk he hfe) hox hTx rfl)
          exact loop48 _ 0 rest σk (Nat.zero_le _) hrb hsk (Or.inl ⟨hok, by rw [Nat.sub_zero, ← wl_wF (by omega)]; exact hT⟩) rfl
    exact loop27 _ 0 r σ0 (fun i => i) Value.null (Nat.zero_le _) (by omega) s0 (fun q hq => absurd hq (Nat.not_lt_zero _)) ho0 hT0 rfl
  · have hge : ((wys t g).length : Int) ≤ i.toInt := by have := Int.not_lt.mp (fun h => c6 (tI_lt.mpr h)); rwa [nI_toInt (by omega)] at this
    have hE : wyI t g i c = -1000000 := by
      unfold wyI
      rw [List.getElem?_eq_none (by unfold cn; omega)]
    refine GS.run [] 1 rfl ?_
    refine GS.iret rfl rfl (rfl) ?_
    exact ⟨congrArg (fun z => some (Value.int z)) hE.symm, same.rf⟩
theorem fix_all {t : Tn} {c : Nat} (hw : wfT t) (hc : c < tN t) : (wys t true).all (fun w => decide (w c ≠ c)) = true ↔ ¬ canP t true (preO (fun i => i) 0) c c := by
  rw [List.all_eq_true]
  refine ⟨fun h ⟨w, w1, w2, w3⟩ => ?_, fun h w hm => ?_⟩
  · obtain ⟨w', h1, h2⟩ := wl_ex hw w1 (Nat.zero_add _) (p := fun i => i) (fun i hi => absurd hi (Nat.not_lt_zero _))
    have := of_decide_eq_true (h w' h1)
    exact this (by rw [h2 c hc, w3])
  · refine decide_eq_true (fun e => h ⟨w, (wl_mem hw (Nat.zero_add _) (fun c hc => absurd hc (Nat.not_lt_zero _)) hm).1, (preO_ext (Nat.zero_le _)).mpr (fun i hi => absurd hi (Nat.not_lt_zero _)), e⟩)
def lmI (t : Tn) : Int32 := if (wys t true).isEmpty = true then -1000000 else fkI (ufst (fun c => (wys t true).all (fun w => decide (w c ≠ c))) (tN t))
theorem layOK.kept {σ σ' : am_S} {t : Tn} (h : layOK σ t) (hs : same [65] σ σ') : layOK σ' t := by
  unfold layOK
  rw [hs 64 (by decide), hs 66 (by decide)]
  exact h
theorem c_leastMoved (d : Nat) (σ : am_S) (t : Tn) (ht : townC 10 σ t) (hw : wfT t) (hl : layOK σ t) : CallS mX3_leastMovedByAllImages (d + 19) [.ref 64] σ (fun r σ' => r = some (.int (lmI t)) ∧ same [65] σ σ') := by
  refine CallS.of kX3_leastMovedByAllImages pX3_leastMovedByAllImages [.ref 64, .retAddr 0] rfl (Nat.le_of_ble_eq_true rfl) ?_
  have h8 := hw.1
  have h00 : pwO t (fun i => i) 0 := fun c hc => absurd hc (Nat.not_lt_zero _)
  refine GS.run [] 3 rfl ?_
  refine GS.cS oX11_fill (c_fill (d + 18) σ 65 8 (-1000000) rfl) rfl rfl rfl rfl (Nat.le_of_ble_eq_true rfl) (by omega) ?_
  have ho0 := onV_0 (σ := σ) (p := fun i => i) hw
  have s0 : same [65] σ (am_s1 σ 65 (am_fill (σ 65) 8 (-1000000))) := same.rf.s1 (by decide)
  generalize am_s1 σ 65 (am_fill (σ 65) 8 (-1000000)) = σ0 at ho0 s0 ⊢
  have hl0 := hl.kept s0
  have ht0 := (ht.kept (fun j hj => s0 _ (by simp; omega)))
  refine GS.run [] 2 rfl ?_
  have loop11 : ∀ (fu : Nat) (c : Nat) (hc : c ≤ tN t) (hn : ∀ y, y < c → (wys t true).all (fun w => decide (w y ≠ y)) = false), tN t - c = fu → GS none mX3_leastMovedByAllImages (d + 19) (fun r σ' => r = some (.int (lmI t)) ∧ same [65] σ σ') 11 [.ref 64, .int (nI c)] [] σ0 := by
    intro fu
    induction fu using Nat.strongRecOn with
    | ind fu ih11 =>
      intro c hc hn hfu
      refine GS.run [] 2 rfl ?_
      rw [hl0.1]
      refine GS.run [] 0 rfl ?_
      refine GS.if_eq rfl (fun c15 => ?_) (fun c15 => ?_)
      · have hem : (wys t true).isEmpty = true := by
          have := bI0.mp c15
          cases q : (wys t true).isEmpty with
          | true => rfl
          | false => rw [q] at this; cases this
        have hE : lmI t = -1000000 := if_pos hem
        refine GS.run [] 1 rfl ?_
        refine GS.iret rfl rfl (rfl) ?_
        exact ⟨congrArg (fun z => some (Value.int z)) hE.symm, s0⟩
      · have hem : ¬ (wys t true).isEmpty = true := by
          have := bI1.mp c15
          cases q : (wys t true).isEmpty with
          | false => exact Bool.false_ne_true
          | true => rw [q] at this; cases this
        have hE0 : lmI t = fkI (ufst (fun c => (wys t true).all (fun w => decide (w c ≠ c))) (tN t)) := if_neg hem
        refine GS.run [] 3 rfl ?_
        refine GS.cV oX8_corners ((c_corners_10 (d + 18) σ0).eq (congrArg (fun z => some (Value.int z)) (ht0.1)) rfl) rfl rfl rfl rfl rfl rfl rfl (Nat.le_of_ble_eq_true rfl) (by omega) ?_
        refine GS.icmp_ge rfl (fun c26 => ?_) (fun c26 => ?_)
        · have e0 : c = tN t := by have := (nI_leI (by omega) (by omega)).mp c26; omega
          subst e0
          have hE : lmI t = -1000000 := by rw [hE0, ufst_isN hn]; rfl
          refine GS.run [] 1 rfl ?_
          refine GS.iret rfl rfl (rfl) ?_
          exact ⟨congrArg (fun z => some (Value.int z)) hE.symm, s0⟩
        · have hl2 : c < tN t := (nI_gtI (by omega) (by omega)).mp c26
          refine GS.run [] 5 rfl ?_
          refine GS.callV oX3_canLay (c_can d σ0 t (preO (fun i => i) 0) true c c ht0 hw ho0 (preO_pok hw (Nat.zero_le _) h00) (preO_ge (Nat.not_lt_zero _)) hl2 hl2) rfl rfl rfl rfl rfl rfl rfl (Nat.le_of_ble_eq_true rfl) (by omega) (fun v34 σ34 hq34 => ?_)
          obtain ⟨hs34, b, rfl, hb⟩ := hq34
          obtain rfl := hs34.symm
          have hfx := fix_all hw hl2
          refine GS.if_ne rfl (fun c37 => ?_) (fun c37 => ?_)
          · have hn3 : (wys t true).all (fun w => decide (w c ≠ c)) = false := by
              rw [Bool.eq_false_iff]
              exact fun q => hfx.mp q (hb.mp (bI1.mp c37))
            refine GS.run [] 2 rfl ?_
            rw [nI_1]
            exact ih11 _ (by omega) (c + 1) (by omega) (fun y hy => by
              by_cases e : y = c
              · rw [e]; exact hn3
              · exact hn y (by omega)) rfl
          · have hp3 : (wys t true).all (fun w => decide (w c ≠ c)) = true := hfx.mpr (fun q => by have := hb.mpr q; rw [this] at c37; exact absurd c37 (by decide))
            have hE : lmI t = nI c := by rw [hE0, ufst_is hp3 hn hl2]; rfl
            refine GS.run [] 1 rfl ?_
            refine GS.iret rfl rfl (rfl) ?_
            exact ⟨congrArg (fun z => some (Value.int z)) hE.symm, s0⟩
  exact loop11 _ 0 (Nat.zero_le _) (fun y hy => absurd hy (Nat.not_lt_zero _)) rfl
theorem p_laid_c (d : Nat) (σ : am_S) (t : Tn) (u i c : Int32) (ht : townC 10 σ t) (hw : wfT t) (hl : layC σ t) : CallS mX11_laid (d + 21) [.ref 0, .int u, .int i, .int c] σ (fun r σ' => r = some (.int (qLaid t u i c)) ∧ same [64, 65, 66] σ σ' ∧ layC σ' t) := by
  refine CallS.of kX11_laid pX11_laid [.ref 0, .int u, .int i, .int c, .retAddr 0] rfl (Nat.le_of_ble_eq_true rfl) ?_
  have h8 := hw.1
  refine GS.run [] 1 rfl ?_
  refine GS.cS oX11_bit (c_bit (d + 20) σ u) rfl rfl rfl rfl (Nat.le_of_ble_eq_true rfl) (by omega) ?_
  refine GS.if_eq rfl (fun c4 => ?_) (fun c4 => ?_)
  · have hbad : ¬ (okb u ∧ okm i ∧ okc t c) := fun h => am_b0.mp c4 h.1
    refine GS.run [] 1 rfl ?_
    refine GS.iret rfl rfl (rfl) ?_
    exact ⟨by unfold qLaid; rw [if_neg hbad], same.rf, hl⟩
  · have g1 : okb u := am_bT c4
    refine GS.run [] 2 rfl ?_
    refine GS.icmp_lt rfl (fun c9 => ?_) (fun c9 => ?_)
    · have hbad : ¬ (okb u ∧ okm i ∧ okc t c) := fun h => absurd (tI_lt.mp c9) (Int.not_lt.mpr h.2.1)
      refine GS.run [] 1 rfl ?_
      refine GS.iret rfl rfl (rfl) ?_
      exact ⟨by unfold qLaid; rw [if_neg hbad], same.rf, hl⟩
    · have g2 : okm i := Int.not_lt.mp (fun h => c9 (tI_lt.mpr h))
      refine GS.run [] 3 rfl ?_
      refine GS.cV oX8_has (v_has (d + 19) σ t c ht hw) rfl rfl rfl rfl rfl rfl rfl (Nat.le_of_ble_eq_true rfl) (by omega) ?_
      refine GS.if_ne rfl (fun c20 => ?_) (fun c20 => ?_)
      · have g3 : okc t c := am_bT c20
        obtain ⟨y, hy2, rfl⟩ := okc_nat g3
        have ey : cn (nI y) = y := cn_nI (by omega)
        rcases g1 with rfl | rfl
        · have eb : b1 0 = false := rfl
          have eqL : qLaid t 0 i (nI y) = if i = -1 then nI (wys t false).length else wyI t false i y := by
            unfold qLaid
            rw [if_pos ⟨by decide, g2, g3⟩, ey, eb]
            rfl
          refine GS.run [] 1 rfl ?_
          refine GS.if_ne rfl (fun q => absurd (rfl) q) (fun c27 => ?_)
          refine GS.run [] 5 rfl ?_
          refine GS.callV oX3_countAll (c_countAll d σ t ht hw (by omega) hl) rfl rfl rfl rfl rfl rfl rfl (Nat.le_of_ble_eq_true rfl) (by omega) (fun v41 σ41 hq41 => ?_)
          obtain ⟨rfl, h41, f41, s41⟩ := hq41
          have ht41 : townC 10 σ41 t := (ht.kept (fun j hj => s41 _ (by simp; omega)))
          refine GS.run [] 2 rfl ?_
          refine GS.icmp_ne rfl (fun c46 => ?_) (fun c46 => ?_)
          · have hi0 : 0 ≤ i.toInt := by
              rcases Int.lt_or_le i.toInt 0 with h | h
              · exact absurd (by rw [← zI_of i, show i.toInt = -1 by have := g2; omega]; rfl) c46
              · exact h
            rw [if_neg c46] at eqL
            refine GS.run [] 5 rfl ?_
            refine GS.callV oX3_whereLaid (c_whereLaid (d + 1) σ41 t false i y ht41 hw f41 hi0 hy2) rfl rfl rfl rfl rfl rfl rfl (Nat.le_of_ble_eq_true rfl) (by omega) (fun v69 σ69 hq69 => ?_)
            obtain ⟨rfl, s69⟩ := hq69
            refine GS.iret rfl rfl (rfl) ?_
            first
              | exact ⟨congrArg (fun z => some (Value.int z)) eqL.symm, s41, Or.inr ⟨h41, f41⟩⟩
              | exact ⟨congrArg (fun z => some (Value.int z)) eqL.symm, s41.trans (s69.sub (by decide)), Or.inr ⟨(congrFun (s69 64 (by decide)) _).trans h41, f41.kept s69⟩⟩
          · rw [if_pos c46] at eqL
            refine GS.run [] 3 rfl ?_
            refine GS.cV oX3_howMany (c_hmWays (d + 19) σ41 t false hw f41) rfl rfl rfl rfl rfl rfl rfl (Nat.le_of_ble_eq_true rfl) (by omega) ?_
            refine GS.run [] 1 rfl ?_
            refine GS.iret rfl rfl (rfl) ?_
            first
              | exact ⟨congrArg (fun z => some (Value.int z)) eqL.symm, s41, Or.inr ⟨h41, f41⟩⟩
              | exact ⟨congrArg (fun z => some (Value.int z)) eqL.symm, s41.trans (s69.sub (by decide)), Or.inr ⟨(congrFun (s69 64 (by decide)) _).trans h41, f41.kept s69⟩⟩
        · have eb : b1 1 = true := rfl
          have eqL : qLaid t 1 i (nI y) = if i = -1 then nI (wys t true).length else wyI t true i y := by
            unfold qLaid
            rw [if_pos ⟨by decide, g2, g3⟩, ey, eb]
            rfl
          refine GS.run [] 1 rfl ?_
          refine GS.if_ne rfl (fun c27 => ?_) (fun q => absurd q (by decide))
          refine GS.run [] 4 rfl ?_
          refine GS.callV oX3_countAll (c_countAll d σ t ht hw (by omega) hl) rfl rfl rfl rfl rfl rfl rfl (Nat.le_of_ble_eq_true rfl) (by omega) (fun v41 σ41 hq41 => ?_)
          obtain ⟨rfl, h41, f41, s41⟩ := hq41
          have ht41 : townC 10 σ41 t := (ht.kept (fun j hj => s41 _ (by simp; omega)))
          refine GS.run [] 2 rfl ?_
          refine GS.icmp_ne rfl (fun c46 => ?_) (fun c46 => ?_)
          · have hi0 : 0 ≤ i.toInt := by
              rcases Int.lt_or_le i.toInt 0 with h | h
              · exact absurd (by rw [← zI_of i, show i.toInt = -1 by have := g2; omega]; rfl) c46
              · exact h
            rw [if_neg c46] at eqL
            refine GS.run [] 5 rfl ?_
            refine GS.callV oX3_whereLaid (c_whereLaid (d + 1) σ41 t true i y ht41 hw f41 hi0 hy2) rfl rfl rfl rfl rfl rfl rfl (Nat.le_of_ble_eq_true rfl) (by omega) (fun v69 σ69 hq69 => ?_)
            obtain ⟨rfl, s69⟩ := hq69
            refine GS.iret rfl rfl (rfl) ?_
            first
              | exact ⟨congrArg (fun z => some (Value.int z)) eqL.symm, s41, Or.inr ⟨h41, f41⟩⟩
              | exact ⟨congrArg (fun z => some (Value.int z)) eqL.symm, s41.trans (s69.sub (by decide)), Or.inr ⟨(congrFun (s69 64 (by decide)) _).trans h41, f41.kept s69⟩⟩
          · rw [if_pos c46] at eqL
            refine GS.run [] 3 rfl ?_
            refine GS.cV oX3_howMany (c_hmWays (d + 19) σ41 t true hw f41) rfl rfl rfl rfl rfl rfl rfl (Nat.le_of_ble_eq_true rfl) (by omega) ?_
            refine GS.run [] 1 rfl ?_
            refine GS.iret rfl rfl (rfl) ?_
            first
              | exact ⟨congrArg (fun z => some (Value.int z)) eqL.symm, s41, Or.inr ⟨h41, f41⟩⟩
              | exact ⟨congrArg (fun z => some (Value.int z)) eqL.symm, s41.trans (s69.sub (by decide)), Or.inr ⟨(congrFun (s69 64 (by decide)) _).trans h41, f41.kept s69⟩⟩
      · have hbad : ¬ (okb u ∧ okm i ∧ okc t c) := fun h => am_b0.mp c20 h.2.2
        refine GS.run [] 1 rfl ?_
        refine GS.iret rfl rfl (rfl) ?_
        exact ⟨by unfold qLaid; rw [if_neg hbad], same.rf, hl⟩
theorem p_ends_c (d : Nat) (σ : am_S) (t : Tn) (ht : townC 10 σ t) (hw : wfT t) (hl : layC σ t) : CallS mX11_ends (d + 21) [.ref 0] σ (fun r σ' => r = some (.int (qEnds t)) ∧ same [64, 65, 66] σ σ' ∧ layC σ' t) := by
  refine CallS.of kX11_ends pX11_ends [.ref 0] rfl (Nat.le_of_ble_eq_true rfl) ?_
  have h8 := hw.1
  refine GS.run [] 2 rfl ?_
  refine GS.cV oX8_corners ((c_corners_10 (d + 20) σ).eq (congrArg (fun z => some (Value.int z)) (ht.1)) rfl) rfl rfl rfl rfl rfl rfl rfl (Nat.le_of_ble_eq_true rfl) (by omega) ?_
  refine GS.if_ne rfl (fun c7 => ?_) (fun c7 => ?_)
  · have hn : 0 < tN t := by
      rcases Nat.eq_zero_or_pos (tN t) with q | q
      · rw [q] at c7; exact absurd rfl c7
      · exact q
    refine GS.run [] 2 rfl ?_
    refine GS.callV oX3_countAll (c_countAll d σ t ht hw hn hl) rfl rfl rfl rfl rfl rfl rfl (Nat.le_of_ble_eq_true rfl) (by omega) (fun v18 σ18 hq18 => ?_)
    obtain ⟨rfl, h18, f18, s18⟩ := hq18
    have ht18 : townC 10 σ18 t := (ht.kept (fun j hj => s18 _ (by simp; omega)))
    refine GS.run [] 2 rfl ?_
    refine GS.callV oX3_leastMovedByAllImages (c_leastMoved (d + 1) σ18 t ht18 hw f18) rfl rfl rfl rfl rfl rfl rfl (Nat.le_of_ble_eq_true rfl) (by omega) (fun v25 σ25 hq25 => ?_)
    obtain ⟨rfl, s25⟩ := hq25
    refine GS.iret rfl rfl (rfl) ?_
    have eqE : qEnds t = lmI t := by unfold qEnds; rw [if_neg (by omega)]; rfl
    exact ⟨congrArg (fun z => some (Value.int z)) eqE.symm, s18.trans (s25.sub (by decide)), Or.inr ⟨(congrFun (s25 64 (by decide)) _).trans h18, f18.kept s25⟩⟩
  · have hn : tN t = 0 := (nI_eq (b := 0) (by omega) (by omega)).mp c7
    refine GS.run [] 1 rfl ?_
    refine GS.iret rfl rfl (rfl) ?_
    exact ⟨by unfold qEnds; rw [if_pos hn], same.rf, hl⟩
