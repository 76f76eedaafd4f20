def preO (p : Nat → Nat) (k : Nat) : Nat → Option Nat := fun i => if i < k then some (p i) else none
theorem preO_lt {p : Nat → Nat} {k i : Nat} (h : i < k) : preO p k i = some (p i) := if_pos h
theorem preO_ge {p : Nat → Nat} {k i : Nat} (h : ¬ i < k) : preO p k i = none := if_neg h
theorem preO_pok {t : Tn} {p : Nat → Nat} {k : Nat} (hw : wfT t) (hk : k ≤ tN t) (h : pwO t p k) : pokP t (preO p k) := by
  intro c d hc hd
  by_cases q : c < k
  · rw [preO_lt q] at hd
    cases hd
    refine ⟨(h c q).1, (h c q).2.1, fun e d' he hd' hne => ?_⟩
    by_cases q2 : e < k
    · rw [preO_lt q2] at hd'
      cases hd'
      exact ⟨fun z => hne (pwO_inj h q q2 z), pwO_adj hw hk h q q2⟩
    · rw [preO_ge q2] at hd'; cases hd'
  · rw [preO_ge q] at hd; cases hd
theorem preO_ext {t : Tn} {p w : Nat → Nat} {k : Nat} (hk : k ≤ tN t) : extP t (preO p k) w ↔ ∀ i, i < k → w i = p i := by
  refine ⟨fun h i hi => h i _ (by omega) (preO_lt hi), fun h c d hc hd => ?_⟩
  by_cases q : c < k
  · rw [preO_lt q] at hd; cases hd; exact h c q
  · rw [preO_ge q] at hd; cases hd
theorem preO_can {t : Tn} {g : Bool} {p : Nat → Nat} {k x : Nat} {b : Bool} (hw : wfT t) (hk : k < tN t) (h : pwO t p k) (hx : x < tN t) (hb : b = true ↔ canP t g (preO p k) k x) : b = gB t g p k x := by
  rw [Bool.eq_iff_iff, hb, gB_iff hw hk h hx]
  refine ⟨fun ⟨w, w1, w2, w3⟩ => ⟨w, w1, (preO_ext (by omega)).mp w2, w3⟩, fun ⟨w, w1, w2, w3⟩ => ⟨w, w1, (preO_ext (by omega)).mpr w2, w3⟩⟩
theorem preO_s {p : Nat → Nat} {k : Nat} : va_up (preO p k) k (some (p k)) = preO p (k + 1) := by
  funext i
  by_cases e : i = k
  · rw [e, va_eq, preO_lt (Nat.lt_succ_self k)]
  · rw [va_ne _ _ e]
    by_cases q : i < k
    · rw [preO_lt q, preO_lt (by omega)]
    · rw [preO_ge q, preO_ge (by omega)]
theorem preO_u {p : Nat → Nat} {k d : Nat} : va_up (preO p k) k (some d) = preO (va_up p k d) (k + 1) := by
  funext i
  by_cases e : i = k
  · rw [e, va_eq, preO_lt (Nat.lt_succ_self k), va_eq]
  · rw [va_ne _ _ e]
    by_cases q : i < k
    · rw [preO_lt q, preO_lt (by omega), va_ne _ _ e]
    · rw [preO_ge q, preO_ge (by omega)]
theorem preO_d {p : Nat → Nat} {k : Nat} : va_up (preO p (k + 1)) k none = preO p k := by
  funext i
  by_cases e : i = k
  · rw [e, va_eq, preO_ge (Nat.lt_irrefl k)]
  · rw [va_ne _ _ e]
    by_cases q : i < k
    · rw [preO_lt q, preO_lt (by omega)]
    · rw [preO_ge q, preO_ge (by omega)]
def layOK (σ : am_S) (t : Tn) : Prop := σ 64 3 = bI (!(wys t true).isEmpty) ∧ ∀ j, j ≤ tN t → σ 66 j = nI (bkF t (tN t - j))
def layC (σ : am_S) (t : Tn) : Prop := σ 64 4 = 0 ∨ (σ 64 4 = 1 ∧ layOK σ t)
theorem ay_wys {t : Tn} (hw : wfT t) (hn : 0 < tN t) : ay (gB t true (fun i => i) 0) (tN t) = !(wys t true).isEmpty := by
  have h0 : pwO t (fun i => i) 0 := fun c hc => absurd hc (Nat.not_lt_zero _)
  cases e : (wys t true).isEmpty with
  | false =>
    obtain ⟨w, h⟩ := (wys_ex hw).mp e
    exact ay_iff.mpr ⟨w 0, (h.1 0 hn).1, (gB_iff hw hn h0 (h.1 0 hn).1).mpr ⟨w, h, fun i hi => absurd hi (Nat.not_lt_zero _), rfl⟩⟩
  | true =>
    show ay (gB t true (fun i => i) 0) (tN t) = false
    rw [Bool.eq_false_iff]
    intro q
    obtain ⟨x, hx, hg⟩ := ay_iff.mp q
    obtain ⟨w, h, -⟩ := (gB_iff hw hn h0 hx).mp hg
    have := (wys_ex hw).mpr ⟨w, h⟩
    rw [e] at this
    cases this
theorem wys_f {t : Tn} (hw : wfT t) : (wys t false).length = bkF t (tN t) := by
  rw [wys_len hw, if_neg]
  rw [(wys_ex hw).mpr ⟨_, Wy_id⟩]
  exact Bool.false_ne_true
theorem wys_b {t : Tn} {g : Bool} (hw : wfT t) : (wys t g).length ≤ 16777216 := by
  rw [wys_len hw]
  split
  · exact Nat.zero_le _
  · exact bkF_b hw hw.1
theorem onV_0 {σ : am_S} {t : Tn} {p : Nat → Nat} (hw : wfT t) : onV (am_s1 σ 65 (am_fill (σ 65) 8 (-1000000))) t (preO p 0) := fun c hc => by
  have h8 := hw.1
  rw [am_s1_eq, preO_ge (Nat.not_lt_zero _)]
  unfold am_fill
  rw [if_pos (by omega)]
  rfl
theorem onV.kept {σ σ' : am_S} {t : Tn} {on : Nat → Option Nat} (h : onV σ t on) (e : σ' 65 = σ 65) : onV σ' t on := fun c hc => by rw [e]; exact h c hc
theorem nI_m1z {m : Nat} : nI m + -1 = zI ((m : Int) - 1) := by rw [zI_n, show (-1 : Int32) = zI (-1) from rfl, zI_add]; rfl
theorem c_countAll (d : Nat) (σ : am_S) (t : Tn) (ht : townC 10 σ t) (hw : wfT t) (hn : 0 < tN t) (hl : layC σ t) : CallS mX3_countAll (d + 20) [.ref 64] σ (fun r σ' => r = none ∧ σ' 64 4 = 1 ∧ layOK σ' t ∧ same [64, 65, 66] σ σ') := by
  refine CallS.of kX3_countAll pX3_countAll [.ref 64, .retAddr 0, .retAddr 0, .retAddr 0] rfl (Nat.le_of_ble_eq_true rfl) ?_
  have h8 := hw.1
  have h00 : pwO t (fun i => i) 0 := fun c hc => absurd hc (Nat.not_lt_zero _)
  refine GS.run [] 2 rfl ?_
  rcases hl with h4 | ⟨h4, hok⟩
  · rw [h4]
    refine GS.run [] 0 rfl ?_
    refine GS.if_eq rfl (fun c4 => ?_) (fun q => absurd (rfl) q)
    refine GS.run [] 3 rfl ?_
    refine GS.cS oX11_fill (c_fill (d + 19) σ 65 8 (-1000000) rfl) rfl rfl rfl rfl (Nat.le_of_ble_eq_true rfl) (by omega) ?_
    have ho0 := onV_0 (σ := σ) (p := fun i => i) hw
    have s0 : same [64, 65, 66] σ (am_s1 σ 65 (am_fill (σ 65) 8 (-1000000))) := same.rf.s1 (by decide)
    refine GS.run [] 2 rfl ?_
    generalize hS0 : am_s1 σ 65 (am_fill (σ 65) 8 (-1000000)) = σ0 at ho0 s0 ⊢
    refine GS.run [] 0 rfl ?_
    refine GS.putZ rfl rfl rfl (rfl) (rfl) rfl ?_
    refine GS.run [] 2 rfl ?_
    have loop24 : ∀ (fu : Nat) (x : Nat) (σx : am_S) (hx : x ≤ tN t) (hsx : same [64, 65, 66] σ σx) (hox : onV σx t (preO (fun i => i) 0)) (h3x : σx 64 3 = bI (ay (gB t true (fun i => i) 0) x)), tN t - x = fu → GS none mX3_countAll (d + 20) (fun r σ' => r = none ∧ σ' 64 4 = 1 ∧ layOK σ' t ∧ same [64, 65, 66] σ σ') 24 [.ref 64, .int (nI x), .retAddr 0, .retAddr 0] [] σx := by
      intro fu
      induction fu using Nat.strongRecOn with
      | ind fu ih24 =>
        intro x σx hx hsx hox h3x hfu
        refine GS.run [] 3 rfl ?_
        have htx := (ht.kept (fun j hj => hsx _ (by simp; omega)))
        refine GS.run [] 0 rfl ?_
        refine GS.cV oX8_corners ((c_corners_10 (d + 19) σx).eq (congrArg (fun z => some (Value.int z)) (htx.1)) rfl) rfl rfl rfl rfl rfl rfl rfl (Nat.le_of_ble_eq_true rfl) (by omega) ?_
        refine GS.icmp_ge rfl (fun c32 => ?_) (fun c32 => ?_)
        · have e0 : x = tN t := by have := (nI_leI (by omega) (by omega)).mp c32; omega
          subst e0
          rw [ay_wys hw hn] at h3x
          refine GS.run [] 2 rfl ?_
          have loop70 : ∀ (fu : Nat) (y : Nat) (σy : am_S) (hy : y ≤ tN t) (hsy : same [64, 65, 66] σ σy) (hoy : onV σy t (preO (fun i => i) y)) (h3y : σy 64 3 = bI (!(wys t true).isEmpty)), tN t - y = fu → GS none mX3_countAll (d + 20) (fun r σ' => r = none ∧ σ' 64 4 = 1 ∧ layOK σ' t ∧ same [64, 65, 66] σ σ') 70 [.ref 64, .int (nI y), .retAddr 0, .retAddr 0] [] σy := by
            intro fu
            induction fu using Nat.strongRecOn with
            | ind fu ih70 =>
              intro y σy hy hsy hoy h3y hfu
              refine GS.run [] 3 rfl ?_
              have hty := (ht.kept (fun j hj => hsy _ (by simp; omega)))
              refine GS.run [] 0 rfl ?_
              refine GS.cV oX8_corners ((c_corners_10 (d + 19) σy).eq (congrArg (fun z => some (Value.int z)) (hty.1)) rfl) rfl rfl rfl rfl rfl rfl rfl (Nat.le_of_ble_eq_true rfl) (by omega) ?_
              refine GS.icmp_ge rfl (fun c78 => ?_) (fun c78 => ?_)
              · have e0 : y = tN t := by have := (nI_leI (by omega) (by omega)).mp c78; omega
                subst e0
                refine GS.run [] 4 rfl ?_
                refine GS.cV oX8_corners ((c_corners_10 (d + 19) σy).eq (congrArg (fun z => some (Value.int z)) (hty.1)) rfl) rfl rfl rfl rfl rfl rfl rfl (Nat.le_of_ble_eq_true rfl) (by omega) ?_
                refine GS.run [] 1 rfl ?_
                refine GS.cS oX11_put (c_put (d + 19) σy 66 9 (nI (tN t)) 1 rfl) rfl rfl rfl rfl (Nat.le_of_ble_eq_true rfl) (by omega) ?_
                rw [am_put_nI (by omega) (by omega)]
                have hbk : ∀ j, tN t ≤ j → j ≤ tN t → upd (σy 66) (tN t) 1 j = nI (bkF t (tN t - j)) := fun j h1 h2 => by
                  have : j = tN t := by omega
                  subst this
                  rw [upd_eq, Nat.sub_self, bkF]; rfl
                generalize hS1 : am_s1 σy 66 (upd (σy 66) (tN t) 1) = σ1
                have s1 : same [64, 65, 66] σ σ1 := by rw [← hS1]; exact hsy.s1 (by decide)
                have ho1 : onV σ1 t (preO (fun i => i) (tN t)) := by rw [← hS1]; exact hoy.kept (am_s1_ne _ _ (by decide))
                have h31 : σ1 64 3 = bI (!(wys t true).isEmpty) := by rw [← hS1, am_s1_ne _ _ (by decide)]; exact h3y
                have hb1 : ∀ j, tN t ≤ j → j ≤ tN t → σ1 66 j = nI (bkF t (tN t - j)) := by rw [← hS1, am_s1_eq]; exact hbk
                have ht1 := (ht.kept (fun j hj => s1 _ (by simp; omega)))
                clear hS1
                refine GS.run [] 2 rfl ?_
                refine GS.cV oX8_corners ((c_corners_10 (d + 19) σ1).eq (congrArg (fun z => some (Value.int z)) (ht1.1)) rfl) rfl rfl rfl rfl rfl rfl rfl (Nat.le_of_ble_eq_true rfl) (by omega) ?_
                refine GS.run [] 3 rfl ?_
                have loop121 : ∀ (fu : Nat) (k : Nat) (σk : am_S) (v2 v3 : Value) (hk : k ≤ tN t) (hsk : same [64, 65, 66] σ σk) (hok : onV σk t (preO (fun i => i) k)) (h3k : σk 64 3 = bI (!(wys t true).isEmpty)) (hbk2 : ∀ j, k ≤ j → j ≤ tN t → σk 66 j = nI (bkF t (tN t - j))), k = fu → GS none mX3_countAll (d + 20) (fun r σ' => r = none ∧ σ' 64 4 = 1 ∧ layOK σ' t ∧ same [64, 65, 66] σ σ') 121 [.ref 64, .int (zI ((k : Int) - 1)), .retAddr 0, .retAddr 0] [] σk := by
                  intro fu
                  induction fu using Nat.strongRecOn with
                  | ind fu ih121 =>
                    intro k σk v2 v3 hk hsk hok h3k hbk2 hfu
                    refine GS.run [] 1 rfl ?_
                    rcases k with _ | m
                    · refine GS.if_lt rfl (fun c122 => ?_) (fun q => absurd (by decide) q)
                      refine GS.run [] 2 rfl ?_
                      refine GS.putZ rfl rfl rfl (rfl) (rfl) rfl ?_
                      refine GS.vret rfl rfl ?_
                      refine ⟨rfl, rfl, ⟨h3k, fun j hj => hbk2 j (Nat.zero_le _) hj⟩, hsk.s1 (by decide)⟩
                    · rw [zI_m1]
                      have hm : m < tN t := by omega
                      have hidm : pwO t (fun i => i) m := pwO_mono Wy_id.1 (by omega)
                      refine GS.if_lt rfl (fun q => absurd q (Int32.not_lt.mpr (nI_pos' (by omega)))) (fun c122 => ?_)
                      refine GS.run [] 4 rfl ?_
                      refine GS.cS oX11_put (c_put (d + 19) σk 65 8 (nI m) (-1000000) rfl) rfl rfl rfl rfl (Nat.le_of_ble_eq_true rfl) (by omega) ?_
                      rw [am_put_nI (by omega) (by omega)]
                      have ho2 : onV (am_s1 σk 65 (upd (σk 65) m (-1000000))) t (preO (fun i => i) m) := by rw [← preO_d]; exact onV_up (x := none) hok
                      generalize hS2 : am_s1 σk 65 (upd (σk 65) m (-1000000)) = σ2 at ho2 ⊢
                      have s2 : same [64, 65, 66] σ σ2 := by rw [← hS2]; exact hsk.s1 (by decide)
                      have h32 : σ2 64 3 = bI (!(wys t true).isEmpty) := by rw [← hS2, am_s1_ne _ _ (by decide)]; exact h3k
                      have hb2 : ∀ j, m + 1 ≤ j → j ≤ tN t → σ2 66 j = nI (bkF t (tN t - j)) := by rw [← hS2, am_s1_ne _ _ (by decide)]; exact hbk2
                      have ht2 := (ht.kept (fun j hj => s2 _ (by simp; omega)))
                      clear hS2
                      refine GS.run [] 4 rfl ?_
                      have loop139 : ∀ (fu : Nat) (x : Nat) (hx : x ≤ tN t), tN t - x = fu → GS none mX3_countAll (d + 20) (fun r σ' => r = none ∧ σ' 64 4 = 1 ∧ layOK σ' t ∧ same [64, 65, 66] σ σ') 139 [.ref 64, .int (nI m), .int (nI (cnB (gB t false (fun i => i) m) x)), .int (nI x)] [] σ2 := by
                        intro fu
                        induction fu using Nat.strongRecOn with
                        | ind fu ih139 =>
                          intro x hx hfu
                          refine GS.run [] 3 rfl ?_
                          refine GS.cV oX8_corners ((c_corners_10 (d + 19) σ2).eq (congrArg (fun z => some (Value.int z)) (ht2.1)) rfl) rfl rfl rfl rfl rfl rfl rfl (Nat.le_of_ble_eq_true rfl) (by omega) ?_
                          refine GS.icmp_ge rfl (fun c147 => ?_) (fun c147 => ?_)
                          · have e0 : x = tN t := by have := (nI_leI (by omega) (by omega)).mp c147; omega
                            subst e0
                            refine GS.run [] 9 rfl ?_
                            rw [nI_1]
                            refine GS.run [] 0 rfl ?_
                            refine GS.cS oX11_at ((c_at (d + 19) σ2 66 9 (nI (m + 1)) rfl).eq (congrArg (fun z => some (Value.int z)) (v_get (by omega) (by omega) (hb2 (m + 1) (Nat.le_refl _) (by omega)))) rfl) rfl rfl rfl rfl (Nat.le_of_ble_eq_true rfl) (by omega) ?_
                            refine GS.run [] 1 rfl ?_
                            rw [pk_mul]
                            refine GS.run [] 0 rfl ?_
                            refine GS.cS oX11_put (c_put (d + 19) σ2 66 9 (nI m) _ rfl) rfl rfl rfl rfl (Nat.le_of_ble_eq_true rfl) (by omega) ?_
                            rw [am_put_nI (by omega) (by omega)]
                            have hbm : cnB (gB t false (fun i => i) m) (tN t) * bkF t (tN t - (m + 1)) = bkF t (tN t - m) := by
                              rw [show tN t - m = tN t - (m + 1) + 1 by omega, bkF, show tN t - (tN t - (m + 1) + 1) = m by omega]
                            rw [hbm]
                            have hb3 : ∀ j, m ≤ j → j ≤ tN t → upd (σ2 66) m (nI (bkF t (tN t - m))) j = nI (bkF t (tN t - j)) := fun j h1 h2 => by
                              by_cases e : j = m
                              · rw [e]; exact upd_eq _ _ _
                              · rw [upd_ne _ _ e]; exact hb2 j (by omega) h2
                            generalize hS3 : am_s1 σ2 66 (upd (σ2 66) m (nI (bkF t (tN t - m)))) = σ3
                            have s3 : same [64, 65, 66] σ σ3 := by rw [← hS3]; exact s2.s1 (by decide)
                            have ho3 : onV σ3 t (preO (fun i => i) m) := by rw [← hS3]; exact ho2.kept (am_s1_ne _ _ (by decide))
                            have h33 : σ3 64 3 = bI (!(wys t true).isEmpty) := by rw [← hS3, am_s1_ne _ _ (by decide)]; exact h32
                            have hb4 : ∀ j, m ≤ j → j ≤ tN t → σ3 66 j = nI (bkF t (tN t - j)) := by rw [← hS3, am_s1_eq]; exact hb3
                            clear hS3
                            refine GS.run [] 2 rfl ?_
                            rw [nI_m1z]
                            exact GS.weak (by exact ⟨Or.inr rfl, Or.inr rfl, Or.inl rfl, Or.inl rfl, trivial⟩) (ih121 m (by omega) m _ Value.null Value.null (by omega) s3 ho3 h33 hb4 rfl)
                          · have hx2 : x < tN t := (nI_gtI (by omega) (by omega)).mp c147
                            refine GS.run [] 6 rfl ?_
                            refine GS.callV oX3_canLay (c_can (d + 1) σ2 t (preO (fun i => i) m) false m x ht2 hw ho2 (preO_pok hw (by omega) hidm) (preO_ge (Nat.lt_irrefl m)) hm hx2) rfl rfl rfl rfl rfl rfl rfl (Nat.le_of_ble_eq_true rfl) (by omega) (fun v156 σ156 hq156 => ?_)
                            obtain ⟨hs156, b, rfl, hb⟩ := hq156
                            obtain rfl := hs156.symm
                            have hbg := preO_can hw hm hidm hx2 hb
                            subst hbg
                            refine GS.if_eq rfl (fun c159 => ?_) (fun c159 => ?_)
                            · have hE : nI (cnB (gB t false (fun i => i) m) x) + 0 = nI (cnB (gB t false (fun i => i) m) (x + 1)) := by rw [cnB, bI0.mp c159]; exact Int32.add_zero _
                              refine GS.run [] 5 rfl ?_
                              rw [show nI x + 1 = nI (x + 1) from nI_1 x, hE]
                              exact ih139 _ (by omega) (x + 1) (by omega) rfl
                            · have hE : nI (cnB (gB t false (fun i => i) m) x) + 1 = nI (cnB (gB t false (fun i => i) m) (x + 1)) := by rw [cnB, bI1.mp c159]; exact nI_1 _
                              refine GS.run [] 6 rfl ?_
                              rw [show nI x + 1 = nI (x + 1) from nI_1 x, hE]
                              exact ih139 _ (by omega) (x + 1) (by omega) rfl
                      exact loop139 _ 0 (Nat.zero_le _) rfl
                rw [show nI (tN t) - 1 = zI ((tN t : Int) - 1) by rw [zI_n, show (1 : Int32) = zI 1 from rfl, zI_sub]]
                exact loop121 _ (tN t) _ Value.null Value.null (Nat.le_refl _) s1 ho1 h31 hb1 rfl
              · have hy2 : y < tN t := (nI_gtI (by omega) (by omega)).mp c78
                refine GS.run [] 4 rfl ?_
                refine GS.cS oX11_put (c_put (d + 19) σy 65 8 (nI y) (nI y) rfl) rfl rfl rfl rfl (Nat.le_of_ble_eq_true rfl) (by omega) ?_
                rw [am_put_nI (by omega) (by omega)]
                refine GS.run [] 2 rfl ?_
                rw [nI_1]
                exact ih70 _ (by omega) (y + 1) _ (by omega) (hsy.s1 (by decide)) (by rw [← preO_s]; exact onV_up (x := some y) hoy) h3y rfl
          exact loop70 _ 0 _ (Nat.zero_le _) hsx hox h3x rfl
        · have hx2 : x < tN t := (nI_gtI (by omega) (by omega)).mp c32
          refine GS.run [] 3 rfl ?_
          rw [h3x]
          refine GS.run [] 0 rfl ?_
          refine GS.if_ne rfl (fun c40 => ?_) (fun c40 => ?_)
          · have hE : (1 : Int32) = bI (ay (gB t true (fun i => i) 0) (x + 1)) := by rw [ay, bI1.mp c40]; rfl
            refine GS.run [] 2 rfl ?_
            refine GS.putZ rfl rfl rfl (rfl) (rfl) rfl ?_
            refine GS.run [] 2 rfl ?_
            rw [nI_1]
            exact ih24 _ (by omega) (x + 1) _ (by omega) (hsx.s1 (by decide)) (hox.kept (am_s1_ne _ _ (by decide))) (by rw [am_s1_eq, upd_eq]; exact hE) rfl
          · have hF : ay (gB t true (fun i => i) 0) x = false := by
              cases q : ay (gB t true (fun i => i) 0) x with
              | false => rfl
              | true => rw [q] at c40; exact absurd c40 (by decide)
            refine GS.run [] 5 rfl ?_
            refine GS.callV oX3_canLay (c_can (d + 1) σx t (preO (fun i => i) 0) true 0 x htx hw hox (preO_pok hw (Nat.zero_le _) h00) (preO_ge (Nat.lt_irrefl 0)) hn hx2) rfl rfl rfl rfl rfl rfl rfl (Nat.le_of_ble_eq_true rfl) (by omega) (fun v48 σ48 hq48 => ?_)
            obtain ⟨hs48, b, rfl, hb⟩ := hq48
            obtain rfl := hs48.symm
            have hbg := preO_can hw hn h00 hx2 hb
            subst hbg
            refine GS.if_eq rfl (fun c51 => ?_) (fun c51 => ?_)
            · have hE : (0 : Int32) = bI (ay (gB t true (fun i => i) 0) (x + 1)) := by rw [ay, hF, bI0.mp c51]; rfl
              refine GS.run [] 1 rfl ?_
              refine GS.putZ rfl rfl rfl (rfl) (rfl) rfl ?_
              refine GS.run [] 2 rfl ?_
              rw [nI_1]
              exact ih24 _ (by omega) (x + 1) _ (by omega) (hsx.s1 (by decide)) (hox.kept (am_s1_ne _ _ (by decide))) (by rw [am_s1_eq, upd_eq]; exact hE) rfl
            · have hE : (1 : Int32) = bI (ay (gB t true (fun i => i) 0) (x + 1)) := by rw [ay, hF, bI1.mp c51]; rfl
              refine GS.run [] 2 rfl ?_
              refine GS.putZ rfl rfl rfl (rfl) (rfl) rfl ?_
              refine GS.run [] 2 rfl ?_
              rw [nI_1]
              exact ih24 _ (by omega) (x + 1) _ (by omega) (hsx.s1 (by decide)) (hox.kept (am_s1_ne _ _ (by decide))) (by rw [am_s1_eq, upd_eq]; exact hE) rfl
    exact loop24 _ 0 _ (Nat.zero_le _) (s0.s1 (by decide)) (ho0.kept (am_s1_ne _ _ (by decide))) rfl rfl
  · rw [h4]
    refine GS.run [] 0 rfl ?_
    refine GS.if_eq rfl (fun q => absurd q (by decide)) (fun c4 => ?_)
    refine GS.vret rfl rfl ?_
    exact ⟨rfl, h4, hok, same.rf⟩
