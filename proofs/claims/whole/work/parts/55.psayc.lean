theorem c_sclear (d : Nat) (σ : am_S)  : CallS mX5_clear (d) [.ref 26] σ (am_det none (am_s1 σ 26 (upd (σ 26) 0 0))) := by
  refine CallS.of kX5_clear pX5_clear [.ref 26] rfl (Nat.le_of_ble_eq_true rfl) ?_
  refine GS.run [] 3 rfl ?_
  refine GS.vret rfl rfl ?_
  exact ⟨rfl, rfl⟩
theorem c_sadd (d : Nat) (σ : am_S) (s : Sy) (w : Nat) (hd : sayC 26 σ s) (h12 : s.1 < 12) (hw : isW w) : CallS mX5_add (d + 1) [.ref 26, .int (nI w)] σ (fun r σ' => r = some (.int 1) ∧ sayC 26 σ' (sAdd s w) ∧ same [26, 27] σ σ') := by
  refine CallS.of kX5_add pX5_add [.ref 26, .int (nI w), .retAddr 0] rfl (Nat.le_of_ble_eq_true rfl) ?_
  rcases hw with ⟨w8, w2⟩ | ⟨w20, w30⟩
  · refine GS.run [] 2 rfl ?_
    refine GS.cS oX11_within (c_withinN d σ (nI w) 8 (by decide)) rfl rfl rfl rfl (Nat.le_of_ble_eq_true rfl) (by omega) ?_
    refine GS.if_eq rfl (fun q => absurd q (fun q => am_b0.mp q ⟨by rw [nI_toInt (by omega)]; omega, by rw [nI_toInt (by omega)]; omega⟩)) (fun c6 => ?_)
    refine GS.run [] 2 rfl ?_
    refine GS.icmp_eq rfl (fun q => absurd q (fun q => w2 ((nI_eq (b := 2) (by omega) (by omega)).mp q))) (fun c11 => ?_)
    refine GS.run [] 4 rfl ?_
    refine GS.if_ne rfl (fun c21 => ?_) (fun q => absurd q (by decide))
    refine GS.run [] 3 rfl ?_
    rw [show σ 26 0 = nI s.1 from hd.1]
    refine GS.run [] 0 rfl ?_
    refine GS.icmp_lt rfl (fun c42 => ?_) (fun q => absurd ((nI_ltI (a := s.1) (b := 12) (by omega) (by omega)).mpr h12) q)
    refine GS.run [] 4 rfl ?_
    rw [show σ 26 0 = nI s.1 from hd.1]
    refine GS.run [] 0 rfl ?_
    refine GS.run [] 1 rfl ?_
    refine GS.cS oX11_put (c_put d σ 27 12 (nI s.1) (nI w) rfl) rfl rfl rfl rfl (Nat.le_of_ble_eq_true rfl) (by omega) ?_
    rw [am_put_nI (by omega) (by omega)]
    have a27 : am_s1 σ 27 (upd (σ 27) s.1 (nI w)) 27 = upd (σ 27) s.1 (nI w) := am_s1_eq _ _ _
    have b27 : ∀ q, q ≠ 27 → am_s1 σ 27 (upd (σ 27) s.1 (nI w)) q = σ q := fun q hq => am_s1_ne _ _ hq
    generalize am_s1 σ 27 (upd (σ 27) s.1 (nI w)) = σ1 at a27 b27 ⊢
    refine GS.run [] 3 rfl ?_
    rw [show σ1 26 0 = nI s.1 by rw [b27 26 (by decide)]; exact hd.1]
    refine GS.run [] 0 rfl ?_
    refine GS.run [] 4 rfl ?_
    refine GS.iret rfl rfl (rfl) ?_
    refine ⟨rfl, ⟨?_, fun k hk => ?_⟩, fun q hq => ?_⟩
    · rw [am_s1_eq, upd_eq]; exact nI_1 _
    · have hk : k < s.1 + 1 := hk
      rw [am_s1_ne _ _ (by decide), show 26 + 1 = 27 from rfl, a27]
      show upd (σ 27) s.1 (nI w) k = nI (va_up s.2 s.1 w k)
      by_cases e : k = s.1
      · rw [e, upd_eq, va_eq]
      · rw [upd_ne _ _ e, va_ne _ _ e]; exact hd.2 k (by omega)
    · have h : q ≠ 26 ∧ q ≠ 27 := by simpa using hq
      rw [am_s1_ne _ _ h.1, b27 q h.2]
  · refine GS.run [] 2 rfl ?_
    refine GS.cS oX11_within (c_withinN d σ (nI w) 8 (by decide)) rfl rfl rfl rfl (Nat.le_of_ble_eq_true rfl) (by omega) ?_
    refine GS.if_eq rfl (fun c6 => ?_) (fun q => absurd (am_b0.mpr (fun q => by have := q.2; rw [nI_toInt (by omega)] at this; omega)) q)
    refine GS.run [] 3 rfl ?_
    refine GS.if_ne rfl (fun q => absurd (rfl) q) (fun c21 => ?_)
    refine GS.run [] 4 rfl ?_
    rw [show nI w - 20 = nI (w - 20) from pk_sub (b := 20) (by omega)]
    refine GS.run [] 0 rfl ?_
    refine GS.cS oX11_within (c_withinN d σ (nI (w - 20)) 10 (by decide)) rfl rfl rfl rfl (Nat.le_of_ble_eq_true rfl) (by omega) ?_
    refine GS.if_eq rfl (fun q => absurd q (fun q => am_b0.mp q ⟨by rw [nI_toInt (by omega)]; omega, by rw [nI_toInt (by omega)]; omega⟩)) (fun c33 => ?_)
    refine GS.run [] 3 rfl ?_
    rw [show σ 26 0 = nI s.1 from hd.1]
    refine GS.run [] 0 rfl ?_
    refine GS.icmp_lt rfl (fun c42 => ?_) (fun q => absurd ((nI_ltI (a := s.1) (b := 12) (by omega) (by omega)).mpr h12) q)
    refine GS.run [] 4 rfl ?_
    rw [show σ 26 0 = nI s.1 from hd.1]
    refine GS.run [] 0 rfl ?_
    refine GS.run [] 1 rfl ?_
    refine GS.cS oX11_put (c_put d σ 27 12 (nI s.1) (nI w) rfl) rfl rfl rfl rfl (Nat.le_of_ble_eq_true rfl) (by omega) ?_
    rw [am_put_nI (by omega) (by omega)]
    have a27 : am_s1 σ 27 (upd (σ 27) s.1 (nI w)) 27 = upd (σ 27) s.1 (nI w) := am_s1_eq _ _ _
    have b27 : ∀ q, q ≠ 27 → am_s1 σ 27 (upd (σ 27) s.1 (nI w)) q = σ q := fun q hq => am_s1_ne _ _ hq
    generalize am_s1 σ 27 (upd (σ 27) s.1 (nI w)) = σ1 at a27 b27 ⊢
    refine GS.run [] 3 rfl ?_
    rw [show σ1 26 0 = nI s.1 by rw [b27 26 (by decide)]; exact hd.1]
    refine GS.run [] 0 rfl ?_
    refine GS.run [] 4 rfl ?_
    refine GS.iret rfl rfl (rfl) ?_
    refine ⟨rfl, ⟨?_, fun k hk => ?_⟩, fun q hq => ?_⟩
    · rw [am_s1_eq, upd_eq]; exact nI_1 _
    · have hk : k < s.1 + 1 := hk
      rw [am_s1_ne _ _ (by decide), show 26 + 1 = 27 from rfl, a27]
      show upd (σ 27) s.1 (nI w) k = nI (va_up s.2 s.1 w k)
      by_cases e : k = s.1
      · rw [e, upd_eq, va_eq]
      · rw [upd_ne _ _ e, va_ne _ _ e]; exact hd.2 k (by omega)
    · have h : q ≠ 26 ∧ q ≠ 27 := by simpa using hq
      rw [am_s1_ne _ _ h.1, b27 q h.2]
theorem wdK_ok {p : Tp} {j k : Nat} (h : wdK p j = some k) : tkC p j = 1 ∧ tkVI p j = nI k ∧ k < 8 := by
  unfold wdK at h
  by_cases h1 : tkC p j = 1
  · rw [if_pos h1] at h
    have hV := (tkC_1 h1).2.2
    cases e : nmO p (tkS p j) (tkL p j) with
    | none => rw [e] at h; cases h
    | some i =>
      rw [e] at h hV
      have h : (if i < 8 then some i else none) = some k := h
      by_cases h8 : i < 8
      · rw [if_pos h8] at h; cases h
        exact ⟨h1, hV, h8⟩
      · rw [if_neg h8] at h; cases h
  · rw [if_neg h1] at h; cases h
theorem sayC.far {L : List Nat} {σ σ' : am_S} {s : Sy} (h : sayC 26 σ s) (hs : same L σ σ') (h1 : 26 ∉ L) (h2 : 27 ∉ L) : sayC 26 σ' s := h.kept (hs 26 h1) (hs 27 h2)
theorem c_readWord (d : Nat) (σ : am_S) (p : Tp) (j : Nat) (hp : wfP p) (h : pcC σ p j) (s : Sy) (k : Nat) (hd : sayC 26 σ s) (h12 : s.1 < 12) (hk : wdK p j = some k) : CallS mX7_readWord (d + 5) [.ref 5, .ref 26] σ (rdQ (rWd p k j) [5, 26, 27] (fun q σ' => σ' 5 6 = nI q.2 ∧ live p q.2 ∧ sayC 26 σ' (sAdd s q.1) ∧ isW q.1) σ) := by
  refine CallS.of kX7_readWord pX7_readWord [.ref 5, .ref 26, .retAddr 0] rfl (Nat.le_of_ble_eq_true rfl) ?_
  obtain ⟨k1, hV, h8⟩ := wdK_ok hk
  have hc4 := tkC_le (p := p) (j := j)
  refine GS.run [] 1 rfl ?_
  refine GS.cV oX7_value ((c_value7 (d + 3) σ p j hp h).eq (congrArg (fun z => some (Value.int z)) (hV)) rfl) rfl rfl rfl rfl rfl rfl rfl (Nat.le_of_ble_eq_true rfl) (by omega) ?_
  refine GS.run [] 6 rfl ?_
  rw [show σ 5 6 + 1 = nI (j + 1) by rw [h.2.1]; exact nI_1 j]
  refine GS.run [] 0 rfl ?_
  refine GS.run [] 1 rfl ?_
  have fA : okF [5, 26, 27] σ (am_s1 σ 5 (upd (σ 5) 6 (nI (j + 1)))) := okF.rf.f (by decide) (Or.inl rfl)
  have e6 : am_s1 σ 5 (upd (σ 5) 6 (nI (j + 1))) 5 6 = nI (j + 1) := by rw [am_s1_eq, upd_eq]
  have sA : same [5] σ (am_s1 σ 5 (upd (σ 5) 6 (nI (j + 1)))) := same.rf.s1 (by decide)
  generalize am_s1 σ 5 (upd (σ 5) 6 (nI (j + 1))) = σA at fA e6 sA ⊢
  have hA : pcC σA p (j + 1) := h.next sA (by decide) e6 (live_c h.2.2 (by omega))
  have hdA := hd.far sA (by decide) (by decide)
  refine GS.run [] 0 rfl ?_
  refine GS.run [] 2 rfl ?_
  refine GS.icmp_eq rfl (fun c17 => ?_) (fun c17 => ?_)
  · have k2 : k = 2 := (nI_eq (b := 2) (by omega) (by omega)).mp c17
    refine GS.run [] 2 rfl ?_
    refine GS.callV oX7_readNumber (c_readNumber (d + 2) σA p (j + 1) hp hA 9 (by omega)) rfl rfl rfl rfl rfl rfl rfl (Nat.le_of_ble_eq_true rfl) (by omega) (fun v29 σ29 hq29 => ?_)
    skip
    rcases e29 : rNum p 9 (j + 1) with e | m
    · rw [e29] at hq29
      obtain ⟨rfl, f29⟩ := hq29
      have hE : rWd p k j = .error e := by unfold rWd; rw [if_pos k2, e29]
      refine GS.if_eq rfl (fun c32 => ?_) (fun q => absurd (rfl) q)
      refine GS.run [] 1 rfl ?_
      refine GS.iret rfl rfl (rfl) ?_
      rw [hE]
      exact ⟨rfl, fA.er (f29.sub (by decide))⟩
    · rw [e29] at hq29
      obtain ⟨rfl, f29, g29, v29⟩ := hq29
      obtain ⟨n29, -, m9⟩ := rNum_ok e29
      have hE : rWd p k j = .ok (20 + m, j + 2) := by unfold rWd; rw [if_pos k2, e29]
      have hiw : isW (20 + m) := Or.inr ⟨by omega, by omega⟩
      have hd29 := hdA.far f29.1 (by decide) (by decide)
      have h29 : pcC σ29 p (j + 2) := hA.next f29.1 (by decide) g29 (live_c hA.2.2 (by omega))
      refine GS.if_eq rfl (fun q => absurd q (by decide)) (fun c32 => ?_)
      refine GS.run [] 5 rfl ?_
      rw [v29, show (20 : Int32) + nI m = nI (20 + m) by rw [show (20 : Int32) = nI 20 from rfl, nI_add]]
      refine GS.run [] 0 rfl ?_
      refine GS.callV oX5_add (c_sadd (d + 3) σ29 s (20 + m) hd29 h12 hiw) rfl rfl rfl rfl rfl rfl rfl (Nat.le_of_ble_eq_true rfl) (by omega) (fun v43 σ43 hq43 => ?_)
      obtain ⟨rfl, d43, s43⟩ := hq43
      refine GS.if_eq rfl (fun q => absurd q (by decide)) (fun c46 => ?_)
      refine GS.run [] 2 rfl ?_
      refine GS.iret rfl rfl (rfl) ?_
      rw [hE]
      exact ⟨rfl, (fA.trans (f29.sub (by decide))).d s43 (by decide) (by decide), (congrFun (s43 5 (by decide)) 6).trans g29, h29.2.2, d43, hiw⟩
  · have k2 : ¬ k = 2 := fun q => c17 (by rw [q]; rfl)
    have hE : rWd p k j = .ok (k, j + 1) := if_neg k2
    have hiw : isW k := Or.inl ⟨h8, k2⟩
    refine GS.run [] 2 rfl ?_
    refine GS.callV oX5_add (c_sadd (d + 3) σA s k hdA h12 hiw) rfl rfl rfl rfl rfl rfl rfl (Nat.le_of_ble_eq_true rfl) (by omega) (fun v22 σ22 hq22 => ?_)
    obtain ⟨rfl, d22, s22⟩ := hq22
    refine GS.iret rfl rfl (rfl) ?_
    rw [hE]
    exact ⟨rfl, fA.d s22 (by decide) (by decide), (congrFun (s22 5 (by decide)) 6).trans e6, hA.2.2, d22, hiw⟩
theorem rWs_n {p : Tp} {f j : Nat} {s : Sy} (h : wdK p j = none) : rWs p f s j = .ok (s, j) := by
  cases f with
  | zero => rw [rWs, h]
  | succ f => rw [rWs, h]
theorem rWs_s {p : Tp} {s : Sy} {j k : Nat} (h : wdK p j = some k) (h12 : s.1 < 12) : rWs p (12 - s.1) s j = (match rWd p k j with
    | .error e => .error e
    | .ok q => rWs p (12 - (s.1 + 1)) (sAdd s q.1) q.2) := by
  rw [show 12 - s.1 = 12 - (s.1 + 1) + 1 by omega, rWs, h]
  rfl
theorem wfS_a {s : Sy} {w : Nat} (h : wfS s) (h12 : s.1 < 12) (hw : isW w) : wfS (sAdd s w) := by
  refine ⟨h12, fun k hk => ?_⟩
  have hk : k < s.1 + 1 := hk
  show isW (va_up s.2 s.1 w k)
  by_cases e : k = s.1
  · rw [e, va_eq]; exact hw
  · rw [va_ne _ _ e]; exact h.2 k (by omega)
def sy0 : Sy := (0, fun _ => 0)
theorem c_readSaying (d : Nat) (σ : am_S) (p : Tp) (ht : tapeV 5 1 6 σ p) (hp : wfP p) : CallS mX7_readSaying (d + 9) [.ref 5, .ref 26] σ (tdQ (rSay p) [5, 7, 8, 9, 26, 27] (fun s σ' => sayC 26 σ' s ∧ wfS s) σ) := by
  refine CallS.of kX7_readSaying pX7_readSaying [.ref 5, .ref 26, .retAddr 0] rfl (Nat.le_of_ble_eq_true rfl) ?_
  refine GS.run [] 1 rfl ?_
  refine GS.cV oX5_clear (c_sclear (d + 7) σ) rfl rfl rfl rfl rfl rfl rfl (Nat.le_of_ble_eq_true rfl) (by omega) ?_
  have d1 : sayC 26 (am_s1 σ 26 (upd (σ 26) 0 0)) sy0 := ⟨by rw [am_s1_eq, upd_eq]; rfl, fun k hk => absurd hk (Nat.not_lt_zero _)⟩
  have s1 : same [26] σ (am_s1 σ 26 (upd (σ 26) 0 0)) := same.rf.s1 (by decide)
  generalize am_s1 σ 26 (upd (σ 26) 0 0) = σ1 at d1 s1 ⊢
  have ht1 : tapeV 5 1 6 σ1 p := by
    refine ⟨?_, fun i hi => ?_⟩
    · rw [s1 5 (by decide)]; exact ht.1
    · rw [s1 6 (by decide)]; exact ht.2 i hi
  refine GS.run [] 1 rfl ?_
  refine GS.callV oX7_cut (c_cut d σ1 p ht1 hp) rfl rfl rfl rfl rfl rfl rfl (Nat.le_of_ble_eq_true rfl) (by omega) (fun v5 σ5 hq5 => ?_)
  obtain ⟨rfl, k5, t5, f5, s5⟩ := hq5
  have h0 : pcC σ5 p 0 := ⟨k5, t5, fun i hi => absurd hi (Nat.not_lt_zero _)⟩
  have sT : same [5, 7, 8, 9, 26, 27] σ σ5 := (s1.sub (by decide)).trans (s5.sub (by decide))
  have e8 : σ5 5 8 = σ 5 8 := (f5 8 (by decide) (by decide)).trans (congrFun (s1 5 (by decide)) 8)
  have hd5 := d1.far s5 (by decide) (by decide)
  refine GS.run [] 2 rfl ?_
  have loop10 : ∀ (fu : Nat) (s : Sy) (j : Nat) (σi : am_S) (hsi : okF [5, 26, 27] σ5 σi) (hi : pcC σi p j) (hd : sayC 26 σi s) (hws : wfS s) (hR : rWs p (12 - s.1) s j = rWs p 12 sy0 0), 12 - s.1 = fu → GS none mX7_readSaying (d + 9) (tdQ (rSay p) [5, 7, 8, 9, 26, 27] (fun s σ' => sayC 26 σ' s ∧ wfS s) σ) 10 [.ref 5, .ref 26, .int (nI s.1)] [] σi := by
    intro fu
    induction fu using Nat.strongRecOn with
    | ind fu ih10 =>
      intro s j σi hsi hi hd hws hR hfu
      have h12 := hws.1
      have hc4 := tkC_le (p := p) (j := j)
      have hc5 := tkC_le (p := p) (j := j + 1)
      refine GS.run [] 2 rfl ?_
      refine GS.icmp_ge rfl (fun c13 => ?_) (fun c13 => ?_)
      · have e12 : s.1 = 12 := by have := (nI_leI (a := 12) (by omega) (by omega)).mp c13; omega
        refine GS.run [] 1 rfl ?_
        refine GS.cV oX7_isWord (c_isWord7 (d + 5) σi p j hp hi) rfl rfl rfl rfl rfl rfl rfl (Nat.le_of_ble_eq_true rfl) (by omega) ?_
        rcases eX : wdK p j with _ | k2
        · have hR2 : rWs p 12 sy0 0 = .ok (s, j) := hR.symm.trans (rWs_n eX)
          refine GS.if_eq rfl (fun c43 => ?_) (fun q => absurd (rfl) q)
          refine GS.run [] 1 rfl ?_
          refine GS.callV oX7_readSign (c_readSign (d + 5) σi p j hp hi) rfl rfl rfl rfl rfl rfl rfl (Nat.le_of_ble_eq_true rfl) (by omega) (fun v53 σ53 hq53 => ?_)
          skip
          rcases e53 : rSig p j with e | u
          · rw [e53] at hq53
            obtain ⟨rfl, f53⟩ := hq53
            have hE : rSay p = .error e := by unfold rSay; rw [show rWs p 12 (0, fun _ => 0) 0 = .ok (s, j) from hR2]; simp only [e53]
            refine GS.if_eq rfl (fun c56 => ?_) (fun q => absurd (rfl) q)
            refine GS.run [] 1 rfl ?_
            refine GS.iret rfl rfl (rfl) ?_
            refine ⟨(sT.trans (hsi.1.sub (by decide))).trans (f53.1.sub (by decide)), ?_⟩
            rw [hE]
            exact ⟨rfl, f53.2.2⟩
          · rw [e53] at hq53
            obtain ⟨rfl, f53, g53⟩ := hq53
            have h53 : pcC σ53 p (j + 1) := hi.next f53.1 (by decide) g53 (live_c hi.2.2 (by rw [rSig_ok e53]; decide))
            have hd53 := hd.far f53.1 (by decide) (by decide)
            have hE0 : rSay p = if tkC p (j + 1) = 0 then .ok s else .error (1, tkS p (j + 1)) := by unfold rSay; rw [show rWs p 12 (0, fun _ => 0) 0 = .ok (s, j) from hR2]; simp only [e53]
            refine GS.if_eq rfl (fun q => absurd q (by decide)) (fun c56 => ?_)
            refine GS.run [] 1 rfl ?_
            refine GS.cV oX7_sort (c_sort7 (d + 6) σ53 p (j + 1) hp h53) rfl rfl rfl rfl rfl rfl rfl (Nat.le_of_ble_eq_true rfl) (by omega) ?_
            refine GS.if_eq rfl (fun c63 => ?_) (fun c63 => ?_)
            · have k0 : tkC p (j + 1) = 0 := (nI_eq (b := 0) (by omega) (by omega)).mp c63
              rw [if_pos k0] at hE0
              refine GS.run [] 2 rfl ?_
              refine GS.iret rfl rfl (rfl) ?_
              first
                | (refine ⟨(sT.trans (hsi.1.sub (by decide))).trans (f53.1.sub (by decide)), ?_⟩
                   rw [hE0]
                   exact ⟨rfl, ⟨hd53, hws⟩, (f53.2 8 (by decide) (by decide)).trans ((hsi.2 8 (by decide) (by decide)).trans e8)⟩)
                | (refine ⟨((sT.trans (hsi.1.sub (by decide))).trans (f53.1.sub (by decide))).trans (f68.1.sub (by decide)), ?_⟩
                   rw [hE0]
                   exact ⟨rfl, f68.2.2⟩)
            · have k0 : ¬ tkC p (j + 1) = 0 := fun q => c63 (by rw [q]; rfl)
              rw [if_neg k0] at hE0
              refine GS.run [] 2 rfl ?_
              refine GS.callV oX7_fail (c_fail7 (d + 6) σ53 p (j + 1) hp h53 1) rfl rfl rfl rfl rfl rfl rfl (Nat.le_of_ble_eq_true rfl) (by omega) (fun v68 σ68 hq68 => ?_)
              obtain ⟨rfl, f68⟩ := hq68
              refine GS.if_eq rfl (fun c71 => ?_) (fun q => absurd (rfl) q)
              refine GS.run [] 1 rfl ?_
              refine GS.iret rfl rfl (rfl) ?_
              first
                | (refine ⟨(sT.trans (hsi.1.sub (by decide))).trans (f53.1.sub (by decide)), ?_⟩
                   rw [hE0]
                   exact ⟨rfl, ⟨hd53, hws⟩, (f53.2 8 (by decide) (by decide)).trans ((hsi.2 8 (by decide) (by decide)).trans e8)⟩)
                | (refine ⟨((sT.trans (hsi.1.sub (by decide))).trans (f53.1.sub (by decide))).trans (f68.1.sub (by decide)), ?_⟩
                   rw [hE0]
                   exact ⟨rfl, f68.2.2⟩)
        · have hE : rSay p = .error (3, tkS p j) := by
            first
              | exact absurd (eW.symm.trans eX) (by simp)
              | (unfold rSay; rw [show rWs p 12 (0, fun _ => 0) 0 = .error (3, tkS p j) from hR.symm.trans (by rw [e12]; show rWs p 0 s j = _; rw [rWs, eX])])
          refine GS.if_eq rfl (fun q => absurd q (show ¬ (1 : Int32) = 0 by decide)) (fun c43 => ?_)
          refine GS.run [] 2 rfl ?_
          refine GS.callV oX7_fail (c_fail7 (d + 6) σi p j hp hi 3) rfl rfl rfl rfl rfl rfl rfl (Nat.le_of_ble_eq_true rfl) (by omega) (fun v48 σ48 hq48 => ?_)
          obtain ⟨rfl, f48⟩ := hq48
          refine GS.iret rfl rfl (rfl) ?_
          refine ⟨(sT.trans (hsi.1.sub (by decide))).trans (f48.1.sub (by decide)), ?_⟩
          rw [hE]
          exact ⟨rfl, f48.2.2⟩
      · have hl : s.1 < 12 := (nI_gtI (b := s.1) (by omega) (by omega)).mp c13
        refine GS.run [] 1 rfl ?_
        refine GS.cV oX7_isWord (c_isWord7 (d + 5) σi p j hp hi) rfl rfl rfl rfl rfl rfl rfl (Nat.le_of_ble_eq_true rfl) (by omega) ?_
        rcases eW : wdK p j with _ | k
        · refine GS.if_eq rfl (fun c20 => ?_) (fun q => absurd (rfl) q)
          refine GS.run [] 1 rfl ?_
          refine GS.cV oX7_isWord (c_isWord7 (d + 5) σi p j hp hi) rfl rfl rfl rfl rfl rfl rfl (Nat.le_of_ble_eq_true rfl) (by omega) ?_
          rcases eX : wdK p j with _ | k2
          · have hR2 : rWs p 12 sy0 0 = .ok (s, j) := hR.symm.trans (rWs_n eX)
            refine GS.if_eq rfl (fun c43 => ?_) (fun q => absurd (rfl) q)
            refine GS.run [] 1 rfl ?_
            refine GS.callV oX7_readSign (c_readSign (d + 5) σi p j hp hi) rfl rfl rfl rfl rfl rfl rfl (Nat.le_of_ble_eq_true rfl) (by omega) (fun v53 σ53 hq53 => ?_)
            skip
            rcases e53 : rSig p j with e | u
            · rw [e53] at hq53
              obtain ⟨rfl, f53⟩ := hq53
              have hE : rSay p = .error e := by unfold rSay; rw [show rWs p 12 (0, fun _ => 0) 0 = .ok (s, j) from hR2]; simp only [e53]
              refine GS.if_eq rfl (fun c56 => ?_) (fun q => absurd (rfl) q)
              refine GS.run [] 1 rfl ?_
              refine GS.iret rfl rfl (rfl) ?_
              refine ⟨(sT.trans (hsi.1.sub (by decide))).trans (f53.1.sub (by decide)), ?_⟩
              rw [hE]
              exact ⟨rfl, f53.2.2⟩
            · rw [e53] at hq53
              obtain ⟨rfl, f53, g53⟩ := hq53
              have h53 : pcC σ53 p (j + 1) := hi.next f53.1 (by decide) g53 (live_c hi.2.2 (by rw [rSig_ok e53]; decide))
              have hd53 := hd.far f53.1 (by decide) (by decide)
              have hE0 : rSay p = if tkC p (j + 1) = 0 then .ok s else .error (1, tkS p (j + 1)) := by unfold rSay; rw [show rWs p 12 (0, fun _ => 0) 0 = .ok (s, j) from hR2]; simp only [e53]
              refine GS.if_eq rfl (fun q => absurd q (by decide)) (fun c56 => ?_)
              refine GS.run [] 1 rfl ?_
              refine GS.cV oX7_sort (c_sort7 (d + 6) σ53 p (j + 1) hp h53) rfl rfl rfl rfl rfl rfl rfl (Nat.le_of_ble_eq_true rfl) (by omega) ?_
              refine GS.if_eq rfl (fun c63 => ?_) (fun c63 => ?_)
              · have k0 : tkC p (j + 1) = 0 := (nI_eq (b := 0) (by omega) (by omega)).mp c63
                rw [if_pos k0] at hE0
                refine GS.run [] 2 rfl ?_
                refine GS.iret rfl rfl (rfl) ?_
                first
                  | (refine ⟨(sT.trans (hsi.1.sub (by decide))).trans (f53.1.sub (by decide)), ?_⟩
                     rw [hE0]
                     exact ⟨rfl, ⟨hd53, hws⟩, (f53.2 8 (by decide) (by decide)).trans ((hsi.2 8 (by decide) (by decide)).trans e8)⟩)
                  | (refine ⟨((sT.trans (hsi.1.sub (by decide))).trans (f53.1.sub (by decide))).trans (f68.1.sub (by decide)), ?_⟩
                     rw [hE0]
                     exact ⟨rfl, f68.2.2⟩)
              · have k0 : ¬ tkC p (j + 1) = 0 := fun q => c63 (by rw [q]; rfl)
                rw [if_neg k0] at hE0
                refine GS.run [] 2 rfl ?_
                refine GS.callV oX7_fail (c_fail7 (d + 6) σ53 p (j + 1) hp h53 1) rfl rfl rfl rfl rfl rfl rfl (Nat.le_of_ble_eq_true rfl) (by omega) (fun v68 σ68 hq68 => ?_)
                obtain ⟨rfl, f68⟩ := hq68
                refine GS.if_eq rfl (fun c71 => ?_) (fun q => absurd (rfl) q)
                refine GS.run [] 1 rfl ?_
                refine GS.iret rfl rfl (rfl) ?_
                first
                  | (refine ⟨(sT.trans (hsi.1.sub (by decide))).trans (f53.1.sub (by decide)), ?_⟩
                     rw [hE0]
                     exact ⟨rfl, ⟨hd53, hws⟩, (f53.2 8 (by decide) (by decide)).trans ((hsi.2 8 (by decide) (by decide)).trans e8)⟩)
                  | (refine ⟨((sT.trans (hsi.1.sub (by decide))).trans (f53.1.sub (by decide))).trans (f68.1.sub (by decide)), ?_⟩
                     rw [hE0]
                     exact ⟨rfl, f68.2.2⟩)
          · have hE : rSay p = .error (3, tkS p j) := by
              first
                | exact absurd (eW.symm.trans eX) (by simp)
                | (unfold rSay; rw [show rWs p 12 (0, fun _ => 0) 0 = .error (3, tkS p j) from hR.symm.trans (by rw [e12]; show rWs p 0 s j = _; rw [rWs, eX])])
            refine GS.if_eq rfl (fun q => absurd q (show ¬ (1 : Int32) = 0 by decide)) (fun c43 => ?_)
            refine GS.run [] 2 rfl ?_
            refine GS.callV oX7_fail (c_fail7 (d + 6) σi p j hp hi 3) rfl rfl rfl rfl rfl rfl rfl (Nat.le_of_ble_eq_true rfl) (by omega) (fun v48 σ48 hq48 => ?_)
            obtain ⟨rfl, f48⟩ := hq48
            refine GS.iret rfl rfl (rfl) ?_
            refine ⟨(sT.trans (hsi.1.sub (by decide))).trans (f48.1.sub (by decide)), ?_⟩
            rw [hE]
            exact ⟨rfl, f48.2.2⟩
        · refine GS.if_eq rfl (fun q => absurd q (show ¬ (1 : Int32) = 0 by decide)) (fun c20 => ?_)
          refine GS.run [] 2 rfl ?_
          refine GS.callV oX7_readWord (c_readWord (d + 1) σi p j hp hi s k hd hl eW) rfl rfl rfl rfl rfl rfl rfl (Nat.le_of_ble_eq_true rfl) (by omega) (fun v25 σ25 hq25 => ?_)
          skip
          have hS := rWs_s eW hl
          rcases e25 : rWd p k j with e | q
          · rw [e25] at hq25 hS
            obtain ⟨rfl, f25⟩ := hq25
            have hS : rWs p (12 - s.1) s j = .error e := hS
            have hE : rSay p = .error e := by unfold rSay; rw [show rWs p 12 (0, fun _ => 0) 0 = .error e from hR.symm.trans hS]
            refine GS.if_ne rfl (fun q => absurd (rfl) q) (fun c28 => ?_)
            refine GS.run [] 1 rfl ?_
            refine GS.iret rfl rfl (rfl) ?_
            refine ⟨(sT.trans (hsi.1.sub (by decide))).trans (f25.1.sub (by decide)), ?_⟩
            rw [hE]
            exact ⟨rfl, f25.2.2⟩
          · rw [e25] at hq25 hS
            obtain ⟨rfl, f25, g25, l25, d25, w25⟩ := hq25
            have hS : rWs p (12 - s.1) s j = rWs p (12 - (s.1 + 1)) (sAdd s q.1) q.2 := hS
            refine GS.if_ne rfl (fun c28 => ?_) (fun q => absurd q (by decide))
            refine GS.run [] 2 rfl ?_
            rw [show nI s.1 + 1 = nI (s.1 + 1) from nI_1 _]
            exact ih10 (12 - (s.1 + 1)) (by omega) (sAdd s q.1) q.2 σ25 (hsi.trans f25) (hi.next f25.1 (by decide) g25 l25) d25 (wfS_a hws hl w25) (by rw [← hR, hS]; rfl) rfl
  exact loop10 _ sy0 0 σ5 okF.rf h0 hd5 ⟨Nat.zero_le _, fun k hk => absurd hk (Nat.not_lt_zero _)⟩ rfl rfl
def qSay (p : Tp) (s : Sy) (f : Int32) : Int32 × Sy × Int32 := match rSay p with
  | .ok S => (nI S.1, S, f)
  | .error e => (-1000100 - nI e.2, s, nI e.1)
theorem qSay_e {p : Tp} {s : Sy} {f : Int32} {e : Nat × Nat} (h : rSay p = .error e) : qSay p s f = (-1000100 - nI e.2, s, nI e.1) := by unfold qSay; rw [h]
theorem qSay_o {p : Tp} {s : Sy} {f : Int32} {S : Sy} (h : rSay p = .ok S) : qSay p s f = (nI S.1, S, f) := by unfold qSay; rw [h]
theorem p_say_c (d : Nat) (σ : am_S) (p : Tp) (s : Sy) (f : Int32) (hp : tapeV 5 1 6 σ p) (hpw : wfP p) (hy : sayC 24 σ s) (hf : σ 5 8 = f) : CallS mX11_say (d + 10) [.ref 0] σ (fun r σ' => r = some (.int (qSay p s f).1) ∧ sayC 24 σ' (qSay p s f).2.1 ∧ tapeV 5 1 6 σ' (0, p.2) ∧ σ' 5 8 = (qSay p s f).2.2 ∧ same [5, 7, 8, 9, 24, 25, 26, 27] σ σ') := by
  refine CallS.of kX11_say pX11_say [.ref 0, .retAddr 0] rfl (Nat.le_of_ble_eq_true rfl) ?_
  refine GS.run [] 4 rfl ?_
  refine GS.callV oX7_readSaying (c_readSaying d σ p hp hpw) rfl rfl rfl rfl rfl rfl rfl (Nat.le_of_ble_eq_true rfl) (by omega) (fun v8 σ8 hq8 => ?_)
  obtain ⟨s8, m8⟩ := hq8
  rcases eR : rSay p with e | S
  · rw [eR] at m8
    obtain ⟨rfl, m1, m2⟩ := m8
    rw [qSay_e eR]
    refine GS.run [] 3 rfl ?_
    refine GS.cV oX7_empty (c_tempty (d + 8) σ8) rfl rfl rfl rfl rfl rfl rfl (Nat.le_of_ble_eq_true rfl) (by omega) ?_
    refine GS.run [] 1 rfl ?_
    refine GS.if_ne rfl (fun q => absurd (rfl) q) (fun c20 => ?_)
    refine GS.run [] 3 rfl ?_
    have e8 : am_s1 σ8 5 (upd (σ8 5) 1 0) 5 8 = nI e.1 := by rw [am_s1_eq, upd_ne _ _ (by decide)]; exact m1
    have e1 : am_s1 σ8 5 (upd (σ8 5) 1 0) 5 1 = 0 := by rw [am_s1_eq, upd_eq]
    have sF : same [5, 7, 8, 9, 26, 27] σ (am_s1 σ8 5 (upd (σ8 5) 1 0)) := s8.s1 (by decide)
    have e9 : am_s1 σ8 5 (upd (σ8 5) 1 0) 5 9 = nI e.2 := by rw [am_s1_eq, upd_ne _ _ (by decide)]; exact m2
    generalize am_s1 σ8 5 (upd (σ8 5) 1 0) = σE at e9 e8 e1 sF ⊢
    refine GS.run [] 0 rfl ?_
    refine GS.cV oX7_faultPlace ((c_faultPlace (d + 7) σE).eq (congrArg (fun z => some (Value.int z)) (e9)) rfl) rfl rfl rfl rfl rfl rfl rfl (Nat.le_of_ble_eq_true rfl) (by omega) ?_
    refine GS.run [] 1 rfl ?_
    refine GS.iret rfl rfl (rfl) ?_
    exact ⟨rfl, hy.kept (sF 24 (by decide)) (sF 25 (by decide)), ⟨e1, fun i hi => absurd hi (Nat.not_lt_zero _)⟩, e8, sF.sub (by decide)⟩
  · rw [eR] at m8
    obtain ⟨rfl, ⟨m1, m2⟩, m4⟩ := m8
    rw [qSay_o eR]
    refine GS.run [] 3 rfl ?_
    refine GS.cV oX7_empty (c_tempty (d + 8) σ8) rfl rfl rfl rfl rfl rfl rfl (Nat.le_of_ble_eq_true rfl) (by omega) ?_
    refine GS.run [] 1 rfl ?_
    refine GS.if_ne rfl (fun c20 => ?_) (fun q => absurd q (by decide))
    refine GS.run [] 4 rfl ?_
    have e8 : am_s1 σ8 5 (upd (σ8 5) 1 0) 5 8 = f := by rw [am_s1_eq, upd_ne _ _ (by decide), m4]; exact hf
    have e1 : am_s1 σ8 5 (upd (σ8 5) 1 0) 5 1 = 0 := by rw [am_s1_eq, upd_eq]
    have sF : same [5, 7, 8, 9, 26, 27] σ (am_s1 σ8 5 (upd (σ8 5) 1 0)) := s8.s1 (by decide)
    have dE : sayC 26 (am_s1 σ8 5 (upd (σ8 5) 1 0)) S := m1.far (same.s1 (l := [5]) same.rf (by decide)) (by decide) (by decide)
    generalize am_s1 σ8 5 (upd (σ8 5) 1 0) = σE at e8 e1 sF dE ⊢
    refine GS.run [] 0 rfl ?_
    refine GS.callV oX5_become (c_sbecome_24_26 (d + 7) σE) rfl rfl rfl rfl rfl rfl rfl (Nat.le_of_ble_eq_true rfl) (by omega) (fun v42 σ42 hq42 => ?_)
    obtain ⟨rfl, sb, b0, b1⟩ := hq42
    have tD : sayC 24 σ42 S := dE.moved m2 b0 b1
    refine GS.run [] 2 rfl ?_
    refine GS.cV oX5_length ((c_slength_24 (d + 8) σ42).eq (congrArg (fun z => some (Value.int z)) (tD.1)) rfl) rfl rfl rfl rfl rfl rfl rfl (Nat.le_of_ble_eq_true rfl) (by omega) ?_
    refine GS.iret rfl rfl (rfl) ?_
    refine ⟨rfl, tD, ⟨?_, fun i hi => absurd hi (Nat.not_lt_zero _)⟩, ?_, (sF.sub (by decide)).trans (sb.sub (by decide))⟩
    · rw [sb 5 (by decide)]; exact e1
    · rw [sb 5 (by decide)]; exact e8
