def fsI (n : Nat) (l : List (Nat → Nat)) : Int32 := l.foldl (fun a w => a ||| fxI w n) 0
theorem fsI_s {n : Nat} {l : List (Nat → Nat)} {w : Nat → Nat} : fsI n (l ++ [w]) = fsI n l ||| fxI w n := by
  unfold fsI
  rw [List.foldl_append]
  rfl
def lwP (σ0 σ : am_S) (t : Tn) (g : Bool) (i : Int32) (k : Nat) (p : Nat → Nat) (done rest : List (Nat → Nat)) : Prop := sameM [84] [34, 35] σ0 σ ∧ pwO t p k ∧ laidV σ p k ∧ σ 69 34 = nI done.length ∧ σ 69 35 = fsI (tN t) done ∧ (0 ≤ i.toInt → (done.length : Int) ≤ i.toInt) ∧ done ++ rest = wys t g
def wyQ (σ0 : am_S) (t : Tn) (g : Bool) (i : Int32) : Option Value → am_S → Prop := fun r σ' => sameM [84] [34, 35] σ0 σ' ∧ ((∃ w, 0 ≤ i.toInt ∧ (wys t g)[cn i]? = some w ∧ r = some (.int 1) ∧ laidV σ' w (tN t)) ∨ ((0 ≤ i.toInt → (wys t g)[cn i]? = none) ∧ r = some (.int 0) ∧ σ' 69 34 = nI (wys t g).length ∧ σ' 69 35 = fsI (tN t) (wys t g)))
theorem lwP_84 {σ0 σ : am_S} {t : Tn} {g : Bool} {i : Int32} {k j : Nat} {v : Int32} {p : Nat → Nat} {done rest : List (Nat → Nat)} (h : lwP σ0 σ t g i k p done rest) (hj : k ≤ j) : lwP σ0 (am_s1 σ 84 (upd (σ 84) j v)) t g i k p done rest := by
  obtain ⟨h1, h2, h3, h4, h5, h6, h7⟩ := h
  refine ⟨h1.cell (by decide) (by decide), h2, fun e he => ?_, ?_, ?_, h6, h7⟩
  · rw [am_s1_eq, upd_ne _ _ (by omega)]; exact h3 e he
  · rw [am_s1_ne _ _ (by decide)]; exact h4
  · rw [am_s1_ne _ _ (by decide)]; exact h5
theorem lwP_go {σ0 σ : am_S} {t : Tn} {g : Bool} {i : Int32} {k d : Nat} {p : Nat → Nat} {done rest : List (Nat → Nat)} (hw : wfT t) (hk : k < tN t) (hd : d < tN t) (h : lwP σ0 σ t g i k p done (ws (wF t g p k) (tN t - d) d ++ rest)) (hf : fiB t p k d = false) : lwP σ0 σ t g i k p done (ws (wF t g p k) (tN t - (d + 1)) (d + 1) ++ rest) := by
  rw [show tN t - d = tN t - (d + 1) + 1 by omega, ws_no (by unfold wF; rw [hf]; rfl)] at h
  exact h
theorem lw_27 (dd : Nat) (σ0 σ : am_S) (t : Tn) (g : Bool) (i : Int32) (k : Nat) (ht0 : townM 73 0 σ0 t) (hw : wfT t) (hk : k < tN t) (hi1 : -1 ≤ i.toInt) (v : Int32) (hv : σ 84 k = v) (hn : GS none mX12_layWay (dd + 3) (wyQ σ0 t g i) 43 [.ref 69, .int (bI g), .int i, .int (nI (tN t)), .int (nI k)] [] (am_s1 σ 84 (upd (σ 84) k (v + 1)))) : GS none mX12_layWay (dd + 3) (wyQ σ0 t g i) 27 [.ref 69, .int (bI g), .int i, .int (nI (tN t)), .int (nI k)] [] σ := by
  have h8 := hw.1
  refine GS.run [] 1 rfl ?_
  refine GS.if_lt rfl (fun q => absurd q (Int32.not_lt.mpr (nI_pos' (by omega)))) (fun c29 => ?_)
  refine GS.run [] 4 rfl ?_
  refine GS.ald (k) rfl rfl (rfl) (by omega) ?_
  rw [hv]
  refine GS.run [] 2 rfl ?_
  refine GS.ast (k) rfl rfl (rfl) (by omega) ?_
  exact hn
theorem wF_leaf {t : Tn} {g : Bool} {p : Nat → Nat} {k d : Nat} (hk : k + 1 = tN t) (hf : fiB t p k d = true) : wF t g p k d = if iwB t g (va_up p k d) = true then [va_up p k d] else [] := by
  unfold wF
  rw [if_pos hf, show tN t - (k + 1) = 0 by omega, wl]
theorem wF_deep {t : Tn} {g : Bool} {p : Nat → Nat} {k d : Nat} (hk : k + 1 < tN t) (hf : fiB t p k d = true) : wF t g p k d = ws (wF t g (va_up p k d) (k + 1)) (tN t) 0 := by
  unfold wF
  rw [if_pos hf]
  exact wl_wF hk
theorem ws_one {A : Type} {F : Nat → List A} {n d : Nat} (hd : d < n) : ws F (n - d) d = F d ++ ws F (n - (d + 1)) (d + 1) := by
  rw [show n - d = n - (d + 1) + 1 by omega, ws]
theorem lw_43 (dd : Nat) (σ0 σ : am_S) (t : Tn) (g : Bool) (i : Int32) (k d : Nat) (p : Nat → Nat) (done rest : List (Nat → Nat)) (ht0 : townM 73 0 σ0 t) (hw : wfT t) (hk : k < tN t) (hi1 : -1 ≤ i.toInt) (hd : d ≤ tN t) (hl : lwP σ0 σ t g i k p done (ws (wF t g p k) (tN t - d) d ++ rest)) (hv : σ 84 k = nI d) (hBack : d = tN t → GS none mX12_layWay (dd + 3) (wyQ σ0 t g i) 27 [.ref 69, .int (bI g), .int i, .int (nI (tN t)), .int (nI k + -1)] [] σ) (hSkip : d < tN t → fiB t p k d = false → GS none mX12_layWay (dd + 3) (wyQ σ0 t g i) 43 [.ref 69, .int (bI g), .int i, .int (nI (tN t)), .int (nI k)] [] (am_s1 σ 84 (upd (σ 84) k (nI (d + 1))))) (hDeep : d < tN t → fiB t p k d = true → k + 1 < tN t → GS none mX12_layWay (dd + 3) (wyQ σ0 t g i) 27 [.ref 69, .int (bI g), .int i, .int (nI (tN t)), .int (nI (k + 1))] [] (am_s1 σ 84 (upd (σ 84) (k + 1) (-1)))) (hLeaf : d < tN t → fiB t p k d = true → k + 1 = tN t → ∀ σ' done', lwP σ0 σ' t g i k p done' (ws (wF t g p k) (tN t - (d + 1)) (d + 1) ++ rest) → σ' 84 k = nI d → GS none mX12_layWay (dd + 3) (wyQ σ0 t g i) 27 [.ref 69, .int (bI g), .int i, .int (nI (tN t)), .int (nI k)] [] σ') : GS none mX12_layWay (dd + 3) (wyQ σ0 t g i) 43 [.ref 69, .int (bI g), .int i, .int (nI (tN t)), .int (nI k)] [] σ := by
  have h8 := hw.1
  obtain ⟨l1, l2, l3, l4, l5, l6, l7⟩ := hl
  have ht := sameM_town l1 (by decide) ht0
  refine GS.run [] 3 rfl ?_
  refine GS.ald (k) rfl rfl (rfl) (by omega) ?_
  rw [hv]
  refine GS.run [] 1 rfl ?_
  refine GS.icmp_ge rfl (fun c51 => ?_) (fun c51 => ?_)
  · have e0 : d = tN t := by have := (nI_leI (by omega) (by omega)).mp c51; omega
    refine GS.run [] 3 rfl ?_
    refine GS.ald (k) rfl rfl (rfl) (by omega) ?_
    rw [hv]
    refine GS.run [] 1 rfl ?_
    refine GS.icmp_ne rfl (fun q => absurd (by rw [e0]) q) (fun c92 => ?_)
    refine GS.run [] 2 rfl ?_
    exact hBack e0
  · have hdl : d < tN t := (nI_gtI (by omega) (by omega)).mp c51
    refine GS.run [] 5 rfl ?_
    refine GS.ald (k) rfl rfl (rfl) (by omega) ?_
    rw [hv]
    refine GS.cV oX12_fits (c_mfits (dd + 1) σ t p k d ht hw hk hdl (fun e he => (l2 e he).1) l3) rfl rfl rfl rfl rfl rfl rfl (Nat.le_of_ble_eq_true rfl) (by omega) ?_
    refine GS.if_ne rfl (fun c67 => ?_) (fun c67 => ?_)
    · have hf : fiB t p k d = true := bI1.mp c67
      have hup := pwO_up l2 hdl hf
      have hvup : laidV σ (va_up p k d) (k + 1) := fun e he => by
        by_cases q : e = k
        · rw [q, va_eq]; exact hv
        · rw [va_ne _ _ q]; exact l3 e (by omega)
      refine GS.run [] 3 rfl ?_
      refine GS.ald (k) rfl rfl (rfl) (by omega) ?_
      rw [hv]
      refine GS.run [] 1 rfl ?_
      refine GS.icmp_ne rfl (fun c92 => ?_) (fun q => absurd q (fun q => absurd ((nI_eq (by omega) (by omega)).mp q) (by omega)))
      refine GS.run [] 4 rfl ?_
      rw [show nI (tN t) - 1 = nI (tN t - 1) from pk_sub (b := 1) (by omega)]
      refine GS.run [] 0 rfl ?_
      refine GS.icmp_ge rfl (fun c106 => ?_) (fun c106 => ?_)
      · have hkn : k + 1 = tN t := by have := (nI_leI (by omega) (by omega)).mp c106; omega
        rw [hkn] at hup hvup
        rw [ws_one hdl, wF_leaf hkn hf] at l7
        refine GS.run [] 2 rfl ?_
        refine GS.cV oX12_isWay (c_isWay (dd + 1) σ t g (va_up p k d) ht hw hup hvup) rfl rfl rfl rfl rfl rfl rfl (Nat.le_of_ble_eq_true rfl) (by omega) ?_
        refine GS.if_eq rfl (fun c128 => ?_) (fun c128 => ?_)
        · have hiw := bI0.mp c128
          rw [hiw, if_neg Bool.false_ne_true, List.nil_append] at l7
          exact hLeaf hdl hf hkn σ done ⟨l1, l2, l3, l4, l5, l6, l7⟩ hv
        · have hiw := bI1.mp c128
          rw [hiw, if_pos rfl] at l7
          have hlen : done.length < 16777216 := by
            have h1 := wys_b (g := g) hw
            rw [← l7, List.length_append, List.length_append, List.length_append, List.length_singleton] at h1
            omega
          have hat : (wys t g)[done.length]? = some (va_up p k d) := by
            rw [← l7, List.getElem?_append_right (Nat.le_refl _), Nat.sub_self]; rfl
          refine GS.run [] 3 rfl ?_
          rw [l4]
          refine GS.run [] 0 rfl ?_
          refine GS.icmp_ne rfl (fun c136 => ?_) (fun c136 => ?_)
          · refine GS.run [] 10 rfl ?_
            rw [l4, nI_1]
            have hs1 : sameM [84] [34, 35] σ0 (am_s1 σ 69 (upd (σ 69) 34 (nI (done.length + 1)))) := l1.fld (by decide)
            have hlv1 : laidV (am_s1 σ 69 (upd (σ 69) 34 (nI (done.length + 1)))) (va_up p k d) (tN t) := fun e he => by rw [am_s1_ne _ _ (by decide)]; exact hvup e he
            refine GS.run [] 0 rfl ?_
            refine GS.cV oX12_fixedNow (c_fixedNow (dd + 2) _ t (va_up p k d) (sameM_town hs1 (by decide) ht0) hw hup hlv1) rfl rfl rfl rfl rfl rfl rfl (Nat.le_of_ble_eq_true rfl) (by omega) ?_
            refine GS.run [] 3 rfl ?_
            refine hLeaf hdl hf hkn _ (done ++ [va_up p k d]) ⟨hs1.fld (by decide), l2, fun e he => ?_, ?_, ?_, fun h0 => ?_, by rw [List.append_assoc]; exact l7⟩ ?_
            · rw [am_s1_ne _ _ (by decide), am_s1_ne _ _ (by decide)]; exact l3 e he
            · rw [am_s1_eq, upd_ne _ _ (by decide), am_s1_eq, upd_eq, List.length_append]; rfl
            · rw [am_s1_eq, upd_eq, am_s1_eq, upd_ne _ _ (by decide), l5, fsI_s]
            · have h1 := l6 h0
              rw [List.length_append, List.length_singleton]
              have h2 : ¬ (done.length : Int) = i.toInt := fun q => c136 (by rw [zI_n, q]; exact zI_of i)
              omega
            · rw [am_s1_ne _ _ (by decide), am_s1_ne _ _ (by decide)]; exact hv
          · have hie : nI done.length = i := c136
            refine GS.run [] 1 rfl ?_
            refine GS.iret rfl rfl (rfl) ?_
            have hti : i.toInt = (done.length : Int) := by rw [← hie]; exact nI_toInt (by omega)
            exact ⟨l1, Or.inl ⟨va_up p k d, by omega, by unfold cn; rw [hti]; exact hat, rfl, hvup⟩⟩
      · have hkn : k + 1 < tN t := by have := (nI_gtI (by omega) (by omega)).mp c106; omega
        refine GS.run [] 5 rfl ?_
        refine GS.ast (k + 1) rfl rfl (nI_1 k) (by omega) ?_
        refine GS.run [] 1 rfl ?_
        rw [nI_1]
        exact hDeep hdl hf hkn
    · have hf : fiB t p k d = false := by
        cases q : fiB t p k d with
        | false => rfl
        | true => rw [q] at c67; exact absurd c67 (by decide)
      refine GS.run [] 4 rfl ?_
      refine GS.ald (k) rfl rfl (rfl) (by omega) ?_
      rw [hv]
      refine GS.run [] 2 rfl ?_
      refine GS.ast (k) rfl rfl (rfl) (by omega) ?_
      refine GS.run [] 1 rfl ?_
      rw [nI_1]
      exact hSkip hdl hf
theorem lw_sub (dd : Nat) (σ0 : am_S) (t : Tn) (g : Bool) (i : Int32) (ht0 : townM 73 0 σ0 t) (hw : wfT t) (hi1 : -1 ≤ i.toInt) : ∀ (m k : Nat) (p : Nat → Nat) (rest : List (Nat → Nat)), k + m + 1 = tN t → (∀ σ' done', lwP σ0 σ' t g i k p done' rest → GS none mX12_layWay (dd + 3) (wyQ σ0 t g i) 27 [.ref 69, .int (bI g), .int i, .int (nI (tN t)), .int (nI k + -1)] [] σ') → ∀ (fu d : Nat) (σ : am_S) (done : List (Nat → Nat)), tN t - d = fu → d ≤ tN t → lwP σ0 σ t g i k p done (ws (wF t g p k) (tN t - d) d ++ rest) → σ 84 k = nI d → GS none mX12_layWay (dd + 3) (wyQ σ0 t g i) 43 [.ref 69, .int (bI g), .int i, .int (nI (tN t)), .int (nI k)] [] σ := by
  intro m
  induction m with
  | zero =>
    intro k p rest hkm hK fu
    induction fu using Nat.strongRecOn with
    | ind fu ih =>
      intro d σ done hfu hd hl hv
      refine lw_43 dd σ0 σ t g i k d p done rest ht0 hw (by omega) hi1 hd hl hv (fun e => ?_) (fun h1 h2 => ?_) (fun _ _ h3 => by omega) (fun h1 h2 h3 σ' done' hl' hv' => ?_)
      · subst e
        rw [Nat.sub_self] at hl
        exact hK σ done hl
      · exact ih _ (by omega) (d + 1) _ done rfl (by omega) (lwP_84 (lwP_go hw (by omega) h1 hl h2) (Nat.le_refl _)) (by rw [am_s1_eq, upd_eq])
      · refine lw_27 dd σ0 σ' t g i k ht0 hw (by omega) hi1 (nI d) hv' ?_
        rw [nI_1]
        exact ih _ (by omega) (d + 1) _ done' rfl (by omega) (lwP_84 hl' (Nat.le_refl _)) (by rw [am_s1_eq, upd_eq])
  | succ m ihm =>
    intro k p rest hkm hK fu
    induction fu using Nat.strongRecOn with
    | ind fu ih =>
      intro d σ done hfu hd hl hv
      refine lw_43 dd σ0 σ t g i k d p done rest ht0 hw (by omega) hi1 hd hl hv (fun e => ?_) (fun h1 h2 => ?_) (fun h1 h2 h3 => ?_) (fun _ _ h3 => by omega)
      · subst e
        rw [Nat.sub_self] at hl
        exact hK σ done hl
      · exact ih _ (by omega) (d + 1) _ done rfl (by omega) (lwP_84 (lwP_go hw (by omega) h1 hl h2) (Nat.le_refl _)) (by rw [am_s1_eq, upd_eq])
      · have hk2 := hl.2.1
        refine lw_27 dd σ0 _ t g i (k + 1) ht0 hw h3 hi1 (-1) (by rw [am_s1_eq, upd_eq]) ?_
        refine ihm (k + 1) (va_up p k d) (ws (wF t g p k) (tN t - (d + 1)) (d + 1) ++ rest) (by omega) (fun σ' done' hl' => ?_) _ 0 _ done rfl (Nat.zero_le _) ?_ (by rw [am_s1_eq, upd_eq]; rfl)
        · obtain ⟨l1, l2, l3, l4, l5, l6, l7⟩ := hl'
          have hv' : σ' 84 k = nI d := by rw [l3 k (Nat.lt_succ_self k), va_eq]
          have hl2 : lwP σ0 σ' t g i k p done' (ws (wF t g p k) (tN t - (d + 1)) (d + 1) ++ rest) := ⟨l1, hk2, fun e he => by rw [l3 e (by omega), va_ne _ _ (by omega)], l4, l5, l6, l7⟩
          rw [show nI (k + 1) + -1 = nI k from nI_p1 (x := k + 1) (by omega)]
          refine lw_27 dd σ0 σ' t g i k ht0 hw (by omega) hi1 (nI d) hv' ?_
          rw [nI_1]
          exact ih _ (by omega) (d + 1) _ done' rfl (by omega) (lwP_84 hl2 (Nat.le_refl _)) (by rw [am_s1_eq, upd_eq])
        · refine lwP_84 (lwP_84 ?_ (Nat.le_refl _)) (Nat.le_refl _)
          obtain ⟨l1, l2, l3, l4, l5, l6, l7⟩ := hl
          refine ⟨l1, pwO_up l2 h1 h2, fun e he => ?_, l4, l5, l6, ?_⟩
          · by_cases q : e = k
            · rw [q, va_eq]; exact hv
            · rw [va_ne _ _ q]; exact l3 e (by omega)
          · rw [ws_one h1, wF_deep h3 h2, List.append_assoc] at l7
            exact l7
theorem c_layWay (d : Nat) (σ : am_S) (t : Tn) (g : Bool) (i : Int32) (ht0 : townM 73 0 σ t) (hw : wfT t) (hn : 0 < tN t) (hi1 : -1 ≤ i.toInt) : CallS mX12_layWay (d + 3) [.ref 69, .int (bI g), .int i] σ (wyQ σ t g i) := by
  refine CallS.of kX12_layWay pX12_layWay [.ref 69, .int (bI g), .int i, .retAddr 0, .retAddr 0] rfl (Nat.le_of_ble_eq_true rfl) ?_
  have h8 := hw.1
  refine GS.run [] 9 rfl ?_
  refine GS.ald (0) rfl rfl (rfl) (by omega) ?_
  rw [show (am_s1 (am_s1 σ 69 (upd (σ 69) 34 0)) 69 (upd ((am_s1 σ 69 (upd (σ 69) 34 0)) 69) 35 0)) 73 0 = nI (tN t) from m_n ht0]
  refine GS.run [] 7 rfl ?_
  refine GS.ast (0) rfl rfl (rfl) (by omega) ?_
  have hl0 : lwP σ (am_s1 (am_s1 σ 69 (upd (σ 69) 34 0)) 69 (upd ((am_s1 σ 69 (upd (σ 69) 34 0)) 69) 35 0)) t g i 0 (fun e => e) [] (ws (wF t g (fun e => e) 0) (tN t - 0) 0 ++ []) := by
    refine ⟨(sameM.rf.fld (by decide)).fld (by decide), fun c hc => absurd hc (Nat.not_lt_zero _), fun c hc => absurd hc (Nat.not_lt_zero _), rfl, rfl, fun h => h, ?_⟩
    rw [List.nil_append, List.append_nil, Nat.sub_zero, ← wl_wF hn]
    rfl
  refine lw_27 d σ _ t g i 0 ht0 hw hn hi1 (-1) (by rw [am_s1_eq, upd_eq]) ?_
  refine lw_sub d σ t g i ht0 hw hi1 (tN t - 1) 0 (fun e => e) [] (by omega) (fun σ' done' hl' => ?_) _ 0 _ [] rfl (Nat.zero_le _) (lwP_84 (lwP_84 hl0 (Nat.le_refl _)) (Nat.le_refl _)) (by rw [am_s1_eq, upd_eq]; rfl)
  obtain ⟨l1, l2, l3, l4, l5, l6, l7⟩ := hl'
  rw [List.append_nil] at l7
  rw [l7] at l4 l5 l6
  refine GS.run [] 1 rfl ?_
  refine GS.if_lt rfl (fun c29 => ?_) (fun q => absurd (by decide) q)
  refine GS.run [] 1 rfl ?_
  refine GS.iret rfl rfl rfl ?_
  exact ⟨l1, Or.inr ⟨fun h0 => by have := l6 h0; exact List.getElem?_eq_none (by unfold cn; omega), rfl, l4, l5⟩⟩
theorem p_laid_m (d : Nat) (σ : am_S) (t : Tn) (u i c : Int32) (ht : townM 73 0 σ t) (hw : wfT t) : CallS mX12_laid (d + 4) [.ref 69, .int u, .int i, .int c] σ (fun r σ' => r = some (.int (qLaid t u i c)) ∧ sameM [84] [0, 34, 35] σ σ') := by
  refine CallS.of kX12_laid pX12_laid [.ref 69, .int u, .int i, .int c, .retAddr 0] rfl (Nat.le_of_ble_eq_true rfl) ?_
  have h8 := hw.1
  have s0 : sameM [84] [0, 34, 35] σ (am_s1 σ 69 (upd (σ 69) 0 0)) := sameM.rf.fld (by decide)
  have ht0 := sameM_town s0 (by decide) ht
  refine GS.run [] 7 rfl ?_
  refine GS.cS oX12_in (c_inB (d + 3) (am_s1 σ 69 (upd (σ 69) 0 0)) u) rfl rfl rfl rfl (Nat.le_of_ble_eq_true rfl) (by omega) ?_
  refine GS.if_eq rfl (fun c12 => ?_) (fun c12 => ?_)
  · have hbad : ¬ (okb u ∧ okm i ∧ okc t c) := fun h => am_b0.mp c12 h.1
    refine GS.run [] 1 rfl ?_
    refine GS.iret rfl rfl (rfl) ?_
    exact ⟨by unfold qLaid; rw [if_neg hbad], s0⟩
  · have g1 : okb u := am_bT c12
    refine GS.run [] 2 rfl ?_
    refine GS.icmp_lt rfl (fun c17 => ?_) (fun c17 => ?_)
    · have hbad : ¬ (okb u ∧ okm i ∧ okc t c) := fun h => absurd (tI_lt.mp c17) (Int.not_lt.mpr h.2.1)
      refine GS.run [] 1 rfl ?_
      refine GS.iret rfl rfl (rfl) ?_
      exact ⟨by unfold qLaid; rw [if_neg hbad], s0⟩
    · have g2 : okm i := Int.not_lt.mp (fun h => c17 (tI_lt.mpr h))
      refine GS.run [] 2 rfl ?_
      refine GS.cV oX12_isCorner (c_isCorner (d + 2) (am_s1 σ 69 (upd (σ 69) 0 0)) t c ht0 hw) rfl rfl rfl rfl rfl rfl rfl (Nat.le_of_ble_eq_true rfl) (by omega) ?_
      refine GS.if_ne rfl (fun c25 => ?_) (fun c25 => ?_)
      · have g3 : okc t c := am_bT c25
        obtain ⟨y, hy2, rfl⟩ := okc_nat g3
        have ey : cn (nI y) = y := cn_nI (by omega)
        rcases g1 with rfl | rfl
        · have eb : b1 0 = false := rfl
          have eqL : qLaid t 0 i (nI y) = if i = -1 then nI (wys t false).length else wyI t false i y := by
            unfold qLaid
            rw [if_pos ⟨by decide, g2, g3⟩, ey, eb]
            rfl
          refine GS.run [] 3 rfl ?_
          refine GS.icmp_ne rfl (fun c34 => ?_) (fun q => absurd q (by decide))
          refine GS.run [] 2 rfl ?_
          refine GS.callV oX12_layWay (c_layWay d (am_s1 σ 69 (upd (σ 69) 0 0)) t false i ht0 hw (by omega) g2) rfl rfl rfl rfl rfl rfl rfl (Nat.le_of_ble_eq_true rfl) (by omega) (fun v43 σ43 hq43 => ?_)
          obtain ⟨s43, hq⟩ := hq43
          have sT : sameM [84] [0, 34, 35] σ σ43 := s0.trans (s43.sub (by decide) (by decide))
          rcases hq with ⟨w, w1, w2, rfl, w3⟩ | ⟨w1, rfl, w2, w3⟩
          · have hne : ¬ i = -1 := fun e => by rw [e] at w1; exact absurd w1 (by decide)
            rw [if_neg hne] at eqL
            unfold wyI at eqL
            rw [w2] at eqL
            have eqL : qLaid t _ i (nI y) = nI (w y) := eqL
            refine GS.run [] 2 rfl ?_
            refine GS.if_ge rfl (fun c49 => ?_) (fun q => absurd (show (0 : Int32) ≤ i from tI_le.mpr w1) q)
            refine GS.run [] 1 rfl ?_
            refine GS.if_eq rfl (fun q => absurd q (by decide)) (fun c61 => ?_)
            refine GS.run [] 3 rfl ?_
            refine GS.ald (y) rfl rfl (rfl) (by omega) ?_
            rw [w3 y hy2]
            refine GS.run [] 1 rfl ?_
            refine GS.iret rfl rfl (rfl) ?_
            exact ⟨congrArg (fun z => some (Value.int z)) eqL.symm, sT⟩
          · refine GS.run [] 2 rfl ?_
            refine GS.if_ge rfl (fun c49 => ?_) (fun c49 => ?_)
            · have hi0 : 0 ≤ i.toInt := tI_le.mp c49
              have hne : ¬ i = -1 := fun e => by rw [e] at hi0; exact absurd hi0 (by decide)
              rw [if_neg hne] at eqL
              unfold wyI at eqL
              rw [w1 hi0] at eqL
              have eqL : qLaid t _ i (nI y) = -1000000 := eqL
              refine GS.run [] 1 rfl ?_
              refine GS.if_eq rfl (fun c61 => ?_) (fun q => absurd (rfl) q)
              refine GS.run [] 1 rfl ?_
              refine GS.iret rfl rfl (rfl) ?_
              exact ⟨congrArg (fun z => some (Value.int z)) eqL.symm, sT⟩
            · have hk1 : i = -1 := by
                have h1 : ¬ 0 ≤ i.toInt := fun h => c49 (tI_le.mpr h)
                have h2 := g2
                rw [← zI_of i, show i.toInt = -1 by omega]; rfl
              rw [if_pos hk1] at eqL
              refine GS.run [] 2 rfl ?_
              rw [w2]
              refine GS.run [] 0 rfl ?_
              refine GS.run [] 1 rfl ?_
              refine GS.iret rfl rfl (rfl) ?_
              exact ⟨congrArg (fun z => some (Value.int z)) eqL.symm, sT⟩
        · have eb : b1 1 = true := rfl
          have eqL : qLaid t 1 i (nI y) = if i = -1 then nI (wys t true).length else wyI t true i y := by
            unfold qLaid
            rw [if_pos ⟨by decide, g2, g3⟩, ey, eb]
            rfl
          refine GS.run [] 3 rfl ?_
          refine GS.icmp_ne rfl (fun q => absurd (by decide) q) (fun c34 => ?_)
          refine GS.run [] 3 rfl ?_
          refine GS.callV oX12_layWay (c_layWay d (am_s1 σ 69 (upd (σ 69) 0 0)) t true i ht0 hw (by omega) g2) rfl rfl rfl rfl rfl rfl rfl (Nat.le_of_ble_eq_true rfl) (by omega) (fun v43 σ43 hq43 => ?_)
          obtain ⟨s43, hq⟩ := hq43
          have sT : sameM [84] [0, 34, 35] σ σ43 := s0.trans (s43.sub (by decide) (by decide))
          rcases hq with ⟨w, w1, w2, rfl, w3⟩ | ⟨w1, rfl, w2, w3⟩
          · have hne : ¬ i = -1 := fun e => by rw [e] at w1; exact absurd w1 (by decide)
            rw [if_neg hne] at eqL
            unfold wyI at eqL
            rw [w2] at eqL
            have eqL : qLaid t _ i (nI y) = nI (w y) := eqL
            refine GS.run [] 2 rfl ?_
            refine GS.if_ge rfl (fun c49 => ?_) (fun q => absurd (show (0 : Int32) ≤ i from tI_le.mpr w1) q)
            refine GS.run [] 1 rfl ?_
            refine GS.if_eq rfl (fun q => absurd q (by decide)) (fun c61 => ?_)
            refine GS.run [] 3 rfl ?_
            refine GS.ald (y) rfl rfl (rfl) (by omega) ?_
            rw [w3 y hy2]
            refine GS.run [] 1 rfl ?_
            refine GS.iret rfl rfl (rfl) ?_
            exact ⟨congrArg (fun z => some (Value.int z)) eqL.symm, sT⟩
          · refine GS.run [] 2 rfl ?_
            refine GS.if_ge rfl (fun c49 => ?_) (fun c49 => ?_)
            · have hi0 : 0 ≤ i.toInt := tI_le.mp c49
              have hne : ¬ i = -1 := fun e => by rw [e] at hi0; exact absurd hi0 (by decide)
              rw [if_neg hne] at eqL
              unfold wyI at eqL
              rw [w1 hi0] at eqL
              have eqL : qLaid t _ i (nI y) = -1000000 := eqL
              refine GS.run [] 1 rfl ?_
              refine GS.if_eq rfl (fun c61 => ?_) (fun q => absurd (rfl) q)
              refine GS.run [] 1 rfl ?_
              refine GS.iret rfl rfl (rfl) ?_
              exact ⟨congrArg (fun z => some (Value.int z)) eqL.symm, sT⟩
            · have hk1 : i = -1 := by
                have h1 : ¬ 0 ≤ i.toInt := fun h => c49 (tI_le.mpr h)
                have h2 := g2
                rw [← zI_of i, show i.toInt = -1 by omega]; rfl
              rw [if_pos hk1] at eqL
              refine GS.run [] 2 rfl ?_
              rw [w2]
              refine GS.run [] 0 rfl ?_
              refine GS.run [] 1 rfl ?_
              refine GS.iret rfl rfl (rfl) ?_
              exact ⟨congrArg (fun z => some (Value.int z)) eqL.symm, sT⟩
      · have hbad : ¬ (okb u ∧ okm i ∧ okc t c) := fun h => am_b0.mp c25 h.2.2
        refine GS.run [] 1 rfl ?_
        refine GS.iret rfl rfl (rfl) ?_
        exact ⟨by unfold qLaid; rw [if_neg hbad], s0⟩
def bsI (f : Nat → Bool) : Nat → Int32
  | 0 => 0
  | c + 1 => bsI f c ||| (if f c = true then (1 : Int32) <<< (nI c &&& 31) else 0)
theorem bsI_congr {f g : Nat → Bool} : ∀ {n : Nat}, (∀ c, c < n → f c = g c) → bsI f n = bsI g n := by
  intro n
  induction n with
  | zero => intro _; rfl
  | succ n ih => intro h; rw [bsI, bsI, ih (fun c hc => h c (by omega)), h n (Nat.lt_succ_self n)]
theorem bsI_or {f g : Nat → Bool} : ∀ {n : Nat}, bsI f n ||| bsI g n = bsI (fun c => f c || g c) n := by
  intro n
  induction n with
  | zero => exact Int32.or_self (a := 0)
  | succ n ih =>
    rw [bsI, bsI, bsI, ← ih]
    have h : (if (f n || g n) = true then (1 : Int32) <<< (nI n &&& 31) else 0) = (if f n = true then (1 : Int32) <<< (nI n &&& 31) else 0) ||| (if g n = true then (1 : Int32) <<< (nI n &&& 31) else 0) := by
      cases f n <;> cases g n
      · exact (Int32.or_self).symm
      · exact (Int32.zero_or).symm
      · exact (Int32.or_zero).symm
      · exact (Int32.or_self).symm
    rw [h, Int32.or_assoc, Int32.or_assoc]
    congr 1
    rw [← Int32.or_assoc, ← Int32.or_assoc, Int32.or_comm (bsI g n)]
theorem fxI_bs {p : Nat → Nat} : ∀ {n : Nat}, fxI p n = bsI (fun c => decide (p c = c)) n := by
  intro n
  induction n with
  | zero => rfl
  | succ n ih =>
    rw [fxI, bsI, ih]
    by_cases h : p n = n
    · rw [if_pos h, if_pos (decide_eq_true h)]
    · rw [if_neg h, if_neg (by rw [decide_eq_false h]; exact Bool.false_ne_true)]
theorem bsI_f {n : Nat} : bsI (fun _ => false) n = 0 := by
  induction n with
  | zero => rfl
  | succ n ih => rw [bsI, ih, if_neg Bool.false_ne_true]; exact Int32.or_self (a := 0)
theorem fsI_bs {n : Nat} {l : List (Nat → Nat)} : fsI n l = bsI (fun c => l.any (fun w => decide (w c = c))) n := by
  have h : ∀ (l : List (Nat → Nat)) (f : Nat → Bool), l.foldl (fun a w => a ||| fxI w n) (bsI f n) = bsI (fun c => f c || l.any (fun w => decide (w c = c))) n := by
    intro l
    induction l with
    | nil => intro f; exact bsI_congr (fun c _ => (Bool.or_false _).symm)
    | cons w l ih =>
      intro f
      rw [List.foldl_cons, fxI_bs, bsI_or, ih]
      refine bsI_congr (fun c _ => ?_)
      rw [List.any_cons, Bool.or_assoc]
  have h0 := h l (fun _ => false)
  rw [bsI_f] at h0
  unfold fsI
  rw [h0]
  exact bsI_congr (fun c _ => Bool.false_or _)
theorem bsI_up {f : Nat → Bool} {n : Nat} : ∀ {j : Nat}, bsI (fun c => decide (c < n) && f c) (n + j) = bsI f n := by
  intro j
  induction j with
  | zero => exact bsI_congr (fun c hc => by rw [decide_eq_true (show c < n from hc)]; rfl)
  | succ j ih =>
    rw [← Nat.add_assoc, bsI, ih, if_neg]
    · exact Int32.or_zero
    · rw [decide_eq_false (by omega)]; exact Bool.false_ne_true
def b8 (b0 b1 b2 b3 b4 b5 b6 b7 : Bool) : Int32 := (((((((((0 : Int32) ||| (if b0 = true then (1 : Int32) <<< (nI 0 &&& 31) else 0)) ||| (if b1 = true then (1 : Int32) <<< (nI 1 &&& 31) else 0)) ||| (if b2 = true then (1 : Int32) <<< (nI 2 &&& 31) else 0)) ||| (if b3 = true then (1 : Int32) <<< (nI 3 &&& 31) else 0)) ||| (if b4 = true then (1 : Int32) <<< (nI 4 &&& 31) else 0)) ||| (if b5 = true then (1 : Int32) <<< (nI 5 &&& 31) else 0)) ||| (if b6 = true then (1 : Int32) <<< (nI 6 &&& 31) else 0)) ||| (if b7 = true then (1 : Int32) <<< (nI 7 &&& 31) else 0))
theorem b8_t : ∀ b0 b1 b2 b3 b4 b5 b6 b7 : Bool, ((b8 b0 b1 b2 b3 b4 b5 b6 b7 >>> (nI 0 &&& 31)) &&& 1 = if b0 = true then 1 else 0) ∧ ((b8 b0 b1 b2 b3 b4 b5 b6 b7 >>> (nI 1 &&& 31)) &&& 1 = if b1 = true then 1 else 0) ∧ ((b8 b0 b1 b2 b3 b4 b5 b6 b7 >>> (nI 2 &&& 31)) &&& 1 = if b2 = true then 1 else 0) ∧ ((b8 b0 b1 b2 b3 b4 b5 b6 b7 >>> (nI 3 &&& 31)) &&& 1 = if b3 = true then 1 else 0) ∧ ((b8 b0 b1 b2 b3 b4 b5 b6 b7 >>> (nI 4 &&& 31)) &&& 1 = if b4 = true then 1 else 0) ∧ ((b8 b0 b1 b2 b3 b4 b5 b6 b7 >>> (nI 5 &&& 31)) &&& 1 = if b5 = true then 1 else 0) ∧ ((b8 b0 b1 b2 b3 b4 b5 b6 b7 >>> (nI 6 &&& 31)) &&& 1 = if b6 = true then 1 else 0) ∧ ((b8 b0 b1 b2 b3 b4 b5 b6 b7 >>> (nI 7 &&& 31)) &&& 1 = if b7 = true then 1 else 0) := by decide +kernel
theorem bsI_8 {f : Nat → Bool} : bsI f 8 = b8 (f 0) (f 1) (f 2) (f 3) (f 4) (f 5) (f 6) (f 7) := rfl
theorem bsI_t {f : Nat → Bool} {n c : Nat} (hn : n ≤ 8) (hc : c < n) : (bsI f n >>> (nI c &&& 31)) &&& 1 = if f c = true then 1 else 0 := by
  rw [← bsI_up (f := f) (n := n) (j := 8 - n), show n + (8 - n) = 8 by omega, bsI_8]
  have hb : f c = (decide (c < n) && f c) := by rw [decide_eq_true hc]; rfl
  rw [hb]
  have h := b8_t (decide (0 < n) && f 0) (decide (1 < n) && f 1) (decide (2 < n) && f 2) (decide (3 < n) && f 3) (decide (4 < n) && f 4) (decide (5 < n) && f 5) (decide (6 < n) && f 6) (decide (7 < n) && f 7)
  have hc8 : c = 0 ∨ c = 1 ∨ c = 2 ∨ c = 3 ∨ c = 4 ∨ c = 5 ∨ c = 6 ∨ c = 7 := by omega
  rcases hc8 with rfl | rfl | rfl | rfl | rfl | rfl | rfl | rfl
  · exact h.1
  · exact h.2.1
  · exact h.2.2.1
  · exact h.2.2.2.1
  · exact h.2.2.2.2.1
  · exact h.2.2.2.2.2.1
  · exact h.2.2.2.2.2.2.1
  · exact h.2.2.2.2.2.2.2
theorem fsI_t {n c : Nat} {l : List (Nat → Nat)} (hn : n ≤ 8) (hc : c < n) : (fsI n l >>> (nI c &&& 31)) &&& 1 = 0 ↔ l.all (fun w => decide (w c ≠ c)) = true := by
  rw [fsI_bs, bsI_t hn hc]
  have e : (l.all (fun w => decide (w c ≠ c))) = !(l.any (fun w => decide (w c = c))) := by
    induction l with
    | nil => rfl
    | cons w l ih =>
      rw [List.all_cons, List.any_cons, ih, Bool.not_or]
      congr 1
      by_cases q : w c = c
      · rw [decide_eq_true q, decide_eq_false (fun h => h q)]; rfl
      · rw [decide_eq_false q, decide_eq_true q]; rfl
  rw [e]
  cases l.any (fun w => decide (w c = c)) with
  | false => exact ⟨fun _ => rfl, fun _ => rfl⟩
  | true => exact ⟨fun h => absurd h (by decide), fun h => by cases h⟩
theorem lmI_e {t : Tn} (h : (wys t true).length = 0) : lmI t = -1000000 := by
  unfold lmI
  rw [List.eq_nil_of_length_eq_zero h]
  rfl
theorem lmI_n {t : Tn} (h : 0 < (wys t true).length) : lmI t = fkI (ufst (fun c => (wys t true).all (fun w => decide (w c ≠ c))) (tN t)) := by
  unfold lmI
  rw [if_neg]
  cases e : wys t true with
  | nil => rw [e] at h; cases h
  | cons w l => exact Bool.false_ne_true
theorem p_ends_m (d : Nat) (σ : am_S) (t : Tn) (ht : townM 73 0 σ t) (hw : wfT t) (hI : σ 69 7 = am_b (¬ tN t = 0)) : CallS mX12_ends_ (d + 4) [.ref 69] σ (fun r σ' => r = some (.int (qEnds t)) ∧ sameM [84] [0, 34, 35] σ σ') := by
  refine CallS.of kX12_ends_ pX12_ends_ [.ref 69, .retAddr 0, .retAddr 0] rfl (Nat.le_of_ble_eq_true rfl) ?_
  have h8 := hw.1
  have s0 : sameM [84] [0, 34, 35] σ (am_s1 σ 69 (upd (σ 69) 0 0)) := sameM.rf.fld (by decide)
  have ht0 := sameM_town s0 (by decide) ht
  refine GS.run [] 5 rfl ?_
  rw [show (am_s1 σ 69 (upd (σ 69) 0 0)) 69 7 = am_b (¬ tN t = 0) from hI]
  refine GS.run [] 0 rfl ?_
  refine GS.if_ne rfl (fun c9 => ?_) (fun c9 => ?_)
  · have hn : ¬ tN t = 0 := am_bT c9
    refine GS.run [] 3 rfl ?_
    refine GS.callV oX12_layWay (c_layWay d (am_s1 σ 69 (upd (σ 69) 0 0)) t true (-1) ht0 hw (by omega) (by decide)) rfl rfl rfl rfl rfl rfl rfl (Nat.le_of_ble_eq_true rfl) (by omega) (fun v19 σ19 hq19 => ?_)
    obtain ⟨s19, hq⟩ := hq19
    have sT : sameM [84] [0, 34, 35] σ σ19 := s0.trans (s19.sub (by decide) (by decide))
    obtain ⟨rfl, w2, w3⟩ : v19 = some (.int 0) ∧ σ19 69 34 = nI (wys t true).length ∧ σ19 69 35 = fsI (tN t) (wys t true) := by
      rcases hq with ⟨w, w1, -⟩ | ⟨-, w1, w2, w3⟩
      · exact absurd w1 (by decide)
      · exact ⟨w1, w2, w3⟩
    have ht19 := sameM_town sT (by decide) ht
    have hwb := wys_b (g := true) hw
    have eqE : qEnds t = lmI t := by unfold qEnds; rw [if_neg hn]; rfl
    refine GS.run [] 3 rfl ?_
    have loop25 : ∀ (fu : Nat) (c : Nat) (hc : c ≤ tN t) (hno : ∀ y, y < c → (wys t true).all (fun w => decide (w y ≠ y)) = false), tN t - c = fu → GS none mX12_ends_ (d + 4) (fun r σ' => r = some (.int (qEnds t)) ∧ sameM [84] [0, 34, 35] σ σ') 25 [.ref 69, .int 0, .int (nI c)] [] σ19 := by
      intro fu
      induction fu using Nat.strongRecOn with
      | ind fu ih25 =>
        intro c hc hno hfu
        refine GS.run [] 4 rfl ?_
        refine GS.ald (0) rfl rfl (rfl) (by omega) ?_
        rw [m_n ht19]
        refine GS.icmp_ge rfl (fun c32 => ?_) (fun c32 => ?_)
        · have e0 : c = tN t := by have := (nI_leI (by omega) (by omega)).mp c32; omega
          subst e0
          have hE : lmI t = -1000000 := by
            rcases Nat.eq_zero_or_pos (wys t true).length with q | q
            · exact lmI_e q
            · rw [lmI_n q, ufst_isN hno]; rfl
          refine GS.run [] 1 rfl ?_
          refine GS.iret rfl rfl (rfl) ?_
          rw [eqE, hE]
          exact ⟨rfl, sT⟩
        · have hl : c < tN t := (nI_gtI (by omega) (by omega)).mp c32
          refine GS.run [] 2 rfl ?_
          rw [w2]
          refine GS.run [] 0 rfl ?_
          refine GS.if_le rfl (fun c39 => ?_) (fun c39 => ?_)
          · have hE : lmI t = -1000000 := lmI_e (by have := (nI_leI (b := 0) (by omega) (by omega)).mp c39; omega)
            refine GS.run [] 1 rfl ?_
            refine GS.iret rfl rfl (rfl) ?_
            rw [eqE, hE]
            exact ⟨rfl, sT⟩
          · have hpos : 0 < (wys t true).length := by
              rcases Nat.eq_zero_or_pos (wys t true).length with q | q
              · rw [q] at c39; exact absurd (by decide) c39
              · exact q
            refine GS.run [] 6 rfl ?_
            rw [w3]
            refine GS.run [] 0 rfl ?_
            refine GS.if_ne rfl (fun c50 => ?_) (fun c50 => ?_)
            · have hn3 : (wys t true).all (fun w => decide (w c ≠ c)) = false := by
                rw [Bool.eq_false_iff]
                exact fun q => c50 ((fsI_t hw.1 hl).mpr q)
              refine GS.run [] 2 rfl ?_
              rw [nI_1]
              exact ih25 _ (by omega) (c + 1) (by omega) (fun y hy => by
                by_cases e : y = c
                · rw [e]; exact hn3
                · exact hno y (by omega)) rfl
            · have hp3 := (fsI_t hw.1 hl).mp c50
              have hE : lmI t = nI c := by rw [lmI_n hpos, ufst_is hp3 hno hl]; rfl
              refine GS.run [] 1 rfl ?_
              refine GS.iret rfl rfl (rfl) ?_
              rw [eqE, hE]
              exact ⟨rfl, sT⟩
    exact loop25 _ 0 (Nat.zero_le _) (fun y hy => absurd hy (Nat.not_lt_zero _)) rfl
  · have hn : tN t = 0 := Decidable.not_not.mp (am_b0.mp c9)
    refine GS.run [] 1 rfl ?_
    refine GS.iret rfl rfl (rfl) ?_
    exact ⟨by unfold qEnds; rw [if_pos hn], s0⟩
