theorem c_lead (d : Nat) (σ : am_S) (t : Tn) (s : Sy) (c : Nat) (img raw : Bool) (but : Nat) (lo : Int32) (ht : townC 10 σ t) (hw : wfT t) (hy : sayC 24 σ s) (hys : wfS s) (hc : c < tN t) (hlo : ∀ k, k < 12 → (nI k = lo ↔ k = but)) : CallS mX10_lead (d + 5) [.ref 48, .int (nI c), .int (bI img), .int (bI raw), .int lo] σ (fun r σ' => r = some (.int (fkI (runR t s img raw but s.1 0 (stW c)).1)) ∧ same [49] σ σ' ∧ wkC 49 σ' t (runR t s img raw but s.1 0 (stW c)).2 img raw) := by
  refine CallS.of kX10_lead pX10_lead [.ref 48, .int (nI c), .int (bI img), .int (bI raw), .int lo, .retAddr 0] rfl (Nat.le_of_ble_eq_true rfl) ?_
  have h12 := hys.1
  obtain ⟨R, hR⟩ : ∃ R, R = runR t s img raw but s.1 0 (stW c) := ⟨_, rfl⟩
  rw [← hR]
  refine GS.run [] 5 rfl ?_
  refine GS.callV oX9_start (c_start_49 (d + 3) σ t c img raw) rfl rfl rfl rfl rfl rfl rfl (Nat.le_of_ble_eq_true rfl) (by omega) (fun v7 σ7 hq7 => ?_)
  obtain ⟨rfl, s7, k7⟩ := hq7
  refine GS.run [] 2 rfl ?_
  have loop13 : ∀ (fu : Nat) (j : Nat) (w1 : Wk) (σ1 : am_S) (hj : j ≤ s.1) (hs : same [49] σ σ1) (hk1 : wkC 49 σ1 t w1 img raw) (hW1 : wfW t w1) (hr : R = runR t s img raw but (s.1 - j) j w1), s.1 - j = fu → GS none mX10_lead (d + 5) (fun r σ' => r = some (.int (fkI R.1)) ∧ same [49] σ σ' ∧ wkC 49 σ' t R.2 img raw) 13 [.ref 48, .int (nI c), .int (bI img), .int (bI raw), .int lo, .int (nI j)] [] σ1 := by
    intro fu
    induction fu using Nat.strongRecOn with
    | ind fu ih13 =>
      intro j w1 σ1 hj hs hk1 hW1 hr hfu
      have hy1 := same_say hs (by decide) hy
      have ht1 := same_town hs (by decide) ht
      have h12 := hys.1
      refine GS.run [] 3 rfl ?_
      refine GS.cV oX5_length ((c_slength_24 (d + 4) σ1).eq (congrArg (fun z => some (Value.int z)) (hy1.1)) rfl) rfl rfl rfl rfl rfl rfl rfl (Nat.le_of_ble_eq_true rfl) (by omega) ?_
      refine GS.icmp_ge rfl (fun c22 => ?_) (fun c22 => ?_)
      · have e : s.1 = j := by have := (nI_leI (by omega) (by omega)).mp c22; omega
        refine GS.run [] 1 rfl ?_
        refine GS.iret rfl rfl (rfl) ?_
        rw [e, Nat.sub_self, runR] at hr
        exact ⟨by rw [hr]; rfl, hs, by rw [hr]; exact hk1⟩
      · have hlt : j < s.1 := (nI_gtI (by omega) (by omega)).mp c22
        rw [show s.1 - j = (s.1 - (j + 1)) + 1 by omega, runR] at hr
        refine GS.run [] 2 rfl ?_
        refine GS.icmp_eq rfl (fun c29 => ?_) (fun c29 => ?_)
        · have hb : j = but := (hlo j (by omega)).mp c29
          rw [if_pos hb] at hr
          refine GS.run [] 2 rfl ?_
          rw [nI_1]
          first
            | exact ih13 _ (by omega) (j + 1) w2 _ hlt hs2 k45 hW2 hr rfl
            | exact ih13 _ (by omega) (j + 1) w1 σ1 hlt hs hk1 hW1 hr rfl
        · have hb : j ≠ but := fun z => c29 ((hlo j (by omega)).mpr z)
          rw [if_neg hb] at hr
          refine GS.run [] 5 rfl ?_
          refine GS.cV oX5_wordAt ((c_wordAt (d + 2) σ1 (nI j)).eq (congrArg (fun z => some (Value.int z)) (v_word hy1 hys hlt)) rfl) rfl rfl rfl rfl rfl rfl rfl (Nat.le_of_ble_eq_true rfl) (by omega) ?_
          refine GS.callV oX9_goBy (c_goBy_49 d σ1 t w1 img raw (s.2 j) (hys.2 j hlt) ht1 hw hW1 hk1) rfl rfl rfl rfl rfl rfl rfl (Nat.le_of_ble_eq_true rfl) (by omega) (fun v45 σ45 hq45 => ?_)
          obtain ⟨rfl, s45, k45⟩ := hq45
          have hW2 := goW_wf (img := img) (raw := raw) (v := s.2 j) hw hW1
          have hs2 := hs.trans s45
          generalize hg : goW t w1 img raw (s.2 j) = g at k45 hW2 ⊢
          obtain ⟨b, w2⟩ := g
          refine GS.if_ne rfl (fun c48 => ?_) (fun c48 => ?_)
          · have hb2 : b = true := bI1.mp c48
            subst hb2
            rw [hg] at hr
            dsimp only at hr
            refine GS.run [] 2 rfl ?_
            rw [nI_1]
            first
              | exact ih13 _ (by omega) (j + 1) w2 _ hlt hs2 k45 hW2 hr rfl
              | exact ih13 _ (by omega) (j + 1) w1 σ1 hlt hs hk1 hW1 hr rfl
          · have hb2 : b = false := bI0.mp c48
            subst hb2
            rw [hg] at hr
            dsimp only at hr
            refine GS.run [] 1 rfl ?_
            refine GS.iret rfl rfl (rfl) ?_
            exact ⟨by rw [hr]; rfl, hs2, by rw [hr]; exact k45⟩
  exact loop13 _ 0 _ _ (Nat.zero_le _) s7 k7 (stW_wf hc) hR rfl
theorem c_place_49 (d : Nat) (σ : am_S)  : CallS mX9_place (d) [.ref 49] σ (am_det (some (.int (σ 49 1))) σ) := by
  refine CallS.of kX9_place pX9_place [.ref 49] rfl (Nat.le_of_ble_eq_true rfl) ?_
  refine GS.run [] 2 rfl ?_
  refine GS.iret rfl rfl (rfl) ?_
  exact ⟨rfl, rfl⟩
theorem c_place_50 (d : Nat) (σ : am_S)  : CallS mX9_place (d) [.ref 50] σ (am_det (some (.int (σ 50 1))) σ) := by
  refine CallS.of kX9_place pX9_place [.ref 50] rfl (Nat.le_of_ble_eq_true rfl) ?_
  refine GS.run [] 2 rfl ?_
  refine GS.iret rfl rfl (rfl) ?_
  exact ⟨rfl, rfl⟩
theorem c_place_63 (d : Nat) (σ : am_S)  : CallS mX9_place (d) [.ref 63] σ (am_det (some (.int (σ 63 1))) σ) := by
  refine CallS.of kX9_place pX9_place [.ref 63] rfl (Nat.le_of_ble_eq_true rfl) ?_
  refine GS.run [] 2 rfl ?_
  refine GS.iret rfl rfl (rfl) ?_
  exact ⟨rfl, rfl⟩
theorem c_end (d : Nat) (σ : am_S)  : CallS mX10_end (d + 1) [.ref 48] σ (am_det (some (.int (σ 49 1))) σ) := by
  refine CallS.of kX10_end pX10_end [.ref 48] rfl (Nat.le_of_ble_eq_true rfl) ?_
  refine GS.run [] 2 rfl ?_
  refine GS.cV oX9_place (c_place_49 d σ) rfl rfl rfl rfl rfl rfl rfl (Nat.le_of_ble_eq_true rfl) (by omega) ?_
  refine GS.iret rfl rfl (rfl) ?_
  exact ⟨rfl, rfl⟩
/-- where two who walk in the town and in its image part -/
def partR (t : Tn) (s : Sy) (raw : Bool) : Nat → Nat → Wk → Wk → Option Nat
  | 0, _, _, _ => none
  | m + 1, k, w, u => if (goW t w false raw (s.2 k)).1 ≠ (goW t u true raw (s.2 k)).1 ∨ (goW t w false raw (s.2 k)).2.1 ≠ (goW t u true raw (s.2 k)).2.1 then some k else if (goW t w false raw (s.2 k)).1 = false then none else partR t s raw m (k + 1) (goW t w false raw (s.2 k)).2 (goW t u true raw (s.2 k)).2
theorem c_parting (d : Nat) (σ : am_S) (t : Tn) (s : Sy) (c : Nat) (raw : Bool) (ht : townC 10 σ t) (hw : wfT t) (hy : sayC 24 σ s) (hys : wfS s) (hc : c < tN t) : CallS mX10_partingOf (d + 5) [.ref 48, .int (nI c), .int (bI raw)] σ (fun r σ' => r = some (.int (fkI (partR t s raw s.1 0 (stW c) (stW c)))) ∧ same [49, 50] σ σ') := by
  refine CallS.of kX10_partingOf pX10_partingOf [.ref 48, .int (nI c), .int (bI raw), .retAddr 0, .retAddr 0, .retAddr 0] rfl (Nat.le_of_ble_eq_true rfl) ?_
  have h12 := hys.1
  obtain ⟨R, hR⟩ : ∃ R, R = partR t s raw s.1 0 (stW c) (stW c) := ⟨_, rfl⟩
  rw [← hR]
  refine GS.run [] 5 rfl ?_
  refine GS.callV oX9_start (c_start_49 (d + 3) σ t c false raw) rfl rfl rfl rfl rfl rfl rfl (Nat.le_of_ble_eq_true rfl) (by omega) (fun v7 σ7 hq7 => ?_)
  obtain ⟨rfl, s7, k7⟩ := hq7
  refine GS.run [] 5 rfl ?_
  refine GS.callV oX9_start (c_start_50 (d + 3) σ7 t c true raw) rfl rfl rfl rfl rfl rfl rfl (Nat.le_of_ble_eq_true rfl) (by omega) (fun v17 σ17 hq17 => ?_)
  obtain ⟨rfl, s17, k17⟩ := hq17
  have s18 : same [49, 50] σ σ17 := (s7.sub (by simp)).trans (s17.sub (by simp))
  have k7 := k7.kept (s17 49 (by decide))
  refine GS.run [] 2 rfl ?_
  have loop22 : ∀ (fu : Nat) (j : Nat) (w1 u1 : Wk) (σ1 : am_S) (hj : j ≤ s.1) (hs : same [49, 50] σ σ1) (hk1 : wkC 49 σ1 t w1 false raw) (hW1 : wfW t w1) (hu1 : wkC 50 σ1 t u1 true raw) (hU1 : wfW t u1) (hr : R = partR t s raw (s.1 - j) j w1 u1), s.1 - j = fu → GS none mX10_partingOf (d + 5) (fun r σ' => r = some (.int (fkI R)) ∧ same [49, 50] σ σ') 22 [.ref 48, .int (nI c), .int (bI raw), .int (nI j), .retAddr 0, .retAddr 0] [] σ1 := by
    intro fu
    induction fu using Nat.strongRecOn with
    | ind fu ih22 =>
      intro j w1 u1 σ1 hj hs hk1 hW1 hu1 hU1 hr hfu
      have hy1 := same_say hs (by decide) hy
      have ht1 := same_town hs (by decide) ht
      have h12 := hys.1
      refine GS.run [] 3 rfl ?_
      refine GS.cV oX5_length ((c_slength_24 (d + 4) σ1).eq (congrArg (fun z => some (Value.int z)) (hy1.1)) rfl) rfl rfl rfl rfl rfl rfl rfl (Nat.le_of_ble_eq_true rfl) (by omega) ?_
      refine GS.icmp_ge rfl (fun c30 => ?_) (fun c30 => ?_)
      · have e : s.1 = j := by have := (nI_leI (by omega) (by omega)).mp c30; omega
        refine GS.run [] 1 rfl ?_
        refine GS.iret rfl rfl (rfl) ?_
        rw [e, Nat.sub_self, partR] at hr
        exact ⟨by rw [hr]; rfl, hs⟩
      · have hlt : j < s.1 := (nI_gtI (by omega) (by omega)).mp c30
        rw [show s.1 - j = (s.1 - (j + 1)) + 1 by omega, partR] at hr
        refine GS.run [] 5 rfl ?_
        refine GS.cV oX5_wordAt ((c_wordAt (d + 2) σ1 (nI j)).eq (congrArg (fun z => some (Value.int z)) (v_word hy1 hys hlt)) rfl) rfl rfl rfl rfl rfl rfl rfl (Nat.le_of_ble_eq_true rfl) (by omega) ?_
        refine GS.callV oX9_goBy (c_goBy_49 d σ1 t w1 false raw (s.2 j) (hys.2 j hlt) ht1 hw hW1 hk1) rfl rfl rfl rfl rfl rfl rfl (Nat.le_of_ble_eq_true rfl) (by omega) (fun v45 σ45 hq45 => ?_)
        obtain ⟨rfl, s45, k45⟩ := hq45
        have hW3 := goW_wf (img := false) (raw := raw) (v := s.2 j) hw hW1
        have hs2 := hs.trans (s45.sub (by simp))
        have hy2 := same_say hs2 (by decide) hy
        have ht2 := same_town hs2 (by decide) ht
        have hu2 := hu1.kept (s45 50 (by decide))
        refine GS.run [] 6 rfl ?_
        refine GS.cV oX5_wordAt ((c_wordAt (d + 2) σ45 (nI j)).eq (congrArg (fun z => some (Value.int z)) (v_word hy2 hys hlt)) rfl) rfl rfl rfl rfl rfl rfl rfl (Nat.le_of_ble_eq_true rfl) (by omega) ?_
        refine GS.callV oX9_goBy (c_goBy_50 d σ45 t u1 true raw (s.2 j) (hys.2 j hlt) ht2 hw hU1 hu2) rfl rfl rfl rfl rfl rfl rfl (Nat.le_of_ble_eq_true rfl) (by omega) (fun v62 σ62 hq62 => ?_)
        obtain ⟨rfl, s62, k62⟩ := hq62
        have hU3 := goW_wf (img := true) (raw := raw) (v := s.2 j) hw hU1
        have hs3 := hs2.trans (s62.sub (by simp))
        have k45 := k45.kept (s62 49 (by decide))
        refine GS.run [] 3 rfl ?_
        refine GS.icmp_ne rfl (fun c71 => ?_) (fun c71 => ?_)
        · rw [if_pos (Or.inl (fun z => c71 (by rw [z])))] at hr
          refine GS.run [] 1 rfl ?_
          refine GS.iret rfl rfl (rfl) ?_
          exact ⟨by rw [hr]; rfl, hs3⟩
        · have hb := bI_eq.mp c71
          refine GS.run [] 2 rfl ?_
          refine GS.cV oX9_place ((c_place_49 (d + 4) σ62).eq (congrArg (fun z => some (Value.int z)) (k45.1)) rfl) rfl rfl rfl rfl rfl rfl rfl (Nat.le_of_ble_eq_true rfl) (by omega) ?_
          refine GS.run [] 2 rfl ?_
          refine GS.cV oX9_place ((c_place_50 (d + 4) σ62).eq (congrArg (fun z => some (Value.int z)) (k62.1)) rfl) rfl rfl rfl rfl rfl rfl rfl (Nat.le_of_ble_eq_true rfl) (by omega) ?_
          refine GS.icmp_eq rfl (fun c88 => ?_) (fun c88 => ?_)
          · have hp := (nI_eq (by have := hW3.1; have := hw.1; omega) (by have := hU3.1; have := hw.1; omega)).mp c88
            rw [if_neg (by rintro (z | z) <;> contradiction)] at hr
            refine GS.run [] 1 rfl ?_
            refine GS.if_ne rfl (fun c95 => ?_) (fun c95 => ?_)
            · rw [if_neg (by rw [bI1.mp c95]; decide)] at hr
              refine GS.run [] 2 rfl ?_
              rw [nI_1]
              exact GS.weak (by exact ⟨Or.inr rfl, Or.inr rfl, Or.inr rfl, Or.inr rfl, Or.inl rfl, Or.inl rfl, trivial⟩) (ih22 _ (by omega) (j + 1) _ _ _ hlt hs3 k45 hW3 k62 hU3 hr rfl)
            · rw [if_pos (bI0.mp c95)] at hr
              refine GS.run [] 1 rfl ?_
              refine GS.iret rfl rfl (rfl) ?_
              exact ⟨by rw [hr]; rfl, hs3⟩
          · rw [if_pos (Or.inr (fun z => c88 (by rw [z])))] at hr
            refine GS.run [] 1 rfl ?_
            refine GS.iret rfl rfl (rfl) ?_
            exact ⟨by rw [hr]; rfl, hs3⟩
  exact loop22 _ 0 _ _ _ (Nat.zero_le _) s18 k7 (stW_wf hc) k17 (stW_wf hc) hR rfl
/-- where the saying ends, one word lost: bits -/
def lostF (t : Tn) (s : Sy) (c : Nat) : Nat → Int32
  | 0 => 0
  | j + 1 => if (runR t s false false j s.1 0 (stW c)).1 = none then lostF t s c j ||| ((1 : Int32) <<< (nI (runR t s false false j s.1 0 (stW c)).2.1 &&& 31)) else lostF t s c j
theorem fkI_none {o : Option Nat} (h : ∀ k, o = some k → k < 2 ^ 31) : fkI o = -1000000 ↔ o = none := by
  cases o with
  | none => simp [fkI]
  | some k => simp [fkI, nI_ne_none (h k rfl)]
theorem runR_k {t : Tn} {s : Sy} {img raw : Bool} {but : Nat} : ∀ {m k i : Nat} {w : Wk}, (runR t s img raw but m k w).1 = some i → i < k + m
  | 0, _, _, _, h => by cases h
  | m + 1, k, i, w, h => by
    unfold runR at h
    split at h
    · have := runR_k h; omega
    · split at h
      · cases h; omega
      · have := runR_k h; omega
theorem c_lost (d : Nat) (σ : am_S) (t : Tn) (s : Sy) (c : Nat) (ht : townC 10 σ t) (hw : wfT t) (hy : sayC 24 σ s) (hys : wfS s) (hc : c < tN t) : CallS mX10_endsWithOneLost (d + 6) [.ref 48, .int (nI c)] σ (fun r σ' => r = some (.int (lostF t s c s.1)) ∧ same [49] σ σ') := by
  refine CallS.of kX10_endsWithOneLost pX10_endsWithOneLost [.ref 48, .int (nI c), .retAddr 0, .retAddr 0] rfl (Nat.le_of_ble_eq_true rfl) ?_
  have h12 := hys.1
  refine GS.run [] 4 rfl ?_
  have loop4 : ∀ (fu : Nat) (j : Nat) (σ1 : am_S) (hj : j ≤ s.1) (hs : same [49] σ σ1), s.1 - j = fu → GS none mX10_endsWithOneLost (d + 6) (fun r σ' => r = some (.int (lostF t s c s.1)) ∧ same [49] σ σ') 4 [.ref 48, .int (nI c), .int (lostF t s c j), .int (nI j)] [] σ1 := by
    intro fu
    induction fu using Nat.strongRecOn with
    | ind fu ih4 =>
      intro j σ1 hj hs hfu
      have hy1 := same_say hs (by decide) hy
      have ht1 := same_town hs (by decide) ht
      have h12 := hys.1
      refine GS.run [] 3 rfl ?_
      refine GS.cV oX5_length ((c_slength_24 (d + 5) σ1).eq (congrArg (fun z => some (Value.int z)) (hy1.1)) rfl) rfl rfl rfl rfl rfl rfl rfl (Nat.le_of_ble_eq_true rfl) (by omega) ?_
      refine GS.icmp_ge rfl (fun c12 => ?_) (fun c12 => ?_)
      · have e : s.1 = j := by have := (nI_leI (by omega) (by omega)).mp c12; omega
        refine GS.run [] 1 rfl ?_
        refine GS.iret rfl rfl (rfl) ?_
        subst e
        exact ⟨rfl, hs⟩
      · have hlt : j < s.1 := (nI_gtI (by omega) (by omega)).mp c12
        refine GS.run [] 5 rfl ?_
        refine GS.callV oX10_lead (c_lead d σ1 t s c false false j (nI j) ht1 hw hy1 hys hc (fun k hk => nI_eq (by omega) (by omega))) rfl rfl rfl rfl rfl rfl rfl (Nat.le_of_ble_eq_true rfl) (by omega) (fun v20 σ20 hq20 => ?_)
        obtain ⟨rfl, s20, k20⟩ := hq20
        have hs2 := hs.trans s20
        have hF : ∀ k, (runR t s false false j s.1 0 (stW c)).1 = some k → k < 2 ^ 31 := fun k hk => by have := runR_k hk; omega
        refine GS.run [] 1 rfl ?_
        refine GS.icmp_ne rfl (fun c25 => ?_) (fun c25 => ?_)
        · have hn : ¬ (runR t s false false j s.1 0 (stW c)).1 = none := fun z => c25 (by rw [z]; rfl)
          have hs3 : lostF t s c (j + 1) = lostF t s c j := by rw [lostF, if_neg hn]
          refine GS.run [] 2 rfl ?_
          have ih := ih4 _ (by omega) (j + 1) _ hlt hs2 rfl
          rw [hs3] at ih
          rw [nI_1]
          exact ih
        · have hn : (runR t s false false j s.1 0 (stW c)).1 = none := (fkI_none hF).mp c25
          have hs3 : lostF t s c (j + 1) = lostF t s c j ||| ((1 : Int32) <<< (nI (runR t s false false j s.1 0 (stW c)).2.1 &&& 31)) := by rw [lostF, if_pos hn]
          refine GS.run [] 4 rfl ?_
          refine GS.cV oX9_place ((c_place_49 (d + 5) σ20).eq (congrArg (fun z => some (Value.int z)) (k20.1)) rfl) rfl rfl rfl rfl rfl rfl rfl (Nat.le_of_ble_eq_true rfl) (by omega) ?_
          refine GS.run [] 5 rfl ?_
          have ih := ih4 _ (by omega) (j + 1) _ hlt hs2 rfl
          rw [hs3] at ih
          rw [nI_1]
          exact ih
  exact loop4 _ 0 _ (Nat.zero_le _) same.rf rfl
/-- two who walk by one saying: behind how many words they meet -/
def meetR (t : Tn) (s : Sy) : Nat → Nat → Wk → Wk → Option Nat
  | 0, k, w, u => if w.1 = u.1 then some k else none
  | m + 1, k, w, u => if w.1 = u.1 then some k else if (goW t w false false (s.2 k)).1 = true ∧ (goW t u false false (s.2 k)).1 = true then meetR t s m (k + 1) (goW t w false false (s.2 k)).2 (goW t u false false (s.2 k)).2 else none
theorem c_meeting (d : Nat) (σ : am_S) (t : Tn) (s : Sy) (a b : Nat) (ht : townC 10 σ t) (hw : wfT t) (hy : sayC 24 σ s) (hys : wfS s) (ha : a < tN t) (hb : b < tN t) : CallS mX10_meeting (d + 5) [.ref 48, .int (nI a), .int (nI b)] σ (fun r σ' => r = some (.int (fkI (meetR t s s.1 0 (stW a) (stW b)))) ∧ same [49, 50] σ σ') := by
  refine CallS.of kX10_meeting pX10_meeting [.ref 48, .int (nI a), .int (nI b), .retAddr 0] rfl (Nat.le_of_ble_eq_true rfl) ?_
  have h12 := hys.1
  have h8 := hw.1
  obtain ⟨R, hR⟩ : ∃ R, R = meetR t s s.1 0 (stW a) (stW b) := ⟨_, rfl⟩
  rw [← hR]
  refine GS.run [] 2 rfl ?_
  refine GS.icmp_ne rfl (fun c2 => ?_) (fun c2 => ?_)
  · have hab : ¬ a = b := fun z => c2 (by rw [z])
    refine GS.run [] 5 rfl ?_
    refine GS.callV oX9_start (c_start_49 (d + 3) σ t a false false) rfl rfl rfl rfl rfl rfl rfl (Nat.le_of_ble_eq_true rfl) (by omega) (fun v14 σ14 hq14 => ?_)
    obtain ⟨rfl, s14, k14⟩ := hq14
    refine GS.run [] 5 rfl ?_
    refine GS.callV oX9_start (c_start_50 (d + 3) σ14 t b false false) rfl rfl rfl rfl rfl rfl rfl (Nat.le_of_ble_eq_true rfl) (by omega) (fun v24 σ24 hq24 => ?_)
    obtain ⟨rfl, s24, k24⟩ := hq24
    have s25 : same [49, 50] σ σ24 := (s14.sub (by simp)).trans (s24.sub (by simp))
    have k14 := k14.kept (s24 49 (by decide))
    refine GS.run [] 2 rfl ?_
    have loop29 : ∀ (fu : Nat) (j : Nat) (w1 u1 : Wk) (σ1 : am_S) (hj : j ≤ s.1) (hs : same [49, 50] σ σ1) (hk1 : wkC 49 σ1 t w1 false false) (hW1 : wfW t w1) (hu1 : wkC 50 σ1 t u1 false false) (hU1 : wfW t u1) (hne : ¬ w1.1 = u1.1) (hr : R = meetR t s (s.1 - j) j w1 u1), s.1 - j = fu → GS none mX10_meeting (d + 5) (fun r σ' => r = some (.int (fkI R)) ∧ same [49, 50] σ σ') 29 [.ref 48, .int (nI a), .int (nI b), .int (nI j)] [] σ1 := by
      intro fu
      induction fu using Nat.strongRecOn with
      | ind fu ih29 =>
        intro j w1 u1 σ1 hj hs hk1 hW1 hu1 hU1 hne hr hfu
        have hy1 := same_say hs (by decide) hy
        have ht1 := same_town hs (by decide) ht
        have h12 := hys.1
        refine GS.run [] 3 rfl ?_
        refine GS.cV oX5_length ((c_slength_24 (d + 4) σ1).eq (congrArg (fun z => some (Value.int z)) (hy1.1)) rfl) rfl rfl rfl rfl rfl rfl rfl (Nat.le_of_ble_eq_true rfl) (by omega) ?_
        refine GS.icmp_ge rfl (fun c37 => ?_) (fun c37 => ?_)
        · have e : s.1 = j := by have := (nI_leI (by omega) (by omega)).mp c37; omega
          refine GS.run [] 1 rfl ?_
          refine GS.iret rfl rfl (rfl) ?_
          rw [e, Nat.sub_self, meetR, if_neg hne] at hr
          exact ⟨by rw [hr]; rfl, hs⟩
        · have hlt : j < s.1 := (nI_gtI (by omega) (by omega)).mp c37
          rw [show s.1 - j = (s.1 - (j + 1)) + 1 by omega, meetR, if_neg hne] at hr
          refine GS.run [] 5 rfl ?_
          refine GS.cV oX5_wordAt ((c_wordAt (d + 2) σ1 (nI j)).eq (congrArg (fun z => some (Value.int z)) (v_word hy1 hys hlt)) rfl) rfl rfl rfl rfl rfl rfl rfl (Nat.le_of_ble_eq_true rfl) (by omega) ?_
          refine GS.callV oX9_goBy (c_goBy_49 d σ1 t w1 false false (s.2 j) (hys.2 j hlt) ht1 hw hW1 hk1) rfl rfl rfl rfl rfl rfl rfl (Nat.le_of_ble_eq_true rfl) (by omega) (fun v52 σ52 hq52 => ?_)
          obtain ⟨rfl, s52, k52⟩ := hq52
          have hW3 := goW_wf (img := false) (raw := false) (v := s.2 j) hw hW1
          have hs2 := hs.trans (s52.sub (by simp))
          have hy2 := same_say hs2 (by decide) hy
          have ht2 := same_town hs2 (by decide) ht
          have hu2 := hu1.kept (s52 50 (by decide))
          refine GS.if_eq rfl (fun c55 => ?_) (fun c55 => ?_)
          · rw [if_neg (by rw [bI0.mp c55]; rintro ⟨z, _⟩; cases z)] at hr
            have hs3 := hs2
            refine GS.run [] 1 rfl ?_
            refine GS.iret rfl rfl (rfl) ?_
            exact ⟨by rw [hr]; rfl, hs3⟩
          · have hb1 := bI1.mp c55
            refine GS.run [] 5 rfl ?_
            refine GS.cV oX5_wordAt ((c_wordAt (d + 2) σ52 (nI j)).eq (congrArg (fun z => some (Value.int z)) (v_word hy2 hys hlt)) rfl) rfl rfl rfl rfl rfl rfl rfl (Nat.le_of_ble_eq_true rfl) (by omega) ?_
            refine GS.callV oX9_goBy (c_goBy_50 d σ52 t u1 false false (s.2 j) (hys.2 j hlt) ht2 hw hU1 hu2) rfl rfl rfl rfl rfl rfl rfl (Nat.le_of_ble_eq_true rfl) (by omega) (fun v70 σ70 hq70 => ?_)
            obtain ⟨rfl, s70, k70⟩ := hq70
            have hU3 := goW_wf (img := false) (raw := false) (v := s.2 j) hw hU1
            have hs3 := hs2.trans (s70.sub (by simp))
            have k52 := k52.kept (s70 49 (by decide))
            refine GS.if_ne rfl (fun c73 => ?_) (fun c73 => ?_)
            · rw [if_pos ⟨hb1, bI1.mp c73⟩] at hr
              refine GS.run [] 2 rfl ?_
              refine GS.cV oX9_place ((c_place_49 (d + 4) σ70).eq (congrArg (fun z => some (Value.int z)) (k52.1)) rfl) rfl rfl rfl rfl rfl rfl rfl (Nat.le_of_ble_eq_true rfl) (by omega) ?_
              refine GS.run [] 2 rfl ?_
              refine GS.cV oX9_place ((c_place_50 (d + 4) σ70).eq (congrArg (fun z => some (Value.int z)) (k70.1)) rfl) rfl rfl rfl rfl rfl rfl rfl (Nat.le_of_ble_eq_true rfl) (by omega) ?_
              refine GS.icmp_ne rfl (fun c93 => ?_) (fun c93 => ?_)
              · have hne2 : ¬ (goW t w1 false false (s.2 j)).2.1 = (goW t u1 false false (s.2 j)).2.1 := fun z => c93 (by rw [z])
                refine GS.run [] 2 rfl ?_
                rw [nI_1]
                exact ih29 _ (by omega) (j + 1) _ _ _ hlt hs3 k52 hW3 k70 hU3 hne2 hr rfl
              · have hp := (nI_eq (by have := hW3.1; have := hw.1; omega) (by have := hU3.1; have := hw.1; omega)).mp c93
                have hr2 : R = some (j + 1) := by
                  rw [hr]
                  cases s.1 - (j + 1) with
                  | zero => exact if_pos hp
                  | succ m => exact if_pos hp
                refine GS.run [] 3 rfl ?_
                refine GS.iret rfl rfl (rfl) ?_
                exact ⟨by rw [hr2]; exact congrArg (fun z => some (Value.int z)) (nI_1 j), hs3⟩
            · rw [if_neg (by rw [bI0.mp c73]; rintro ⟨_, z⟩; cases z)] at hr
              refine GS.run [] 1 rfl ?_
              refine GS.iret rfl rfl (rfl) ?_
              exact ⟨by rw [hr]; rfl, hs3⟩
    exact loop29 _ 0 _ _ _ (Nat.zero_le _) s25 k14 (stW_wf ha) k24 (stW_wf hb) hab hR rfl
  · have hab : a = b := (nI_eq (by omega) (by omega)).mp c2
    have hR0 : R = some 0 := by
      rw [hR]
      cases s.1 with
      | zero => exact if_pos hab
      | succ m => exact if_pos hab
    refine GS.run [] 1 rfl ?_
    refine GS.iret rfl rfl (rfl) ?_
    exact ⟨by rw [hR0]; rfl, same.rf⟩
