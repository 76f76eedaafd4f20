def fZ (f : Nat → Int32) (j : Nat) : Nat → Int32 := fun x => if x < j then 0 else f x
theorem fZ_0 (f : Nat → Int32) : fZ f 0 = f := by funext x; unfold fZ; rw [if_neg (by omega)]
theorem fZ_s (f : Nat → Int32) (j : Nat) : upd (fZ f j) j 0 = fZ f (j + 1) := by
  funext x
  unfold upd fZ
  by_cases h : x = j
  · rw [if_pos h, if_pos (by omega)]
  · rw [if_neg h]
    by_cases h2 : x < j
    · rw [if_pos h2, if_pos (by omega)]
    · rw [if_neg h2, if_neg (by omega)]
def cpF (f g : Nat → Int32) (j : Nat) : Nat → Int32 := fun x => if x < j then g x else f x
theorem cpF_0 (f g : Nat → Int32) : cpF f g 0 = f := by funext x; unfold cpF; rw [if_neg (by omega)]
theorem cpF_s (f g : Nat → Int32) (j : Nat) : upd (cpF f g j) j (g j) = cpF f g (j + 1) := by
  funext x
  unfold upd cpF
  by_cases h : x = j
  · rw [if_pos h, if_pos (by omega), h]
  · rw [if_neg h]
    by_cases h2 : x < j
    · rw [if_pos h2, if_pos (by omega)]
    · rw [if_neg h2, if_neg (by omega)]
/-- where the reading stands: on, with what was read, or at a fault -/
def inC (σ : am_S) (p : Tp) (P : Tn → Nat → Prop) (E : Nat × Nat → Prop) : Prop := (∃ D j, ftM σ none ∧ pcM σ p j ∧ dftM σ D ∧ wfD D ∧ P D j) ∨ ∃ e, ftM σ (some e) ∧ (∃ j, pcM σ p j) ∧ E e
def RC (p : Tp) : Er (Tn × Nat) := rCs p 8 tn0 0
theorem rCs_M {p : Tp} {D : Tn} {j : Nat} (hn : isNm p 8 j) (h8 : tN D ≤ 8) : rCs p (8 - tN D) D j = (match rCorM p D j with
    | .error e => .error e
    | .ok q => rCs p (8 - (tN D + 1)) (tAddC D q.1.1 q.1.2.1 q.1.2.2) q.2) := by
  unfold rCorM
  by_cases e : tN D = 8
  · rw [if_pos e, e]
    show (if isNm p 8 j then Except.error (3, tkS p j) else .ok (D, j)) = _
    rw [if_pos hn]
  · rw [if_neg e, rCs_s (by omega), if_pos hn]
    cases rCor p (j + 1) <;> rfl
theorem rSs_M {p : Tp} {D : Tn} {j : Nat} (hn : isNm p 9 j) (h12 : tS D ≤ 12) : rSs p (12 - tS D) D j = (match rStrM p D j with
    | .error e => .error e
    | .ok q => rSs p (12 - (tS D + 1)) q.1 q.2) := by
  unfold rStrM
  by_cases e : tS D = 12
  · rw [if_pos e, e]
    show (if tkC p j = 0 then Except.ok D else .error (if isNm p 9 j then 3 else 1, tkS p j)) = _
    rw [if_pos hn, if_neg (by rw [hn.1]; decide)]
  · rw [if_neg e, rSs_s (by omega), if_pos hn]
    cases rStr p D (j + 1) <;> rfl
theorem rCs_E {p : Tp} {D : Tn} {j : Nat} (hn : ¬ isNm p 8 j) (h8 : tN D ≤ 8) : rCs p (8 - tN D) D j = if 2 ≤ tN D then .ok (D, j) else .error (1, tkS p j) := by
  by_cases e : tN D = 8
  · rw [e]
    show (if isNm p 8 j then Except.error (3, tkS p j) else .ok (D, j)) = _
    rw [if_neg hn, if_pos (by omega)]
  · rw [rCs_s (by omega), if_neg hn]
theorem rSs_E {p : Tp} {D : Tn} {j : Nat} (hn : ¬ isNm p 9 j) (h12 : tS D ≤ 12) (h0 : 0 < tS D) : rSs p (12 - tS D) D j = if tkC p j = 0 then .ok D else .error (1, tkS p j) := by
  by_cases e : tS D = 12
  · rw [e]
    show (if tkC p j = 0 then Except.ok D else .error (if isNm p 9 j then 3 else 1, tkS p j)) = _
    rw [if_neg hn]
  · rw [rSs_s (by omega), if_neg hn]
    by_cases q : tkC p j = 0
    · rw [if_pos q, if_pos ⟨h0, q⟩]
    · rw [if_neg q, if_neg (fun z => q z.2)]
theorem rCorM_ok {p : Tp} {D : Tn} {j : Nat} {q : (Nat × Nat × Nat) × Nat} (h : rCorM p D j = .ok q) (h8 : tN D ≤ 8) (hl : live p (j + 1)) : tN D < 8 ∧ q.1.1 ≤ 99 ∧ q.1.2.1 ≤ 9 ∧ q.1.2.2 ≤ 1 := by
  unfold rCorM at h
  by_cases e : tN D = 8
  · rw [if_pos e] at h; cases h
  · rw [if_neg e] at h
    obtain ⟨a, b, c, -⟩ := rCor_ok h hl
    exact ⟨by omega, a, b, c⟩
theorem neg_fault {x : Nat} (h : x ≤ 400) : ¬ (0 : Int32) ≤ -1000100 - nI x := by
  rw [zI_n, show (-1000100 : Int32) = zI (-1000100) from rfl, zI_sub, tI_le, zI_t (by omega) (by omega), show (0 : Int32).toInt = 0 from rfl]
  omega
theorem p_town_m (d : Nat) (σ : am_S) (p : Tp) (t : Tn) (f : Int32) (ht0 : tapeV 69 11 77 σ p) (hp : wfP p) (ht : townM 73 0 σ t) (hF0 : σ 69 12 = f) (hI0 : σ 69 7 = am_b (¬ tN t = 0)) : CallS mX12_town (d + 8) [.ref 69] σ (fun r σ' => r = some (.int (qTown p t f).1) ∧ townM 73 0 σ' (qTown p t f).2.1 ∧ tapeV 69 11 77 σ' (0, p.2) ∧ σ' 69 12 = (qTown p t f).2.2 ∧ σ' 69 7 = am_b (¬ tN (qTown p t f).2.1 = 0) ∧ sameM [73, 74] [0, 7, 11, 12, 13, 14, 15, 16, 17, 18, 19] σ σ') := by
  refine CallS.of kX12_town pX12_town [.ref 69, .retAddr 0, .retAddr 0] rfl (Nat.le_of_ble_eq_true rfl) ?_
  have s0 : sameM [] [0] σ (am_s1 σ 69 (upd (σ 69) 0 0)) := sameM.rf.fld (by decide)
  have htp0 : tapeV 69 11 77 (am_s1 σ 69 (upd (σ 69) 0 0)) p := ⟨ht0.1, fun i hi => by rw [s0.1 77 (by decide) (by decide)]; exact ht0.2 i hi⟩
  refine GS.run [] 4 rfl ?_
  refine GS.callV oX12_begin (c_mbegin (d + 5) (am_s1 σ 69 (upd (σ 69) 0 0)) p hp htp0) rfl rfl rfl rfl rfl rfl rfl (Nat.le_of_ble_eq_true rfl) (by omega) (fun v6 σ6 hq6 => ?_)
  obtain ⟨rfl, p6, f6, e6, s6⟩ := hq6
  have sA : sameM [74] [0, 11, 13, 14, 15, 16, 17, 18, 19] σ σ6 := (s0.sub (by decide) (by decide)).trans (s6.sub (by decide) (by decide))
  refine GS.run [] 2 rfl ?_
  have loop11 : ∀ (fu : Nat) (k : Nat) (hk : k ≤ 122), 122 - k = fu → GS none mX12_town (d + 8) (fun r σ' => r = some (.int (qTown p t f).1) ∧ townM 73 0 σ' (qTown p t f).2.1 ∧ tapeV 69 11 77 σ' (0, p.2) ∧ σ' 69 12 = (qTown p t f).2.2 ∧ σ' 69 7 = am_b (¬ tN (qTown p t f).2.1 = 0) ∧ sameM [73, 74] [0, 7, 11, 12, 13, 14, 15, 16, 17, 18, 19] σ σ') 11 [.ref 69, .int (nI k), .retAddr 0] [] (am_s1 σ6 74 (fZ (σ6 74) k)) := by
    intro fu
    induction fu using Nat.strongRecOn with
    | ind fu ih11 =>
      intro k hk hfu
      refine GS.run [] 2 rfl ?_
      refine GS.icmp_ge rfl (fun c14 => ?_) (fun c14 => ?_)
      · have e0 : k = 122 := by have := (nI_leI (a := 122) (by omega) (by omega)).mp c14; omega
        subst e0
        have join104 : ∀ (v1 : Value) (σj : am_S) (hI4 : inC σj p (fun D j => 2 ≤ tN D ∧ (tS D = 0 → isNm p 9 j) ∧ rTown p = rSs p (12 - tS D) D j ∧ 13 - tS D ≤ 13) (fun e => rTown p = .error e)) (hsj : sameM [74] [0, 11, 13, 14, 15, 16, 17, 18, 19] σ σj) (h11j : σj 69 11 = 0), GS none mX12_town (d + 8) (fun r σ' => r = some (.int (qTown p t f).1) ∧ townM 73 0 σ' (qTown p t f).2.1 ∧ tapeV 69 11 77 σ' (0, p.2) ∧ σ' 69 12 = (qTown p t f).2.2 ∧ σ' 69 7 = am_b (¬ tN (qTown p t f).2.1 = 0) ∧ sameM [73, 74] [0, 7, 11, 12, 13, 14, 15, 16, 17, 18, 19] σ σ') 104 [.ref 69, v1, .retAddr 0] [] σj := by
          intro v1 σj hI4 hsj h11j
          have loop104 : ∀ (fu : Nat) (mu : Nat) (v1 : Value) (σi : am_S) (hI : inC σi p (fun D j => 2 ≤ tN D ∧ (tS D = 0 → isNm p 9 j) ∧ rTown p = rSs p (12 - tS D) D j ∧ 13 - tS D ≤ mu) (fun e => rTown p = .error e)) (hsi : sameM [74] [0, 11, 13, 14, 15, 16, 17, 18, 19] σ σi) (h11i : σi 69 11 = 0), mu = fu → GS none mX12_town (d + 8) (fun r σ' => r = some (.int (qTown p t f).1) ∧ townM 73 0 σ' (qTown p t f).2.1 ∧ tapeV 69 11 77 σ' (0, p.2) ∧ σ' 69 12 = (qTown p t f).2.2 ∧ σ' 69 7 = am_b (¬ tN (qTown p t f).2.1 = 0) ∧ sameM [73, 74] [0, 7, 11, 12, 13, 14, 15, 16, 17, 18, 19] σ σ') 104 [.ref 69, v1, .retAddr 0] [] σi := by
            intro fu
            induction fu using Nat.strongRecOn with
            | ind fu ih104 =>
              intro mu v1 σi hI hsi h11i hfu
              rcases hI with ⟨D, j, hf, hpc, hdm, hwd, hP⟩ | ⟨e, hf, ⟨je, hpc⟩, hE⟩
              · obtain ⟨n1, n2, n3, n4⟩ := hP
                have h12 := hwd.1.2.1
                have h8 := hwd.1.1
                refine GS.run [] 1 rfl ?_
                refine GS.cV oX12_name (c_name (d + 6) σi p hp j none hpc hf) rfl rfl rfl rfl rfl rfl rfl (Nat.le_of_ble_eq_true rfl) (by omega) ?_
                refine GS.run [] 2 rfl ?_
                refine GS.if_ne rfl (fun c112 => ?_) (fun c112 => ?_)
                · have hn : ¬ isNm p 9 j := fun q => c112 ((lg_cmp_eq _ _).mpr (((nmV_iff (p := p) (j := j) (fo := none) (k := 9) (by decide)).mpr ⟨rfl, q⟩).trans cst_9.symm))
                  refine GS.run [] 4 rfl ?_
                  refine GS.ald (0) rfl rfl (rfl) (by omega) ?_
                  rw [show σi 74 0 = nI (tN D) from hdm.1.1]
                  have h0 : 0 < tS D := by
                    rcases Nat.eq_zero_or_pos (tS D) with q | q
                    · exact absurd (n2 q) hn
                    · exact q
                  have hR := n3.trans (rSs_E hn h12 h0)
                  refine GS.run [] 0 rfl ?_
                  refine GS.callV oX12_ends (c_endsN (d + 6) σi p j (nI (tN D)) hpc hf) rfl rfl rfl rfl rfl rfl rfl (Nat.le_of_ble_eq_true rfl) (by omega) (fun v129 σ129 hq129 => ?_)
                  skip
                  rcases hq129 with ⟨k0, rfl, hs129⟩ | ⟨k0, rfl, f129, s129⟩
                  · obtain rfl := hs129.symm
                    rw [if_pos k0] at hR
                    rw [qTown_o hR]
                    refine GS.run [] 2 rfl ?_
                    refine GS.if_ge rfl (fun c134 => ?_) (fun q => absurd (nI_pos' (by omega)) q)
                    refine GS.run [] 2 rfl ?_
                    refine GS.putZ rfl rfl rfl (rfl) (rfl) rfl ?_
                    have fI : sameM [] [7] σi (am_s1 σi 69 (upd (σi 69) 7 1)) := sameM.rf.fld (by decide)
                    have h7h : am_s1 σi 69 (upd (σi 69) 7 1) 69 7 = 1 := by rw [sM_f, if_pos rfl]
                    generalize am_s1 σi 69 (upd (σi 69) 7 1) = σh at fI h7h ⊢
                    have dH := hdm.kept fI (by decide)
                    have h11h : σh 69 11 = 0 := (fI.2 11 (by decide)).trans h11i
                    have h12h : σh 69 12 = f := (fI.2 12 (by decide)).trans ((hsi.2 12 (by decide)).trans hF0)
                    have sH : sameM [74] [0, 7, 11, 13, 14, 15, 16, 17, 18, 19] σ σh := (hsi.sub (by decide) (by decide)).trans (fI.sub (by decide) (by decide))
                    refine GS.run [] 0 rfl ?_
                    refine GS.run [] 2 rfl ?_
                    have loop146 : ∀ (fu : Nat) (k : Nat) (hk : k ≤ 122), 122 - k = fu → GS none mX12_town (d + 8) (fun r σ' => r = some (.int (nI (tN D), D, f).1) ∧ townM 73 0 σ' (nI (tN D), D, f).2.1 ∧ tapeV 69 11 77 σ' (0, p.2) ∧ σ' 69 12 = (nI (tN D), D, f).2.2 ∧ σ' 69 7 = am_b (¬ tN (nI (tN D), D, f).2.1 = 0) ∧ sameM [73, 74] [0, 7, 11, 12, 13, 14, 15, 16, 17, 18, 19] σ σ') 146 [.ref 69, .int (nI (tN D)), .int (nI k)] [] (am_s1 σh 73 (cpF (σh 73) (σh 74) k)) := by
                      intro fu
                      induction fu using Nat.strongRecOn with
                      | ind fu ih146 =>
                        intro k hk hfu
                        refine GS.run [] 2 rfl ?_
                        refine GS.icmp_ge rfl (fun c149 => ?_) (fun c149 => ?_)
                        · have e0 : k = 122 := by have := (nI_leI (a := 122) (by omega) (by omega)).mp c149; omega
                          subst e0
                          refine GS.run [] 1 rfl ?_
                          refine GS.iret rfl rfl (rfl) ?_
                          refine ⟨rfl, dH.1.moved hwd.1 (fun x hx => ?_), ⟨?_, fun i hi => absurd hi (Nat.not_lt_zero _)⟩, ?_, ?_, (sH.sub (by decide) (by decide)).cell (by decide) (by decide)⟩
                          · rw [am_s1_eq, Nat.zero_add]
                            exact if_pos hx
                          · rw [am_s1_ne _ _ (by decide)]; exact h11h
                          · rw [am_s1_ne _ _ (by decide)]; exact h12h
                          · rw [am_s1_ne _ _ (by decide), h7h]
                            exact (am_b_1 (show ¬ tN D = 0 by omega)).symm
                        · have hl : k < 122 := (nI_gtI (a := 122) (by omega) (by omega)).mp c149
                          refine GS.run [] 6 rfl ?_
                          refine GS.ald (k) rfl rfl (rfl) (by omega) ?_
                          rw [am_s1_ne _ _ (by decide)]
                          refine GS.ast (k) rfl rfl (rfl) (by omega) ?_
                          refine GS.run [] 2 rfl ?_
                          rw [am_s1_eq, am_s1_s1, nI_1, cpF_s]
                          exact ih146 _ (by omega) (k + 1) (by omega) rfl
                    have e0 := loop146 _ 0 (Nat.zero_le _) rfl
                    rw [cpF_0, am_s1_self] at e0
                    exact e0
                  · rw [if_neg k0] at hR
                    rw [qTown_e hR]
                    have hb : tkS p j ≤ 400 := Nat.le_trans hpc.b.1 hpc.1.1.2
                    refine GS.run [] 2 rfl ?_
                    refine GS.if_ge rfl (fun q => absurd q (neg_fault hb)) (fun c134 => ?_)
                    refine GS.run [] 1 rfl ?_
                    refine GS.iret rfl rfl (rfl) ?_
                    exact ⟨rfl, ht.kept (by rw [s129.1 73 (by decide) (by decide), hsi.1 73 (by decide) (by decide)]), ⟨(s129.2 11 (by decide)).trans h11i, fun i hi => absurd hi (Nat.not_lt_zero _)⟩, f129, (s129.2 7 (by decide)).trans ((hsi.2 7 (by decide)).trans hI0), (hsi.sub (by decide) (by decide)).trans (s129.sub (by decide) (by decide))⟩
                · have hn : isNm p 9 j := ((nmV_iff (p := p) (j := j) (fo := none) (k := 9) (by decide)).mp (((lg_cmp_eq _ _).mp c112).trans cst_9)).2
                  refine GS.run [] 1 rfl ?_
                  refine GS.callV oX12_readStreet (c_mreadStreet d σi p hp j D hpc hf hn hdm hwd n1) rfl rfl rfl rfl rfl rfl rfl (Nat.le_of_ble_eq_true rfl) (by omega) (fun v116 σ116 hq116 => ?_)
                  obtain ⟨s116, m116⟩ := hq116
                  have hS := rSs_M hn h12
                  rw [← n3] at hS
                  rcases e116 : rStrM p D j with e | q
                  · rw [e116] at m116 hS
                    obtain ⟨f116, x116, rfl⟩ := m116
                    have hN : inC σ116 p (fun D j => 2 ≤ tN D ∧ (tS D = 0 → isNm p 9 j) ∧ rTown p = rSs p (12 - tS D) D j ∧ 13 - tS D ≤ (mu - 1)) (fun e => rTown p = .error e) := Or.inr ⟨e, f116, x116, hS⟩
                    refine GS.run [] 1 rfl ?_
                    exact ih104 (mu - 1) (by omega) (mu - 1) v1 σ116 hN (hsi.trans (s116.sub (by decide) (by decide))) ((s116.2 11 (by decide)).trans h11i) rfl
                  · rw [e116] at m116 hS
                    obtain ⟨f116, p116, rfl, d116, w116, a116, b116⟩ := m116
                    have hN : inC σ116 p (fun D j => 2 ≤ tN D ∧ (tS D = 0 → isNm p 9 j) ∧ rTown p = rSs p (12 - tS D) D j ∧ 13 - tS D ≤ (mu - 1)) (fun e => rTown p = .error e) := Or.inl ⟨q.1, q.2, f116, p116, d116, w116, by omega, fun z => by omega, by rw [b116]; exact hS, by omega⟩
                    refine GS.run [] 1 rfl ?_
                    exact ih104 (mu - 1) (by omega) (mu - 1) v1 σ116 hN (hsi.trans (s116.sub (by decide) (by decide))) ((s116.2 11 (by decide)).trans h11i) rfl
              · refine GS.run [] 1 rfl ?_
                refine GS.cV oX12_name (c_name (d + 6) σi p hp je (some e) hpc hf) rfl rfl rfl rfl rfl rfl rfl (Nat.le_of_ble_eq_true rfl) (by omega) ?_
                refine GS.run [] 2 rfl ?_
                refine GS.if_ne rfl (fun c112 => ?_) (fun q => absurd q (show ¬ lg_cmp (0 : Int64) 126943972648308 = 0 by decide))
                refine GS.run [] 4 rfl ?_
                refine GS.ald (0) rfl rfl (rfl) (by omega) ?_
                refine GS.callV oX12_ends (c_endsF (d + 6) σi e _ hf) rfl rfl rfl rfl rfl rfl rfl (Nat.le_of_ble_eq_true rfl) (by omega) (fun v129 σ129 hq129 => ?_)
                obtain ⟨rfl, f129, s129⟩ := hq129
                rw [qTown_e hE]
                have hb : e.2 ≤ 400 := hf.2.2.2.2
                refine GS.run [] 2 rfl ?_
                refine GS.if_ge rfl (fun q => absurd q (neg_fault hb)) (fun c134 => ?_)
                refine GS.run [] 1 rfl ?_
                refine GS.iret rfl rfl (rfl) ?_
                exact ⟨rfl, ht.kept (by rw [s129.1 73 (by decide) (by decide), hsi.1 73 (by decide) (by decide)]), ⟨(s129.2 11 (by decide)).trans h11i, fun i hi => absurd hi (Nat.not_lt_zero _)⟩, f129, (s129.2 7 (by decide)).trans ((hsi.2 7 (by decide)).trans hI0), (hsi.sub (by decide) (by decide)).trans (s129.sub (by decide) (by decide))⟩
          exact loop104 _ 13 v1 σj hI4 hsj h11j rfl
        have join88 : ∀ (v1 : Value) (σj : am_S) (hI : inC σj p (fun D j => 2 ≤ tN D ∧ tS D = 0 ∧ rTown p = rSs p (12 - tS D) D j) (fun e => rTown p = .error e)) (hsj : sameM [74] [0, 11, 13, 14, 15, 16, 17, 18, 19] σ σj) (h11j : σj 69 11 = 0), GS none mX12_town (d + 8) (fun r σ' => r = some (.int (qTown p t f).1) ∧ townM 73 0 σ' (qTown p t f).2.1 ∧ tapeV 69 11 77 σ' (0, p.2) ∧ σ' 69 12 = (qTown p t f).2.2 ∧ σ' 69 7 = am_b (¬ tN (qTown p t f).2.1 = 0) ∧ sameM [73, 74] [0, 7, 11, 12, 13, 14, 15, 16, 17, 18, 19] σ σ') 88 [.ref 69, v1, .retAddr 0] [] σj := by
          intro v1 σj hI hsj h11j
          rcases hI with ⟨D, j, hf, hpc, hdm, hwd, hP⟩ | ⟨e, hf, ⟨je, hpc⟩, hE⟩
          · obtain ⟨n1, n2, n3⟩ := hP
            have h12 := hwd.1.2.1
            refine GS.run [] 1 rfl ?_
            refine GS.cV oX12_name (c_name (d + 6) σj p hp j none hpc hf) rfl rfl rfl rfl rfl rfl rfl (Nat.le_of_ble_eq_true rfl) (by omega) ?_
            refine GS.run [] 2 rfl ?_
            refine GS.if_eq rfl (fun c96 => ?_) (fun c96 => ?_)
            · have hn : isNm p 9 j := ((nmV_iff (p := p) (j := j) (fo := none) (k := 9) (by decide)).mp (((lg_cmp_eq _ _).mp c96).trans cst_9)).2
              have hI4 : inC σj p (fun D j => 2 ≤ tN D ∧ (tS D = 0 → isNm p 9 j) ∧ rTown p = rSs p (12 - tS D) D j ∧ 13 - tS D ≤ 13) (fun e => rTown p = .error e) := Or.inl ⟨D, j, hf, hpc, hdm, hwd, n1, fun _ => hn, n3, by omega⟩
              exact join104 _ σj hI4 hsj h11j
            · have hn : ¬ isNm p 9 j := fun q => c96 ((lg_cmp_eq _ _).mpr (((nmV_iff (p := p) (j := j) (fo := none) (k := 9) (by decide)).mpr ⟨rfl, q⟩).trans cst_9.symm))
              refine GS.run [] 2 rfl ?_
              refine GS.callV oX12_bad (c_badN (d + 6) σj p j 1 hpc hf (by decide)) rfl rfl rfl rfl rfl rfl rfl (Nat.le_of_ble_eq_true rfl) (by omega) (fun v101 σ101 hq101 => ?_)
              obtain ⟨rfl, f101, s101⟩ := hq101
              have hI4 : inC σ101 p (fun D j => 2 ≤ tN D ∧ (tS D = 0 → isNm p 9 j) ∧ rTown p = rSs p (12 - tS D) D j ∧ 13 - tS D ≤ 13) (fun e => rTown p = .error e) := Or.inr ⟨_, f101, ⟨j, hpc.kept s101 (by decide) (by decide)⟩, by rw [n3, rSs_s (by omega), if_neg hn, if_neg (by omega)]⟩
              first
                | exact join104 _ σ101 hI4 (hsj.trans (s101.sub (by decide) (by decide))) ((s101.2 11 (by decide)).trans h11j)
                | exact join104 _ σj hI4 hsj h11j
          · have hI4 : inC σj p (fun D j => 2 ≤ tN D ∧ (tS D = 0 → isNm p 9 j) ∧ rTown p = rSs p (12 - tS D) D j ∧ 13 - tS D ≤ 13) (fun e => rTown p = .error e) := Or.inr ⟨e, hf, ⟨je, hpc⟩, hE⟩
            refine GS.run [] 1 rfl ?_
            refine GS.cV oX12_name (c_name (d + 6) σj p hp je (some e) hpc hf) rfl rfl rfl rfl rfl rfl rfl (Nat.le_of_ble_eq_true rfl) (by omega) ?_
            refine GS.run [] 2 rfl ?_
            refine GS.if_eq rfl (fun q => absurd q (show ¬ lg_cmp (0 : Int64) 126943972648308 = 0 by decide)) (fun c96 => ?_)
            refine GS.run [] 2 rfl ?_
            refine GS.cV oX12_bad (c_badF (d + 6) σj e 1 hf) rfl rfl rfl rfl rfl rfl rfl (Nat.le_of_ble_eq_true rfl) (by omega) ?_
            first
              | exact join104 _ σ101 hI4 (hsj.trans (s101.sub (by decide) (by decide))) ((s101.2 11 (by decide)).trans h11j)
              | exact join104 _ σj hI4 hsj h11j
        have sB : sameM [74] [0, 11, 13, 14, 15, 16, 17, 18, 19] σ (am_s1 σ6 74 (fZ (σ6 74) 122)) := sA.cell (by decide) (by decide)
        have sB6 : sameM [74] [] σ6 (am_s1 σ6 74 (fZ (σ6 74) 122)) := sameM.rf.cell (by decide) (by decide)
        have dZ : dftM (am_s1 σ6 74 (fZ (σ6 74) 122)) tn0 := by
          have g : ∀ x, x < 122 → am_s1 σ6 74 (fZ (σ6 74) 122) 74 x = 0 := fun x hx => by rw [am_s1_eq]; exact if_pos hx
          exact ⟨⟨g 0 (by omega), g 1 (by omega), fun c hc => absurd hc (Nat.not_lt_zero _)⟩, fun c hc => g (38 + c) (by omega)⟩
        generalize am_s1 σ6 74 (fZ (σ6 74) 122) = σz at sB sB6 dZ ⊢
        have hIz : inC σz p (fun D j => tN D = 0 ∧ tS D = 0 ∧ rCs p (8 - tN D) D j = RC p) (fun e => RC p = .error e) := Or.inl ⟨tn0, 0, f6.kept sB6 (by decide), p6.kept sB6 (by decide) (by decide), dZ, wfD_0, rfl, rfl, rfl⟩
        have h11z : σz 69 11 = 0 := (sB6.2 11 (by decide)).trans e6
        refine GS.run [] 0 rfl ?_
        refine GS.run [] 2 rfl ?_
        have loop32 : ∀ (fu : Nat) (k : Nat) (σi : am_S) (hk : k ≤ 2) (hI : inC σi p (fun D j => tN D = k ∧ tS D = 0 ∧ rCs p (8 - tN D) D j = RC p) (fun e => RC p = .error e)) (hsi : sameM [74] [0, 11, 13, 14, 15, 16, 17, 18, 19] σ σi) (h11i : σi 69 11 = 0), 2 - k = fu → GS none mX12_town (d + 8) (fun r σ' => r = some (.int (qTown p t f).1) ∧ townM 73 0 σ' (qTown p t f).2.1 ∧ tapeV 69 11 77 σ' (0, p.2) ∧ σ' 69 12 = (qTown p t f).2.2 ∧ σ' 69 7 = am_b (¬ tN (qTown p t f).2.1 = 0) ∧ sameM [73, 74] [0, 7, 11, 12, 13, 14, 15, 16, 17, 18, 19] σ σ') 32 [.ref 69, .int (nI k), .retAddr 0] [] σi := by
          intro fu
          induction fu using Nat.strongRecOn with
          | ind fu ih32 =>
            intro k σi hk hI hsi h11i hfu
            refine GS.run [] 2 rfl ?_
            refine GS.icmp_ge rfl (fun c34 => ?_) (fun c34 => ?_)
            · have e2 : k = 2 := by have := (nI_leI (a := 2) (by omega) (by omega)).mp c34; omega
              subst e2
              have loop70 : ∀ (fu : Nat) (mu : Nat) (v1 : Value) (σi : am_S) (hI : inC σi p (fun D j => 2 ≤ tN D ∧ tS D = 0 ∧ rCs p (8 - tN D) D j = RC p ∧ 9 - tN D ≤ mu) (fun e => RC p = .error e)) (hsi : sameM [74] [0, 11, 13, 14, 15, 16, 17, 18, 19] σ σi) (h11i : σi 69 11 = 0), mu = fu → GS none mX12_town (d + 8) (fun r σ' => r = some (.int (qTown p t f).1) ∧ townM 73 0 σ' (qTown p t f).2.1 ∧ tapeV 69 11 77 σ' (0, p.2) ∧ σ' 69 12 = (qTown p t f).2.2 ∧ σ' 69 7 = am_b (¬ tN (qTown p t f).2.1 = 0) ∧ sameM [73, 74] [0, 7, 11, 12, 13, 14, 15, 16, 17, 18, 19] σ σ') 70 [.ref 69, v1, .retAddr 0] [] σi := by
                intro fu
                induction fu using Nat.strongRecOn with
                | ind fu ih70 =>
                  intro mu v1 σi hI hsi h11i hfu
                  rcases hI with ⟨D, j, hf, hpc, hdm, hwd, hP⟩ | ⟨e, hf, ⟨je, hpc⟩, hE⟩
                  · obtain ⟨n1, n2, n3, n4⟩ := hP
                    have h8 := hwd.1.1
                    refine GS.run [] 1 rfl ?_
                    refine GS.cV oX12_name (c_name (d + 6) σi p hp j none hpc hf) rfl rfl rfl rfl rfl rfl rfl (Nat.le_of_ble_eq_true rfl) (by omega) ?_
                    refine GS.run [] 2 rfl ?_
                    refine GS.if_ne rfl (fun c78 => ?_) (fun c78 => ?_)
                    · have hn : ¬ isNm p 8 j := fun q => c78 ((lg_cmp_eq _ _).mpr (((nmV_iff (p := p) (j := j) (fo := none) (k := 8) (by decide)).mpr ⟨rfl, q⟩).trans cst_8.symm))
                      have hR : RC p = .ok (D, j) := by rw [← n3, rCs_E hn h8, if_pos n1]
                      have hI3 : inC σi p (fun D j => 2 ≤ tN D ∧ tS D = 0 ∧ rTown p = rSs p (12 - tS D) D j) (fun e => rTown p = .error e) := Or.inl ⟨D, j, hf, hpc, hdm, hwd, n1, n2, by unfold rTown; rw [show rCs p 8 tn0 0 = .ok (D, j) from hR, n2]⟩
                      exact join88 _ σi hI3 hsi h11i
                    · have hn : isNm p 8 j := ((nmV_iff (p := p) (j := j) (fo := none) (k := 8) (by decide)).mp (((lg_cmp_eq _ _).mp c78).trans cst_8)).2
                      refine GS.run [] 1 rfl ?_
                      refine GS.callV oX12_readCorner (c_mreadCorner (d + 1) σi p hp j D hpc hf hn hdm hwd) rfl rfl rfl rfl rfl rfl rfl (Nat.le_of_ble_eq_true rfl) (by omega) (fun v82 σ82 hq82 => ?_)
                      obtain ⟨s82, m82⟩ := hq82
                      have hS := rCs_M hn h8
                      rw [n3] at hS
                      rcases e82 : rCorM p D j with e | q
                      · rw [e82] at m82 hS
                        obtain ⟨f82, x82, rfl⟩ := m82
                        have hN : inC σ82 p (fun D j => 2 ≤ tN D ∧ tS D = 0 ∧ rCs p (8 - tN D) D j = RC p ∧ 9 - tN D ≤ (mu - 1)) (fun e => RC p = .error e) := Or.inr ⟨e, f82, x82, hS⟩
                        refine GS.run [] 1 rfl ?_
                        exact ih70 (mu - 1) (by omega) (mu - 1) v1 σ82 hN (hsi.trans (s82.sub (by decide) (by decide))) ((s82.2 11 (by decide)).trans h11i) rfl
                      · rw [e82] at m82 hS
                        obtain ⟨f82, p82, rfl, d82⟩ := m82
                        obtain ⟨q0, q1, q2, q3⟩ := rCorM_ok e82 h8 (live_c hpc.2.2.2.2.2 (by rw [hn.1]; decide))
                        have hN : inC σ82 p (fun D j => 2 ≤ tN D ∧ tS D = 0 ∧ rCs p (8 - tN D) D j = RC p ∧ 9 - tN D ≤ (mu - 1)) (fun e => RC p = .error e) := Or.inl ⟨_, q.2, f82, p82, d82, wfD_C hwd q0 q1 q2 q3, Nat.le_succ_of_le n1, n2, hS.symm, by show 9 - (tN D + 1) ≤ mu - 1; omega⟩
                        refine GS.run [] 1 rfl ?_
                        exact ih70 (mu - 1) (by omega) (mu - 1) v1 σ82 hN (hsi.trans (s82.sub (by decide) (by decide))) ((s82.2 11 (by decide)).trans h11i) rfl
                  · have hI3 : inC σi p (fun D j => 2 ≤ tN D ∧ tS D = 0 ∧ rTown p = rSs p (12 - tS D) D j) (fun e => rTown p = .error e) := Or.inr ⟨e, hf, ⟨je, hpc⟩, by unfold rTown; rw [show rCs p 8 tn0 0 = .error e from hE]⟩
                    refine GS.run [] 1 rfl ?_
                    refine GS.cV oX12_name (c_name (d + 6) σi p hp je (some e) hpc hf) rfl rfl rfl rfl rfl rfl rfl (Nat.le_of_ble_eq_true rfl) (by omega) ?_
                    refine GS.run [] 2 rfl ?_
                    refine GS.if_ne rfl (fun c78 => ?_) (fun q => absurd q (show ¬ lg_cmp (0 : Int64) 109330312357234 = 0 by decide))
                    exact join88 _ σi hI3 hsi h11i
              have hI2 : inC σi p (fun D j => 2 ≤ tN D ∧ tS D = 0 ∧ rCs p (8 - tN D) D j = RC p ∧ 9 - tN D ≤ 9) (fun e => RC p = .error e) := hI.imp (fun ⟨D, j, a, b, c, d, n1, n2, n3⟩ => ⟨D, j, a, b, c, d, by omega, n2, n3, by omega⟩) id
              exact loop70 _ 9 _ σi hI2 hsi h11i rfl
            · have hl : k < 2 := (nI_gtI (a := 2) (by omega) (by omega)).mp c34
              rcases hI with ⟨D, j, hf, hpc, hdm, hwd, hP⟩ | ⟨e, hf, ⟨je, hpc⟩, hE⟩
              · obtain ⟨n1, n2, n3⟩ := hP
                have h8 := hwd.1.1
                refine GS.run [] 1 rfl ?_
                refine GS.cV oX12_name (c_name (d + 6) σi p hp j none hpc hf) rfl rfl rfl rfl rfl rfl rfl (Nat.le_of_ble_eq_true rfl) (by omega) ?_
                refine GS.run [] 2 rfl ?_
                refine GS.if_eq rfl (fun c45 => ?_) (fun c45 => ?_)
                · have hn : isNm p 8 j := ((nmV_iff (p := p) (j := j) (fo := none) (k := 8) (by decide)).mp (((lg_cmp_eq _ _).mp c45).trans cst_8)).2
                  refine GS.run [] 2 rfl ?_
                  rw [show σi 69 18 = 0 from hf]
                  refine GS.run [] 0 rfl ?_
                  refine GS.if_ne rfl (fun q => absurd (rfl) q) (fun c57 => ?_)
                  refine GS.run [] 1 rfl ?_
                  refine GS.callV oX12_readCorner (c_mreadCorner (d + 1) σi p hp j D hpc hf hn hdm hwd) rfl rfl rfl rfl rfl rfl rfl (Nat.le_of_ble_eq_true rfl) (by omega) (fun v61 σ61 hq61 => ?_)
                  obtain ⟨s61, m61⟩ := hq61
                  have hS := rCs_M hn h8
                  rw [n3] at hS
                  rcases e61 : rCorM p D j with e | q
                  · rw [e61] at m61 hS
                    obtain ⟨f61, x61, rfl⟩ := m61
                    have hN : inC σ61 p (fun D j => tN D = k + 1 ∧ tS D = 0 ∧ rCs p (8 - tN D) D j = RC p) (fun e => RC p = .error e) := Or.inr ⟨e, f61, x61, hS⟩
                    refine GS.run [] 2 rfl ?_
                    rw [nI_1]
                    first
                      | exact ih32 _ (by omega) (k + 1) σ61 (by omega) hN (hsi.trans (s61.sub (by decide) (by decide))) ((s61.2 11 (by decide)).trans h11i) rfl
                      | exact ih32 _ (by omega) (k + 1) σ50 (by omega) hN (hsi.trans (s50.sub (by decide) (by decide))) ((s50.2 11 (by decide)).trans h11i) rfl
                      | exact ih32 _ (by omega) (k + 1) σi (by omega) hN hsi h11i rfl
                  · rw [e61] at m61 hS
                    obtain ⟨f61, p61, rfl, d61⟩ := m61
                    obtain ⟨q0, q1, q2, q3⟩ := rCorM_ok e61 h8 (live_c hpc.2.2.2.2.2 (by rw [hn.1]; decide))
                    have hN : inC σ61 p (fun D j => tN D = k + 1 ∧ tS D = 0 ∧ rCs p (8 - tN D) D j = RC p) (fun e => RC p = .error e) := Or.inl ⟨_, q.2, f61, p61, d61, wfD_C hwd q0 q1 q2 q3, congrArg (· + 1) n1, n2, hS.symm⟩
                    refine GS.run [] 2 rfl ?_
                    rw [nI_1]
                    first
                      | exact ih32 _ (by omega) (k + 1) σ61 (by omega) hN (hsi.trans (s61.sub (by decide) (by decide))) ((s61.2 11 (by decide)).trans h11i) rfl
                      | exact ih32 _ (by omega) (k + 1) σ50 (by omega) hN (hsi.trans (s50.sub (by decide) (by decide))) ((s50.2 11 (by decide)).trans h11i) rfl
                      | exact ih32 _ (by omega) (k + 1) σi (by omega) hN hsi h11i rfl
                · have hn : ¬ isNm p 8 j := fun q => c45 ((lg_cmp_eq _ _).mpr (((nmV_iff (p := p) (j := j) (fo := none) (k := 8) (by decide)).mpr ⟨rfl, q⟩).trans cst_8.symm))
                  refine GS.run [] 2 rfl ?_
                  refine GS.callV oX12_bad (c_badN (d + 6) σi p j 1 hpc hf (by decide)) rfl rfl rfl rfl rfl rfl rfl (Nat.le_of_ble_eq_true rfl) (by omega) (fun v50 σ50 hq50 => ?_)
                  obtain ⟨rfl, f50, s50⟩ := hq50
                  refine GS.run [] 2 rfl ?_
                  refine GS.if_ne rfl (fun c57 => ?_) (fun q => absurd q (f50.ne))
                  have hN : inC σ50 p (fun D j => tN D = k + 1 ∧ tS D = 0 ∧ rCs p (8 - tN D) D j = RC p) (fun e => RC p = .error e) := Or.inr ⟨_, f50, ⟨j, hpc.kept s50 (by decide) (by decide)⟩, by rw [← n3, rCs_E hn h8, if_neg (by omega)]⟩
                  refine GS.run [] 0 rfl ?_
                  refine GS.run [] 2 rfl ?_
                  rw [nI_1]
                  first
                    | exact ih32 _ (by omega) (k + 1) σ61 (by omega) hN (hsi.trans (s61.sub (by decide) (by decide))) ((s61.2 11 (by decide)).trans h11i) rfl
                    | exact ih32 _ (by omega) (k + 1) σ50 (by omega) hN (hsi.trans (s50.sub (by decide) (by decide))) ((s50.2 11 (by decide)).trans h11i) rfl
                    | exact ih32 _ (by omega) (k + 1) σi (by omega) hN hsi h11i rfl
              · refine GS.run [] 1 rfl ?_
                refine GS.cV oX12_name (c_name (d + 6) σi p hp je (some e) hpc hf) rfl rfl rfl rfl rfl rfl rfl (Nat.le_of_ble_eq_true rfl) (by omega) ?_
                refine GS.run [] 2 rfl ?_
                refine GS.if_eq rfl (fun q => absurd q (show ¬ lg_cmp (0 : Int64) 109330312357234 = 0 by decide)) (fun c45 => ?_)
                refine GS.run [] 2 rfl ?_
                refine GS.cV oX12_bad (c_badF (d + 6) σi e 1 hf) rfl rfl rfl rfl rfl rfl rfl (Nat.le_of_ble_eq_true rfl) (by omega) ?_
                refine GS.run [] 2 rfl ?_
                refine GS.if_ne rfl (fun c57 => ?_) (fun q => absurd q (hf.ne))
                have hN : inC σi p (fun D j => tN D = k + 1 ∧ tS D = 0 ∧ rCs p (8 - tN D) D j = RC p) (fun e => RC p = .error e) := Or.inr ⟨e, hf, ⟨je, hpc⟩, hE⟩
                refine GS.run [] 0 rfl ?_
                refine GS.run [] 2 rfl ?_
                rw [nI_1]
                first
                  | exact ih32 _ (by omega) (k + 1) σ61 (by omega) hN (hsi.trans (s61.sub (by decide) (by decide))) ((s61.2 11 (by decide)).trans h11i) rfl
                  | exact ih32 _ (by omega) (k + 1) σ50 (by omega) hN (hsi.trans (s50.sub (by decide) (by decide))) ((s50.2 11 (by decide)).trans h11i) rfl
                  | exact ih32 _ (by omega) (k + 1) σi (by omega) hN hsi h11i rfl
        exact loop32 _ 0 σz (Nat.zero_le _) hIz sB h11z rfl
      · have hl : k < 122 := (nI_gtI (a := 122) (by omega) (by omega)).mp c14
        refine GS.run [] 4 rfl ?_
        refine GS.ast (k) rfl rfl (rfl) (by omega) ?_
        refine GS.run [] 2 rfl ?_
        rw [am_s1_eq, am_s1_s1, nI_1, fZ_s]
        exact ih11 _ (by omega) (k + 1) (by omega) rfl
  have e0 := loop11 _ 0 (Nat.zero_le _) rfl
  rw [fZ_0, am_s1_self] at e0
  exact e0
