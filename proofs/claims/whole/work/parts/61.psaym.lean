def inS (σ : am_S) (p : Tp) (P : Sy → Nat → Prop) (E : Nat × Nat → Prop) : Prop := (∃ s j, ftM σ none ∧ pcM σ p j ∧ sayM 76 0 σ s ∧ wfS s ∧ P s j) ∨ ∃ e, ftM σ (some e) ∧ (∃ j, pcM σ p j) ∧ E e
theorem sayM_a {σ σ' : am_S} {s : Sy} {w : Nat} (h : sayM 76 0 σ s) (e : σ' 76 = upd (upd (σ 76) 0 (nI (s.1 + 1))) (s.1 + 1) (nI w)) : sayM 76 0 σ' (sAdd s w) := by
  refine ⟨?_, fun k hk => ?_⟩
  · rw [e, upd_ne _ _ (by omega), upd_eq]; rfl
  · have hk : k < s.1 + 1 := hk
    rw [e, show 0 + 1 + k = k + 1 by omega]
    show upd (upd (σ 76) 0 (nI (s.1 + 1))) (s.1 + 1) (nI w) (k + 1) = nI (va_up s.2 s.1 w k)
    by_cases q : k = s.1
    · rw [q, upd_eq, va_eq]
    · rw [upd_ne _ _ (by omega), upd_ne _ _ (by omega), va_ne _ _ q]
      have := h.2 k (by omega)
      rwa [show 0 + 1 + k = k + 1 by omega] at this
theorem rSay_w {p : Tp} {e : Nat × Nat} (h : rWs p 12 sy0 0 = .error e) : rSay p = .error e := by
  unfold rSay
  rw [show rWs p 12 (0, fun _ => 0) 0 = .error e from h]
theorem rSay_o {p : Tp} {s : Sy} {j : Nat} (h : rWs p 12 sy0 0 = .ok (s, j)) : rSay p = (match rSig p j with
    | .error e => .error e
    | .ok _ => if tkC p (j + 1) = 0 then .ok s else .error (1, tkS p (j + 1))) := by
  unfold rSay
  rw [show rWs p 12 (0, fun _ => 0) 0 = .ok (s, j) from h]
  rfl
theorem p_say_m (d : Nat) (σ : am_S) (p : Tp) (s0 : Sy) (f : Int32) (ht0 : tapeV 69 11 77 σ p) (hp : wfP p) (hy : sayM 75 0 σ s0) (hF0 : σ 69 12 = f) : CallS mX12_say (d + 8) [.ref 69] σ (fun r σ' => r = some (.int (qSay p s0 f).1) ∧ sayM 75 0 σ' (qSay p s0 f).2.1 ∧ tapeV 69 11 77 σ' (0, p.2) ∧ σ' 69 12 = (qSay p s0 f).2.2 ∧ sameM [75, 76] [0, 11, 12, 13, 14, 15, 16, 17, 18, 19] σ σ') := by
  refine CallS.of kX12_say pX12_say [.ref 69, .retAddr 0, .retAddr 0] rfl (Nat.le_of_ble_eq_true rfl) ?_
  have s1 : sameM [] [0] σ (am_s1 σ 69 (upd (σ 69) 0 0)) := sameM.rf.fld (by decide)
  have htp0 : tapeV 69 11 77 (am_s1 σ 69 (upd (σ 69) 0 0)) p := ⟨ht0.1, fun i hi => by rw [s1.1 77 (by decide) (by decide)]; exact ht0.2 i hi⟩
  refine GS.run [] 4 rfl ?_
  refine GS.callV oX12_begin (c_mbegin (d + 5) (am_s1 σ 69 (upd (σ 69) 0 0)) p hp htp0) rfl rfl rfl rfl rfl rfl rfl (Nat.le_of_ble_eq_true rfl) (by omega) (fun v6 σ6 hq6 => ?_)
  obtain ⟨rfl, p6, f6, e6, s6⟩ := hq6
  have sA : sameM [76] [0, 11, 13, 14, 15, 16, 17, 18, 19] σ σ6 := (s1.sub (by decide) (by decide)).trans (s6.sub (by decide) (by decide))
  refine GS.run [] 4 rfl ?_
  refine GS.ast (0) rfl rfl (rfl) (by omega) ?_
  have sB : sameM [76] [0, 11, 13, 14, 15, 16, 17, 18, 19] σ (am_s1 σ6 76 (upd (σ6 76) 0 0)) := sA.cell (by decide) (by decide)
  have sB6 : sameM [76] [] σ6 (am_s1 σ6 76 (upd (σ6 76) 0 0)) := sameM.rf.cell (by decide) (by decide)
  have dZ : sayM 76 0 (am_s1 σ6 76 (upd (σ6 76) 0 0)) sy0 := ⟨by rw [am_s1_eq, upd_eq]; rfl, fun k hk => absurd hk (Nat.not_lt_zero _)⟩
  generalize am_s1 σ6 76 (upd (σ6 76) 0 0) = σz at sB sB6 dZ ⊢
  have hIz : inS σz p (fun s j => rWs p (12 - s.1) s j = rWs p 12 sy0 0 ∧ 13 - s.1 ≤ 13) (fun e => rWs p 12 sy0 0 = .error e) := Or.inl ⟨sy0, 0, f6.kept sB6 (by decide), p6.kept sB6 (by decide) (by decide), dZ, ⟨Nat.zero_le _, fun k hk => absurd hk (Nat.not_lt_zero _)⟩, rfl, Nat.le_refl _⟩
  have h11z : σz 69 11 = 0 := (sB6.2 11 (by decide)).trans e6
  have loop16 : ∀ (fu : Nat) (mu : Nat) (v1 v2 : Value) (σi : am_S) (hI : inS σi p (fun s j => rWs p (12 - s.1) s j = rWs p 12 sy0 0 ∧ 13 - s.1 ≤ mu) (fun e => rWs p 12 sy0 0 = .error e)) (hsi : sameM [76] [0, 11, 13, 14, 15, 16, 17, 18, 19] σ σi) (h11i : σi 69 11 = 0), mu = fu → GS none mX12_say (d + 8) (fun r σ' => r = some (.int (qSay p s0 f).1) ∧ sayM 75 0 σ' (qSay p s0 f).2.1 ∧ tapeV 69 11 77 σ' (0, p.2) ∧ σ' 69 12 = (qSay p s0 f).2.2 ∧ sameM [75, 76] [0, 11, 12, 13, 14, 15, 16, 17, 18, 19] σ σ') 16 [.ref 69, v1, v2] [] σi := by
    intro fu
    induction fu using Nat.strongRecOn with
    | ind fu ih16 =>
      intro mu v1 v2 σi hI hsi h11i hfu
      rcases hI with ⟨s, j, hf, hpc, hsm, hws, hP⟩ | ⟨e, hf, ⟨je, hpc⟩, hE⟩
      · refine GS.run [] 1 rfl ?_
        refine GS.cV oX12_name (c_name (d + 6) σi p hp j none hpc hf) rfl rfl rfl rfl rfl rfl rfl (Nat.le_of_ble_eq_true rfl) (by omega) ?_
        refine GS.cS oX12_wordOf ((c_wordOf (d + 6) σi p j none).eq (congrArg (fun z => some (Value.int z)) ((congrArg fkI (show wdV p j none = wdK p j from rfl)))) rfl) rfl rfl rfl rfl (Nat.le_of_ble_eq_true rfl) (by omega) ?_
        rcases eW : wdK p j with _ | k
        · have hR : rWs p 12 sy0 0 = .ok (s, j) := hP.1.symm.trans (rWs_n eW)
          have hRS := rSay_o hR
          have h12 := hws.1
          refine GS.run [] 1 rfl ?_
          refine GS.icmp_eq rfl (fun c25 => ?_) (fun q => absurd (rfl) q)
          refine GS.run [] 1 rfl ?_
          refine GS.callV oX12_mustEnd (c_mustEndN (d + 3) σi p hp j hpc hf) rfl rfl rfl rfl rfl rfl rfl (Nat.le_of_ble_eq_true rfl) (by omega) (fun v119 σ119 hq119 => ?_)
          obtain ⟨s119, m119⟩ := hq119
          rcases e119 : rSig p j with e | u
          · rw [e119] at m119 hRS
            obtain ⟨f119, x119, rfl⟩ := m119
            have hRS : rSay p = .error e := hRS
            refine GS.run [] 4 rfl ?_
            refine GS.ald (0) rfl rfl (rfl) (by omega) ?_
            refine GS.callV oX12_ends (c_endsF (d + 6) σ119 e _ f119) rfl rfl rfl rfl rfl rfl rfl (Nat.le_of_ble_eq_true rfl) (by omega) (fun v129 σ129 hq129 => ?_)
            obtain ⟨rfl, f129, s129⟩ := hq129
            rw [qSay_e hRS]
            have hb : e.2 ≤ 400 := f119.2.2.2.2
            have t129 := (hsi.trans (s119.sub (by decide) (by decide)))
            refine GS.run [] 3 rfl ?_
            refine GS.run [] 2 rfl ?_
            refine GS.icmp_ge rfl (fun q => absurd q (by decide)) (fun c138 => ?_)
            refine GS.run [] 1 rfl ?_
            refine GS.if_lt rfl (fun c142 => ?_) (fun q => absurd (Int32.not_le.mp (neg_fault hb)) q)
            refine GS.run [] 1 rfl ?_
            refine GS.iret rfl rfl (rfl) ?_
            exact ⟨rfl, hy.kept ((s129.1 75 (by decide) (by decide)).trans (t129.1 75 (by decide) (by decide))), ⟨(s129.2 11 (by decide)).trans ((s119.2 11 (by decide)).trans h11i), fun i hi => absurd hi (Nat.not_lt_zero _)⟩, f129, (t129.sub (by decide) (by decide)).trans (s129.sub (by decide) (by decide))⟩
          · rw [e119] at m119 hRS
            obtain ⟨f119, p119, rfl⟩ := m119
            have hRS : rSay p = if tkC p (j + 1) = 0 then .ok s else .error (1, tkS p (j + 1)) := hRS
            have hsm2 : sayM 76 0 σ119 s := hsm.kept (s119.1 76 (by decide) (by decide))
            have t119 := hsi.trans (s119.sub (by decide) (by decide))
            have h11j : σ119 69 11 = 0 := (s119.2 11 (by decide)).trans h11i
            refine GS.run [] 4 rfl ?_
            refine GS.ald (0) rfl rfl (rfl) (by omega) ?_
            rw [show σ119 76 0 = nI s.1 from hsm2.1]
            refine GS.callV oX12_ends (c_endsN (d + 6) σ119 p (j + 1) (nI s.1) p119 f119) rfl rfl rfl rfl rfl rfl rfl (Nat.le_of_ble_eq_true rfl) (by omega) (fun v129 σ129 hq129 => ?_)
            skip
            rcases hq129 with ⟨k0, rfl, hs129⟩ | ⟨k0, rfl, f129, s129⟩
            · obtain rfl := hs129.symm
              rw [if_pos k0] at hRS
              rw [qSay_o hRS]
              refine GS.run [] 3 rfl ?_
              have loop135 : ∀ (fu : Nat) (x : Nat) (hx : x ≤ 13), 13 - x = fu → GS none mX12_say (d + 8) (fun r σ' => r = some (.int (nI s.1, s, f).1) ∧ sayM 75 0 σ' (nI s.1, s, f).2.1 ∧ tapeV 69 11 77 σ' (0, p.2) ∧ σ' 69 12 = (nI s.1, s, f).2.2 ∧ sameM [75, 76] [0, 11, 12, 13, 14, 15, 16, 17, 18, 19] σ σ') 135 [.ref 69, .int (nI s.1), .int (nI x)] [] (am_s1 σ119 75 (cpF (σ119 75) (σ119 76) x)) := by
                intro fu
                induction fu using Nat.strongRecOn with
                | ind fu ih135 =>
                  intro x hx hfu
                  refine GS.run [] 2 rfl ?_
                  refine GS.icmp_ge rfl (fun c138 => ?_) (fun c138 => ?_)
                  · have e0 : x = 13 := by have := (nI_leI (a := 13) (by omega) (by omega)).mp c138; omega
                    subst e0
                    refine GS.run [] 1 rfl ?_
                    refine GS.iret rfl rfl (rfl) ?_
                    have h12h : σ119 69 12 = f := (t119.2 12 (by decide)).trans hF0
                    refine ⟨rfl, hsm2.moved hws (fun x hx => ?_), ⟨?_, fun i hi => absurd hi (Nat.not_lt_zero _)⟩, ?_, (t119.sub (by decide) (by decide)).cell (by decide) (by decide)⟩
                    · rw [am_s1_eq, Nat.zero_add]
                      exact if_pos hx
                    · rw [am_s1_ne _ _ (by decide)]; exact h11j
                    · rw [am_s1_ne _ _ (by decide)]; exact h12h
                  · have hl : x < 13 := (nI_gtI (a := 13) (by omega) (by omega)).mp c138
                    refine GS.run [] 1 rfl ?_
                    refine GS.if_lt rfl (fun q => absurd q (Int32.not_lt.mpr (nI_pos' (by omega)))) (fun c142 => ?_)
                    refine GS.run [] 6 rfl ?_
                    refine GS.ald (x) rfl rfl (rfl) (by omega) ?_
                    rw [am_s1_ne _ _ (by decide)]
                    refine GS.ast (x) rfl rfl (rfl) (by omega) ?_
                    refine GS.run [] 2 rfl ?_
                    rw [am_s1_eq, am_s1_s1, nI_1, cpF_s]
                    exact ih135 _ (by omega) (x + 1) (by omega) rfl
              have e0 := loop135 _ 0 (Nat.zero_le _) rfl
              rw [cpF_0, am_s1_self] at e0
              exact e0
            · rw [if_neg k0] at hRS
              rw [qSay_e hRS]
              have hb : tkS p (j + 1) ≤ 400 := Nat.le_trans p119.b.1 p119.1.1.2
              refine GS.run [] 3 rfl ?_
              refine GS.run [] 2 rfl ?_
              refine GS.icmp_ge rfl (fun q => absurd q (by decide)) (fun c138 => ?_)
              refine GS.run [] 1 rfl ?_
              refine GS.if_lt rfl (fun c142 => ?_) (fun q => absurd (Int32.not_le.mp (neg_fault hb)) q)
              refine GS.run [] 1 rfl ?_
              refine GS.iret rfl rfl (rfl) ?_
              exact ⟨rfl, hy.kept ((s129.1 75 (by decide) (by decide)).trans (t119.1 75 (by decide) (by decide))), ⟨(s129.2 11 (by decide)).trans h11j, fun i hi => absurd hi (Nat.not_lt_zero _)⟩, f129, (t119.sub (by decide) (by decide)).trans (s129.sub (by decide) (by decide))⟩
        · obtain ⟨hkc, hkv, hk8⟩ := wdK_ok eW
          have h12 := hws.1
          rw [show fkI (some k) = nI k from rfl]
          refine GS.run [] 1 rfl ?_
          refine GS.icmp_eq rfl (fun q => absurd q (nI_ne_none (by omega))) (fun c25 => ?_)
          refine GS.run [] 1 rfl ?_
          refine GS.cV oX12_name (c_name (d + 6) σi p hp j none hpc hf) rfl rfl rfl rfl rfl rfl rfl (Nat.le_of_ble_eq_true rfl) (by omega) ?_
          refine GS.cS oX12_wordOf ((c_wordOf (d + 6) σi p j none).eq (congrArg (fun z => some (Value.int z)) ((congrArg fkI (show wdV p j none = some k from eW)))) rfl) rfl rfl rfl rfl (Nat.le_of_ble_eq_true rfl) (by omega) ?_
          rw [show fkI (some k) = nI k from rfl]
          refine GS.run [] 0 rfl ?_
          refine GS.run [] 4 rfl ?_
          refine GS.ald (0) rfl rfl (rfl) (by omega) ?_
          rw [show σi 76 0 = nI s.1 from hsm.1]
          refine GS.run [] 1 rfl ?_
          refine GS.icmp_ne rfl (fun c44 => ?_) (fun c44 => ?_)
          · have hl : s.1 < 12 := by
              rcases Nat.lt_or_ge s.1 12 with q | q
              · exact q
              · exact absurd (by rw [show s.1 = 12 by omega]; rfl) c44
            have hS := rWs_s eW hl
            rw [hP.1] at hS
            refine GS.run [] 2 rfl ?_
            refine GS.callV oX12_must (c_mustT (d + 5) σi p hp j hpc hf (by omega)) rfl rfl rfl rfl rfl rfl rfl (Nat.le_of_ble_eq_true rfl) (by omega) (fun v54 σ54 hq54 => ?_)
            obtain ⟨rfl, f54, p54, s54⟩ := hq54
            have hsm54 : sayM 76 0 σ54 s := hsm.kept (s54.1 76 (by decide) (by decide))
            refine GS.run [] 2 rfl ?_
            refine GS.icmp_ne rfl (fun c59 => ?_) (fun c59 => ?_)
            · have k2 : ¬ k = 2 := fun q => c59 (by rw [q]; rfl)
              refine GS.run [] 2 rfl ?_
              have hv0 : σ54 76 0 = nI s.1 := hsm54.1
              have hS2 : rWs p 12 sy0 0 = rWs p (12 - (s.1 + 1)) (sAdd s k) (j + 1) := by rw [hS, show rWd p k j = .ok (k, j + 1) from if_neg k2]
              have hiw : isW k := Or.inl ⟨hk8, k2⟩
              have sE : ∀ g, sameM [76] [] σ54 (am_s1 σ54 76 g) := fun g => sameM.rf.cell (by decide) (by decide)
              have hN : ∀ g, g = upd (upd (σ54 76) 0 (nI (s.1 + 1))) (s.1 + 1) (nI (k)) → inS (am_s1 σ54 76 g) p (fun s j => rWs p (12 - s.1) s j = rWs p 12 sy0 0 ∧ 13 - s.1 ≤ (mu - 1)) (fun e => rWs p 12 sy0 0 = .error e) := fun g hg => Or.inl ⟨sAdd s (k), (j + 1), f54.kept (sE g) (by decide), p54.kept (sE g) (by decide) (by decide), sayM_a (σ := σ54) hsm54 (by rw [am_s1_eq]; exact hg), wfS_a hws hl hiw, hS2.symm, by show 13 - (s.1 + 1) ≤ mu - 1; omega⟩
              refine GS.run [] 0 rfl ?_
              refine GS.run [] 2 rfl ?_
              rw [show σ54 69 18 = 0 from f54]
              refine GS.run [] 0 rfl ?_
              refine GS.if_ne rfl (fun q => absurd (rfl) q) (fun c78 => ?_)
              refine GS.run [] 4 rfl ?_
              refine GS.ald (0) rfl rfl (rfl) (by omega) ?_
              rw [hv0]
              refine GS.run [] 2 rfl ?_
              rw [nI_1]
              refine GS.run [] 0 rfl ?_
              refine GS.ast (0) rfl rfl (rfl) (by omega) ?_
              refine GS.run [] 5 rfl ?_
              refine GS.ald (0) rfl rfl (rfl) (by omega) ?_
              rw [am_s1_eq, upd_eq]
              refine GS.run [] 2 rfl ?_
              refine GS.icmp_ne rfl (fun c103 => ?_) (fun q => absurd q (fun q => k2 ((nI_eq (b := 2) (by omega) (by omega)).mp q)))
              refine GS.run [] 1 rfl ?_
              refine GS.ast (s.1 + 1) rfl rfl (rfl) (by omega) ?_
              rw [am_s1_s1, am_s1_eq]
              refine GS.run [] 1 rfl ?_
              first
                | exact ih16 (mu - 1) (by omega) (mu - 1) _ _ (am_s1 σ66 76 _) (hN _ rfl) ((hsi.trans ((s54.trans s66).sub (by decide) (by decide))).cell (by decide) (by decide)) (by rw [am_s1_ne _ _ (by decide)]; exact (s66.2 11 (by decide)).trans ((s54.2 11 (by decide)).trans h11i)) rfl
                | exact ih16 (mu - 1) (by omega) (mu - 1) _ _ σ66 hN (hsi.trans ((s54.trans s66).sub (by decide) (by decide))) ((s66.2 11 (by decide)).trans ((s54.2 11 (by decide)).trans h11i)) rfl
                | exact ih16 (mu - 1) (by omega) (mu - 1) _ _ (am_s1 σ54 76 _) (hN _ rfl) ((hsi.trans (s54.sub (by decide) (by decide))).cell (by decide) (by decide)) (by rw [am_s1_ne _ _ (by decide)]; exact (s54.2 11 (by decide)).trans h11i) rfl
                | exact ih16 (mu - 1) (by omega) (mu - 1) _ _ σ49 hN (hsi.trans (s49.sub (by decide) (by decide))) ((s49.2 11 (by decide)).trans h11i) rfl
            · have k2 : k = 2 := (nI_eq (b := 2) (by omega) (by omega)).mp c59
              refine GS.run [] 3 rfl ?_
              refine GS.callV oX12_number (c_numberN (d + 2) σ54 p hp (j + 1) 9 p54 f54 (by omega)) rfl rfl rfl rfl rfl rfl rfl (Nat.le_of_ble_eq_true rfl) (by omega) (fun v66 σ66 hq66 => ?_)
              obtain ⟨s66, m66⟩ := hq66
              rcases e66 : rNum p 9 (j + 1) with e | m
              · rw [e66] at m66
                obtain ⟨f66, ⟨je, p66⟩, x, rfl⟩ := m66
                have hR : rWs p 12 sy0 0 = .error e := by rw [hS, show rWd p k j = .error e by unfold rWd; rw [if_pos k2, e66]]
                have hN : inS σ66 p (fun s j => rWs p (12 - s.1) s j = rWs p 12 sy0 0 ∧ 13 - s.1 ≤ (mu - 1)) (fun e => rWs p 12 sy0 0 = .error e) := Or.inr ⟨e, f66, ⟨je, p66⟩, hR⟩
                refine GS.run [] 4 rfl ?_
                refine GS.if_ne rfl (fun c78 => ?_) (fun q => absurd q (f66.ne))
                refine GS.run [] 1 rfl ?_
                first
                  | exact ih16 (mu - 1) (by omega) (mu - 1) _ _ (am_s1 σ66 76 _) (hN _ rfl) ((hsi.trans ((s54.trans s66).sub (by decide) (by decide))).cell (by decide) (by decide)) (by rw [am_s1_ne _ _ (by decide)]; exact (s66.2 11 (by decide)).trans ((s54.2 11 (by decide)).trans h11i)) rfl
                  | exact ih16 (mu - 1) (by omega) (mu - 1) _ _ σ66 hN (hsi.trans ((s54.trans s66).sub (by decide) (by decide))) ((s66.2 11 (by decide)).trans ((s54.2 11 (by decide)).trans h11i)) rfl
                  | exact ih16 (mu - 1) (by omega) (mu - 1) _ _ (am_s1 σ54 76 _) (hN _ rfl) ((hsi.trans (s54.sub (by decide) (by decide))).cell (by decide) (by decide)) (by rw [am_s1_ne _ _ (by decide)]; exact (s54.2 11 (by decide)).trans h11i) rfl
                  | exact ih16 (mu - 1) (by omega) (mu - 1) _ _ σ49 hN (hsi.trans (s49.sub (by decide) (by decide))) ((s49.2 11 (by decide)).trans h11i) rfl
              · rw [e66] at m66
                obtain ⟨f66, p66, rfl⟩ := m66
                obtain ⟨-, -, hm9⟩ := rNum_ok e66
                have hsm66 : sayM 76 0 σ66 s := hsm54.kept (s66.1 76 (by decide) (by decide))
                have hv0 : σ66 76 0 = nI s.1 := hsm66.1
                have hS2 : rWs p 12 sy0 0 = rWs p (12 - (s.1 + 1)) (sAdd s (20 + m)) (j + 2) := by rw [hS, show rWd p k j = .ok (20 + m, j + 2) by unfold rWd; rw [if_pos k2, e66]]
                have hiw : isW (20 + m) := Or.inr ⟨by omega, by omega⟩
                have sE : ∀ g, sameM [76] [] σ66 (am_s1 σ66 76 g) := fun g => sameM.rf.cell (by decide) (by decide)
                have hN : ∀ g, g = upd (upd (σ66 76) 0 (nI (s.1 + 1))) (s.1 + 1) (nI ((20 + m))) → inS (am_s1 σ66 76 g) p (fun s j => rWs p (12 - s.1) s j = rWs p 12 sy0 0 ∧ 13 - s.1 ≤ (mu - 1)) (fun e => rWs p 12 sy0 0 = .error e) := fun g hg => Or.inl ⟨sAdd s ((20 + m)), (j + 2), f66.kept (sE g) (by decide), p66.kept (sE g) (by decide) (by decide), sayM_a (σ := σ66) hsm66 (by rw [am_s1_eq]; exact hg), wfS_a hws hl hiw, hS2.symm, by show 13 - (s.1 + 1) ≤ mu - 1; omega⟩
                refine GS.run [] 0 rfl ?_
                refine GS.run [] 4 rfl ?_
                rw [show σ66 69 18 = 0 from f66]
                refine GS.run [] 0 rfl ?_
                refine GS.if_ne rfl (fun q => absurd (rfl) q) (fun c78 => ?_)
                refine GS.run [] 4 rfl ?_
                refine GS.ald (0) rfl rfl (rfl) (by omega) ?_
                rw [hv0]
                refine GS.run [] 2 rfl ?_
                rw [nI_1]
                refine GS.run [] 0 rfl ?_
                refine GS.ast (0) rfl rfl (rfl) (by omega) ?_
                refine GS.run [] 5 rfl ?_
                refine GS.ald (0) rfl rfl (rfl) (by omega) ?_
                rw [am_s1_eq, upd_eq]
                refine GS.run [] 2 rfl ?_
                refine GS.icmp_ne rfl (fun q => absurd (by rw [k2]; rfl) q) (fun c103 => ?_)
                refine GS.run [] 3 rfl ?_
                rw [show (20 : Int32) + nI m = nI (20 + m) by rw [show (20 : Int32) = nI 20 from rfl, nI_add]]
                refine GS.run [] 0 rfl ?_
                refine GS.run [] 1 rfl ?_
                refine GS.ast (s.1 + 1) rfl rfl (rfl) (by omega) ?_
                rw [am_s1_s1, am_s1_eq]
                refine GS.run [] 1 rfl ?_
                first
                  | exact ih16 (mu - 1) (by omega) (mu - 1) _ _ (am_s1 σ66 76 _) (hN _ rfl) ((hsi.trans ((s54.trans s66).sub (by decide) (by decide))).cell (by decide) (by decide)) (by rw [am_s1_ne _ _ (by decide)]; exact (s66.2 11 (by decide)).trans ((s54.2 11 (by decide)).trans h11i)) rfl
                  | exact ih16 (mu - 1) (by omega) (mu - 1) _ _ σ66 hN (hsi.trans ((s54.trans s66).sub (by decide) (by decide))) ((s66.2 11 (by decide)).trans ((s54.2 11 (by decide)).trans h11i)) rfl
                  | exact ih16 (mu - 1) (by omega) (mu - 1) _ _ (am_s1 σ54 76 _) (hN _ rfl) ((hsi.trans (s54.sub (by decide) (by decide))).cell (by decide) (by decide)) (by rw [am_s1_ne _ _ (by decide)]; exact (s54.2 11 (by decide)).trans h11i) rfl
                  | exact ih16 (mu - 1) (by omega) (mu - 1) _ _ σ49 hN (hsi.trans (s49.sub (by decide) (by decide))) ((s49.2 11 (by decide)).trans h11i) rfl
          · have e12 : s.1 = 12 := (nI_eq (b := 12) (by omega) (by omega)).mp c44
            have hR : rWs p 12 sy0 0 = .error (3, tkS p j) := by rw [← hP.1, e12]; show rWs p 0 s j = _; rw [rWs, eW]
            refine GS.run [] 2 rfl ?_
            refine GS.callV oX12_bad (c_badN (d + 6) σi p j 3 hpc hf (by decide)) rfl rfl rfl rfl rfl rfl rfl (Nat.le_of_ble_eq_true rfl) (by omega) (fun v49 σ49 hq49 => ?_)
            obtain ⟨rfl, f49, s49⟩ := hq49
            refine GS.run [] 2 rfl ?_
            refine GS.cV oX12_must (c_mustF (d + 6) σ49 _ true f49) rfl rfl rfl rfl rfl rfl rfl (Nat.le_of_ble_eq_true rfl) (by omega) ?_
            refine GS.run [] 2 rfl ?_
            refine GS.icmp_ne rfl (fun c59 => ?_) (fun c59 => ?_)
            · refine GS.run [] 4 rfl ?_
              refine GS.if_ne rfl (fun c78 => ?_) (fun q => absurd q (f49.ne))
              have hN : inS σ49 p (fun s j => rWs p (12 - s.1) s j = rWs p 12 sy0 0 ∧ 13 - s.1 ≤ (mu - 1)) (fun e => rWs p 12 sy0 0 = .error e) := Or.inr ⟨_, f49, ⟨_, (hpc.kept s49 (by decide) (by decide))⟩, hR⟩
              refine GS.run [] 0 rfl ?_
              refine GS.run [] 1 rfl ?_
              first
                | exact ih16 (mu - 1) (by omega) (mu - 1) _ _ (am_s1 σ66 76 _) (hN _ rfl) ((hsi.trans ((s54.trans s66).sub (by decide) (by decide))).cell (by decide) (by decide)) (by rw [am_s1_ne _ _ (by decide)]; exact (s66.2 11 (by decide)).trans ((s54.2 11 (by decide)).trans h11i)) rfl
                | exact ih16 (mu - 1) (by omega) (mu - 1) _ _ σ66 hN (hsi.trans ((s54.trans s66).sub (by decide) (by decide))) ((s66.2 11 (by decide)).trans ((s54.2 11 (by decide)).trans h11i)) rfl
                | exact ih16 (mu - 1) (by omega) (mu - 1) _ _ (am_s1 σ54 76 _) (hN _ rfl) ((hsi.trans (s54.sub (by decide) (by decide))).cell (by decide) (by decide)) (by rw [am_s1_ne _ _ (by decide)]; exact (s54.2 11 (by decide)).trans h11i) rfl
                | exact ih16 (mu - 1) (by omega) (mu - 1) _ _ σ49 hN (hsi.trans (s49.sub (by decide) (by decide))) ((s49.2 11 (by decide)).trans h11i) rfl
            · refine GS.run [] 3 rfl ?_
              refine GS.cV oX12_number (c_numberF (d + 2) σ49 _ 0 9 f49) rfl rfl rfl rfl rfl rfl rfl (Nat.le_of_ble_eq_true rfl) (by omega) ?_
              refine GS.run [] 4 rfl ?_
              refine GS.if_ne rfl (fun c78 => ?_) (fun q => absurd q (f49.ne))
              have hN : inS σ49 p (fun s j => rWs p (12 - s.1) s j = rWs p 12 sy0 0 ∧ 13 - s.1 ≤ (mu - 1)) (fun e => rWs p 12 sy0 0 = .error e) := Or.inr ⟨_, f49, ⟨_, (hpc.kept s49 (by decide) (by decide))⟩, hR⟩
              refine GS.run [] 0 rfl ?_
              refine GS.run [] 1 rfl ?_
              first
                | exact ih16 (mu - 1) (by omega) (mu - 1) _ _ (am_s1 σ66 76 _) (hN _ rfl) ((hsi.trans ((s54.trans s66).sub (by decide) (by decide))).cell (by decide) (by decide)) (by rw [am_s1_ne _ _ (by decide)]; exact (s66.2 11 (by decide)).trans ((s54.2 11 (by decide)).trans h11i)) rfl
                | exact ih16 (mu - 1) (by omega) (mu - 1) _ _ σ66 hN (hsi.trans ((s54.trans s66).sub (by decide) (by decide))) ((s66.2 11 (by decide)).trans ((s54.2 11 (by decide)).trans h11i)) rfl
                | exact ih16 (mu - 1) (by omega) (mu - 1) _ _ (am_s1 σ54 76 _) (hN _ rfl) ((hsi.trans (s54.sub (by decide) (by decide))).cell (by decide) (by decide)) (by rw [am_s1_ne _ _ (by decide)]; exact (s54.2 11 (by decide)).trans h11i) rfl
                | exact ih16 (mu - 1) (by omega) (mu - 1) _ _ σ49 hN (hsi.trans (s49.sub (by decide) (by decide))) ((s49.2 11 (by decide)).trans h11i) rfl
      · have hRS := rSay_w hE
        refine GS.run [] 1 rfl ?_
        refine GS.cV oX12_name (c_name (d + 6) σi p hp je (some e) hpc hf) rfl rfl rfl rfl rfl rfl rfl (Nat.le_of_ble_eq_true rfl) (by omega) ?_
        refine GS.cS oX12_wordOf (c_wordOf (d + 6) σi p je (some e)) rfl rfl rfl rfl (Nat.le_of_ble_eq_true rfl) (by omega) ?_
        refine GS.run [] 1 rfl ?_
        refine GS.icmp_eq rfl (fun c25 => ?_) (fun q => absurd (rfl) q)
        refine GS.run [] 1 rfl ?_
        refine GS.cV oX12_mustEnd (c_mustEndF (d + 3) σi e hf) rfl rfl rfl rfl rfl rfl rfl (Nat.le_of_ble_eq_true rfl) (by omega) ?_
        refine GS.run [] 4 rfl ?_
        refine GS.ald (0) rfl rfl (rfl) (by omega) ?_
        refine GS.callV oX12_ends (c_endsF (d + 6) σi e _ hf) rfl rfl rfl rfl rfl rfl rfl (Nat.le_of_ble_eq_true rfl) (by omega) (fun v129 σ129 hq129 => ?_)
        obtain ⟨rfl, f129, s129⟩ := hq129
        rw [qSay_e hRS]
        have hb : e.2 ≤ 400 := hf.2.2.2.2
        refine GS.run [] 3 rfl ?_
        refine GS.run [] 2 rfl ?_
        refine GS.icmp_ge rfl (fun q => absurd q (by decide)) (fun c138 => ?_)
        refine GS.run [] 1 rfl ?_
        refine GS.if_lt rfl (fun c142 => ?_) (fun q => absurd (Int32.not_le.mp (neg_fault hb)) q)
        refine GS.run [] 1 rfl ?_
        refine GS.iret rfl rfl (rfl) ?_
        exact ⟨rfl, hy.kept ((s129.1 75 (by decide) (by decide)).trans (hsi.1 75 (by decide) (by decide))), ⟨(s129.2 11 (by decide)).trans h11i, fun i hi => absurd hi (Nat.not_lt_zero _)⟩, f129, (hsi.sub (by decide) (by decide)).trans (s129.sub (by decide) (by decide))⟩
  exact loop16 _ 13 _ _ σz hIz sB h11z rfl
