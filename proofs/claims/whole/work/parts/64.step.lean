/-! THE LAW: both hold one state, S -/
def wf2 (S : St) : Prop := wf S ∧ ((sK0 S = none ∧ sK1 S = none) ∨ ¬ tN (sT S) = 0)
def HC (σ : am_S) (S : St) : Prop := rowsV 2 3 4 σ (sR S) ∧ tapeV 5 1 6 σ (sP S) ∧ townC 10 σ (sT S) ∧ sayC 24 σ (sY S) ∧ keptC 28 σ (sK0 S) ∧ keptC 38 σ (sK1 S) ∧ σ 5 8 = sF S ∧ σ 0 13 = sL S ∧ traceV 67 5 68 σ (sX S) ∧ layC σ (sT S)
def HM (σ : am_S) (S : St) : Prop := rowsV 70 71 72 σ (sR S) ∧ tapeV 69 11 77 σ (sP S) ∧ townM 73 0 σ (sT S) ∧ sayM 75 0 σ (sY S) ∧ keptM 0 σ (sK0 S) ∧ keptM 1 σ (sK1 S) ∧ σ 69 12 = sF S ∧ σ 69 1 = sL S ∧ traceV 69 40 88 σ (sX S) ∧ hM σ ∧ σ 69 7 = am_b (¬ tN (sT S) = 0)
theorem tapeV.kept {a b q : Nat} {σ σ' : am_S} {p : Tp} (h : tapeV a b q σ p) (e0 : σ' a b = σ a b) (e1 : σ' q = σ q) : tapeV a b q σ' p := ⟨e0.trans h.1, fun i hi => (congrFun e1 i).trans (h.2 i hi)⟩
theorem layC.by2 {σ σ' : am_S} {t : Tn} (h : layC σ t) (e0 : σ' 64 = σ 64) (e1 : σ' 66 = σ 66) : layC σ' t := by
  unfold layC layOK
  rw [e0, e1]
  exact h
theorem HC.low {σ σ' : am_S} {S : St} (h : HC σ S) (e : ∀ q, q < 69 → σ' q = σ q) : HC σ' S := by
  obtain ⟨cR, cP, cT, cY, cA, cB, cF, cL, cX, cy⟩ := h
  exact ⟨cR.kept (e 2 (by decide)) (e 3 (by decide)) (e 4 (by decide)), cP.kept (congrFun (e 5 (by decide)) 1) (e 6 (by decide)), cT.kept (fun j hj => e _ (by omega)), cY.kept (e 24 (by decide)) (e 25 (by decide)), cA.kept (fun j hj => e _ (by omega)), cB.kept (fun j hj => e _ (by omega)), (congrFun (e 5 (by decide)) 8).trans cF, (congrFun (e 0 (by decide)) 13).trans cL, cX.kept (congrFun (e 67 (by decide)) 5) (e 68 (by decide)), cy.by2 (e 64 (by decide)) (e 66 (by decide))⟩
theorem HM.high {σ σ' : am_S} {S : St} (h : HM σ S) (e : ∀ q, 69 ≤ q → σ' q = σ q) : HM σ' S := by
  obtain ⟨mR, mP, mT, mY, mA, mB, mF, mL, mX, mh, mI⟩ := h
  exact ⟨mR.kept (e 70 (by decide)) (e 71 (by decide)) (e 72 (by decide)), mP.kept (congrFun (e 69 (by decide)) 11) (e 77 (by decide)), mT.kept (e 73 (by decide)), mY.kept (e 75 (by decide)), mA.kept (e 85 (by decide)) (e 86 (by decide)) (e 87 (by decide)), mB.kept (e 85 (by decide)) (e 86 (by decide)) (e 87 (by decide)), (congrFun (e 69 (by decide)) 12).trans mF, (congrFun (e 69 (by decide)) 1).trans mL, mX.kept (congrFun (e 69 (by decide)) 40) (e 88 (by decide)), by unfold hM; rw [e 69 (by decide)]; exact mh, (congrFun (e 69 (by decide)) 7).trans mI⟩
theorem same.high {l : List Nat} {σ σ' : am_S} (h : same l σ σ') (hl : l.all (fun q => decide (q < 69)) = true) : ∀ q, 69 ≤ q → σ' q = σ q := fun q hq => h q (fun z => by have := of_decide_eq_true (List.all_eq_true.mp hl q z); omega)
theorem sameM.low {l f : List Nat} {σ σ' : am_S} (h : sameM l f σ σ') (hl : l.all (fun q => decide (69 ≤ q)) = true) : ∀ q, q < 69 → σ' q = σ q := fun q hq => h.1 q (by omega) (fun z => by have := of_decide_eq_true (List.all_eq_true.mp hl q z); omega)
theorem nin {l : List Nat} (a b : Nat) {j : Nat} (hj : j < b) (h : l.all (fun q => decide (q < a ∨ a + b ≤ q)) = true) : a + j ∉ l := fun z => by have := of_decide_eq_true (List.all_eq_true.mp h _ z); omega
abbrev GL (N : Nat) (xs : Nat → Int32) (pc i : Nat) (st : List Value) (σ : am_S) : Prop := G (some (N, xs)) mL_law 40 (fun v _ _ => v = some (.int 1)) 600000 7302250 pc [.ref 4000, .ref 0, .ref 69, .int (nI i)] st (am_mk σ) 89 89 5720
section GLR
variable {N : Nat} {xs : Nat → Int32} {pc nx i : Nat} {st : List Value} {σ : am_S}
theorem GL.ld {p1 p2 p3 p4 j : Nat} {c : Int32} {k : Int} (hj1 : am_at mL_law pc = some (.aload_n 0, p1, [], 0, .null)) (hj2 : am_at mL_law p1 = some (.iload_n 3, p2, [], 0, .null)) (hj3 : am_at mL_law p2 = some (.iconst k, p3, [], 0, .int c)) (hj4 : am_at mL_law p3 = some (.iadd, p4, [], 0, .null)) (hj5 : am_at mL_law p4 = some (.iaload, nx, [], 0, .null)) (hc : c = nI j) (hi : i + 6 ≤ N) (hj : j < 6) (hN : N < 1073741824) (kk : GL N xs nx i (.int (xs (i + j)) :: st) σ) : GL N xs pc i st σ := by
  refine G.aload_n hj1 rfl (G.iload_n hj2 rfl (G.iconst hj3 (G.iadd hj4 ?_)))
  rw [hc, nI_add]
  refine G.sld hj5 rfl (am_in.mpr ?_) ?_
  · rw [nI_toInt (by omega)]; omega
  · rw [nI_clamp (by omega)]; exact kk
theorem GL.cV {a q ci d' np : Nat} {qc : vw_C} {fl : List (Option Nat)} {args st0 : List Value} {M' : am_M} {w : Int32} {P : am_S → Prop} {x : List Nat} {y : Nat} {v : Value} (hC : am_okC2 M' 0 np) (hcall : CallS M' d' (.ref q :: args) σ (fun r σ' => r = some (.int w) ∧ P σ')) (hj : am_at mL_law pc = some (.invokevirtual a, nx, x, y, v)) (hy : am_yn y = M'.1) (hst : st0 = args.reverse ++ (.ref q :: st)) (hnp : args.length = np) (hs : am_sh q = some (.inr (ci, fl))) (hc : vwCl[ci]? = some qc) (hcn : M'.1.cls = qc.1) (hcat : (st.map fun v => v.category).sum ≤ 8) (hd : d' + 1 ≤ 40)
    (kk : ∀ σ', P σ' → GL N xs nx i (.int w :: st) σ') : GL N xs pc i st0 σ := by
  subst hst
  exact G.callV hj hy hC hnp (am_sh_lt hs) (am_mk_obj hs) hc hcn hd (Nat.le_of_ble_eq_true rfl) (Nat.le_of_ble_eq_true rfl) hcat hcall (fun v h' n' hq => by obtain ⟨rfl, σ', rfl, rfl, hp⟩ := hq; exact kk σ' hp)
theorem s0M {σ : am_S} : sameM [] [0] σ (am_s1 σ 69 (upd (σ 69) 0 0)) := sameM.rf.fld (by decide)
end GLR
theorem sv_mark2 {t : Tn} {c m : Int32} (h : wfT t ∧ (tN t = 0 ∨ 2 ≤ tN t)) : wfT (qMark t c m).2 ∧ (tN (qMark t c m).2 = 0 ∨ 2 ≤ tN (qMark t c m).2) := by
  obtain ⟨h1, h2⟩ := sv_mark (c := c) (m := m) h.1
  rw [h2]
  exact ⟨h1, h.2⟩
theorem sv_mI {t : Tn} {c m : Int32} (h : wfT t) : am_b (¬ tN t = 0) = am_b (¬ tN (qMark t c m).2 = 0) := am_b_congr (by rw [(sv_mark h).2])
theorem sv_mK {t : Tn} {c m : Int32} {a b : Kp} (h : wfT t) (hK : (a = none ∧ b = none) ∨ ¬ tN t = 0) : (a = none ∧ b = none) ∨ ¬ tN (qMark t c m).2 = 0 := by rw [(sv_mark h).2]; exact hK
theorem sv_rI {t : Tn} {s : Sy} {a b : Kp} {k : Int32} (ht : wfT t ∧ (tN t = 0 ∨ 2 ≤ tN t)) (hK : (a = none ∧ b = none) ∨ ¬ tN t = 0) (ha : wfK a) (hb : wfK b) : am_b (¬ tN t = 0) = am_b (¬ tN (qRestore t s a b k).2.1 = 0) := by
  refine am_b_congr ?_
  unfold qRestore
  by_cases h1 : okb k
  · rw [if_pos h1]
    have hc : wfK (if k = 0 then a else b) := by
      by_cases h3 : k = 0
      · rw [if_pos h3]; exact ha
      · rw [if_neg h3]; exact hb
    rcases e : (if k = 0 then a else b) with _ | q
    · exact Iff.rfl
    · rw [e] at hc
      have h2 : 2 ≤ tN q.1 := hc.2.2
      have h3 : ¬ tN t = 0 := hK.resolve_left (fun z => by
        rw [z.1, z.2] at e
        split at e <;> cases e)
      exact ⟨fun _ => by show ¬ tN q.1 = 0; omega, fun _ => h3⟩
  · rw [if_neg h1]
theorem sv_rK {t : Tn} {s : Sy} {a b : Kp} {k : Int32} (ht : wfT t ∧ (tN t = 0 ∨ 2 ≤ tN t)) (hK : (a = none ∧ b = none) ∨ ¬ tN t = 0) (ha : wfK a) (hb : wfK b) : (a = none ∧ b = none) ∨ ¬ tN (qRestore t s a b k).2.1 = 0 := by
  have h := sv_rI (s := s) (k := k) ht hK ha hb
  rcases hK with h1 | h1
  · exact Or.inl h1
  · refine Or.inr (am_b1.mp ?_)
    rw [← h]
    exact am_b1.mpr h1
theorem sv_tK {p : Tp} {t : Tn} {f : Int32} {a b : Kp} (hK : (a = none ∧ b = none) ∨ ¬ tN t = 0) : (a = none ∧ b = none) ∨ ¬ tN (qTown p t f).2.1 = 0 := by
  unfold qTown
  rcases e : rTown p with x | D
  · exact hK
  · have := (rTown_okP e).2
    exact Or.inr (by show ¬ tN D = 0; omega)
theorem sv_iK {t : Tn} {s : Sy} {a b : Kp} {k : Int32} (hK : (a = none ∧ b = none) ∨ ¬ tN t = 0) : ((qImage t s a b k).2.1 = none ∧ (qImage t s a b k).2.2 = none) ∨ ¬ tN t = 0 := by
  by_cases h2 : tN t = 0
  · unfold qImage
    by_cases h1 : okb k
    · rw [if_pos h1, if_pos h2]; exact hK
    · rw [if_neg h1]; exact hK
  · exact Or.inr h2
theorem law_row {N : Nat} {xs : Nat → Int32} {i : Nat} {σ : am_S} {S : St} (hi : i + 6 ≤ N) (hN : N < 1073741824) (hw : wf2 S) (hc : HC σ S) (hm : HM σ S) (kk : ∀ σ' S', wf2 S' → HC σ' S' → HM σ' S' → GL N xs 1138 i [] σ') : GL N xs 168 i [] σ := by
  obtain ⟨⟨wR, wP, wT, wY, wA, wB, wX⟩, wK⟩ := id hw
  obtain ⟨cR, cP, cT, cY, cA, cB, cF, cL, cX, cy⟩ := id hc
  refine G.aload_n rfl rfl ?_
  refine GL.ld (j := 1) rfl rfl rfl rfl rfl rfl hi (by decide) hN ?_
  refine GL.ld (j := 2) rfl rfl rfl rfl rfl rfl hi (by decide) hN ?_
  refine GL.ld (j := 3) rfl rfl rfl rfl rfl rfl hi (by decide) hN ?_
  refine GL.cV oX11_row (p_row_c 0 σ (sR S) (sL S) (xs (i + 1)) (xs (i + 2)) (xs (i + 3)) cR wR cL) rfl rfl rfl rfl rfl rfl rfl (Nat.le_of_ble_eq_true rfl) (Nat.le_of_ble_eq_true rfl) (fun σ1 q1 => ?_)
  obtain ⟨pR, pL, s1⟩ := q1
  obtain ⟨nR, nP, nT, nY, nA, nB, nF, nL, nX, nh, nI'⟩ := HM.high hm (s1.high rfl)
  refine G.aload_n rfl rfl ?_
  refine GL.ld (j := 1) rfl rfl rfl rfl rfl rfl hi (by decide) hN ?_
  refine GL.ld (j := 2) rfl rfl rfl rfl rfl rfl hi (by decide) hN ?_
  refine GL.ld (j := 3) rfl rfl rfl rfl rfl rfl hi (by decide) hN ?_
  refine GL.cV oX12_row (p_row_m 0 σ1 (sR S) (sL S) (xs (i + 1)) (xs (i + 2)) (xs (i + 3)) nR wR nL) rfl rfl rfl rfl rfl rfl rfl (Nat.le_of_ble_eq_true rfl) (Nat.le_of_ble_eq_true rfl) (fun σ2 q2 => ?_)
  obtain ⟨uR, uL, s2⟩ := q2
  refine G.icmp_eq rfl (fun _ => ?_) (fun q => absurd rfl q)
  have c1 : HC σ1 ((qRow (sR S) (sL S) (xs (i + 1)) (xs (i + 2)) (xs (i + 3))).2.1, sP S, sT S, sY S, sK0 S, sK1 S, sF S, (qRow (sR S) (sL S) (xs (i + 1)) (xs (i + 2)) (xs (i + 3))).2.2, sX S) := ⟨pR, cP.kept (congrFun (s1 5 (by decide)) 1) (s1 6 (by decide)), cT.kept (fun j hj => s1 _ (nin 10 7 hj rfl)), cY.kept (s1 24 (by decide)) (s1 25 (by decide)), cA.kept (fun j hj => s1 _ (nin 28 10 hj rfl)), cB.kept (fun j hj => s1 _ (nin 38 10 hj rfl)), (congrFun (s1 5 (by decide)) 8).trans cF, pL, cX.kept (congrFun (s1 67 (by decide)) 5) (s1 68 (by decide)), cy.by2 (s1 64 (by decide)) (s1 66 (by decide))⟩
  have m2 : HM σ2 ((qRow (sR S) (sL S) (xs (i + 1)) (xs (i + 2)) (xs (i + 3))).2.1, sP S, sT S, sY S, sK0 S, sK1 S, sF S, (qRow (sR S) (sL S) (xs (i + 1)) (xs (i + 2)) (xs (i + 3))).2.2, sX S) := ⟨uR, nP.kept (s2.2 11 (by decide)) (s2.1 77 (by decide) (by decide)), nT.kept (s2.1 73 (by decide) (by decide)), nY.kept (s2.1 75 (by decide) (by decide)), nA.kept (s2.1 85 (by decide) (by decide)) (s2.1 86 (by decide) (by decide)) (s2.1 87 (by decide) (by decide)), nB.kept (s2.1 85 (by decide) (by decide)) (s2.1 86 (by decide) (by decide)) (s2.1 87 (by decide) (by decide)), (s2.2 12 (by decide)).trans nF, uL, nX.kept (s2.2 40 (by decide)) (s2.1 88 (by decide) (by decide)), nh.kept s2 (by decide), (s2.2 7 (by decide)).trans nI'⟩
  exact kk σ2 ((qRow (sR S) (sL S) (xs (i + 1)) (xs (i + 2)) (xs (i + 3))).2.1, sP S, sT S, sY S, sK0 S, sK1 S, sF S, (qRow (sR S) (sL S) (xs (i + 1)) (xs (i + 2)) (xs (i + 3))).2.2, sX S) ⟨⟨sv_row wR, wP, wT, wY, wA, wB, wX⟩, wK⟩ (HC.low c1 (s2.low rfl)) m2
theorem law_set {N : Nat} {xs : Nat → Int32} {i : Nat} {σ : am_S} {S : St} (hi : i + 6 ≤ N) (hN : N < 1073741824) (hw : wf2 S) (hc : HC σ S) (hm : HM σ S) (kk : ∀ σ' S', wf2 S' → HC σ' S' → HM σ' S' → GL N xs 1138 i [] σ') : GL N xs 211 i [] σ := by
  obtain ⟨⟨wR, wP, wT, wY, wA, wB, wX⟩, wK⟩ := id hw
  obtain ⟨cR, cP, cT, cY, cA, cB, cF, cL, cX, cy⟩ := id hc
  refine G.aload_n rfl rfl ?_
  refine GL.ld (j := 1) rfl rfl rfl rfl rfl rfl hi (by decide) hN ?_
  refine GL.ld (j := 2) rfl rfl rfl rfl rfl rfl hi (by decide) hN ?_
  refine GL.ld (j := 3) rfl rfl rfl rfl rfl rfl hi (by decide) hN ?_
  refine GL.cV oX11_set (p_set_c 0 σ (sR S) (sL S) (xs (i + 1)) (xs (i + 2)) (xs (i + 3)) cR wR cL) rfl rfl rfl rfl rfl rfl rfl (Nat.le_of_ble_eq_true rfl) (Nat.le_of_ble_eq_true rfl) (fun σ1 q1 => ?_)
  obtain ⟨pR, pL, s1⟩ := q1
  obtain ⟨nR, nP, nT, nY, nA, nB, nF, nL, nX, nh, nI'⟩ := HM.high hm (s1.high rfl)
  refine G.aload_n rfl rfl ?_
  refine GL.ld (j := 1) rfl rfl rfl rfl rfl rfl hi (by decide) hN ?_
  refine GL.ld (j := 2) rfl rfl rfl rfl rfl rfl hi (by decide) hN ?_
  refine GL.ld (j := 3) rfl rfl rfl rfl rfl rfl hi (by decide) hN ?_
  refine GL.cV oX12_set (p_set_m 0 σ1 (sR S) (sL S) (xs (i + 1)) (xs (i + 2)) (xs (i + 3)) nR wR nL) rfl rfl rfl rfl rfl rfl rfl (Nat.le_of_ble_eq_true rfl) (Nat.le_of_ble_eq_true rfl) (fun σ2 q2 => ?_)
  obtain ⟨uR, uL, s2⟩ := q2
  refine G.icmp_eq rfl (fun _ => ?_) (fun q => absurd rfl q)
  have c1 : HC σ1 ((qSet (sR S) (sL S) (xs (i + 1)) (xs (i + 2)) (xs (i + 3))).2.1, sP S, sT S, sY S, sK0 S, sK1 S, sF S, (qSet (sR S) (sL S) (xs (i + 1)) (xs (i + 2)) (xs (i + 3))).2.2, sX S) := ⟨pR, cP.kept (congrFun (s1 5 (by decide)) 1) (s1 6 (by decide)), cT.kept (fun j hj => s1 _ (nin 10 7 hj rfl)), cY.kept (s1 24 (by decide)) (s1 25 (by decide)), cA.kept (fun j hj => s1 _ (nin 28 10 hj rfl)), cB.kept (fun j hj => s1 _ (nin 38 10 hj rfl)), (congrFun (s1 5 (by decide)) 8).trans cF, pL, cX.kept (congrFun (s1 67 (by decide)) 5) (s1 68 (by decide)), cy.by2 (s1 64 (by decide)) (s1 66 (by decide))⟩
  have m2 : HM σ2 ((qSet (sR S) (sL S) (xs (i + 1)) (xs (i + 2)) (xs (i + 3))).2.1, sP S, sT S, sY S, sK0 S, sK1 S, sF S, (qSet (sR S) (sL S) (xs (i + 1)) (xs (i + 2)) (xs (i + 3))).2.2, sX S) := ⟨uR, nP.kept (s2.2 11 (by decide)) (s2.1 77 (by decide) (by decide)), nT.kept (s2.1 73 (by decide) (by decide)), nY.kept (s2.1 75 (by decide) (by decide)), nA.kept (s2.1 85 (by decide) (by decide)) (s2.1 86 (by decide) (by decide)) (s2.1 87 (by decide) (by decide)), nB.kept (s2.1 85 (by decide) (by decide)) (s2.1 86 (by decide) (by decide)) (s2.1 87 (by decide) (by decide)), (s2.2 12 (by decide)).trans nF, uL, nX.kept (s2.2 40 (by decide)) (s2.1 88 (by decide) (by decide)), nh.kept s2 (by decide), (s2.2 7 (by decide)).trans nI'⟩
  exact kk σ2 ((qSet (sR S) (sL S) (xs (i + 1)) (xs (i + 2)) (xs (i + 3))).2.1, sP S, sT S, sY S, sK0 S, sK1 S, sF S, (qSet (sR S) (sL S) (xs (i + 1)) (xs (i + 2)) (xs (i + 3))).2.2, sX S) ⟨⟨sv_set wR, wP, wT, wY, wA, wB, wX⟩, wK⟩ (HC.low c1 (s2.low rfl)) m2
theorem law_copy {N : Nat} {xs : Nat → Int32} {i : Nat} {σ : am_S} {S : St} (hi : i + 6 ≤ N) (hN : N < 1073741824) (hw : wf2 S) (hc : HC σ S) (hm : HM σ S) (kk : ∀ σ' S', wf2 S' → HC σ' S' → HM σ' S' → GL N xs 1138 i [] σ') : GL N xs 254 i [] σ := by
  obtain ⟨⟨wR, wP, wT, wY, wA, wB, wX⟩, wK⟩ := id hw
  obtain ⟨cR, cP, cT, cY, cA, cB, cF, cL, cX, cy⟩ := id hc
  refine G.aload_n rfl rfl ?_
  refine GL.ld (j := 1) rfl rfl rfl rfl rfl rfl hi (by decide) hN ?_
  refine GL.ld (j := 2) rfl rfl rfl rfl rfl rfl hi (by decide) hN ?_
  refine GL.ld (j := 3) rfl rfl rfl rfl rfl rfl hi (by decide) hN ?_
  refine GL.ld (j := 4) rfl rfl rfl rfl rfl rfl hi (by decide) hN ?_
  refine GL.ld (j := 5) rfl rfl rfl rfl rfl rfl hi (by decide) hN ?_
  refine GL.cV oX11_copy (p_copy_c 0 σ (sR S) (sL S) (xs (i + 1)) (xs (i + 2)) (xs (i + 3)) (xs (i + 4)) (xs (i + 5)) cR wR cL) rfl rfl rfl rfl rfl rfl rfl (Nat.le_of_ble_eq_true rfl) (Nat.le_of_ble_eq_true rfl) (fun σ1 q1 => ?_)
  obtain ⟨pR, pL, s1⟩ := q1
  obtain ⟨nR, nP, nT, nY, nA, nB, nF, nL, nX, nh, nI'⟩ := HM.high hm (s1.high rfl)
  refine G.aload_n rfl rfl ?_
  refine GL.ld (j := 1) rfl rfl rfl rfl rfl rfl hi (by decide) hN ?_
  refine GL.ld (j := 2) rfl rfl rfl rfl rfl rfl hi (by decide) hN ?_
  refine GL.ld (j := 3) rfl rfl rfl rfl rfl rfl hi (by decide) hN ?_
  refine GL.ld (j := 4) rfl rfl rfl rfl rfl rfl hi (by decide) hN ?_
  refine GL.ld (j := 5) rfl rfl rfl rfl rfl rfl hi (by decide) hN ?_
  refine GL.cV oX12_copy (p_copy_m 0 σ1 (sR S) (sL S) (xs (i + 1)) (xs (i + 2)) (xs (i + 3)) (xs (i + 4)) (xs (i + 5)) nR wR nL) rfl rfl rfl rfl rfl rfl rfl (Nat.le_of_ble_eq_true rfl) (Nat.le_of_ble_eq_true rfl) (fun σ2 q2 => ?_)
  obtain ⟨uR, uL, s2⟩ := q2
  refine G.icmp_eq rfl (fun _ => ?_) (fun q => absurd rfl q)
  have c1 : HC σ1 ((qCopy (sR S) (sL S) (xs (i + 1)) (xs (i + 2)) (xs (i + 3)) (xs (i + 4)) (xs (i + 5))).2.1, sP S, sT S, sY S, sK0 S, sK1 S, sF S, (qCopy (sR S) (sL S) (xs (i + 1)) (xs (i + 2)) (xs (i + 3)) (xs (i + 4)) (xs (i + 5))).2.2, sX S) := ⟨pR, cP.kept (congrFun (s1 5 (by decide)) 1) (s1 6 (by decide)), cT.kept (fun j hj => s1 _ (nin 10 7 hj rfl)), cY.kept (s1 24 (by decide)) (s1 25 (by decide)), cA.kept (fun j hj => s1 _ (nin 28 10 hj rfl)), cB.kept (fun j hj => s1 _ (nin 38 10 hj rfl)), (congrFun (s1 5 (by decide)) 8).trans cF, pL, cX.kept (congrFun (s1 67 (by decide)) 5) (s1 68 (by decide)), cy.by2 (s1 64 (by decide)) (s1 66 (by decide))⟩
  have m2 : HM σ2 ((qCopy (sR S) (sL S) (xs (i + 1)) (xs (i + 2)) (xs (i + 3)) (xs (i + 4)) (xs (i + 5))).2.1, sP S, sT S, sY S, sK0 S, sK1 S, sF S, (qCopy (sR S) (sL S) (xs (i + 1)) (xs (i + 2)) (xs (i + 3)) (xs (i + 4)) (xs (i + 5))).2.2, sX S) := ⟨uR, nP.kept (s2.2 11 (by decide)) (s2.1 77 (by decide) (by decide)), nT.kept (s2.1 73 (by decide) (by decide)), nY.kept (s2.1 75 (by decide) (by decide)), nA.kept (s2.1 85 (by decide) (by decide)) (s2.1 86 (by decide) (by decide)) (s2.1 87 (by decide) (by decide)), nB.kept (s2.1 85 (by decide) (by decide)) (s2.1 86 (by decide) (by decide)) (s2.1 87 (by decide) (by decide)), (s2.2 12 (by decide)).trans nF, uL, nX.kept (s2.2 40 (by decide)) (s2.1 88 (by decide) (by decide)), nh.kept s2 (by decide), (s2.2 7 (by decide)).trans nI'⟩
  exact kk σ2 ((qCopy (sR S) (sL S) (xs (i + 1)) (xs (i + 2)) (xs (i + 3)) (xs (i + 4)) (xs (i + 5))).2.1, sP S, sT S, sY S, sK0 S, sK1 S, sF S, (qCopy (sR S) (sL S) (xs (i + 1)) (xs (i + 2)) (xs (i + 3)) (xs (i + 4)) (xs (i + 5))).2.2, sX S) ⟨⟨sv_copy wR, wP, wT, wY, wA, wB, wX⟩, wK⟩ (HC.low c1 (s2.low rfl)) m2
theorem law_drop {N : Nat} {xs : Nat → Int32} {i : Nat} {σ : am_S} {S : St} (hi : i + 6 ≤ N) (hN : N < 1073741824) (hw : wf2 S) (hc : HC σ S) (hm : HM σ S) (kk : ∀ σ' S', wf2 S' → HC σ' S' → HM σ' S' → GL N xs 1138 i [] σ') : GL N xs 317 i [] σ := by
  obtain ⟨⟨wR, wP, wT, wY, wA, wB, wX⟩, wK⟩ := id hw
  obtain ⟨cR, cP, cT, cY, cA, cB, cF, cL, cX, cy⟩ := id hc
  refine G.aload_n rfl rfl ?_
  refine GL.ld (j := 1) rfl rfl rfl rfl rfl rfl hi (by decide) hN ?_
  refine GL.cV oX11_drop (p_drop_c 0 σ (sR S) (sL S) (xs (i + 1)) cR wR cL) rfl rfl rfl rfl rfl rfl rfl (Nat.le_of_ble_eq_true rfl) (Nat.le_of_ble_eq_true rfl) (fun σ1 q1 => ?_)
  obtain ⟨pR, pL, s1⟩ := q1
  obtain ⟨nR, nP, nT, nY, nA, nB, nF, nL, nX, nh, nI'⟩ := HM.high hm (s1.high rfl)
  refine G.aload_n rfl rfl ?_
  refine GL.ld (j := 1) rfl rfl rfl rfl rfl rfl hi (by decide) hN ?_
  refine GL.cV oX12_drop (p_drop_m 0 σ1 (sR S) (sL S) (xs (i + 1)) nR wR nL) rfl rfl rfl rfl rfl rfl rfl (Nat.le_of_ble_eq_true rfl) (Nat.le_of_ble_eq_true rfl) (fun σ2 q2 => ?_)
  obtain ⟨uR, uL, s2⟩ := q2
  refine G.icmp_eq rfl (fun _ => ?_) (fun q => absurd rfl q)
  have c1 : HC σ1 ((qDrop (sR S) (sL S) (xs (i + 1))).2.1, sP S, sT S, sY S, sK0 S, sK1 S, sF S, (qDrop (sR S) (sL S) (xs (i + 1))).2.2, sX S) := ⟨pR, cP.kept (congrFun (s1 5 (by decide)) 1) (s1 6 (by decide)), cT.kept (fun j hj => s1 _ (nin 10 7 hj rfl)), cY.kept (s1 24 (by decide)) (s1 25 (by decide)), cA.kept (fun j hj => s1 _ (nin 28 10 hj rfl)), cB.kept (fun j hj => s1 _ (nin 38 10 hj rfl)), (congrFun (s1 5 (by decide)) 8).trans cF, pL, cX.kept (congrFun (s1 67 (by decide)) 5) (s1 68 (by decide)), cy.by2 (s1 64 (by decide)) (s1 66 (by decide))⟩
  have m2 : HM σ2 ((qDrop (sR S) (sL S) (xs (i + 1))).2.1, sP S, sT S, sY S, sK0 S, sK1 S, sF S, (qDrop (sR S) (sL S) (xs (i + 1))).2.2, sX S) := ⟨uR, nP.kept (s2.2 11 (by decide)) (s2.1 77 (by decide) (by decide)), nT.kept (s2.1 73 (by decide) (by decide)), nY.kept (s2.1 75 (by decide) (by decide)), nA.kept (s2.1 85 (by decide) (by decide)) (s2.1 86 (by decide) (by decide)) (s2.1 87 (by decide) (by decide)), nB.kept (s2.1 85 (by decide) (by decide)) (s2.1 86 (by decide) (by decide)) (s2.1 87 (by decide) (by decide)), (s2.2 12 (by decide)).trans nF, uL, nX.kept (s2.2 40 (by decide)) (s2.1 88 (by decide) (by decide)), nh.kept s2 (by decide), (s2.2 7 (by decide)).trans nI'⟩
  exact kk σ2 ((qDrop (sR S) (sL S) (xs (i + 1))).2.1, sP S, sT S, sY S, sK0 S, sK1 S, sF S, (qDrop (sR S) (sL S) (xs (i + 1))).2.2, sX S) ⟨⟨sv_drop wR, wP, wT, wY, wA, wB, wX⟩, wK⟩ (HC.low c1 (s2.low rfl)) m2
theorem law_feed {N : Nat} {xs : Nat → Int32} {i : Nat} {σ : am_S} {S : St} (hi : i + 6 ≤ N) (hN : N < 1073741824) (hw : wf2 S) (hc : HC σ S) (hm : HM σ S) (kk : ∀ σ' S', wf2 S' → HC σ' S' → HM σ' S' → GL N xs 1138 i [] σ') : GL N xs 340 i [] σ := by
  obtain ⟨⟨wR, wP, wT, wY, wA, wB, wX⟩, wK⟩ := id hw
  obtain ⟨cR, cP, cT, cY, cA, cB, cF, cL, cX, cy⟩ := id hc
  refine G.aload_n rfl rfl ?_
  refine GL.ld (j := 1) rfl rfl rfl rfl rfl rfl hi (by decide) hN ?_
  refine G.i2l rfl ?_
  refine G.bipush rfl ?_
  refine G.lshl rfl ?_
  refine GL.ld (j := 2) rfl rfl rfl rfl rfl rfl hi (by decide) hN ?_
  refine G.i2l rfl ?_
  refine G.ldc2 rfl ?_
  refine G.land rfl ?_
  refine G.lor rfl ?_
  refine GL.ld (j := 3) rfl rfl rfl rfl rfl rfl hi (by decide) hN ?_
  refine GL.cV oX11_feed (p_feed_c 0 σ (sP S) ((xs (i + 1)).toInt64 <<< ((32 : Int32).toInt64 &&& 63) ||| (xs (i + 2)).toInt64 &&& 4294967295) (xs (i + 3)) cP wP) rfl rfl rfl rfl rfl rfl rfl (Nat.le_of_ble_eq_true rfl) (Nat.le_of_ble_eq_true rfl) (fun σ1 q1 => ?_)
  obtain ⟨pP, s1, z1⟩ := q1
  obtain ⟨nR, nP, nT, nY, nA, nB, nF, nL, nX, nh, nI'⟩ := HM.high hm (s1.high rfl)
  refine G.aload_n rfl rfl ?_
  refine GL.ld (j := 1) rfl rfl rfl rfl rfl rfl hi (by decide) hN ?_
  refine G.i2l rfl ?_
  refine G.bipush rfl ?_
  refine G.lshl rfl ?_
  refine GL.ld (j := 2) rfl rfl rfl rfl rfl rfl hi (by decide) hN ?_
  refine G.i2l rfl ?_
  refine G.ldc2 rfl ?_
  refine G.land rfl ?_
  refine G.lor rfl ?_
  refine GL.ld (j := 3) rfl rfl rfl rfl rfl rfl hi (by decide) hN ?_
  refine GL.cV oX12_feed (p_feed_m 0 σ1 (sP S) ((xs (i + 1)).toInt64 <<< ((32 : Int32).toInt64 &&& 63) ||| (xs (i + 2)).toInt64 &&& 4294967295) (xs (i + 3)) nP wP) rfl rfl rfl rfl rfl rfl rfl (Nat.le_of_ble_eq_true rfl) (Nat.le_of_ble_eq_true rfl) (fun σ2 q2 => ?_)
  obtain ⟨uP, s2⟩ := q2
  refine G.icmp_eq rfl (fun _ => ?_) (fun q => absurd rfl q)
  have c1 : HC σ1 (sR S, (qFeed (sP S) ((xs (i + 1)).toInt64 <<< ((32 : Int32).toInt64 &&& 63) ||| (xs (i + 2)).toInt64 &&& 4294967295) (xs (i + 3))).2, sT S, sY S, sK0 S, sK1 S, sF S, sL S, sX S) := ⟨cR.kept (s1 2 (by decide)) (s1 3 (by decide)) (s1 4 (by decide)), pP, cT.kept (fun j hj => s1 _ (nin 10 7 hj rfl)), cY.kept (s1 24 (by decide)) (s1 25 (by decide)), cA.kept (fun j hj => s1 _ (nin 28 10 hj rfl)), cB.kept (fun j hj => s1 _ (nin 38 10 hj rfl)), (z1 8 (by decide)).trans cF, (congrFun (s1 0 (by decide)) 13).trans cL, cX.kept (congrFun (s1 67 (by decide)) 5) (s1 68 (by decide)), cy.by2 (s1 64 (by decide)) (s1 66 (by decide))⟩
  have m2 : HM σ2 (sR S, (qFeed (sP S) ((xs (i + 1)).toInt64 <<< ((32 : Int32).toInt64 &&& 63) ||| (xs (i + 2)).toInt64 &&& 4294967295) (xs (i + 3))).2, sT S, sY S, sK0 S, sK1 S, sF S, sL S, sX S) := ⟨nR.kept (s2.1 70 (by decide) (by decide)) (s2.1 71 (by decide) (by decide)) (s2.1 72 (by decide) (by decide)), uP, nT.kept (s2.1 73 (by decide) (by decide)), nY.kept (s2.1 75 (by decide) (by decide)), nA.kept (s2.1 85 (by decide) (by decide)) (s2.1 86 (by decide) (by decide)) (s2.1 87 (by decide) (by decide)), nB.kept (s2.1 85 (by decide) (by decide)) (s2.1 86 (by decide) (by decide)) (s2.1 87 (by decide) (by decide)), (s2.2 12 (by decide)).trans nF, (s2.2 1 (by decide)).trans nL, nX.kept (s2.2 40 (by decide)) (s2.1 88 (by decide) (by decide)), nh.kept s2 (by decide), (s2.2 7 (by decide)).trans nI'⟩
  exact kk σ2 (sR S, (qFeed (sP S) ((xs (i + 1)).toInt64 <<< ((32 : Int32).toInt64 &&& 63) ||| (xs (i + 2)).toInt64 &&& 4294967295) (xs (i + 3))).2, sT S, sY S, sK0 S, sK1 S, sF S, sL S, sX S) ⟨⟨wR, sv_feed wP, wT, wY, wA, wB, wX⟩, wK⟩ (HC.low c1 (s2.low rfl)) m2
theorem law_town {N : Nat} {xs : Nat → Int32} {i : Nat} {σ : am_S} {S : St} (hi : i + 6 ≤ N) (hN : N < 1073741824) (hw : wf2 S) (hc : HC σ S) (hm : HM σ S) (kk : ∀ σ' S', wf2 S' → HC σ' S' → HM σ' S' → GL N xs 1138 i [] σ') : GL N xs 403 i [] σ := by
  obtain ⟨⟨wR, wP, wT, wY, wA, wB, wX⟩, wK⟩ := id hw
  obtain ⟨cR, cP, cT, cY, cA, cB, cF, cL, cX, cy⟩ := id hc
  refine G.aload_n rfl rfl ?_
  refine GL.cV oX11_town (p_town_c 0 σ (sP S) (sT S) (sF S) cP wP cT cF) rfl rfl rfl rfl rfl rfl rfl (Nat.le_of_ble_eq_true rfl) (Nat.le_of_ble_eq_true rfl) (fun σ1 q1 => ?_)
  obtain ⟨pT, pP, pF, py, s1⟩ := q1
  obtain ⟨nR, nP, nT, nY, nA, nB, nF, nL, nX, nh, nI'⟩ := HM.high hm (s1.high rfl)
  refine G.aload_n rfl rfl ?_
  refine GL.cV oX12_town (p_town_m 0 σ1 (sP S) (sT S) (sF S) nP wP nT nF nI') rfl rfl rfl rfl rfl rfl rfl (Nat.le_of_ble_eq_true rfl) (Nat.le_of_ble_eq_true rfl) (fun σ2 q2 => ?_)
  obtain ⟨uT, uP, uF, uI, s2⟩ := q2
  refine G.icmp_eq rfl (fun _ => ?_) (fun q => absurd rfl q)
  have c1 : HC σ1 (sR S, (0, (sP S).2), (qTown (sP S) (sT S) (sF S)).2.1, sY S, sK0 S, sK1 S, (qTown (sP S) (sT S) (sF S)).2.2, sL S, sX S) := ⟨cR.kept (s1 2 (by decide)) (s1 3 (by decide)) (s1 4 (by decide)), pP, pT, cY.kept (s1 24 (by decide)) (s1 25 (by decide)), cA.kept (fun j hj => s1 _ (nin 28 10 hj rfl)), cB.kept (fun j hj => s1 _ (nin 38 10 hj rfl)), pF, (congrFun (s1 0 (by decide)) 13).trans cL, cX.kept (congrFun (s1 67 (by decide)) 5) (s1 68 (by decide)), py cy⟩
  have m2 : HM σ2 (sR S, (0, (sP S).2), (qTown (sP S) (sT S) (sF S)).2.1, sY S, sK0 S, sK1 S, (qTown (sP S) (sT S) (sF S)).2.2, sL S, sX S) := ⟨nR.kept (s2.1 70 (by decide) (by decide)) (s2.1 71 (by decide) (by decide)) (s2.1 72 (by decide) (by decide)), uP, uT, nY.kept (s2.1 75 (by decide) (by decide)), nA.kept (s2.1 85 (by decide) (by decide)) (s2.1 86 (by decide) (by decide)) (s2.1 87 (by decide) (by decide)), nB.kept (s2.1 85 (by decide) (by decide)) (s2.1 86 (by decide) (by decide)) (s2.1 87 (by decide) (by decide)), uF, (s2.2 1 (by decide)).trans nL, nX.kept (s2.2 40 (by decide)) (s2.1 88 (by decide) (by decide)), nh.kept s2 (by decide), uI⟩
  exact kk σ2 (sR S, (0, (sP S).2), (qTown (sP S) (sT S) (sF S)).2.1, sY S, sK0 S, sK1 S, (qTown (sP S) (sT S) (sF S)).2.2, sL S, sX S) ⟨⟨wR, ⟨Nat.zero_le _, fun j hj => absurd hj (Nat.not_lt_zero _)⟩, sv_town wT, wY, wA, wB, wX⟩, sv_tK wK⟩ (HC.low c1 (s2.low rfl)) m2
theorem law_say {N : Nat} {xs : Nat → Int32} {i : Nat} {σ : am_S} {S : St} (hi : i + 6 ≤ N) (hN : N < 1073741824) (hw : wf2 S) (hc : HC σ S) (hm : HM σ S) (kk : ∀ σ' S', wf2 S' → HC σ' S' → HM σ' S' → GL N xs 1138 i [] σ') : GL N xs 416 i [] σ := by
  obtain ⟨⟨wR, wP, wT, wY, wA, wB, wX⟩, wK⟩ := id hw
  obtain ⟨cR, cP, cT, cY, cA, cB, cF, cL, cX, cy⟩ := id hc
  refine G.aload_n rfl rfl ?_
  refine GL.cV oX11_say (p_say_c 0 σ (sP S) (sY S) (sF S) cP wP cY cF) rfl rfl rfl rfl rfl rfl rfl (Nat.le_of_ble_eq_true rfl) (Nat.le_of_ble_eq_true rfl) (fun σ1 q1 => ?_)
  obtain ⟨pY, pP, pF, s1⟩ := q1
  obtain ⟨nR, nP, nT, nY, nA, nB, nF, nL, nX, nh, nI'⟩ := HM.high hm (s1.high rfl)
  refine G.aload_n rfl rfl ?_
  refine GL.cV oX12_say (p_say_m 0 σ1 (sP S) (sY S) (sF S) nP wP nY nF) rfl rfl rfl rfl rfl rfl rfl (Nat.le_of_ble_eq_true rfl) (Nat.le_of_ble_eq_true rfl) (fun σ2 q2 => ?_)
  obtain ⟨uY, uP, uF, s2⟩ := q2
  refine G.icmp_eq rfl (fun _ => ?_) (fun q => absurd rfl q)
  have c1 : HC σ1 (sR S, (0, (sP S).2), sT S, (qSay (sP S) (sY S) (sF S)).2.1, sK0 S, sK1 S, (qSay (sP S) (sY S) (sF S)).2.2, sL S, sX S) := ⟨cR.kept (s1 2 (by decide)) (s1 3 (by decide)) (s1 4 (by decide)), pP, cT.kept (fun j hj => s1 _ (nin 10 7 hj rfl)), pY, cA.kept (fun j hj => s1 _ (nin 28 10 hj rfl)), cB.kept (fun j hj => s1 _ (nin 38 10 hj rfl)), pF, (congrFun (s1 0 (by decide)) 13).trans cL, cX.kept (congrFun (s1 67 (by decide)) 5) (s1 68 (by decide)), cy.by2 (s1 64 (by decide)) (s1 66 (by decide))⟩
  have m2 : HM σ2 (sR S, (0, (sP S).2), sT S, (qSay (sP S) (sY S) (sF S)).2.1, sK0 S, sK1 S, (qSay (sP S) (sY S) (sF S)).2.2, sL S, sX S) := ⟨nR.kept (s2.1 70 (by decide) (by decide)) (s2.1 71 (by decide) (by decide)) (s2.1 72 (by decide) (by decide)), uP, nT.kept (s2.1 73 (by decide) (by decide)), uY, nA.kept (s2.1 85 (by decide) (by decide)) (s2.1 86 (by decide) (by decide)) (s2.1 87 (by decide) (by decide)), nB.kept (s2.1 85 (by decide) (by decide)) (s2.1 86 (by decide) (by decide)) (s2.1 87 (by decide) (by decide)), uF, (s2.2 1 (by decide)).trans nL, nX.kept (s2.2 40 (by decide)) (s2.1 88 (by decide) (by decide)), nh.kept s2 (by decide), (s2.2 7 (by decide)).trans nI'⟩
  exact kk σ2 (sR S, (0, (sP S).2), sT S, (qSay (sP S) (sY S) (sF S)).2.1, sK0 S, sK1 S, (qSay (sP S) (sY S) (sF S)).2.2, sL S, sX S) ⟨⟨wR, ⟨Nat.zero_le _, fun j hj => absurd hj (Nat.not_lt_zero _)⟩, wT, sv_say wY, wA, wB, wX⟩, wK⟩ (HC.low c1 (s2.low rfl)) m2
theorem law_words {N : Nat} {xs : Nat → Int32} {i : Nat} {σ : am_S} {S : St} (hi : i + 6 ≤ N) (hN : N < 1073741824) (hw : wf2 S) (hc : HC σ S) (hm : HM σ S) (kk : ∀ σ' S', wf2 S' → HC σ' S' → HM σ' S' → GL N xs 1138 i [] σ') : GL N xs 429 i [] σ := by
  obtain ⟨⟨wR, wP, wT, wY, wA, wB, wX⟩, wK⟩ := id hw
  obtain ⟨cR, cP, cT, cY, cA, cB, cF, cL, cX, cy⟩ := id hc
  refine G.aload_n rfl rfl ?_
  refine GL.ld (j := 1) rfl rfl rfl rfl rfl rfl hi (by decide) hN ?_
  refine GL.ld (j := 2) rfl rfl rfl rfl rfl rfl hi (by decide) hN ?_
  refine GL.ld (j := 3) rfl rfl rfl rfl rfl rfl hi (by decide) hN ?_
  refine GL.cV oX11_words (p_words_c 0 σ (sR S) (sY S) (sL S) (xs (i + 1)) (xs (i + 2)) (xs (i + 3)) cR wR cY wY cL) rfl rfl rfl rfl rfl rfl rfl (Nat.le_of_ble_eq_true rfl) (Nat.le_of_ble_eq_true rfl) (fun σ1 q1 => ?_)
  obtain ⟨pY, pL, s1⟩ := q1
  obtain ⟨nR, nP, nT, nY, nA, nB, nF, nL, nX, nh, nI'⟩ := HM.high hm (s1.high rfl)
  refine G.aload_n rfl rfl ?_
  refine GL.ld (j := 1) rfl rfl rfl rfl rfl rfl hi (by decide) hN ?_
  refine GL.ld (j := 2) rfl rfl rfl rfl rfl rfl hi (by decide) hN ?_
  refine GL.ld (j := 3) rfl rfl rfl rfl rfl rfl hi (by decide) hN ?_
  refine GL.cV oX12_words (p_words_m 0 σ1 (sR S) (sY S) (sL S) (xs (i + 1)) (xs (i + 2)) (xs (i + 3)) nR wR nY wY nL) rfl rfl rfl rfl rfl rfl rfl (Nat.le_of_ble_eq_true rfl) (Nat.le_of_ble_eq_true rfl) (fun σ2 q2 => ?_)
  obtain ⟨uY, uL, s2⟩ := q2
  refine G.icmp_eq rfl (fun _ => ?_) (fun q => absurd rfl q)
  have c1 : HC σ1 (sR S, sP S, sT S, (qWords (sR S) (sY S) (sL S) (xs (i + 1)) (xs (i + 2)) (xs (i + 3))).2.1, sK0 S, sK1 S, sF S, (qWords (sR S) (sY S) (sL S) (xs (i + 1)) (xs (i + 2)) (xs (i + 3))).2.2, sX S) := ⟨cR.kept (s1 2 (by decide)) (s1 3 (by decide)) (s1 4 (by decide)), cP.kept (congrFun (s1 5 (by decide)) 1) (s1 6 (by decide)), cT.kept (fun j hj => s1 _ (nin 10 7 hj rfl)), pY, cA.kept (fun j hj => s1 _ (nin 28 10 hj rfl)), cB.kept (fun j hj => s1 _ (nin 38 10 hj rfl)), (congrFun (s1 5 (by decide)) 8).trans cF, pL, cX.kept (congrFun (s1 67 (by decide)) 5) (s1 68 (by decide)), cy.by2 (s1 64 (by decide)) (s1 66 (by decide))⟩
  have m2 : HM σ2 (sR S, sP S, sT S, (qWords (sR S) (sY S) (sL S) (xs (i + 1)) (xs (i + 2)) (xs (i + 3))).2.1, sK0 S, sK1 S, sF S, (qWords (sR S) (sY S) (sL S) (xs (i + 1)) (xs (i + 2)) (xs (i + 3))).2.2, sX S) := ⟨nR.kept (s2.1 70 (by decide) (by decide)) (s2.1 71 (by decide) (by decide)) (s2.1 72 (by decide) (by decide)), nP.kept (s2.2 11 (by decide)) (s2.1 77 (by decide) (by decide)), nT.kept (s2.1 73 (by decide) (by decide)), uY, nA.kept (s2.1 85 (by decide) (by decide)) (s2.1 86 (by decide) (by decide)) (s2.1 87 (by decide) (by decide)), nB.kept (s2.1 85 (by decide) (by decide)) (s2.1 86 (by decide) (by decide)) (s2.1 87 (by decide) (by decide)), (s2.2 12 (by decide)).trans nF, uL, nX.kept (s2.2 40 (by decide)) (s2.1 88 (by decide) (by decide)), nh.kept s2 (by decide), (s2.2 7 (by decide)).trans nI'⟩
  exact kk σ2 (sR S, sP S, sT S, (qWords (sR S) (sY S) (sL S) (xs (i + 1)) (xs (i + 2)) (xs (i + 3))).2.1, sK0 S, sK1 S, sF S, (qWords (sR S) (sY S) (sL S) (xs (i + 1)) (xs (i + 2)) (xs (i + 3))).2.2, sX S) ⟨⟨wR, wP, wT, sv_words wY, wA, wB, wX⟩, wK⟩ (HC.low c1 (s2.low rfl)) m2
theorem law_fault {N : Nat} {xs : Nat → Int32} {i : Nat} {σ : am_S} {S : St} (hi : i + 6 ≤ N) (hN : N < 1073741824) (hw : wf2 S) (hc : HC σ S) (hm : HM σ S) (kk : ∀ σ' S', wf2 S' → HC σ' S' → HM σ' S' → GL N xs 1138 i [] σ') : GL N xs 472 i [] σ := by
  obtain ⟨⟨wR, wP, wT, wY, wA, wB, wX⟩, wK⟩ := id hw
  obtain ⟨cR, cP, cT, cY, cA, cB, cF, cL, cX, cy⟩ := id hc
  refine G.aload_n rfl rfl ?_
  refine GL.cV oX11_fault (p_fault_c 0 σ ) rfl rfl rfl rfl rfl rfl rfl (Nat.le_of_ble_eq_true rfl) (Nat.le_of_ble_eq_true rfl) (fun σ1 q1 => ?_)
  subst q1
  obtain ⟨nR, nP, nT, nY, nA, nB, nF, nL, nX, nh, nI'⟩ := id hm
  refine G.aload_n rfl rfl ?_
  refine GL.cV oX12_fault (p_fault_m 0 σ1 ) rfl rfl rfl rfl rfl rfl rfl (Nat.le_of_ble_eq_true rfl) (Nat.le_of_ble_eq_true rfl) (fun σ2 q2 => ?_)
  subst q2
  have s2 : sameM [] [0] σ1 (am_s1 σ1 69 (upd (σ1 69) 0 0)) := s0M
  rw [cF, nF]
  refine G.icmp_eq rfl (fun _ => ?_) (fun q => absurd rfl q)
  have m2 : HM (am_s1 σ1 69 (upd (σ1 69) 0 0)) (sR S, sP S, sT S, sY S, sK0 S, sK1 S, sF S, sL S, sX S) := ⟨nR.kept (s2.1 70 (by decide) (by decide)) (s2.1 71 (by decide) (by decide)) (s2.1 72 (by decide) (by decide)), nP.kept (s2.2 11 (by decide)) (s2.1 77 (by decide) (by decide)), nT.kept (s2.1 73 (by decide) (by decide)), nY.kept (s2.1 75 (by decide) (by decide)), nA.kept (s2.1 85 (by decide) (by decide)) (s2.1 86 (by decide) (by decide)) (s2.1 87 (by decide) (by decide)), nB.kept (s2.1 85 (by decide) (by decide)) (s2.1 86 (by decide) (by decide)) (s2.1 87 (by decide) (by decide)), (s2.2 12 (by decide)).trans nF, (s2.2 1 (by decide)).trans nL, nX.kept (s2.2 40 (by decide)) (s2.1 88 (by decide) (by decide)), nh.kept s2 (by decide), (s2.2 7 (by decide)).trans nI'⟩
  exact kk (am_s1 σ1 69 (upd (σ1 69) 0 0)) (sR S, sP S, sT S, sY S, sK0 S, sK1 S, sF S, sL S, sX S) ⟨⟨wR, wP, wT, wY, wA, wB, wX⟩, wK⟩ (HC.low hc (s2.low rfl)) m2
theorem law_corner {N : Nat} {xs : Nat → Int32} {i : Nat} {σ : am_S} {S : St} (hi : i + 6 ≤ N) (hN : N < 1073741824) (hw : wf2 S) (hc : HC σ S) (hm : HM σ S) (kk : ∀ σ' S', wf2 S' → HC σ' S' → HM σ' S' → GL N xs 1138 i [] σ') : GL N xs 485 i [] σ := by
  obtain ⟨⟨wR, wP, wT, wY, wA, wB, wX⟩, wK⟩ := id hw
  obtain ⟨cR, cP, cT, cY, cA, cB, cF, cL, cX, cy⟩ := id hc
  refine G.aload_n rfl rfl ?_
  refine GL.ld (j := 1) rfl rfl rfl rfl rfl rfl hi (by decide) hN ?_
  refine GL.ld (j := 2) rfl rfl rfl rfl rfl rfl hi (by decide) hN ?_
  refine GL.cV oX11_corner (p_corner_c 0 σ (sT S) (xs (i + 1)) (xs (i + 2)) cT wT.1) rfl rfl rfl rfl rfl rfl rfl (Nat.le_of_ble_eq_true rfl) (Nat.le_of_ble_eq_true rfl) (fun σ1 q1 => ?_)
  subst q1
  obtain ⟨nR, nP, nT, nY, nA, nB, nF, nL, nX, nh, nI'⟩ := id hm
  refine G.aload_n rfl rfl ?_
  refine GL.ld (j := 1) rfl rfl rfl rfl rfl rfl hi (by decide) hN ?_
  refine GL.ld (j := 2) rfl rfl rfl rfl rfl rfl hi (by decide) hN ?_
  refine GL.cV oX12_corner (p_corner_m 0 σ1 (sT S) (xs (i + 1)) (xs (i + 2)) nT wT.1) rfl rfl rfl rfl rfl rfl rfl (Nat.le_of_ble_eq_true rfl) (Nat.le_of_ble_eq_true rfl) (fun σ2 q2 => ?_)
  subst q2
  have s2 : sameM [] [0] σ1 (am_s1 σ1 69 (upd (σ1 69) 0 0)) := s0M
  refine G.icmp_eq rfl (fun _ => ?_) (fun q => absurd rfl q)
  have m2 : HM (am_s1 σ1 69 (upd (σ1 69) 0 0)) (sR S, sP S, sT S, sY S, sK0 S, sK1 S, sF S, sL S, sX S) := ⟨nR.kept (s2.1 70 (by decide) (by decide)) (s2.1 71 (by decide) (by decide)) (s2.1 72 (by decide) (by decide)), nP.kept (s2.2 11 (by decide)) (s2.1 77 (by decide) (by decide)), nT.kept (s2.1 73 (by decide) (by decide)), nY.kept (s2.1 75 (by decide) (by decide)), nA.kept (s2.1 85 (by decide) (by decide)) (s2.1 86 (by decide) (by decide)) (s2.1 87 (by decide) (by decide)), nB.kept (s2.1 85 (by decide) (by decide)) (s2.1 86 (by decide) (by decide)) (s2.1 87 (by decide) (by decide)), (s2.2 12 (by decide)).trans nF, (s2.2 1 (by decide)).trans nL, nX.kept (s2.2 40 (by decide)) (s2.1 88 (by decide) (by decide)), nh.kept s2 (by decide), (s2.2 7 (by decide)).trans nI'⟩
  exact kk (am_s1 σ1 69 (upd (σ1 69) 0 0)) (sR S, sP S, sT S, sY S, sK0 S, sK1 S, sF S, sL S, sX S) ⟨⟨wR, wP, wT, wY, wA, wB, wX⟩, wK⟩ (HC.low hc (s2.low rfl)) m2
theorem law_mark {N : Nat} {xs : Nat → Int32} {i : Nat} {σ : am_S} {S : St} (hi : i + 6 ≤ N) (hN : N < 1073741824) (hw : wf2 S) (hc : HC σ S) (hm : HM σ S) (kk : ∀ σ' S', wf2 S' → HC σ' S' → HM σ' S' → GL N xs 1138 i [] σ') : GL N xs 518 i [] σ := by
  obtain ⟨⟨wR, wP, wT, wY, wA, wB, wX⟩, wK⟩ := id hw
  obtain ⟨cR, cP, cT, cY, cA, cB, cF, cL, cX, cy⟩ := id hc
  refine G.aload_n rfl rfl ?_
  refine GL.ld (j := 1) rfl rfl rfl rfl rfl rfl hi (by decide) hN ?_
  refine GL.ld (j := 2) rfl rfl rfl rfl rfl rfl hi (by decide) hN ?_
  refine GL.cV oX11_mark (p_mark_c 0 σ (sT S) (xs (i + 1)) (xs (i + 2)) cT wT.1) rfl rfl rfl rfl rfl rfl rfl (Nat.le_of_ble_eq_true rfl) (Nat.le_of_ble_eq_true rfl) (fun σ1 q1 => ?_)
  obtain ⟨pT, s1, py⟩ := q1
  obtain ⟨nR, nP, nT, nY, nA, nB, nF, nL, nX, nh, nI'⟩ := HM.high hm (s1.high rfl)
  refine G.aload_n rfl rfl ?_
  refine GL.ld (j := 1) rfl rfl rfl rfl rfl rfl hi (by decide) hN ?_
  refine GL.ld (j := 2) rfl rfl rfl rfl rfl rfl hi (by decide) hN ?_
  refine GL.cV oX12_mark (p_mark_m 0 σ1 (sT S) (xs (i + 1)) (xs (i + 2)) nT wT.1) rfl rfl rfl rfl rfl rfl rfl (Nat.le_of_ble_eq_true rfl) (Nat.le_of_ble_eq_true rfl) (fun σ2 q2 => ?_)
  obtain ⟨uT, s2⟩ := q2
  refine G.icmp_eq rfl (fun _ => ?_) (fun q => absurd rfl q)
  have c1 : HC σ1 (sR S, sP S, (qMark (sT S) (xs (i + 1)) (xs (i + 2))).2, sY S, sK0 S, sK1 S, sF S, sL S, sX S) := ⟨cR.kept (s1 2 (by decide)) (s1 3 (by decide)) (s1 4 (by decide)), cP.kept (congrFun (s1 5 (by decide)) 1) (s1 6 (by decide)), pT, cY.kept (s1 24 (by decide)) (s1 25 (by decide)), cA.kept (fun j hj => s1 _ (nin 28 10 hj rfl)), cB.kept (fun j hj => s1 _ (nin 38 10 hj rfl)), (congrFun (s1 5 (by decide)) 8).trans cF, (congrFun (s1 0 (by decide)) 13).trans cL, cX.kept (congrFun (s1 67 (by decide)) 5) (s1 68 (by decide)), (py.elim (fun z => by rw [z.2]; exact cy.by2 z.1 (s1 66 (by decide))) (fun z => Or.inl z))⟩
  have m2 : HM σ2 (sR S, sP S, (qMark (sT S) (xs (i + 1)) (xs (i + 2))).2, sY S, sK0 S, sK1 S, sF S, sL S, sX S) := ⟨nR.kept (s2.1 70 (by decide) (by decide)) (s2.1 71 (by decide) (by decide)) (s2.1 72 (by decide) (by decide)), nP.kept (s2.2 11 (by decide)) (s2.1 77 (by decide) (by decide)), uT, nY.kept (s2.1 75 (by decide) (by decide)), nA.kept (s2.1 85 (by decide) (by decide)) (s2.1 86 (by decide) (by decide)) (s2.1 87 (by decide) (by decide)), nB.kept (s2.1 85 (by decide) (by decide)) (s2.1 86 (by decide) (by decide)) (s2.1 87 (by decide) (by decide)), (s2.2 12 (by decide)).trans nF, (s2.2 1 (by decide)).trans nL, nX.kept (s2.2 40 (by decide)) (s2.1 88 (by decide) (by decide)), nh.kept s2 (by decide), ((s2.2 7 (by decide)).trans nI').trans (sv_mI wT.1)⟩
  exact kk σ2 (sR S, sP S, (qMark (sT S) (xs (i + 1)) (xs (i + 2))).2, sY S, sK0 S, sK1 S, sF S, sL S, sX S) ⟨⟨wR, wP, sv_mark2 wT, wY, wA, wB, wX⟩, sv_mK wT.1 wK⟩ (HC.low c1 (s2.low rfl)) m2
theorem law_word {N : Nat} {xs : Nat → Int32} {i : Nat} {σ : am_S} {S : St} (hi : i + 6 ≤ N) (hN : N < 1073741824) (hw : wf2 S) (hc : HC σ S) (hm : HM σ S) (kk : ∀ σ' S', wf2 S' → HC σ' S' → HM σ' S' → GL N xs 1138 i [] σ') : GL N xs 551 i [] σ := by
  obtain ⟨⟨wR, wP, wT, wY, wA, wB, wX⟩, wK⟩ := id hw
  obtain ⟨cR, cP, cT, cY, cA, cB, cF, cL, cX, cy⟩ := id hc
  refine G.aload_n rfl rfl ?_
  refine GL.ld (j := 1) rfl rfl rfl rfl rfl rfl hi (by decide) hN ?_
  refine GL.cV oX11_word (p_word_c 0 σ (sY S) (xs (i + 1)) cY wY) rfl rfl rfl rfl rfl rfl rfl (Nat.le_of_ble_eq_true rfl) (Nat.le_of_ble_eq_true rfl) (fun σ1 q1 => ?_)
  subst q1
  obtain ⟨nR, nP, nT, nY, nA, nB, nF, nL, nX, nh, nI'⟩ := id hm
  refine G.aload_n rfl rfl ?_
  refine GL.ld (j := 1) rfl rfl rfl rfl rfl rfl hi (by decide) hN ?_
  refine GL.cV oX12_word (p_word_m 0 σ1 (sY S) (xs (i + 1)) nY wY) rfl rfl rfl rfl rfl rfl rfl (Nat.le_of_ble_eq_true rfl) (Nat.le_of_ble_eq_true rfl) (fun σ2 q2 => ?_)
  subst q2
  have s2 : sameM [] [0] σ1 (am_s1 σ1 69 (upd (σ1 69) 0 0)) := s0M
  refine G.icmp_eq rfl (fun _ => ?_) (fun q => absurd rfl q)
  have m2 : HM (am_s1 σ1 69 (upd (σ1 69) 0 0)) (sR S, sP S, sT S, sY S, sK0 S, sK1 S, sF S, sL S, sX S) := ⟨nR.kept (s2.1 70 (by decide) (by decide)) (s2.1 71 (by decide) (by decide)) (s2.1 72 (by decide) (by decide)), nP.kept (s2.2 11 (by decide)) (s2.1 77 (by decide) (by decide)), nT.kept (s2.1 73 (by decide) (by decide)), nY.kept (s2.1 75 (by decide) (by decide)), nA.kept (s2.1 85 (by decide) (by decide)) (s2.1 86 (by decide) (by decide)) (s2.1 87 (by decide) (by decide)), nB.kept (s2.1 85 (by decide) (by decide)) (s2.1 86 (by decide) (by decide)) (s2.1 87 (by decide) (by decide)), (s2.2 12 (by decide)).trans nF, (s2.2 1 (by decide)).trans nL, nX.kept (s2.2 40 (by decide)) (s2.1 88 (by decide) (by decide)), nh.kept s2 (by decide), (s2.2 7 (by decide)).trans nI'⟩
  exact kk (am_s1 σ1 69 (upd (σ1 69) 0 0)) (sR S, sP S, sT S, sY S, sK0 S, sK1 S, sF S, sL S, sX S) ⟨⟨wR, wP, wT, wY, wA, wB, wX⟩, wK⟩ (HC.low hc (s2.low rfl)) m2
theorem law_walk {N : Nat} {xs : Nat → Int32} {i : Nat} {σ : am_S} {S : St} (hi : i + 6 ≤ N) (hN : N < 1073741824) (hw : wf2 S) (hc : HC σ S) (hm : HM σ S) (kk : ∀ σ' S', wf2 S' → HC σ' S' → HM σ' S' → GL N xs 1138 i [] σ') : GL N xs 574 i [] σ := by
  obtain ⟨⟨wR, wP, wT, wY, wA, wB, wX⟩, wK⟩ := id hw
  obtain ⟨cR, cP, cT, cY, cA, cB, cF, cL, cX, cy⟩ := id hc
  refine G.aload_n rfl rfl ?_
  refine GL.ld (j := 1) rfl rfl rfl rfl rfl rfl hi (by decide) hN ?_
  refine GL.ld (j := 2) rfl rfl rfl rfl rfl rfl hi (by decide) hN ?_
  refine GL.ld (j := 3) rfl rfl rfl rfl rfl rfl hi (by decide) hN ?_
  refine GL.ld (j := 4) rfl rfl rfl rfl rfl rfl hi (by decide) hN ?_
  refine GL.cV oX11_walk (p_walk_c 0 σ (sT S) (sY S) (xs (i + 1)) (xs (i + 2)) (xs (i + 3)) (xs (i + 4)) cT wT.1 cY wY) rfl rfl rfl rfl rfl rfl rfl (Nat.le_of_ble_eq_true rfl) (Nat.le_of_ble_eq_true rfl) (fun σ1 q1 => ?_)
  have s1 := q1
  obtain ⟨nR, nP, nT, nY, nA, nB, nF, nL, nX, nh, nI'⟩ := HM.high hm (s1.high rfl)
  refine G.aload_n rfl rfl ?_
  refine GL.ld (j := 1) rfl rfl rfl rfl rfl rfl hi (by decide) hN ?_
  refine GL.ld (j := 2) rfl rfl rfl rfl rfl rfl hi (by decide) hN ?_
  refine GL.ld (j := 3) rfl rfl rfl rfl rfl rfl hi (by decide) hN ?_
  refine GL.ld (j := 4) rfl rfl rfl rfl rfl rfl hi (by decide) hN ?_
  refine GL.cV oX12_walk (p_walk_m 0 σ1 (sT S) (sY S) (xs (i + 1)) (xs (i + 2)) (xs (i + 3)) (xs (i + 4)) nT wT.1 nY wY nh) rfl rfl rfl rfl rfl rfl rfl (Nat.le_of_ble_eq_true rfl) (Nat.le_of_ble_eq_true rfl) (fun σ2 q2 => ?_)
  obtain ⟨s2, uh⟩ := q2
  refine G.icmp_eq rfl (fun _ => ?_) (fun q => absurd rfl q)
  have c1 : HC σ1 (sR S, sP S, sT S, sY S, sK0 S, sK1 S, sF S, sL S, sX S) := ⟨cR.kept (s1 2 (by decide)) (s1 3 (by decide)) (s1 4 (by decide)), cP.kept (congrFun (s1 5 (by decide)) 1) (s1 6 (by decide)), cT.kept (fun j hj => s1 _ (nin 10 7 hj rfl)), cY.kept (s1 24 (by decide)) (s1 25 (by decide)), cA.kept (fun j hj => s1 _ (nin 28 10 hj rfl)), cB.kept (fun j hj => s1 _ (nin 38 10 hj rfl)), (congrFun (s1 5 (by decide)) 8).trans cF, (congrFun (s1 0 (by decide)) 13).trans cL, cX.kept (congrFun (s1 67 (by decide)) 5) (s1 68 (by decide)), cy.by2 (s1 64 (by decide)) (s1 66 (by decide))⟩
  have m2 : HM σ2 (sR S, sP S, sT S, sY S, sK0 S, sK1 S, sF S, sL S, sX S) := ⟨nR.kept (s2.1 70 (by decide) (by decide)) (s2.1 71 (by decide) (by decide)) (s2.1 72 (by decide) (by decide)), nP.kept (s2.2 11 (by decide)) (s2.1 77 (by decide) (by decide)), nT.kept (s2.1 73 (by decide) (by decide)), nY.kept (s2.1 75 (by decide) (by decide)), nA.kept (s2.1 85 (by decide) (by decide)) (s2.1 86 (by decide) (by decide)) (s2.1 87 (by decide) (by decide)), nB.kept (s2.1 85 (by decide) (by decide)) (s2.1 86 (by decide) (by decide)) (s2.1 87 (by decide) (by decide)), (s2.2 12 (by decide)).trans nF, (s2.2 1 (by decide)).trans nL, nX.kept (s2.2 40 (by decide)) (s2.1 88 (by decide) (by decide)), uh, (s2.2 7 (by decide)).trans nI'⟩
  exact kk σ2 (sR S, sP S, sT S, sY S, sK0 S, sK1 S, sF S, sL S, sX S) ⟨⟨wR, wP, wT, wY, wA, wB, wX⟩, wK⟩ (HC.low c1 (s2.low rfl)) m2
theorem law_parts {N : Nat} {xs : Nat → Int32} {i : Nat} {σ : am_S} {S : St} (hi : i + 6 ≤ N) (hN : N < 1073741824) (hw : wf2 S) (hc : HC σ S) (hm : HM σ S) (kk : ∀ σ' S', wf2 S' → HC σ' S' → HM σ' S' → GL N xs 1138 i [] σ') : GL N xs 627 i [] σ := by
  obtain ⟨⟨wR, wP, wT, wY, wA, wB, wX⟩, wK⟩ := id hw
  obtain ⟨cR, cP, cT, cY, cA, cB, cF, cL, cX, cy⟩ := id hc
  refine G.aload_n rfl rfl ?_
  refine GL.ld (j := 1) rfl rfl rfl rfl rfl rfl hi (by decide) hN ?_
  refine GL.ld (j := 2) rfl rfl rfl rfl rfl rfl hi (by decide) hN ?_
  refine GL.cV oX11_parts (p_parts_c 0 σ (sT S) (sY S) (xs (i + 1)) (xs (i + 2)) cT wT.1 cY wY) rfl rfl rfl rfl rfl rfl rfl (Nat.le_of_ble_eq_true rfl) (Nat.le_of_ble_eq_true rfl) (fun σ1 q1 => ?_)
  have s1 := q1
  obtain ⟨nR, nP, nT, nY, nA, nB, nF, nL, nX, nh, nI'⟩ := HM.high hm (s1.high rfl)
  refine G.aload_n rfl rfl ?_
  refine GL.ld (j := 1) rfl rfl rfl rfl rfl rfl hi (by decide) hN ?_
  refine GL.ld (j := 2) rfl rfl rfl rfl rfl rfl hi (by decide) hN ?_
  refine GL.cV oX12_parts (p_parts_m 0 σ1 (sT S) (sY S) (xs (i + 1)) (xs (i + 2)) nT wT.1 nY wY nh) rfl rfl rfl rfl rfl rfl rfl (Nat.le_of_ble_eq_true rfl) (Nat.le_of_ble_eq_true rfl) (fun σ2 q2 => ?_)
  obtain ⟨s2, uh⟩ := q2
  refine G.icmp_eq rfl (fun _ => ?_) (fun q => absurd rfl q)
  have c1 : HC σ1 (sR S, sP S, sT S, sY S, sK0 S, sK1 S, sF S, sL S, sX S) := ⟨cR.kept (s1 2 (by decide)) (s1 3 (by decide)) (s1 4 (by decide)), cP.kept (congrFun (s1 5 (by decide)) 1) (s1 6 (by decide)), cT.kept (fun j hj => s1 _ (nin 10 7 hj rfl)), cY.kept (s1 24 (by decide)) (s1 25 (by decide)), cA.kept (fun j hj => s1 _ (nin 28 10 hj rfl)), cB.kept (fun j hj => s1 _ (nin 38 10 hj rfl)), (congrFun (s1 5 (by decide)) 8).trans cF, (congrFun (s1 0 (by decide)) 13).trans cL, cX.kept (congrFun (s1 67 (by decide)) 5) (s1 68 (by decide)), cy.by2 (s1 64 (by decide)) (s1 66 (by decide))⟩
  have m2 : HM σ2 (sR S, sP S, sT S, sY S, sK0 S, sK1 S, sF S, sL S, sX S) := ⟨nR.kept (s2.1 70 (by decide) (by decide)) (s2.1 71 (by decide) (by decide)) (s2.1 72 (by decide) (by decide)), nP.kept (s2.2 11 (by decide)) (s2.1 77 (by decide) (by decide)), nT.kept (s2.1 73 (by decide) (by decide)), nY.kept (s2.1 75 (by decide) (by decide)), nA.kept (s2.1 85 (by decide) (by decide)) (s2.1 86 (by decide) (by decide)) (s2.1 87 (by decide) (by decide)), nB.kept (s2.1 85 (by decide) (by decide)) (s2.1 86 (by decide) (by decide)) (s2.1 87 (by decide) (by decide)), (s2.2 12 (by decide)).trans nF, (s2.2 1 (by decide)).trans nL, nX.kept (s2.2 40 (by decide)) (s2.1 88 (by decide) (by decide)), uh, (s2.2 7 (by decide)).trans nI'⟩
  exact kk σ2 (sR S, sP S, sT S, sY S, sK0 S, sK1 S, sF S, sL S, sX S) ⟨⟨wR, wP, wT, wY, wA, wB, wX⟩, wK⟩ (HC.low c1 (s2.low rfl)) m2
theorem law_apart {N : Nat} {xs : Nat → Int32} {i : Nat} {σ : am_S} {S : St} (hi : i + 6 ≤ N) (hN : N < 1073741824) (hw : wf2 S) (hc : HC σ S) (hm : HM σ S) (kk : ∀ σ' S', wf2 S' → HC σ' S' → HM σ' S' → GL N xs 1138 i [] σ') : GL N xs 660 i [] σ := by
  obtain ⟨⟨wR, wP, wT, wY, wA, wB, wX⟩, wK⟩ := id hw
  obtain ⟨cR, cP, cT, cY, cA, cB, cF, cL, cX, cy⟩ := id hc
  refine G.aload_n rfl rfl ?_
  refine GL.ld (j := 1) rfl rfl rfl rfl rfl rfl hi (by decide) hN ?_
  refine GL.ld (j := 2) rfl rfl rfl rfl rfl rfl hi (by decide) hN ?_
  refine GL.cV oX11_apart (p_apart_c 0 σ (sT S) (xs (i + 1)) (xs (i + 2)) cT wT.1) rfl rfl rfl rfl rfl rfl rfl (Nat.le_of_ble_eq_true rfl) (Nat.le_of_ble_eq_true rfl) (fun σ1 q1 => ?_)
  have s1 := q1
  obtain ⟨nR, nP, nT, nY, nA, nB, nF, nL, nX, nh, nI'⟩ := HM.high hm (s1.high rfl)
  refine G.aload_n rfl rfl ?_
  refine GL.ld (j := 1) rfl rfl rfl rfl rfl rfl hi (by decide) hN ?_
  refine GL.ld (j := 2) rfl rfl rfl rfl rfl rfl hi (by decide) hN ?_
  refine GL.cV oX12_apart (p_apart_m 0 σ1 (sT S) (xs (i + 1)) (xs (i + 2)) nT wT.1) rfl rfl rfl rfl rfl rfl rfl (Nat.le_of_ble_eq_true rfl) (Nat.le_of_ble_eq_true rfl) (fun σ2 q2 => ?_)
  have s2 := q2
  refine G.icmp_eq rfl (fun _ => ?_) (fun q => absurd rfl q)
  have c1 : HC σ1 (sR S, sP S, sT S, sY S, sK0 S, sK1 S, sF S, sL S, sX S) := ⟨cR.kept (s1 2 (by decide)) (s1 3 (by decide)) (s1 4 (by decide)), cP.kept (congrFun (s1 5 (by decide)) 1) (s1 6 (by decide)), cT.kept (fun j hj => s1 _ (nin 10 7 hj rfl)), cY.kept (s1 24 (by decide)) (s1 25 (by decide)), cA.kept (fun j hj => s1 _ (nin 28 10 hj rfl)), cB.kept (fun j hj => s1 _ (nin 38 10 hj rfl)), (congrFun (s1 5 (by decide)) 8).trans cF, (congrFun (s1 0 (by decide)) 13).trans cL, cX.kept (congrFun (s1 67 (by decide)) 5) (s1 68 (by decide)), cy.by2 (s1 64 (by decide)) (s1 66 (by decide))⟩
  have m2 : HM σ2 (sR S, sP S, sT S, sY S, sK0 S, sK1 S, sF S, sL S, sX S) := ⟨nR.kept (s2.1 70 (by decide) (by decide)) (s2.1 71 (by decide) (by decide)) (s2.1 72 (by decide) (by decide)), nP.kept (s2.2 11 (by decide)) (s2.1 77 (by decide) (by decide)), nT.kept (s2.1 73 (by decide) (by decide)), nY.kept (s2.1 75 (by decide) (by decide)), nA.kept (s2.1 85 (by decide) (by decide)) (s2.1 86 (by decide) (by decide)) (s2.1 87 (by decide) (by decide)), nB.kept (s2.1 85 (by decide) (by decide)) (s2.1 86 (by decide) (by decide)) (s2.1 87 (by decide) (by decide)), (s2.2 12 (by decide)).trans nF, (s2.2 1 (by decide)).trans nL, nX.kept (s2.2 40 (by decide)) (s2.1 88 (by decide) (by decide)), nh.kept s2 (by decide), (s2.2 7 (by decide)).trans nI'⟩
  exact kk σ2 (sR S, sP S, sT S, sY S, sK0 S, sK1 S, sF S, sL S, sX S) ⟨⟨wR, wP, wT, wY, wA, wB, wX⟩, wK⟩ (HC.low c1 (s2.low rfl)) m2
theorem law_shortest {N : Nat} {xs : Nat → Int32} {i : Nat} {σ : am_S} {S : St} (hi : i + 6 ≤ N) (hN : N < 1073741824) (hw : wf2 S) (hc : HC σ S) (hm : HM σ S) (kk : ∀ σ' S', wf2 S' → HC σ' S' → HM σ' S' → GL N xs 1138 i [] σ') : GL N xs 693 i [] σ := by
  obtain ⟨⟨wR, wP, wT, wY, wA, wB, wX⟩, wK⟩ := id hw
  obtain ⟨cR, cP, cT, cY, cA, cB, cF, cL, cX, cy⟩ := id hc
  refine G.aload_n rfl rfl ?_
  refine GL.ld (j := 1) rfl rfl rfl rfl rfl rfl hi (by decide) hN ?_
  refine GL.ld (j := 2) rfl rfl rfl rfl rfl rfl hi (by decide) hN ?_
  refine GL.ld (j := 3) rfl rfl rfl rfl rfl rfl hi (by decide) hN ?_
  refine GL.ld (j := 4) rfl rfl rfl rfl rfl rfl hi (by decide) hN ?_
  refine GL.cV oX11_shortest (p_shortest_c 0 σ (sT S) (xs (i + 1)) (xs (i + 2)) (xs (i + 3)) (xs (i + 4)) cT wT.1) rfl rfl rfl rfl rfl rfl rfl (Nat.le_of_ble_eq_true rfl) (Nat.le_of_ble_eq_true rfl) (fun σ1 q1 => ?_)
  have s1 := q1
  obtain ⟨nR, nP, nT, nY, nA, nB, nF, nL, nX, nh, nI'⟩ := HM.high hm (s1.high rfl)
  refine G.aload_n rfl rfl ?_
  refine GL.ld (j := 1) rfl rfl rfl rfl rfl rfl hi (by decide) hN ?_
  refine GL.ld (j := 2) rfl rfl rfl rfl rfl rfl hi (by decide) hN ?_
  refine GL.ld (j := 3) rfl rfl rfl rfl rfl rfl hi (by decide) hN ?_
  refine GL.ld (j := 4) rfl rfl rfl rfl rfl rfl hi (by decide) hN ?_
  refine GL.cV oX12_shortest (p_shortest_m 0 σ1 (sT S) (xs (i + 1)) (xs (i + 2)) (xs (i + 3)) (xs (i + 4)) nT wT.1 nh) rfl rfl rfl rfl rfl rfl rfl (Nat.le_of_ble_eq_true rfl) (Nat.le_of_ble_eq_true rfl) (fun σ2 q2 => ?_)
  obtain ⟨s2, uh⟩ := q2
  refine G.icmp_eq rfl (fun _ => ?_) (fun q => absurd rfl q)
  have c1 : HC σ1 (sR S, sP S, sT S, sY S, sK0 S, sK1 S, sF S, sL S, sX S) := ⟨cR.kept (s1 2 (by decide)) (s1 3 (by decide)) (s1 4 (by decide)), cP.kept (congrFun (s1 5 (by decide)) 1) (s1 6 (by decide)), cT.kept (fun j hj => s1 _ (nin 10 7 hj rfl)), cY.kept (s1 24 (by decide)) (s1 25 (by decide)), cA.kept (fun j hj => s1 _ (nin 28 10 hj rfl)), cB.kept (fun j hj => s1 _ (nin 38 10 hj rfl)), (congrFun (s1 5 (by decide)) 8).trans cF, (congrFun (s1 0 (by decide)) 13).trans cL, cX.kept (congrFun (s1 67 (by decide)) 5) (s1 68 (by decide)), cy.by2 (s1 64 (by decide)) (s1 66 (by decide))⟩
  have m2 : HM σ2 (sR S, sP S, sT S, sY S, sK0 S, sK1 S, sF S, sL S, sX S) := ⟨nR.kept (s2.1 70 (by decide) (by decide)) (s2.1 71 (by decide) (by decide)) (s2.1 72 (by decide) (by decide)), nP.kept (s2.2 11 (by decide)) (s2.1 77 (by decide) (by decide)), nT.kept (s2.1 73 (by decide) (by decide)), nY.kept (s2.1 75 (by decide) (by decide)), nA.kept (s2.1 85 (by decide) (by decide)) (s2.1 86 (by decide) (by decide)) (s2.1 87 (by decide) (by decide)), nB.kept (s2.1 85 (by decide) (by decide)) (s2.1 86 (by decide) (by decide)) (s2.1 87 (by decide) (by decide)), (s2.2 12 (by decide)).trans nF, (s2.2 1 (by decide)).trans nL, nX.kept (s2.2 40 (by decide)) (s2.1 88 (by decide) (by decide)), uh, (s2.2 7 (by decide)).trans nI'⟩
  exact kk σ2 (sR S, sP S, sT S, sY S, sK0 S, sK1 S, sF S, sL S, sX S) ⟨⟨wR, wP, wT, wY, wA, wB, wX⟩, wK⟩ (HC.low c1 (s2.low rfl)) m2
theorem law_soonest {N : Nat} {xs : Nat → Int32} {i : Nat} {σ : am_S} {S : St} (hi : i + 6 ≤ N) (hN : N < 1073741824) (hw : wf2 S) (hc : HC σ S) (hm : HM σ S) (kk : ∀ σ' S', wf2 S' → HC σ' S' → HM σ' S' → GL N xs 1138 i [] σ') : GL N xs 746 i [] σ := by
  obtain ⟨⟨wR, wP, wT, wY, wA, wB, wX⟩, wK⟩ := id hw
  obtain ⟨cR, cP, cT, cY, cA, cB, cF, cL, cX, cy⟩ := id hc
  refine G.aload_n rfl rfl ?_
  refine GL.ld (j := 1) rfl rfl rfl rfl rfl rfl hi (by decide) hN ?_
  refine GL.ld (j := 2) rfl rfl rfl rfl rfl rfl hi (by decide) hN ?_
  refine GL.cV oX11_soonest (p_soonest_c 0 σ (sT S) (xs (i + 1)) (xs (i + 2)) cT wT.1) rfl rfl rfl rfl rfl rfl rfl (Nat.le_of_ble_eq_true rfl) (Nat.le_of_ble_eq_true rfl) (fun σ1 q1 => ?_)
  have s1 := q1
  obtain ⟨nR, nP, nT, nY, nA, nB, nF, nL, nX, nh, nI'⟩ := HM.high hm (s1.high rfl)
  refine G.aload_n rfl rfl ?_
  refine GL.ld (j := 1) rfl rfl rfl rfl rfl rfl hi (by decide) hN ?_
  refine GL.ld (j := 2) rfl rfl rfl rfl rfl rfl hi (by decide) hN ?_
  refine GL.cV oX12_soonest (p_soonest_m 0 σ1 (sT S) (xs (i + 1)) (xs (i + 2)) nT wT.1 nh) rfl rfl rfl rfl rfl rfl rfl (Nat.le_of_ble_eq_true rfl) (Nat.le_of_ble_eq_true rfl) (fun σ2 q2 => ?_)
  obtain ⟨s2, uh⟩ := q2
  refine G.icmp_eq rfl (fun _ => ?_) (fun q => absurd rfl q)
  have c1 : HC σ1 (sR S, sP S, sT S, sY S, sK0 S, sK1 S, sF S, sL S, sX S) := ⟨cR.kept (s1 2 (by decide)) (s1 3 (by decide)) (s1 4 (by decide)), cP.kept (congrFun (s1 5 (by decide)) 1) (s1 6 (by decide)), cT.kept (fun j hj => s1 _ (nin 10 7 hj rfl)), cY.kept (s1 24 (by decide)) (s1 25 (by decide)), cA.kept (fun j hj => s1 _ (nin 28 10 hj rfl)), cB.kept (fun j hj => s1 _ (nin 38 10 hj rfl)), (congrFun (s1 5 (by decide)) 8).trans cF, (congrFun (s1 0 (by decide)) 13).trans cL, cX.kept (congrFun (s1 67 (by decide)) 5) (s1 68 (by decide)), cy.by2 (s1 64 (by decide)) (s1 66 (by decide))⟩
  have m2 : HM σ2 (sR S, sP S, sT S, sY S, sK0 S, sK1 S, sF S, sL S, sX S) := ⟨nR.kept (s2.1 70 (by decide) (by decide)) (s2.1 71 (by decide) (by decide)) (s2.1 72 (by decide) (by decide)), nP.kept (s2.2 11 (by decide)) (s2.1 77 (by decide) (by decide)), nT.kept (s2.1 73 (by decide) (by decide)), nY.kept (s2.1 75 (by decide) (by decide)), nA.kept (s2.1 85 (by decide) (by decide)) (s2.1 86 (by decide) (by decide)) (s2.1 87 (by decide) (by decide)), nB.kept (s2.1 85 (by decide) (by decide)) (s2.1 86 (by decide) (by decide)) (s2.1 87 (by decide) (by decide)), (s2.2 12 (by decide)).trans nF, (s2.2 1 (by decide)).trans nL, nX.kept (s2.2 40 (by decide)) (s2.1 88 (by decide) (by decide)), uh, (s2.2 7 (by decide)).trans nI'⟩
  exact kk σ2 (sR S, sP S, sT S, sY S, sK0 S, sK1 S, sF S, sL S, sX S) ⟨⟨wR, wP, wT, wY, wA, wB, wX⟩, wK⟩ (HC.low c1 (s2.low rfl)) m2
theorem law_laid {N : Nat} {xs : Nat → Int32} {i : Nat} {σ : am_S} {S : St} (hi : i + 6 ≤ N) (hN : N < 1073741824) (hw : wf2 S) (hc : HC σ S) (hm : HM σ S) (kk : ∀ σ' S', wf2 S' → HC σ' S' → HM σ' S' → GL N xs 1138 i [] σ') : GL N xs 779 i [] σ := by
  obtain ⟨⟨wR, wP, wT, wY, wA, wB, wX⟩, wK⟩ := id hw
  obtain ⟨cR, cP, cT, cY, cA, cB, cF, cL, cX, cy⟩ := id hc
  refine G.aload_n rfl rfl ?_
  refine GL.ld (j := 1) rfl rfl rfl rfl rfl rfl hi (by decide) hN ?_
  refine GL.ld (j := 2) rfl rfl rfl rfl rfl rfl hi (by decide) hN ?_
  refine GL.ld (j := 3) rfl rfl rfl rfl rfl rfl hi (by decide) hN ?_
  refine GL.cV oX11_laid (p_laid_c 0 σ (sT S) (xs (i + 1)) (xs (i + 2)) (xs (i + 3)) cT wT.1 cy) rfl rfl rfl rfl rfl rfl rfl (Nat.le_of_ble_eq_true rfl) (Nat.le_of_ble_eq_true rfl) (fun σ1 q1 => ?_)
  obtain ⟨s1, py⟩ := q1
  obtain ⟨nR, nP, nT, nY, nA, nB, nF, nL, nX, nh, nI'⟩ := HM.high hm (s1.high rfl)
  refine G.aload_n rfl rfl ?_
  refine GL.ld (j := 1) rfl rfl rfl rfl rfl rfl hi (by decide) hN ?_
  refine GL.ld (j := 2) rfl rfl rfl rfl rfl rfl hi (by decide) hN ?_
  refine GL.ld (j := 3) rfl rfl rfl rfl rfl rfl hi (by decide) hN ?_
  refine GL.cV oX12_laid (p_laid_m 0 σ1 (sT S) (xs (i + 1)) (xs (i + 2)) (xs (i + 3)) nT wT.1) rfl rfl rfl rfl rfl rfl rfl (Nat.le_of_ble_eq_true rfl) (Nat.le_of_ble_eq_true rfl) (fun σ2 q2 => ?_)
  have s2 := q2
  refine G.icmp_eq rfl (fun _ => ?_) (fun q => absurd rfl q)
  have c1 : HC σ1 (sR S, sP S, sT S, sY S, sK0 S, sK1 S, sF S, sL S, sX S) := ⟨cR.kept (s1 2 (by decide)) (s1 3 (by decide)) (s1 4 (by decide)), cP.kept (congrFun (s1 5 (by decide)) 1) (s1 6 (by decide)), cT.kept (fun j hj => s1 _ (nin 10 7 hj rfl)), cY.kept (s1 24 (by decide)) (s1 25 (by decide)), cA.kept (fun j hj => s1 _ (nin 28 10 hj rfl)), cB.kept (fun j hj => s1 _ (nin 38 10 hj rfl)), (congrFun (s1 5 (by decide)) 8).trans cF, (congrFun (s1 0 (by decide)) 13).trans cL, cX.kept (congrFun (s1 67 (by decide)) 5) (s1 68 (by decide)), py⟩
  have m2 : HM σ2 (sR S, sP S, sT S, sY S, sK0 S, sK1 S, sF S, sL S, sX S) := ⟨nR.kept (s2.1 70 (by decide) (by decide)) (s2.1 71 (by decide) (by decide)) (s2.1 72 (by decide) (by decide)), nP.kept (s2.2 11 (by decide)) (s2.1 77 (by decide) (by decide)), nT.kept (s2.1 73 (by decide) (by decide)), nY.kept (s2.1 75 (by decide) (by decide)), nA.kept (s2.1 85 (by decide) (by decide)) (s2.1 86 (by decide) (by decide)) (s2.1 87 (by decide) (by decide)), nB.kept (s2.1 85 (by decide) (by decide)) (s2.1 86 (by decide) (by decide)) (s2.1 87 (by decide) (by decide)), (s2.2 12 (by decide)).trans nF, (s2.2 1 (by decide)).trans nL, nX.kept (s2.2 40 (by decide)) (s2.1 88 (by decide) (by decide)), nh.kept s2 (by decide), (s2.2 7 (by decide)).trans nI'⟩
  exact kk σ2 (sR S, sP S, sT S, sY S, sK0 S, sK1 S, sF S, sL S, sX S) ⟨⟨wR, wP, wT, wY, wA, wB, wX⟩, wK⟩ (HC.low c1 (s2.low rfl)) m2
theorem law_ends {N : Nat} {xs : Nat → Int32} {i : Nat} {σ : am_S} {S : St} (hi : i + 6 ≤ N) (hN : N < 1073741824) (hw : wf2 S) (hc : HC σ S) (hm : HM σ S) (kk : ∀ σ' S', wf2 S' → HC σ' S' → HM σ' S' → GL N xs 1138 i [] σ') : GL N xs 822 i [] σ := by
  obtain ⟨⟨wR, wP, wT, wY, wA, wB, wX⟩, wK⟩ := id hw
  obtain ⟨cR, cP, cT, cY, cA, cB, cF, cL, cX, cy⟩ := id hc
  refine G.aload_n rfl rfl ?_
  refine GL.cV oX11_ends (p_ends_c 0 σ (sT S) cT wT.1 cy) rfl rfl rfl rfl rfl rfl rfl (Nat.le_of_ble_eq_true rfl) (Nat.le_of_ble_eq_true rfl) (fun σ1 q1 => ?_)
  obtain ⟨s1, py⟩ := q1
  obtain ⟨nR, nP, nT, nY, nA, nB, nF, nL, nX, nh, nI'⟩ := HM.high hm (s1.high rfl)
  refine G.aload_n rfl rfl ?_
  refine GL.cV oX12_ends_ (p_ends_m 0 σ1 (sT S) nT wT.1 nI') rfl rfl rfl rfl rfl rfl rfl (Nat.le_of_ble_eq_true rfl) (Nat.le_of_ble_eq_true rfl) (fun σ2 q2 => ?_)
  have s2 := q2
  refine G.icmp_eq rfl (fun _ => ?_) (fun q => absurd rfl q)
  have c1 : HC σ1 (sR S, sP S, sT S, sY S, sK0 S, sK1 S, sF S, sL S, sX S) := ⟨cR.kept (s1 2 (by decide)) (s1 3 (by decide)) (s1 4 (by decide)), cP.kept (congrFun (s1 5 (by decide)) 1) (s1 6 (by decide)), cT.kept (fun j hj => s1 _ (nin 10 7 hj rfl)), cY.kept (s1 24 (by decide)) (s1 25 (by decide)), cA.kept (fun j hj => s1 _ (nin 28 10 hj rfl)), cB.kept (fun j hj => s1 _ (nin 38 10 hj rfl)), (congrFun (s1 5 (by decide)) 8).trans cF, (congrFun (s1 0 (by decide)) 13).trans cL, cX.kept (congrFun (s1 67 (by decide)) 5) (s1 68 (by decide)), py⟩
  have m2 : HM σ2 (sR S, sP S, sT S, sY S, sK0 S, sK1 S, sF S, sL S, sX S) := ⟨nR.kept (s2.1 70 (by decide) (by decide)) (s2.1 71 (by decide) (by decide)) (s2.1 72 (by decide) (by decide)), nP.kept (s2.2 11 (by decide)) (s2.1 77 (by decide) (by decide)), nT.kept (s2.1 73 (by decide) (by decide)), nY.kept (s2.1 75 (by decide) (by decide)), nA.kept (s2.1 85 (by decide) (by decide)) (s2.1 86 (by decide) (by decide)) (s2.1 87 (by decide) (by decide)), nB.kept (s2.1 85 (by decide) (by decide)) (s2.1 86 (by decide) (by decide)) (s2.1 87 (by decide) (by decide)), (s2.2 12 (by decide)).trans nF, (s2.2 1 (by decide)).trans nL, nX.kept (s2.2 40 (by decide)) (s2.1 88 (by decide) (by decide)), nh.kept s2 (by decide), (s2.2 7 (by decide)).trans nI'⟩
  exact kk σ2 (sR S, sP S, sT S, sY S, sK0 S, sK1 S, sF S, sL S, sX S) ⟨⟨wR, wP, wT, wY, wA, wB, wX⟩, wK⟩ (HC.low c1 (s2.low rfl)) m2
theorem law_lost {N : Nat} {xs : Nat → Int32} {i : Nat} {σ : am_S} {S : St} (hi : i + 6 ≤ N) (hN : N < 1073741824) (hw : wf2 S) (hc : HC σ S) (hm : HM σ S) (kk : ∀ σ' S', wf2 S' → HC σ' S' → HM σ' S' → GL N xs 1138 i [] σ') : GL N xs 835 i [] σ := by
  obtain ⟨⟨wR, wP, wT, wY, wA, wB, wX⟩, wK⟩ := id hw
  obtain ⟨cR, cP, cT, cY, cA, cB, cF, cL, cX, cy⟩ := id hc
  refine G.aload_n rfl rfl ?_
  refine GL.ld (j := 1) rfl rfl rfl rfl rfl rfl hi (by decide) hN ?_
  refine GL.cV oX11_lost (p_lost_c 0 σ (sT S) (sY S) (xs (i + 1)) cT wT.1 cY wY) rfl rfl rfl rfl rfl rfl rfl (Nat.le_of_ble_eq_true rfl) (Nat.le_of_ble_eq_true rfl) (fun σ1 q1 => ?_)
  have s1 := q1
  obtain ⟨nR, nP, nT, nY, nA, nB, nF, nL, nX, nh, nI'⟩ := HM.high hm (s1.high rfl)
  refine G.aload_n rfl rfl ?_
  refine GL.ld (j := 1) rfl rfl rfl rfl rfl rfl hi (by decide) hN ?_
  refine GL.cV oX12_lost (p_lost_m 0 σ1 (sT S) (sY S) (xs (i + 1)) nT wT.1 nY wY nh) rfl rfl rfl rfl rfl rfl rfl (Nat.le_of_ble_eq_true rfl) (Nat.le_of_ble_eq_true rfl) (fun σ2 q2 => ?_)
  obtain ⟨s2, uh⟩ := q2
  refine G.icmp_eq rfl (fun _ => ?_) (fun q => absurd rfl q)
  have c1 : HC σ1 (sR S, sP S, sT S, sY S, sK0 S, sK1 S, sF S, sL S, sX S) := ⟨cR.kept (s1 2 (by decide)) (s1 3 (by decide)) (s1 4 (by decide)), cP.kept (congrFun (s1 5 (by decide)) 1) (s1 6 (by decide)), cT.kept (fun j hj => s1 _ (nin 10 7 hj rfl)), cY.kept (s1 24 (by decide)) (s1 25 (by decide)), cA.kept (fun j hj => s1 _ (nin 28 10 hj rfl)), cB.kept (fun j hj => s1 _ (nin 38 10 hj rfl)), (congrFun (s1 5 (by decide)) 8).trans cF, (congrFun (s1 0 (by decide)) 13).trans cL, cX.kept (congrFun (s1 67 (by decide)) 5) (s1 68 (by decide)), cy.by2 (s1 64 (by decide)) (s1 66 (by decide))⟩
  have m2 : HM σ2 (sR S, sP S, sT S, sY S, sK0 S, sK1 S, sF S, sL S, sX S) := ⟨nR.kept (s2.1 70 (by decide) (by decide)) (s2.1 71 (by decide) (by decide)) (s2.1 72 (by decide) (by decide)), nP.kept (s2.2 11 (by decide)) (s2.1 77 (by decide) (by decide)), nT.kept (s2.1 73 (by decide) (by decide)), nY.kept (s2.1 75 (by decide) (by decide)), nA.kept (s2.1 85 (by decide) (by decide)) (s2.1 86 (by decide) (by decide)) (s2.1 87 (by decide) (by decide)), nB.kept (s2.1 85 (by decide) (by decide)) (s2.1 86 (by decide) (by decide)) (s2.1 87 (by decide) (by decide)), (s2.2 12 (by decide)).trans nF, (s2.2 1 (by decide)).trans nL, nX.kept (s2.2 40 (by decide)) (s2.1 88 (by decide) (by decide)), uh, (s2.2 7 (by decide)).trans nI'⟩
  exact kk σ2 (sR S, sP S, sT S, sY S, sK0 S, sK1 S, sF S, sL S, sX S) ⟨⟨wR, wP, wT, wY, wA, wB, wX⟩, wK⟩ (HC.low c1 (s2.low rfl)) m2
theorem law_meet {N : Nat} {xs : Nat → Int32} {i : Nat} {σ : am_S} {S : St} (hi : i + 6 ≤ N) (hN : N < 1073741824) (hw : wf2 S) (hc : HC σ S) (hm : HM σ S) (kk : ∀ σ' S', wf2 S' → HC σ' S' → HM σ' S' → GL N xs 1138 i [] σ') : GL N xs 858 i [] σ := by
  obtain ⟨⟨wR, wP, wT, wY, wA, wB, wX⟩, wK⟩ := id hw
  obtain ⟨cR, cP, cT, cY, cA, cB, cF, cL, cX, cy⟩ := id hc
  refine G.aload_n rfl rfl ?_
  refine GL.ld (j := 1) rfl rfl rfl rfl rfl rfl hi (by decide) hN ?_
  refine GL.ld (j := 2) rfl rfl rfl rfl rfl rfl hi (by decide) hN ?_
  refine GL.ld (j := 3) rfl rfl rfl rfl rfl rfl hi (by decide) hN ?_
  refine GL.cV oX11_meet (p_meet_c 0 σ (sT S) (sY S) (xs (i + 1)) (xs (i + 2)) (xs (i + 3)) cT wT.1 cY wY) rfl rfl rfl rfl rfl rfl rfl (Nat.le_of_ble_eq_true rfl) (Nat.le_of_ble_eq_true rfl) (fun σ1 q1 => ?_)
  have s1 := q1
  obtain ⟨nR, nP, nT, nY, nA, nB, nF, nL, nX, nh, nI'⟩ := HM.high hm (s1.high rfl)
  refine G.aload_n rfl rfl ?_
  refine GL.ld (j := 1) rfl rfl rfl rfl rfl rfl hi (by decide) hN ?_
  refine GL.ld (j := 2) rfl rfl rfl rfl rfl rfl hi (by decide) hN ?_
  refine GL.ld (j := 3) rfl rfl rfl rfl rfl rfl hi (by decide) hN ?_
  refine GL.cV oX12_meet (p_meet_m 0 σ1 (sT S) (sY S) (xs (i + 1)) (xs (i + 2)) (xs (i + 3)) nT wT.1 nY wY nh) rfl rfl rfl rfl rfl rfl rfl (Nat.le_of_ble_eq_true rfl) (Nat.le_of_ble_eq_true rfl) (fun σ2 q2 => ?_)
  obtain ⟨s2, uh⟩ := q2
  refine G.icmp_eq rfl (fun _ => ?_) (fun q => absurd rfl q)
  have c1 : HC σ1 (sR S, sP S, sT S, sY S, sK0 S, sK1 S, sF S, sL S, sX S) := ⟨cR.kept (s1 2 (by decide)) (s1 3 (by decide)) (s1 4 (by decide)), cP.kept (congrFun (s1 5 (by decide)) 1) (s1 6 (by decide)), cT.kept (fun j hj => s1 _ (nin 10 7 hj rfl)), cY.kept (s1 24 (by decide)) (s1 25 (by decide)), cA.kept (fun j hj => s1 _ (nin 28 10 hj rfl)), cB.kept (fun j hj => s1 _ (nin 38 10 hj rfl)), (congrFun (s1 5 (by decide)) 8).trans cF, (congrFun (s1 0 (by decide)) 13).trans cL, cX.kept (congrFun (s1 67 (by decide)) 5) (s1 68 (by decide)), cy.by2 (s1 64 (by decide)) (s1 66 (by decide))⟩
  have m2 : HM σ2 (sR S, sP S, sT S, sY S, sK0 S, sK1 S, sF S, sL S, sX S) := ⟨nR.kept (s2.1 70 (by decide) (by decide)) (s2.1 71 (by decide) (by decide)) (s2.1 72 (by decide) (by decide)), nP.kept (s2.2 11 (by decide)) (s2.1 77 (by decide) (by decide)), nT.kept (s2.1 73 (by decide) (by decide)), nY.kept (s2.1 75 (by decide) (by decide)), nA.kept (s2.1 85 (by decide) (by decide)) (s2.1 86 (by decide) (by decide)) (s2.1 87 (by decide) (by decide)), nB.kept (s2.1 85 (by decide) (by decide)) (s2.1 86 (by decide) (by decide)) (s2.1 87 (by decide) (by decide)), (s2.2 12 (by decide)).trans nF, (s2.2 1 (by decide)).trans nL, nX.kept (s2.2 40 (by decide)) (s2.1 88 (by decide) (by decide)), uh, (s2.2 7 (by decide)).trans nI'⟩
  exact kk σ2 (sR S, sP S, sT S, sY S, sK0 S, sK1 S, sF S, sL S, sX S) ⟨⟨wR, wP, wT, wY, wA, wB, wX⟩, wK⟩ (HC.low c1 (s2.low rfl)) m2
theorem law_gloves {N : Nat} {xs : Nat → Int32} {i : Nat} {σ : am_S} {S : St} (hi : i + 6 ≤ N) (hN : N < 1073741824) (hw : wf2 S) (hc : HC σ S) (hm : HM σ S) (kk : ∀ σ' S', wf2 S' → HC σ' S' → HM σ' S' → GL N xs 1138 i [] σ') : GL N xs 901 i [] σ := by
  obtain ⟨⟨wR, wP, wT, wY, wA, wB, wX⟩, wK⟩ := id hw
  obtain ⟨cR, cP, cT, cY, cA, cB, cF, cL, cX, cy⟩ := id hc
  refine G.aload_n rfl rfl ?_
  refine GL.ld (j := 1) rfl rfl rfl rfl rfl rfl hi (by decide) hN ?_
  refine GL.ld (j := 2) rfl rfl rfl rfl rfl rfl hi (by decide) hN ?_
  refine GL.ld (j := 3) rfl rfl rfl rfl rfl rfl hi (by decide) hN ?_
  refine GL.cV oX11_gloves (p_gloves_c 0 σ (xs (i + 1)) (xs (i + 2)) (xs (i + 3))) rfl rfl rfl rfl rfl rfl rfl (Nat.le_of_ble_eq_true rfl) (Nat.le_of_ble_eq_true rfl) (fun σ1 q1 => ?_)
  subst q1
  obtain ⟨nR, nP, nT, nY, nA, nB, nF, nL, nX, nh, nI'⟩ := id hm
  refine G.aload_n rfl rfl ?_
  refine GL.ld (j := 1) rfl rfl rfl rfl rfl rfl hi (by decide) hN ?_
  refine GL.ld (j := 2) rfl rfl rfl rfl rfl rfl hi (by decide) hN ?_
  refine GL.ld (j := 3) rfl rfl rfl rfl rfl rfl hi (by decide) hN ?_
  refine GL.cV oX12_gloves (p_gloves_m 0 σ1 (xs (i + 1)) (xs (i + 2)) (xs (i + 3))) rfl rfl rfl rfl rfl rfl rfl (Nat.le_of_ble_eq_true rfl) (Nat.le_of_ble_eq_true rfl) (fun σ2 q2 => ?_)
  subst q2
  have s2 : sameM [] [0] σ1 (am_s1 σ1 69 (upd (σ1 69) 0 0)) := s0M
  refine G.icmp_eq rfl (fun _ => ?_) (fun q => absurd rfl q)
  have m2 : HM (am_s1 σ1 69 (upd (σ1 69) 0 0)) (sR S, sP S, sT S, sY S, sK0 S, sK1 S, sF S, sL S, sX S) := ⟨nR.kept (s2.1 70 (by decide) (by decide)) (s2.1 71 (by decide) (by decide)) (s2.1 72 (by decide) (by decide)), nP.kept (s2.2 11 (by decide)) (s2.1 77 (by decide) (by decide)), nT.kept (s2.1 73 (by decide) (by decide)), nY.kept (s2.1 75 (by decide) (by decide)), nA.kept (s2.1 85 (by decide) (by decide)) (s2.1 86 (by decide) (by decide)) (s2.1 87 (by decide) (by decide)), nB.kept (s2.1 85 (by decide) (by decide)) (s2.1 86 (by decide) (by decide)) (s2.1 87 (by decide) (by decide)), (s2.2 12 (by decide)).trans nF, (s2.2 1 (by decide)).trans nL, nX.kept (s2.2 40 (by decide)) (s2.1 88 (by decide) (by decide)), nh.kept s2 (by decide), (s2.2 7 (by decide)).trans nI'⟩
  exact kk (am_s1 σ1 69 (upd (σ1 69) 0 0)) (sR S, sP S, sT S, sY S, sK0 S, sK1 S, sF S, sL S, sX S) ⟨⟨wR, wP, wT, wY, wA, wB, wX⟩, wK⟩ (HC.low hc (s2.low rfl)) m2
theorem law_image {N : Nat} {xs : Nat → Int32} {i : Nat} {σ : am_S} {S : St} (hi : i + 6 ≤ N) (hN : N < 1073741824) (hw : wf2 S) (hc : HC σ S) (hm : HM σ S) (kk : ∀ σ' S', wf2 S' → HC σ' S' → HM σ' S' → GL N xs 1138 i [] σ') : GL N xs 944 i [] σ := by
  obtain ⟨⟨wR, wP, wT, wY, wA, wB, wX⟩, wK⟩ := id hw
  obtain ⟨cR, cP, cT, cY, cA, cB, cF, cL, cX, cy⟩ := id hc
  refine G.aload_n rfl rfl ?_
  refine GL.ld (j := 1) rfl rfl rfl rfl rfl rfl hi (by decide) hN ?_
  refine GL.cV oX11_image (p_image_c 0 σ (sT S) (sY S) (sK0 S) (sK1 S) (xs (i + 1)) cT wT.1 cY wY cA cB) rfl rfl rfl rfl rfl rfl rfl (Nat.le_of_ble_eq_true rfl) (Nat.le_of_ble_eq_true rfl) (fun σ1 q1 => ?_)
  obtain ⟨pA, pB, s1⟩ := q1
  obtain ⟨nR, nP, nT, nY, nA, nB, nF, nL, nX, nh, nI'⟩ := HM.high hm (s1.high rfl)
  refine G.aload_n rfl rfl ?_
  refine GL.ld (j := 1) rfl rfl rfl rfl rfl rfl hi (by decide) hN ?_
  refine GL.cV oX12_image (p_image_m 0 σ1 (sT S) (sY S) (sK0 S) (sK1 S) (xs (i + 1)) nT wT.1 nY wY nA nB nI' wA wB) rfl rfl rfl rfl rfl rfl rfl (Nat.le_of_ble_eq_true rfl) (Nat.le_of_ble_eq_true rfl) (fun σ2 q2 => ?_)
  obtain ⟨uA, uB, s2⟩ := q2
  refine G.icmp_eq rfl (fun _ => ?_) (fun q => absurd rfl q)
  have c1 : HC σ1 (sR S, sP S, sT S, sY S, (qImage (sT S) (sY S) (sK0 S) (sK1 S) (xs (i + 1))).2.1, (qImage (sT S) (sY S) (sK0 S) (sK1 S) (xs (i + 1))).2.2, sF S, sL S, sX S) := ⟨cR.kept (s1 2 (by decide)) (s1 3 (by decide)) (s1 4 (by decide)), cP.kept (congrFun (s1 5 (by decide)) 1) (s1 6 (by decide)), cT.kept (fun j hj => s1 _ (nin 10 7 hj rfl)), cY.kept (s1 24 (by decide)) (s1 25 (by decide)), pA, pB, (congrFun (s1 5 (by decide)) 8).trans cF, (congrFun (s1 0 (by decide)) 13).trans cL, cX.kept (congrFun (s1 67 (by decide)) 5) (s1 68 (by decide)), cy.by2 (s1 64 (by decide)) (s1 66 (by decide))⟩
  have m2 : HM σ2 (sR S, sP S, sT S, sY S, (qImage (sT S) (sY S) (sK0 S) (sK1 S) (xs (i + 1))).2.1, (qImage (sT S) (sY S) (sK0 S) (sK1 S) (xs (i + 1))).2.2, sF S, sL S, sX S) := ⟨nR.kept (s2.1 70 (by decide) (by decide)) (s2.1 71 (by decide) (by decide)) (s2.1 72 (by decide) (by decide)), nP.kept (s2.2 11 (by decide)) (s2.1 77 (by decide) (by decide)), nT.kept (s2.1 73 (by decide) (by decide)), nY.kept (s2.1 75 (by decide) (by decide)), uA, uB, (s2.2 12 (by decide)).trans nF, (s2.2 1 (by decide)).trans nL, nX.kept (s2.2 40 (by decide)) (s2.1 88 (by decide) (by decide)), nh.kept s2 (by decide), (s2.2 7 (by decide)).trans nI'⟩
  exact kk σ2 (sR S, sP S, sT S, sY S, (qImage (sT S) (sY S) (sK0 S) (sK1 S) (xs (i + 1))).2.1, (qImage (sT S) (sY S) (sK0 S) (sK1 S) (xs (i + 1))).2.2, sF S, sL S, sX S) ⟨⟨wR, wP, wT, wY, (sv_image wT wY wA wB).1, (sv_image wT wY wA wB).2, wX⟩, sv_iK wK⟩ (HC.low c1 (s2.low rfl)) m2
theorem law_restore {N : Nat} {xs : Nat → Int32} {i : Nat} {σ : am_S} {S : St} (hi : i + 6 ≤ N) (hN : N < 1073741824) (hw : wf2 S) (hc : HC σ S) (hm : HM σ S) (kk : ∀ σ' S', wf2 S' → HC σ' S' → HM σ' S' → GL N xs 1138 i [] σ') : GL N xs 967 i [] σ := by
  obtain ⟨⟨wR, wP, wT, wY, wA, wB, wX⟩, wK⟩ := id hw
  obtain ⟨cR, cP, cT, cY, cA, cB, cF, cL, cX, cy⟩ := id hc
  refine G.aload_n rfl rfl ?_
  refine GL.ld (j := 1) rfl rfl rfl rfl rfl rfl hi (by decide) hN ?_
  refine GL.cV oX11_restore (p_restore_c 0 σ (sT S) (sY S) (sK0 S) (sK1 S) (xs (i + 1)) cT wT.1 cY wY cA cB wA wB) rfl rfl rfl rfl rfl rfl rfl (Nat.le_of_ble_eq_true rfl) (Nat.le_of_ble_eq_true rfl) (fun σ1 q1 => ?_)
  obtain ⟨pT, pY, s1, py⟩ := q1
  obtain ⟨nR, nP, nT, nY, nA, nB, nF, nL, nX, nh, nI'⟩ := HM.high hm (s1.high rfl)
  refine G.aload_n rfl rfl ?_
  refine GL.ld (j := 1) rfl rfl rfl rfl rfl rfl hi (by decide) hN ?_
  refine GL.cV oX12_restore (p_restore_m 0 σ1 (sT S) (sY S) (sK0 S) (sK1 S) (xs (i + 1)) nT wT.1 nY wY nA nB nI' wA wB) rfl rfl rfl rfl rfl rfl rfl (Nat.le_of_ble_eq_true rfl) (Nat.le_of_ble_eq_true rfl) (fun σ2 q2 => ?_)
  obtain ⟨uT, uY, s2⟩ := q2
  refine G.icmp_eq rfl (fun _ => ?_) (fun q => absurd rfl q)
  have c1 : HC σ1 (sR S, sP S, (qRestore (sT S) (sY S) (sK0 S) (sK1 S) (xs (i + 1))).2.1, (qRestore (sT S) (sY S) (sK0 S) (sK1 S) (xs (i + 1))).2.2, sK0 S, sK1 S, sF S, sL S, sX S) := ⟨cR.kept (s1 2 (by decide)) (s1 3 (by decide)) (s1 4 (by decide)), cP.kept (congrFun (s1 5 (by decide)) 1) (s1 6 (by decide)), pT, pY, cA.kept (fun j hj => s1 _ (nin 28 10 hj rfl)), cB.kept (fun j hj => s1 _ (nin 38 10 hj rfl)), (congrFun (s1 5 (by decide)) 8).trans cF, (congrFun (s1 0 (by decide)) 13).trans cL, cX.kept (congrFun (s1 67 (by decide)) 5) (s1 68 (by decide)), (py.elim (fun z => by rw [z.2]; exact cy.by2 z.1 (s1 66 (by decide))) (fun z => Or.inl z))⟩
  have m2 : HM σ2 (sR S, sP S, (qRestore (sT S) (sY S) (sK0 S) (sK1 S) (xs (i + 1))).2.1, (qRestore (sT S) (sY S) (sK0 S) (sK1 S) (xs (i + 1))).2.2, sK0 S, sK1 S, sF S, sL S, sX S) := ⟨nR.kept (s2.1 70 (by decide) (by decide)) (s2.1 71 (by decide) (by decide)) (s2.1 72 (by decide) (by decide)), nP.kept (s2.2 11 (by decide)) (s2.1 77 (by decide) (by decide)), uT, uY, nA.kept (s2.1 85 (by decide) (by decide)) (s2.1 86 (by decide) (by decide)) (s2.1 87 (by decide) (by decide)), nB.kept (s2.1 85 (by decide) (by decide)) (s2.1 86 (by decide) (by decide)) (s2.1 87 (by decide) (by decide)), (s2.2 12 (by decide)).trans nF, (s2.2 1 (by decide)).trans nL, nX.kept (s2.2 40 (by decide)) (s2.1 88 (by decide) (by decide)), nh.kept s2 (by decide), ((s2.2 7 (by decide)).trans nI').trans (sv_rI wT wK wA wB)⟩
  exact kk σ2 (sR S, sP S, (qRestore (sT S) (sY S) (sK0 S) (sK1 S) (xs (i + 1))).2.1, (qRestore (sT S) (sY S) (sK0 S) (sK1 S) (xs (i + 1))).2.2, sK0 S, sK1 S, sF S, sL S, sX S) ⟨⟨wR, wP, (sv_restore wT wY wA wB).1, (sv_restore wT wY wA wB).2.1, wA, wB, wX⟩, sv_rK wT wK wA wB⟩ (HC.low c1 (s2.low rfl)) m2
theorem law_kind {N : Nat} {xs : Nat → Int32} {i : Nat} {σ : am_S} {S : St} (hi : i + 6 ≤ N) (hN : N < 1073741824) (hw : wf2 S) (hc : HC σ S) (hm : HM σ S) (kk : ∀ σ' S', wf2 S' → HC σ' S' → HM σ' S' → GL N xs 1138 i [] σ') : GL N xs 990 i [] σ := by
  obtain ⟨⟨wR, wP, wT, wY, wA, wB, wX⟩, wK⟩ := id hw
  obtain ⟨cR, cP, cT, cY, cA, cB, cF, cL, cX, cy⟩ := id hc
  refine G.aload_n rfl rfl ?_
  refine GL.ld (j := 1) rfl rfl rfl rfl rfl rfl hi (by decide) hN ?_
  refine GL.cV oX11_kind (p_kind_c 0 σ (sY S) (xs (i + 1)) cY wY) rfl rfl rfl rfl rfl rfl rfl (Nat.le_of_ble_eq_true rfl) (Nat.le_of_ble_eq_true rfl) (fun σ1 q1 => ?_)
  subst q1
  obtain ⟨nR, nP, nT, nY, nA, nB, nF, nL, nX, nh, nI'⟩ := id hm
  refine G.aload_n rfl rfl ?_
  refine GL.ld (j := 1) rfl rfl rfl rfl rfl rfl hi (by decide) hN ?_
  refine GL.cV oX12_kind (p_kind_m 0 σ1 (sY S) (xs (i + 1)) nY wY) rfl rfl rfl rfl rfl rfl rfl (Nat.le_of_ble_eq_true rfl) (Nat.le_of_ble_eq_true rfl) (fun σ2 q2 => ?_)
  subst q2
  have s2 : sameM [] [0] σ1 (am_s1 σ1 69 (upd (σ1 69) 0 0)) := s0M
  refine G.icmp_eq rfl (fun _ => ?_) (fun q => absurd rfl q)
  have m2 : HM (am_s1 σ1 69 (upd (σ1 69) 0 0)) (sR S, sP S, sT S, sY S, sK0 S, sK1 S, sF S, sL S, sX S) := ⟨nR.kept (s2.1 70 (by decide) (by decide)) (s2.1 71 (by decide) (by decide)) (s2.1 72 (by decide) (by decide)), nP.kept (s2.2 11 (by decide)) (s2.1 77 (by decide) (by decide)), nT.kept (s2.1 73 (by decide) (by decide)), nY.kept (s2.1 75 (by decide) (by decide)), nA.kept (s2.1 85 (by decide) (by decide)) (s2.1 86 (by decide) (by decide)) (s2.1 87 (by decide) (by decide)), nB.kept (s2.1 85 (by decide) (by decide)) (s2.1 86 (by decide) (by decide)) (s2.1 87 (by decide) (by decide)), (s2.2 12 (by decide)).trans nF, (s2.2 1 (by decide)).trans nL, nX.kept (s2.2 40 (by decide)) (s2.1 88 (by decide) (by decide)), nh.kept s2 (by decide), (s2.2 7 (by decide)).trans nI'⟩
  exact kk (am_s1 σ1 69 (upd (σ1 69) 0 0)) (sR S, sP S, sT S, sY S, sK0 S, sK1 S, sF S, sL S, sX S) ⟨⟨wR, wP, wT, wY, wA, wB, wX⟩, wK⟩ (HC.low hc (s2.low rfl)) m2
theorem law_as {N : Nat} {xs : Nat → Int32} {i : Nat} {σ : am_S} {S : St} (hi : i + 6 ≤ N) (hN : N < 1073741824) (hw : wf2 S) (hc : HC σ S) (hm : HM σ S) (kk : ∀ σ' S', wf2 S' → HC σ' S' → HM σ' S' → GL N xs 1138 i [] σ') : GL N xs 1013 i [] σ := by
  obtain ⟨⟨wR, wP, wT, wY, wA, wB, wX⟩, wK⟩ := id hw
  obtain ⟨cR, cP, cT, cY, cA, cB, cF, cL, cX, cy⟩ := id hc
  refine G.aload_n rfl rfl ?_
  refine GL.ld (j := 1) rfl rfl rfl rfl rfl rfl hi (by decide) hN ?_
  refine GL.ld (j := 2) rfl rfl rfl rfl rfl rfl hi (by decide) hN ?_
  refine GL.cV oX11_as (p_as_c 0 σ (sY S) (xs (i + 1)) (xs (i + 2)) (sL S) cY wY cL) rfl rfl rfl rfl rfl rfl rfl (Nat.le_of_ble_eq_true rfl) (Nat.le_of_ble_eq_true rfl) (fun σ1 q1 => ?_)
  obtain ⟨pL, s1⟩ := q1
  obtain ⟨nR, nP, nT, nY, nA, nB, nF, nL, nX, nh, nI'⟩ := HM.high hm (s1.high rfl)
  refine G.aload_n rfl rfl ?_
  refine GL.ld (j := 1) rfl rfl rfl rfl rfl rfl hi (by decide) hN ?_
  refine GL.ld (j := 2) rfl rfl rfl rfl rfl rfl hi (by decide) hN ?_
  refine GL.cV oX12_as (p_as_m 0 σ1 (sY S) (xs (i + 1)) (xs (i + 2)) (sL S) nY wY nL) rfl rfl rfl rfl rfl rfl rfl (Nat.le_of_ble_eq_true rfl) (Nat.le_of_ble_eq_true rfl) (fun σ2 q2 => ?_)
  obtain ⟨uL, s2⟩ := q2
  refine G.icmp_eq rfl (fun _ => ?_) (fun q => absurd rfl q)
  have c1 : HC σ1 (sR S, sP S, sT S, sY S, sK0 S, sK1 S, sF S, (qAs (sY S) (sL S) (xs (i + 1)) (xs (i + 2))).2, sX S) := ⟨cR.kept (s1 2 (by decide)) (s1 3 (by decide)) (s1 4 (by decide)), cP.kept (congrFun (s1 5 (by decide)) 1) (s1 6 (by decide)), cT.kept (fun j hj => s1 _ (nin 10 7 hj rfl)), cY.kept (s1 24 (by decide)) (s1 25 (by decide)), cA.kept (fun j hj => s1 _ (nin 28 10 hj rfl)), cB.kept (fun j hj => s1 _ (nin 38 10 hj rfl)), (congrFun (s1 5 (by decide)) 8).trans cF, pL, cX.kept (congrFun (s1 67 (by decide)) 5) (s1 68 (by decide)), cy.by2 (s1 64 (by decide)) (s1 66 (by decide))⟩
  have m2 : HM σ2 (sR S, sP S, sT S, sY S, sK0 S, sK1 S, sF S, (qAs (sY S) (sL S) (xs (i + 1)) (xs (i + 2))).2, sX S) := ⟨nR.kept (s2.1 70 (by decide) (by decide)) (s2.1 71 (by decide) (by decide)) (s2.1 72 (by decide) (by decide)), nP.kept (s2.2 11 (by decide)) (s2.1 77 (by decide) (by decide)), nT.kept (s2.1 73 (by decide) (by decide)), nY.kept (s2.1 75 (by decide) (by decide)), nA.kept (s2.1 85 (by decide) (by decide)) (s2.1 86 (by decide) (by decide)) (s2.1 87 (by decide) (by decide)), nB.kept (s2.1 85 (by decide) (by decide)) (s2.1 86 (by decide) (by decide)) (s2.1 87 (by decide) (by decide)), (s2.2 12 (by decide)).trans nF, uL, nX.kept (s2.2 40 (by decide)) (s2.1 88 (by decide) (by decide)), nh.kept s2 (by decide), (s2.2 7 (by decide)).trans nI'⟩
  exact kk σ2 (sR S, sP S, sT S, sY S, sK0 S, sK1 S, sF S, (qAs (sY S) (sL S) (xs (i + 1)) (xs (i + 2))).2, sX S) ⟨⟨wR, wP, wT, wY, wA, wB, wX⟩, wK⟩ (HC.low c1 (s2.low rfl)) m2
theorem law_ask {N : Nat} {xs : Nat → Int32} {i : Nat} {σ : am_S} {S : St} (hi : i + 6 ≤ N) (hN : N < 1073741824) (hw : wf2 S) (hc : HC σ S) (hm : HM σ S) (kk : ∀ σ' S', wf2 S' → HC σ' S' → HM σ' S' → GL N xs 1138 i [] σ') : GL N xs 1046 i [] σ := by
  obtain ⟨⟨wR, wP, wT, wY, wA, wB, wX⟩, wK⟩ := id hw
  obtain ⟨cR, cP, cT, cY, cA, cB, cF, cL, cX, cy⟩ := id hc
  refine G.aload_n rfl rfl ?_
  refine GL.ld (j := 1) rfl rfl rfl rfl rfl rfl hi (by decide) hN ?_
  refine GL.ld (j := 2) rfl rfl rfl rfl rfl rfl hi (by decide) hN ?_
  refine GL.cV oX11_ask (p_ask_c 0 σ (sY S) (sX S) (xs (i + 1)) (xs (i + 2)) cY wY cX) rfl rfl rfl rfl rfl rfl rfl (Nat.le_of_ble_eq_true rfl) (Nat.le_of_ble_eq_true rfl) (fun σ1 q1 => ?_)
  obtain ⟨pX, s1⟩ := q1
  obtain ⟨nR, nP, nT, nY, nA, nB, nF, nL, nX, nh, nI'⟩ := HM.high hm (s1.high rfl)
  refine G.aload_n rfl rfl ?_
  refine GL.ld (j := 1) rfl rfl rfl rfl rfl rfl hi (by decide) hN ?_
  refine GL.ld (j := 2) rfl rfl rfl rfl rfl rfl hi (by decide) hN ?_
  refine GL.cV oX12_ask (p_ask_m 0 σ1 (sY S) (sX S) (xs (i + 1)) (xs (i + 2)) nY wY nX) rfl rfl rfl rfl rfl rfl rfl (Nat.le_of_ble_eq_true rfl) (Nat.le_of_ble_eq_true rfl) (fun σ2 q2 => ?_)
  obtain ⟨uX, s2⟩ := q2
  refine G.icmp_eq rfl (fun _ => ?_) (fun q => absurd rfl q)
  have c1 : HC σ1 (sR S, sP S, sT S, sY S, sK0 S, sK1 S, sF S, sL S, (qAsk (sY S) (sX S) (xs (i + 1)) (xs (i + 2))).2) := ⟨cR.kept (s1 2 (by decide)) (s1 3 (by decide)) (s1 4 (by decide)), cP.kept (congrFun (s1 5 (by decide)) 1) (s1 6 (by decide)), cT.kept (fun j hj => s1 _ (nin 10 7 hj rfl)), cY.kept (s1 24 (by decide)) (s1 25 (by decide)), cA.kept (fun j hj => s1 _ (nin 28 10 hj rfl)), cB.kept (fun j hj => s1 _ (nin 38 10 hj rfl)), (congrFun (s1 5 (by decide)) 8).trans cF, (congrFun (s1 0 (by decide)) 13).trans cL, pX, cy.by2 (s1 64 (by decide)) (s1 66 (by decide))⟩
  have m2 : HM σ2 (sR S, sP S, sT S, sY S, sK0 S, sK1 S, sF S, sL S, (qAsk (sY S) (sX S) (xs (i + 1)) (xs (i + 2))).2) := ⟨nR.kept (s2.1 70 (by decide) (by decide)) (s2.1 71 (by decide) (by decide)) (s2.1 72 (by decide) (by decide)), nP.kept (s2.2 11 (by decide)) (s2.1 77 (by decide) (by decide)), nT.kept (s2.1 73 (by decide) (by decide)), nY.kept (s2.1 75 (by decide) (by decide)), nA.kept (s2.1 85 (by decide) (by decide)) (s2.1 86 (by decide) (by decide)) (s2.1 87 (by decide) (by decide)), nB.kept (s2.1 85 (by decide) (by decide)) (s2.1 86 (by decide) (by decide)) (s2.1 87 (by decide) (by decide)), (s2.2 12 (by decide)).trans nF, (s2.2 1 (by decide)).trans nL, uX, nh.kept s2 (by decide), (s2.2 7 (by decide)).trans nI'⟩
  exact kk σ2 (sR S, sP S, sT S, sY S, sK0 S, sK1 S, sF S, sL S, (qAsk (sY S) (sX S) (xs (i + 1)) (xs (i + 2))).2) ⟨⟨wR, wP, wT, wY, wA, wB, sv_ask wX⟩, wK⟩ (HC.low c1 (s2.low rfl)) m2
theorem law_trace {N : Nat} {xs : Nat → Int32} {i : Nat} {σ : am_S} {S : St} (hi : i + 6 ≤ N) (hN : N < 1073741824) (hw : wf2 S) (hc : HC σ S) (hm : HM σ S) (kk : ∀ σ' S', wf2 S' → HC σ' S' → HM σ' S' → GL N xs 1138 i [] σ') : GL N xs 1079 i [] σ := by
  obtain ⟨⟨wR, wP, wT, wY, wA, wB, wX⟩, wK⟩ := id hw
  obtain ⟨cR, cP, cT, cY, cA, cB, cF, cL, cX, cy⟩ := id hc
  refine G.aload_n rfl rfl ?_
  refine GL.ld (j := 1) rfl rfl rfl rfl rfl rfl hi (by decide) hN ?_
  refine GL.cV oX11_trace (p_trace_c 0 σ (sX S) (xs (i + 1)) cX wX) rfl rfl rfl rfl rfl rfl rfl (Nat.le_of_ble_eq_true rfl) (Nat.le_of_ble_eq_true rfl) (fun σ1 q1 => ?_)
  subst q1
  obtain ⟨nR, nP, nT, nY, nA, nB, nF, nL, nX, nh, nI'⟩ := id hm
  refine G.aload_n rfl rfl ?_
  refine GL.ld (j := 1) rfl rfl rfl rfl rfl rfl hi (by decide) hN ?_
  refine GL.cV oX12_trace (p_trace_m 0 σ1 (sX S) (xs (i + 1)) nX wX) rfl rfl rfl rfl rfl rfl rfl (Nat.le_of_ble_eq_true rfl) (Nat.le_of_ble_eq_true rfl) (fun σ2 q2 => ?_)
  subst q2
  have s2 : sameM [] [0] σ1 (am_s1 σ1 69 (upd (σ1 69) 0 0)) := s0M
  refine G.icmp_eq rfl (fun _ => ?_) (fun q => absurd rfl q)
  have m2 : HM (am_s1 σ1 69 (upd (σ1 69) 0 0)) (sR S, sP S, sT S, sY S, sK0 S, sK1 S, sF S, sL S, sX S) := ⟨nR.kept (s2.1 70 (by decide) (by decide)) (s2.1 71 (by decide) (by decide)) (s2.1 72 (by decide) (by decide)), nP.kept (s2.2 11 (by decide)) (s2.1 77 (by decide) (by decide)), nT.kept (s2.1 73 (by decide) (by decide)), nY.kept (s2.1 75 (by decide) (by decide)), nA.kept (s2.1 85 (by decide) (by decide)) (s2.1 86 (by decide) (by decide)) (s2.1 87 (by decide) (by decide)), nB.kept (s2.1 85 (by decide) (by decide)) (s2.1 86 (by decide) (by decide)) (s2.1 87 (by decide) (by decide)), (s2.2 12 (by decide)).trans nF, (s2.2 1 (by decide)).trans nL, nX.kept (s2.2 40 (by decide)) (s2.1 88 (by decide) (by decide)), nh.kept s2 (by decide), (s2.2 7 (by decide)).trans nI'⟩
  exact kk (am_s1 σ1 69 (upd (σ1 69) 0 0)) (sR S, sP S, sT S, sY S, sK0 S, sK1 S, sF S, sL S, sX S) ⟨⟨wR, wP, wT, wY, wA, wB, wX⟩, wK⟩ (HC.low hc (s2.low rfl)) m2
theorem law_count {N : Nat} {xs : Nat → Int32} {i : Nat} {σ : am_S} {S : St} (hi : i + 6 ≤ N) (hN : N < 1073741824) (hw : wf2 S) (hc : HC σ S) (hm : HM σ S) (kk : ∀ σ' S', wf2 S' → HC σ' S' → HM σ' S' → GL N xs 1138 i [] σ') : GL N xs 1102 i [] σ := by
  obtain ⟨⟨wR, wP, wT, wY, wA, wB, wX⟩, wK⟩ := id hw
  obtain ⟨cR, cP, cT, cY, cA, cB, cF, cL, cX, cy⟩ := id hc
  refine G.aload_n rfl rfl ?_
  refine GL.ld (j := 1) rfl rfl rfl rfl rfl rfl hi (by decide) hN ?_
  refine GL.cV oX11_count (p_count_c 0 σ (sR S) (sT S) (sY S) (sP S) (xs (i + 1)) cR wR cT wT.1 cY cP.1) rfl rfl rfl rfl rfl rfl rfl (Nat.le_of_ble_eq_true rfl) (Nat.le_of_ble_eq_true rfl) (fun σ1 q1 => ?_)
  subst q1
  obtain ⟨nR, nP, nT, nY, nA, nB, nF, nL, nX, nh, nI'⟩ := id hm
  refine G.aload_n rfl rfl ?_
  refine GL.ld (j := 1) rfl rfl rfl rfl rfl rfl hi (by decide) hN ?_
  refine GL.cV oX12_count (p_count_m 0 σ1 (sR S) (sT S) (sY S) (sP S) (xs (i + 1)) nR wR nT wT.1 nY nP.1) rfl rfl rfl rfl rfl rfl rfl (Nat.le_of_ble_eq_true rfl) (Nat.le_of_ble_eq_true rfl) (fun σ2 q2 => ?_)
  subst q2
  have s2 : sameM [] [0] σ1 (am_s1 σ1 69 (upd (σ1 69) 0 0)) := s0M
  refine G.icmp_eq rfl (fun _ => ?_) (fun q => absurd rfl q)
  have m2 : HM (am_s1 σ1 69 (upd (σ1 69) 0 0)) (sR S, sP S, sT S, sY S, sK0 S, sK1 S, sF S, sL S, sX S) := ⟨nR.kept (s2.1 70 (by decide) (by decide)) (s2.1 71 (by decide) (by decide)) (s2.1 72 (by decide) (by decide)), nP.kept (s2.2 11 (by decide)) (s2.1 77 (by decide) (by decide)), nT.kept (s2.1 73 (by decide) (by decide)), nY.kept (s2.1 75 (by decide) (by decide)), nA.kept (s2.1 85 (by decide) (by decide)) (s2.1 86 (by decide) (by decide)) (s2.1 87 (by decide) (by decide)), nB.kept (s2.1 85 (by decide) (by decide)) (s2.1 86 (by decide) (by decide)) (s2.1 87 (by decide) (by decide)), (s2.2 12 (by decide)).trans nF, (s2.2 1 (by decide)).trans nL, nX.kept (s2.2 40 (by decide)) (s2.1 88 (by decide) (by decide)), nh.kept s2 (by decide), (s2.2 7 (by decide)).trans nI'⟩
  exact kk (am_s1 σ1 69 (upd (σ1 69) 0 0)) (sR S, sP S, sT S, sY S, sK0 S, sK1 S, sF S, sL S, sX S) ⟨⟨wR, wP, wT, wY, wA, wB, wX⟩, wK⟩ (HC.low hc (s2.low rfl)) m2
theorem law_status {N : Nat} {xs : Nat → Int32} {i : Nat} {σ : am_S} {S : St} (hi : i + 6 ≤ N) (hN : N < 1073741824) (hw : wf2 S) (hc : HC σ S) (hm : HM σ S) (kk : ∀ σ' S', wf2 S' → HC σ' S' → HM σ' S' → GL N xs 1138 i [] σ') : GL N xs 1125 i [] σ := by
  obtain ⟨⟨wR, wP, wT, wY, wA, wB, wX⟩, wK⟩ := id hw
  obtain ⟨cR, cP, cT, cY, cA, cB, cF, cL, cX, cy⟩ := id hc
  refine G.aload_n rfl rfl ?_
  refine GL.cV oX11_status (p_status_c 0 σ ) rfl rfl rfl rfl rfl rfl rfl (Nat.le_of_ble_eq_true rfl) (Nat.le_of_ble_eq_true rfl) (fun σ1 q1 => ?_)
  subst q1
  obtain ⟨nR, nP, nT, nY, nA, nB, nF, nL, nX, nh, nI'⟩ := id hm
  refine G.aload_n rfl rfl ?_
  refine GL.cV oX12_status (p_status_m 0 σ1 ) rfl rfl rfl rfl rfl rfl rfl (Nat.le_of_ble_eq_true rfl) (Nat.le_of_ble_eq_true rfl) (fun σ2 q2 => ?_)
  subst q2
  have s2 : sameM [] [0] σ1 (am_s1 σ1 69 (upd (σ1 69) 0 0)) := s0M
  rw [cL, nL]
  refine G.icmp_eq rfl (fun _ => ?_) (fun q => absurd rfl q)
  have m2 : HM (am_s1 σ1 69 (upd (σ1 69) 0 0)) (sR S, sP S, sT S, sY S, sK0 S, sK1 S, sF S, sL S, sX S) := ⟨nR.kept (s2.1 70 (by decide) (by decide)) (s2.1 71 (by decide) (by decide)) (s2.1 72 (by decide) (by decide)), nP.kept (s2.2 11 (by decide)) (s2.1 77 (by decide) (by decide)), nT.kept (s2.1 73 (by decide) (by decide)), nY.kept (s2.1 75 (by decide) (by decide)), nA.kept (s2.1 85 (by decide) (by decide)) (s2.1 86 (by decide) (by decide)) (s2.1 87 (by decide) (by decide)), nB.kept (s2.1 85 (by decide) (by decide)) (s2.1 86 (by decide) (by decide)) (s2.1 87 (by decide) (by decide)), (s2.2 12 (by decide)).trans nF, (s2.2 1 (by decide)).trans nL, nX.kept (s2.2 40 (by decide)) (s2.1 88 (by decide) (by decide)), nh.kept s2 (by decide), (s2.2 7 (by decide)).trans nI'⟩
  exact kk (am_s1 σ1 69 (upd (σ1 69) 0 0)) (sR S, sP S, sT S, sY S, sK0 S, sK1 S, sF S, sL S, sX S) ⟨⟨wR, wP, wT, wY, wA, wB, wX⟩, wK⟩ (HC.low hc (s2.low rfl)) m2
