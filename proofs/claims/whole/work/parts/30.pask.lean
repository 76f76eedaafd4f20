def tA (x : Tr) (v : Int32) : Tr := if x.1 < 16 then (x.1 + 1, va_up x.2 x.1 v) else x
def tL (x : Tr) (l : List Int32) : Tr := l.foldl tA x
theorem tA_le {x : Tr} {v : Int32} (h : x.1 ≤ 16) : (tA x v).1 ≤ 16 := by
  unfold tA
  by_cases e : x.1 < 16
  · rw [if_pos e]; exact e
  · rw [if_neg e]; exact h
theorem tL_le {l : List Int32} : ∀ {x : Tr}, x.1 ≤ 16 → (tL x l).1 ≤ 16 := by
  induction l with
  | nil => exact fun h => h
  | cons a l ih => exact fun h => ih (x := tA _ a) (tA_le h)
def akC (kd : Nat) (what : Nat) : List Int32 := if what = 0 then (if kd = 1 then [11, 10, 20] else if kd = 3 then [12, 10, 20] else if kd = 4 then [13, 12, 10, 22, 20] else if kd = 5 then [14, 10] else [10]) else (if kd = 2 then [21, 20] else if kd = 4 then [22, 20] else if kd = 5 then [23, 20, 14, 10] else [20])
def akV (k w kd what : Nat) : Int32 := if what = 0 then (if kd = 1 then nI k + nI (wA w) else if kd = 3 then nI k - nI (wA w) else if kd = 4 then 2 * (nI k - (nI (wA w) + 100)) else if kd = 5 then -nI k else nI k) else (if kd = 2 then nI (wA w) + 10 * (nI w - 20) else if kd = 4 then nI (wA w) + 100 else if kd = 5 then nI (wA w) + -nI k else nI (wA w))
def qAsk (s : Sy) (x : Tr) (k what : Int32) : Int32 × Tr := if okw s k ∧ okb what then (akV (cn k) (s.2 (cn k)) (kdF (s.2 (cn k))) (cn what), tL (0, x.2) (akC (kdF (s.2 (cn k))) (cn what))) else (-1000001, x)
theorem kdF_c {v : Nat} : kdF v = 1 ∨ kdF v = 2 ∨ kdF v = 3 ∨ kdF v = 4 ∨ kdF v = 5 := by
  unfold kdF
  repeat' split
  all_goals omega
abbrev sA (σ σ' : am_S) : Prop := same [67, 68] σ σ' ∧ ∀ i, i ≠ 5 → σ' 67 i = σ 67 i
theorem sA.trans {a b c : am_S} (h1 : sA a b) (h2 : sA b c) : sA a c := ⟨h1.1.trans h2.1, fun i hi => (h2.2 i hi).trans (h1.2 i hi)⟩
theorem tr_put {a b q : Nat} {σ σ' : am_S} {x : Tr} {v : Int32} (hx : traceV a b q σ x) (hl : x.1 < 16) (e1 : σ' a b = nI (x.1 + 1)) (e2 : σ' q = upd (σ q) x.1 v) : traceV a b q σ' (tA x v) := by
  unfold tA
  rw [if_pos hl]
  refine ⟨e1, fun i hi => ?_⟩
  rw [e2]
  show upd (σ q) x.1 v i = va_up x.2 x.1 v i
  unfold upd va_up
  by_cases e : i = x.1
  · rw [if_pos e, if_pos e]
  · rw [if_neg e, if_neg e]
    have hi2 : i < x.1 + 1 := hi
    exact hx.2 i (by omega)
theorem c_leave (d : Nat) (σ : am_S) (x : Tr) (hx : traceV 67 5 68 σ x) (h16 : x.1 ≤ 16) (v : Int32) : CallS mX0_leave (d) [.ref 67, .int v] σ (fun r σ' => r = none ∧ traceV 67 5 68 σ' (tA x v) ∧ sA σ σ') := by
  refine CallS.of kX0_leave pX0_leave [.ref 67, .int v] rfl (Nat.le_of_ble_eq_true rfl) ?_
  refine GS.run [] 2 rfl ?_
  rw [show σ 67 5 = nI x.1 from hx.1]
  refine GS.run [] 0 rfl ?_
  refine GS.if_lt rfl (fun c4 => ?_) (fun c4 => ?_)
  · exact absurd ((nI_ltI (b := 0) (by omega) (by omega)).mp c4) (by omega) -- end
  · refine GS.run [] 4 rfl ?_
    refine GS.alen rfl rfl ?_
    refine GS.icmp_ge rfl (fun c16 => ?_) (fun c16 => ?_)
    · rw [show σ 67 5 = nI x.1 from hx.1] at c16
      have hn : ¬ x.1 < 16 := by have := (nI_leI (a := 16) (by omega) (by omega)).mp c16; omega
      refine GS.vret rfl rfl ?_
      first
        | exact ⟨rfl, by unfold tA; rw [if_neg hn]; exact hx, same.rf, fun _ _ => rfl⟩
        | exact ⟨rfl, tr_put hx hn ((congrArg (· + 1) hx.1).trans (nI_1 _)) rfl, (same.rf.s1 (by decide)).s1 (by decide), fun i hi => upd_ne _ _ hi⟩
    · rw [show σ 67 5 = nI x.1 from hx.1] at c16
      have hn : x.1 < 16 := (nI_gtI (a := 16) (by omega) (by omega)).mp c16
      refine GS.run [] 5 rfl ?_
      rw [show σ 67 5 = nI x.1 from hx.1]
      refine GS.run [] 0 rfl ?_
      refine GS.ast (x.1) rfl rfl (rfl) (by omega) ?_
      refine GS.run [] 6 rfl ?_
      refine GS.vret rfl rfl ?_
      first
        | exact ⟨rfl, by unfold tA; rw [if_neg hn]; exact hx, same.rf, fun _ _ => rfl⟩
        | exact ⟨rfl, tr_put hx hn ((congrArg (· + 1) hx.1).trans (nI_1 _)) rfl, (same.rf.s1 (by decide)).s1 (by decide), fun i hi => upd_ne _ _ hi⟩
theorem c_b10 (d : Nat) (σ : am_S) (x : Tr) (hx : traceV 67 5 68 σ x) (h16 : x.1 ≤ 16) (k w kd : Nat) (hw : w < 30) (h1 : σ 67 1 = nI k) (h2 : σ 67 2 = nI w) (h3 : σ 67 3 = nI kd) : CallS mX0_body10 (d + 1) [.ref 67] σ (fun r σ' => r = some (.int (nI k)) ∧ traceV 67 5 68 σ' (tL x [10]) ∧ sA σ σ') := by
  refine CallS.of kX0_body10 pX0_body10 [.ref 67] rfl (Nat.le_of_ble_eq_true rfl) ?_
  refine GS.run [] 2 rfl ?_
  refine GS.callV oX0_leave (c_leave d σ x hx h16 10) rfl rfl rfl rfl rfl rfl rfl (Nat.le_of_ble_eq_true rfl) (by omega) (fun v3 σ3 hq3 => ?_)
  obtain ⟨rfl, x3, s3⟩ := hq3
  have g1 : σ3 67 1 = nI k := (s3.2 1 (by decide)).trans h1
  have g2 : σ3 67 2 = nI w := (s3.2 2 (by decide)).trans h2
  have g3 : σ3 67 3 = nI kd := (s3.2 3 (by decide)).trans h3
  have g16 := tA_le (v := 10) h16
  refine GS.run [] 2 rfl ?_
  rw [g1]
  refine GS.run [] 0 rfl ?_
  refine GS.iret rfl rfl (rfl) ?_
  exact ⟨rfl, x3, s3⟩
theorem c_b20 (d : Nat) (σ : am_S) (x : Tr) (hx : traceV 67 5 68 σ x) (h16 : x.1 ≤ 16) (k w kd : Nat) (hw : w < 30) (h1 : σ 67 1 = nI k) (h2 : σ 67 2 = nI w) (h3 : σ 67 3 = nI kd) : CallS mX0_body20 (d + 1) [.ref 67] σ (fun r σ' => r = some (.int (nI (wA w))) ∧ traceV 67 5 68 σ' (tL x [20]) ∧ sA σ σ') := by
  refine CallS.of kX0_body20 pX0_body20 [.ref 67] rfl (Nat.le_of_ble_eq_true rfl) ?_
  refine GS.run [] 2 rfl ?_
  refine GS.callV oX0_leave (c_leave d σ x hx h16 20) rfl rfl rfl rfl rfl rfl rfl (Nat.le_of_ble_eq_true rfl) (by omega) (fun v3 σ3 hq3 => ?_)
  obtain ⟨rfl, x3, s3⟩ := hq3
  have g1 : σ3 67 1 = nI k := (s3.2 1 (by decide)).trans h1
  have g2 : σ3 67 2 = nI w := (s3.2 2 (by decide)).trans h2
  have g3 : σ3 67 3 = nI kd := (s3.2 3 (by decide)).trans h3
  have g16 := tA_le (v := 20) h16
  refine GS.run [] 3 rfl ?_
  rw [g2]
  refine GS.run [] 0 rfl ?_
  refine GS.icmp_lt rfl (fun c12 => ?_) (fun c12 => ?_)
  · have hc : ¬ 20 ≤ w := by have := (nI_ltI (b := 20) (by omega) (by omega)).mp c12; omega
    refine GS.run [] 2 rfl ?_
    refine GS.iret rfl rfl (rfl) ?_
    first
      | exact ⟨by unfold wA; rw [if_pos hc]; rfl, x3, s3⟩
      | exact ⟨by rw [g2]; unfold wA; rw [if_neg hc], x3, s3⟩
  · have hc : 20 ≤ w := (nI_leI (a := 20) (by omega) (by omega)).mp (Int32.not_lt.mp c12)
    refine GS.run [] 2 rfl ?_
    refine GS.iret rfl rfl (rfl) ?_
    first
      | exact ⟨by unfold wA; rw [if_pos hc]; rfl, x3, s3⟩
      | exact ⟨by rw [g2]; unfold wA; rw [if_neg hc], x3, s3⟩
theorem c_b22 (d : Nat) (σ : am_S) (x : Tr) (hx : traceV 67 5 68 σ x) (h16 : x.1 ≤ 16) (k w kd : Nat) (hw : w < 30) (h1 : σ 67 1 = nI k) (h2 : σ 67 2 = nI w) (h3 : σ 67 3 = nI kd) : CallS mX0_body22 (d + 2) [.ref 67] σ (fun r σ' => r = some (.int (nI (wA w) + 100)) ∧ traceV 67 5 68 σ' (tL x [22, 20]) ∧ sA σ σ') := by
  refine CallS.of kX0_body22 pX0_body22 [.ref 67] rfl (Nat.le_of_ble_eq_true rfl) ?_
  refine GS.run [] 2 rfl ?_
  refine GS.callV oX0_leave (c_leave d σ x hx h16 22) rfl rfl rfl rfl rfl rfl rfl (Nat.le_of_ble_eq_true rfl) (by omega) (fun v3 σ3 hq3 => ?_)
  obtain ⟨rfl, x3, s3⟩ := hq3
  have g1 : σ3 67 1 = nI k := (s3.2 1 (by decide)).trans h1
  have g2 : σ3 67 2 = nI w := (s3.2 2 (by decide)).trans h2
  have g3 : σ3 67 3 = nI kd := (s3.2 3 (by decide)).trans h3
  have g16 := tA_le (v := 22) h16
  refine GS.run [] 1 rfl ?_
  refine GS.callV oX0_body20 (c_b20 d σ3 _ x3 g16 k w kd hw g1 g2 g3) rfl rfl rfl rfl rfl rfl rfl (Nat.le_of_ble_eq_true rfl) (by omega) (fun v7 σ7 hq7 => ?_)
  obtain ⟨rfl, x7, s7⟩ := hq7
  refine GS.run [] 2 rfl ?_
  refine GS.iret rfl rfl (rfl) ?_
  exact ⟨rfl, x7, s3.trans s7⟩
theorem c_b14 (d : Nat) (σ : am_S) (x : Tr) (hx : traceV 67 5 68 σ x) (h16 : x.1 ≤ 16) (k w kd : Nat) (hw : w < 30) (h1 : σ 67 1 = nI k) (h2 : σ 67 2 = nI w) (h3 : σ 67 3 = nI kd) : CallS mX0_body14 (d + 2) [.ref 67] σ (fun r σ' => r = some (.int (-nI k)) ∧ traceV 67 5 68 σ' (tL x [14, 10]) ∧ sA σ σ') := by
  refine CallS.of kX0_body14 pX0_body14 [.ref 67] rfl (Nat.le_of_ble_eq_true rfl) ?_
  refine GS.run [] 2 rfl ?_
  refine GS.callV oX0_leave (c_leave d σ x hx h16 14) rfl rfl rfl rfl rfl rfl rfl (Nat.le_of_ble_eq_true rfl) (by omega) (fun v3 σ3 hq3 => ?_)
  obtain ⟨rfl, x3, s3⟩ := hq3
  have g1 : σ3 67 1 = nI k := (s3.2 1 (by decide)).trans h1
  have g2 : σ3 67 2 = nI w := (s3.2 2 (by decide)).trans h2
  have g3 : σ3 67 3 = nI kd := (s3.2 3 (by decide)).trans h3
  have g16 := tA_le (v := 14) h16
  refine GS.run [] 1 rfl ?_
  refine GS.callV oX0_body10 (c_b10 d σ3 _ x3 g16 k w kd hw g1 g2 g3) rfl rfl rfl rfl rfl rfl rfl (Nat.le_of_ble_eq_true rfl) (by omega) (fun v7 σ7 hq7 => ?_)
  obtain ⟨rfl, x7, s7⟩ := hq7
  refine GS.run [] 1 rfl ?_
  refine GS.iret rfl rfl (rfl) ?_
  exact ⟨rfl, x7, s3.trans s7⟩
theorem c_b21 (d : Nat) (σ : am_S) (x : Tr) (hx : traceV 67 5 68 σ x) (h16 : x.1 ≤ 16) (k w kd : Nat) (hw : w < 30) (h1 : σ 67 1 = nI k) (h2 : σ 67 2 = nI w) (h3 : σ 67 3 = nI kd) : CallS mX0_body21 (d + 2) [.ref 67] σ (fun r σ' => r = some (.int (nI (wA w) + 10 * (nI w - 20))) ∧ traceV 67 5 68 σ' (tL x [21, 20]) ∧ sA σ σ') := by
  refine CallS.of kX0_body21 pX0_body21 [.ref 67] rfl (Nat.le_of_ble_eq_true rfl) ?_
  refine GS.run [] 2 rfl ?_
  refine GS.callV oX0_leave (c_leave d σ x hx h16 21) rfl rfl rfl rfl rfl rfl rfl (Nat.le_of_ble_eq_true rfl) (by omega) (fun v3 σ3 hq3 => ?_)
  obtain ⟨rfl, x3, s3⟩ := hq3
  have g1 : σ3 67 1 = nI k := (s3.2 1 (by decide)).trans h1
  have g2 : σ3 67 2 = nI w := (s3.2 2 (by decide)).trans h2
  have g3 : σ3 67 3 = nI kd := (s3.2 3 (by decide)).trans h3
  have g16 := tA_le (v := 21) h16
  refine GS.run [] 1 rfl ?_
  refine GS.callV oX0_body20 (c_b20 d σ3 _ x3 g16 k w kd hw g1 g2 g3) rfl rfl rfl rfl rfl rfl rfl (Nat.le_of_ble_eq_true rfl) (by omega) (fun v7 σ7 hq7 => ?_)
  obtain ⟨rfl, x7, s7⟩ := hq7
  refine GS.run [] 3 rfl ?_
  rw [show σ7 67 2 = nI w from (s7.2 2 (by decide)).trans g2]
  refine GS.run [] 0 rfl ?_
  refine GS.run [] 4 rfl ?_
  refine GS.iret rfl rfl (rfl) ?_
  exact ⟨rfl, x7, s3.trans s7⟩
theorem c_b23 (d : Nat) (σ : am_S) (x : Tr) (hx : traceV 67 5 68 σ x) (h16 : x.1 ≤ 16) (k w kd : Nat) (hw : w < 30) (h1 : σ 67 1 = nI k) (h2 : σ 67 2 = nI w) (h3 : σ 67 3 = nI kd) : CallS mX0_body23 (d + 3) [.ref 67] σ (fun r σ' => r = some (.int (nI (wA w) + -nI k)) ∧ traceV 67 5 68 σ' (tL x [23, 20, 14, 10]) ∧ sA σ σ') := by
  refine CallS.of kX0_body23 pX0_body23 [.ref 67, .retAddr 0] rfl (Nat.le_of_ble_eq_true rfl) ?_
  refine GS.run [] 2 rfl ?_
  refine GS.callV oX0_leave (c_leave d σ x hx h16 23) rfl rfl rfl rfl rfl rfl rfl (Nat.le_of_ble_eq_true rfl) (by omega) (fun v3 σ3 hq3 => ?_)
  obtain ⟨rfl, x3, s3⟩ := hq3
  have g1 : σ3 67 1 = nI k := (s3.2 1 (by decide)).trans h1
  have g2 : σ3 67 2 = nI w := (s3.2 2 (by decide)).trans h2
  have g3 : σ3 67 3 = nI kd := (s3.2 3 (by decide)).trans h3
  have g16 := tA_le (v := 23) h16
  refine GS.run [] 1 rfl ?_
  refine GS.callV oX0_body20 (c_b20 (d + 1) σ3 _ x3 g16 k w kd hw g1 g2 g3) rfl rfl rfl rfl rfl rfl rfl (Nat.le_of_ble_eq_true rfl) (by omega) (fun v7 σ7 hq7 => ?_)
  obtain ⟨rfl, x7, s7⟩ := hq7
  have t7 := s3.trans s7
  have j1 : σ7 67 1 = nI k := (t7.2 1 (by decide)).trans h1
  have j2 : σ7 67 2 = nI w := (t7.2 2 (by decide)).trans h2
  have j3 : σ7 67 3 = nI kd := (t7.2 3 (by decide)).trans h3
  have j16 := tL_le (l := [20]) g16
  refine GS.run [] 3 rfl ?_
  refine GS.callV oX0_body14 (c_b14 d σ7 _ x7 j16 k w kd hw j1 j2 j3) rfl rfl rfl rfl rfl rfl rfl (Nat.le_of_ble_eq_true rfl) (by omega) (fun v13 σ13 hq13 => ?_)
  obtain ⟨rfl, x13, s13⟩ := hq13
  refine GS.run [] 1 rfl ?_
  refine GS.iret rfl rfl (rfl) ?_
  exact ⟨rfl, x13, t7.trans s13⟩
theorem c_b11 (d : Nat) (σ : am_S) (x : Tr) (hx : traceV 67 5 68 σ x) (h16 : x.1 ≤ 16) (k w kd : Nat) (hw : w < 30) (h1 : σ 67 1 = nI k) (h2 : σ 67 2 = nI w) (h3 : σ 67 3 = nI kd) : CallS mX0_body11 (d + 3) [.ref 67] σ (fun r σ' => r = some (.int (nI k + nI (wA w))) ∧ traceV 67 5 68 σ' (tL x [11, 10, 20]) ∧ sA σ σ') := by
  refine CallS.of kX0_body11 pX0_body11 [.ref 67, .retAddr 0] rfl (Nat.le_of_ble_eq_true rfl) ?_
  refine GS.run [] 2 rfl ?_
  refine GS.callV oX0_leave (c_leave d σ x hx h16 11) rfl rfl rfl rfl rfl rfl rfl (Nat.le_of_ble_eq_true rfl) (by omega) (fun v3 σ3 hq3 => ?_)
  obtain ⟨rfl, x3, s3⟩ := hq3
  have g1 : σ3 67 1 = nI k := (s3.2 1 (by decide)).trans h1
  have g2 : σ3 67 2 = nI w := (s3.2 2 (by decide)).trans h2
  have g3 : σ3 67 3 = nI kd := (s3.2 3 (by decide)).trans h3
  have g16 := tA_le (v := 11) h16
  refine GS.run [] 1 rfl ?_
  refine GS.callV oX0_body10 (c_b10 (d + 1) σ3 _ x3 g16 k w kd hw g1 g2 g3) rfl rfl rfl rfl rfl rfl rfl (Nat.le_of_ble_eq_true rfl) (by omega) (fun v7 σ7 hq7 => ?_)
  obtain ⟨rfl, x7, s7⟩ := hq7
  have t7 := s3.trans s7
  have j1 : σ7 67 1 = nI k := (t7.2 1 (by decide)).trans h1
  have j2 : σ7 67 2 = nI w := (t7.2 2 (by decide)).trans h2
  have j3 : σ7 67 3 = nI kd := (t7.2 3 (by decide)).trans h3
  have j16 := tL_le (l := [10]) g16
  refine GS.run [] 3 rfl ?_
  refine GS.callV oX0_body20 (c_b20 (d + 1) σ7 _ x7 j16 k w kd hw j1 j2 j3) rfl rfl rfl rfl rfl rfl rfl (Nat.le_of_ble_eq_true rfl) (by omega) (fun v13 σ13 hq13 => ?_)
  obtain ⟨rfl, x13, s13⟩ := hq13
  refine GS.run [] 1 rfl ?_
  refine GS.iret rfl rfl (rfl) ?_
  exact ⟨rfl, x13, t7.trans s13⟩
theorem c_b12 (d : Nat) (σ : am_S) (x : Tr) (hx : traceV 67 5 68 σ x) (h16 : x.1 ≤ 16) (k w kd : Nat) (hw : w < 30) (h1 : σ 67 1 = nI k) (h2 : σ 67 2 = nI w) (h3 : σ 67 3 = nI kd) (hk : kd = 3) : CallS mX0_body12 (d + 3) [.ref 67] σ (fun r σ' => r = some (.int (nI k - nI (wA w))) ∧ traceV 67 5 68 σ' (tL x [12, 10, 20]) ∧ sA σ σ') := by
  refine CallS.of kX0_body12 pX0_body12 [.ref 67, .retAddr 0] rfl (Nat.le_of_ble_eq_true rfl) ?_
  refine GS.run [] 2 rfl ?_
  refine GS.callV oX0_leave (c_leave d σ x hx h16 12) rfl rfl rfl rfl rfl rfl rfl (Nat.le_of_ble_eq_true rfl) (by omega) (fun v3 σ3 hq3 => ?_)
  obtain ⟨rfl, x3, s3⟩ := hq3
  have g1 : σ3 67 1 = nI k := (s3.2 1 (by decide)).trans h1
  have g2 : σ3 67 2 = nI w := (s3.2 2 (by decide)).trans h2
  have g3 : σ3 67 3 = nI kd := (s3.2 3 (by decide)).trans h3
  have g16 := tA_le (v := 12) h16
  refine GS.run [] 1 rfl ?_
  refine GS.callV oX0_body10 (c_b10 (d + 1) σ3 _ x3 g16 k w kd hw g1 g2 g3) rfl rfl rfl rfl rfl rfl rfl (Nat.le_of_ble_eq_true rfl) (by omega) (fun v7 σ7 hq7 => ?_)
  obtain ⟨rfl, x7, s7⟩ := hq7
  have t7 := s3.trans s7
  have j1 : σ7 67 1 = nI k := (t7.2 1 (by decide)).trans h1
  have j2 : σ7 67 2 = nI w := (t7.2 2 (by decide)).trans h2
  have j3 : σ7 67 3 = nI kd := (t7.2 3 (by decide)).trans h3
  have j16 := tL_le (l := [10]) g16
  refine GS.run [] 4 rfl ?_
  rw [j3]
  refine GS.run [] 0 rfl ?_
  refine GS.run [] 1 rfl ?_
  refine GS.icmp_ne rfl (fun c17 => ?_) (fun q => absurd q (by rw [hk]; decide))
  refine GS.run [] 1 rfl ?_
  refine GS.callV oX0_body20 (c_b20 (d + 1) σ7 _ x7 j16 k w kd hw j1 j2 j3) rfl rfl rfl rfl rfl rfl rfl (Nat.le_of_ble_eq_true rfl) (by omega) (fun v28 σ28 hq28 => ?_)
  obtain ⟨rfl, x28, s28⟩ := hq28
  refine GS.run [] 1 rfl ?_
  refine GS.iret rfl rfl (rfl) ?_
  exact ⟨rfl, x28, t7.trans s28⟩
theorem c_b12f (d : Nat) (σ : am_S) (x : Tr) (hx : traceV 67 5 68 σ x) (h16 : x.1 ≤ 16) (k w kd : Nat) (hw : w < 30) (h1 : σ 67 1 = nI k) (h2 : σ 67 2 = nI w) (h3 : σ 67 3 = nI kd) (hk : kd = 4) : CallS mX0_body12 (d + 3) [.ref 67] σ (fun r σ' => r = some (.int (nI k - (nI (wA w) + 100))) ∧ traceV 67 5 68 σ' (tL x [12, 10, 22, 20]) ∧ sA σ σ') := by
  refine CallS.of kX0_body12 pX0_body12 [.ref 67, .retAddr 0] rfl (Nat.le_of_ble_eq_true rfl) ?_
  refine GS.run [] 2 rfl ?_
  refine GS.callV oX0_leave (c_leave d σ x hx h16 12) rfl rfl rfl rfl rfl rfl rfl (Nat.le_of_ble_eq_true rfl) (by omega) (fun v3 σ3 hq3 => ?_)
  obtain ⟨rfl, x3, s3⟩ := hq3
  have g1 : σ3 67 1 = nI k := (s3.2 1 (by decide)).trans h1
  have g2 : σ3 67 2 = nI w := (s3.2 2 (by decide)).trans h2
  have g3 : σ3 67 3 = nI kd := (s3.2 3 (by decide)).trans h3
  have g16 := tA_le (v := 12) h16
  refine GS.run [] 1 rfl ?_
  refine GS.callV oX0_body10 (c_b10 (d + 1) σ3 _ x3 g16 k w kd hw g1 g2 g3) rfl rfl rfl rfl rfl rfl rfl (Nat.le_of_ble_eq_true rfl) (by omega) (fun v7 σ7 hq7 => ?_)
  obtain ⟨rfl, x7, s7⟩ := hq7
  have t7 := s3.trans s7
  have j1 : σ7 67 1 = nI k := (t7.2 1 (by decide)).trans h1
  have j2 : σ7 67 2 = nI w := (t7.2 2 (by decide)).trans h2
  have j3 : σ7 67 3 = nI kd := (t7.2 3 (by decide)).trans h3
  have j16 := tL_le (l := [10]) g16
  refine GS.run [] 4 rfl ?_
  rw [j3]
  refine GS.run [] 0 rfl ?_
  refine GS.run [] 1 rfl ?_
  refine GS.icmp_ne rfl (fun q => absurd (by rw [hk]; rfl) q) (fun c17 => ?_)
  refine GS.run [] 1 rfl ?_
  refine GS.callV oX0_body22 (c_b22 d σ7 _ x7 j16 k w kd hw j1 j2 j3) rfl rfl rfl rfl rfl rfl rfl (Nat.le_of_ble_eq_true rfl) (by omega) (fun v21 σ21 hq21 => ?_)
  obtain ⟨rfl, x21, s21⟩ := hq21
  refine GS.run [] 2 rfl ?_
  refine GS.iret rfl rfl (rfl) ?_
  exact ⟨rfl, x21, t7.trans s21⟩
theorem c_b13 (d : Nat) (σ : am_S) (x : Tr) (hx : traceV 67 5 68 σ x) (h16 : x.1 ≤ 16) (k w kd : Nat) (hw : w < 30) (h1 : σ 67 1 = nI k) (h2 : σ 67 2 = nI w) (h3 : σ 67 3 = nI kd) (hk : kd = 4) : CallS mX0_body13 (d + 4) [.ref 67] σ (fun r σ' => r = some (.int (2 * (nI k - (nI (wA w) + 100)))) ∧ traceV 67 5 68 σ' (tL x [13, 12, 10, 22, 20]) ∧ sA σ σ') := by
  refine CallS.of kX0_body13 pX0_body13 [.ref 67] rfl (Nat.le_of_ble_eq_true rfl) ?_
  refine GS.run [] 2 rfl ?_
  refine GS.callV oX0_leave (c_leave d σ x hx h16 13) rfl rfl rfl rfl rfl rfl rfl (Nat.le_of_ble_eq_true rfl) (by omega) (fun v3 σ3 hq3 => ?_)
  obtain ⟨rfl, x3, s3⟩ := hq3
  have g1 : σ3 67 1 = nI k := (s3.2 1 (by decide)).trans h1
  have g2 : σ3 67 2 = nI w := (s3.2 2 (by decide)).trans h2
  have g3 : σ3 67 3 = nI kd := (s3.2 3 (by decide)).trans h3
  have g16 := tA_le (v := 13) h16
  refine GS.run [] 2 rfl ?_
  refine GS.callV oX0_body12 (c_b12f d σ3 _ x3 g16 k w kd hw g1 g2 g3 hk) rfl rfl rfl rfl rfl rfl rfl (Nat.le_of_ble_eq_true rfl) (by omega) (fun v8 σ8 hq8 => ?_)
  obtain ⟨rfl, x8, s8⟩ := hq8
  refine GS.run [] 1 rfl ?_
  refine GS.iret rfl rfl (rfl) ?_
  exact ⟨rfl, x8, s3.trans s8⟩
theorem c_sizeAsked (d : Nat) (σ : am_S) (x : Tr) (hx : traceV 67 5 68 σ x) (h16 : x.1 ≤ 16) (k w kd : Nat) (hw : w < 30) (h1 : σ 67 1 = nI k) (h2 : σ 67 2 = nI w) (h3 : σ 67 3 = nI kd) (hk : kd = 1 ∨ kd = 2 ∨ kd = 3 ∨ kd = 4 ∨ kd = 5) : CallS mX0_sizeOfAsked (d + 5) [.ref 67] σ (fun r σ' => r = some (.int (akV k w kd 0)) ∧ traceV 67 5 68 σ' (tL x (akC kd 0)) ∧ sA σ σ') := by
  refine CallS.of kX0_sizeOfAsked pX0_sizeOfAsked [.ref 67] rfl (Nat.le_of_ble_eq_true rfl) ?_
  refine GS.run [] 2 rfl ?_
  rw [h3]
  rcases hk with rfl | rfl | rfl | rfl | rfl
  · refine GS.tabIn (t := 40) rfl (by decide) (by decide) (rfl) ?_
    refine GS.run [] 1 rfl ?_
    refine GS.callV oX0_body11 (c_b11 (d + 1) σ x hx h16 k w 1 hw h1 h2 h3) rfl rfl rfl rfl rfl rfl rfl (Nat.le_of_ble_eq_true rfl) (by omega) (fun v41 σ41 hq41 => ?_)
    obtain ⟨rfl, xe, se⟩ := hq41
    refine GS.iret rfl rfl (rfl) ?_
    exact ⟨rfl, xe, se⟩
  · refine GS.tabIn (t := 60) rfl (by decide) (by decide) (rfl) ?_
    refine GS.run [] 1 rfl ?_
    refine GS.callV oX0_body10 (c_b10 (d + 3) σ x hx h16 k w 2 hw h1 h2 h3) rfl rfl rfl rfl rfl rfl rfl (Nat.le_of_ble_eq_true rfl) (by omega) (fun v61 σ61 hq61 => ?_)
    obtain ⟨rfl, xe, se⟩ := hq61
    refine GS.iret rfl rfl (rfl) ?_
    exact ⟨rfl, xe, se⟩
  · refine GS.tabIn (t := 45) rfl (by decide) (by decide) (rfl) ?_
    refine GS.run [] 1 rfl ?_
    refine GS.callV oX0_body12 (c_b12 (d + 1) σ x hx h16 k w 3 hw h1 h2 h3 rfl) rfl rfl rfl rfl rfl rfl rfl (Nat.le_of_ble_eq_true rfl) (by omega) (fun v46 σ46 hq46 => ?_)
    obtain ⟨rfl, xe, se⟩ := hq46
    refine GS.iret rfl rfl (rfl) ?_
    exact ⟨rfl, xe, se⟩
  · refine GS.tabIn (t := 50) rfl (by decide) (by decide) (rfl) ?_
    refine GS.run [] 1 rfl ?_
    refine GS.callV oX0_body13 (c_b13 d σ x hx h16 k w 4 hw h1 h2 h3 rfl) rfl rfl rfl rfl rfl rfl rfl (Nat.le_of_ble_eq_true rfl) (by omega) (fun v51 σ51 hq51 => ?_)
    obtain ⟨rfl, xe, se⟩ := hq51
    refine GS.iret rfl rfl (rfl) ?_
    exact ⟨rfl, xe, se⟩
  · refine GS.tabIn (t := 55) rfl (by decide) (by decide) (rfl) ?_
    refine GS.run [] 1 rfl ?_
    refine GS.callV oX0_body14 (c_b14 (d + 2) σ x hx h16 k w 5 hw h1 h2 h3) rfl rfl rfl rfl rfl rfl rfl (Nat.le_of_ble_eq_true rfl) (by omega) (fun v56 σ56 hq56 => ?_)
    obtain ⟨rfl, xe, se⟩ := hq56
    refine GS.iret rfl rfl (rfl) ?_
    exact ⟨rfl, xe, se⟩
theorem c_markAsked (d : Nat) (σ : am_S) (x : Tr) (hx : traceV 67 5 68 σ x) (h16 : x.1 ≤ 16) (k w kd : Nat) (hw : w < 30) (h1 : σ 67 1 = nI k) (h2 : σ 67 2 = nI w) (h3 : σ 67 3 = nI kd) (hk : kd = 1 ∨ kd = 2 ∨ kd = 3 ∨ kd = 4 ∨ kd = 5) : CallS mX0_markOfAsked (d + 4) [.ref 67] σ (fun r σ' => r = some (.int (akV k w kd 1)) ∧ traceV 67 5 68 σ' (tL x (akC kd 1)) ∧ sA σ σ') := by
  refine CallS.of kX0_markOfAsked pX0_markOfAsked [.ref 67] rfl (Nat.le_of_ble_eq_true rfl) ?_
  refine GS.run [] 2 rfl ?_
  rw [h3]
  rcases hk with rfl | rfl | rfl | rfl | rfl
  · refine GS.tabOut rfl (Or.inl (by decide)) ?_
    refine GS.run [] 1 rfl ?_
    refine GS.callV oX0_body20 (c_b20 (d + 2) σ x hx h16 k w 1 hw h1 h2 h3) rfl rfl rfl rfl rfl rfl rfl (Nat.le_of_ble_eq_true rfl) (by omega) (fun v52 σ52 hq52 => ?_)
    obtain ⟨rfl, xe, se⟩ := hq52
    refine GS.iret rfl rfl (rfl) ?_
    exact ⟨rfl, xe, se⟩
  · refine GS.tabIn (t := 36) rfl (by decide) (by decide) (rfl) ?_
    refine GS.run [] 1 rfl ?_
    refine GS.callV oX0_body21 (c_b21 (d + 1) σ x hx h16 k w 2 hw h1 h2 h3) rfl rfl rfl rfl rfl rfl rfl (Nat.le_of_ble_eq_true rfl) (by omega) (fun v37 σ37 hq37 => ?_)
    obtain ⟨rfl, xe, se⟩ := hq37
    refine GS.iret rfl rfl (rfl) ?_
    exact ⟨rfl, xe, se⟩
  · refine GS.tabIn (t := 51) rfl (by decide) (by decide) (rfl) ?_
    refine GS.run [] 1 rfl ?_
    refine GS.callV oX0_body20 (c_b20 (d + 2) σ x hx h16 k w 3 hw h1 h2 h3) rfl rfl rfl rfl rfl rfl rfl (Nat.le_of_ble_eq_true rfl) (by omega) (fun v52 σ52 hq52 => ?_)
    obtain ⟨rfl, xe, se⟩ := hq52
    refine GS.iret rfl rfl (rfl) ?_
    exact ⟨rfl, xe, se⟩
  · refine GS.tabIn (t := 41) rfl (by decide) (by decide) (rfl) ?_
    refine GS.run [] 1 rfl ?_
    refine GS.callV oX0_body22 (c_b22 (d + 1) σ x hx h16 k w 4 hw h1 h2 h3) rfl rfl rfl rfl rfl rfl rfl (Nat.le_of_ble_eq_true rfl) (by omega) (fun v42 σ42 hq42 => ?_)
    obtain ⟨rfl, xe, se⟩ := hq42
    refine GS.iret rfl rfl (rfl) ?_
    exact ⟨rfl, xe, se⟩
  · refine GS.tabIn (t := 46) rfl (by decide) (by decide) (rfl) ?_
    refine GS.run [] 1 rfl ?_
    refine GS.callV oX0_body23 (c_b23 d σ x hx h16 k w 5 hw h1 h2 h3) rfl rfl rfl rfl rfl rfl rfl (Nat.le_of_ble_eq_true rfl) (by omega) (fun v47 σ47 hq47 => ?_)
    obtain ⟨rfl, xe, se⟩ := hq47
    refine GS.iret rfl rfl (rfl) ?_
    exact ⟨rfl, xe, se⟩
theorem c_begin (d : Nat) (σ : am_S) (s : Sy) (k : Nat) (hy : sayC 24 σ s) (hys : wfS s) (hk : k < s.1) : CallS mX0_begin (d + 4) [.ref 67, .int (nI k)] σ (fun r σ' => r = none ∧ σ' 67 1 = nI k ∧ σ' 67 2 = nI (s.2 k) ∧ σ' 67 3 = nI (kdF (s.2 k)) ∧ σ' 67 5 = 0 ∧ same [67] σ σ') := by
  refine CallS.of kX0_begin pX0_begin [.ref 67, .int (nI k)] rfl (Nat.le_of_ble_eq_true rfl) ?_
  refine GS.run [] 7 rfl ?_
  refine GS.cV oX5_wordAt ((c_wordAt (d + 1) (am_s1 σ 67 (upd (σ 67) 1 (nI k))) (nI k)).eq (congrArg (fun z => some (Value.int z)) (v_word (σ := am_s1 σ 67 (upd (σ 67) 1 (nI k))) hy hys hk)) rfl) rfl rfl rfl rfl rfl rfl rfl (Nat.le_of_ble_eq_true rfl) (by omega) ?_
  refine GS.run [] 5 rfl ?_
  refine GS.cV oX5_kindAt (c_kindAt d _ s k (hy.kept rfl rfl) hys hk) rfl rfl rfl rfl rfl rfl rfl (Nat.le_of_ble_eq_true rfl) (by omega) ?_
  refine GS.run [] 4 rfl ?_
  refine GS.vret rfl rfl ?_
  exact ⟨rfl, rfl, rfl, rfl, rfl, (((same.rf.s1 (by decide)).s1 (by decide)).s1 (by decide)).s1 (by decide)⟩
theorem p_ask_c (d : Nat) (σ : am_S) (s : Sy) (x : Tr) (k what : Int32) (hy : sayC 24 σ s) (hys : wfS s) (hx : traceV 67 5 68 σ x) : CallS mX11_ask (d + 6) [.ref 0, .int k, .int what] σ (fun r σ' => r = some (.int (qAsk s x k what).1) ∧ traceV 67 5 68 σ' (qAsk s x k what).2 ∧ same [67, 68] σ σ') := by
  refine CallS.of kX11_ask pX11_ask [.ref 0, .int k, .int what] rfl (Nat.le_of_ble_eq_true rfl) ?_
  refine GS.run [] 3 rfl ?_
  refine GS.cV oX5_has ((c_shas_24 (d + 4) σ k).eq (congrArg (fun z => some (Value.int z)) (am_b_congr (q := okw s k) (by rw [hy.1, nI_toInt (by have := hys.1; omega)]))) rfl) rfl rfl rfl rfl rfl rfl rfl (Nat.le_of_ble_eq_true rfl) (by omega) ?_
  refine GS.if_eq rfl (fun c8 => ?_) (fun c8 => ?_)
  · have hbad : ¬ (okw s k ∧ okb what) := fun h => am_b0.mp c8 h.1
    refine GS.run [] 1 rfl ?_
    refine GS.iret rfl rfl (rfl) ?_
    have hq : qAsk s x k what = (-1000001, x) := by unfold qAsk; rw [if_neg hbad]
    rw [hq]
    exact ⟨rfl, hx, same.rf⟩
  · have g1 : okw s k := am_bT c8
    refine GS.run [] 1 rfl ?_
    refine GS.cS oX11_bit (c_bit (d + 5) σ what) rfl rfl rfl rfl (Nat.le_of_ble_eq_true rfl) (by omega) ?_
    refine GS.if_ne rfl (fun c15 => ?_) (fun c15 => ?_)
    · have g2 : okb what := am_bT c15
      have h12 := hys.1
      obtain ⟨a, ha, rfl⟩ := okn_nat (n := s.1) g1
      have ec : cn (nI a) = a := cn_nI (by omega)
      refine GS.run [] 3 rfl ?_
      refine GS.callV oX0_begin (c_begin (d + 1) σ s a hy hys ha) rfl rfl rfl rfl rfl rfl rfl (Nat.le_of_ble_eq_true rfl) (by omega) (fun v26 σ26 hq26 => ?_)
      obtain ⟨rfl, f1, f2, f3, f5, sb⟩ := hq26
      rcases g2 with rfl | rfl
      · have hq : qAsk s x (nI a) (nI 0) = (akV a (s.2 a) (kdF (s.2 a)) 0, tL (0, x.2) (akC (kdF (s.2 a)) 0)) := by unfold qAsk; rw [if_pos ⟨g1, by decide⟩, ec, show cn (nI 0) = 0 from rfl]
        have hw29 := isW_29 (hys.2 a ha)
        have t0 : traceV 67 5 68 σ26 (0, x.2) := ⟨f5, fun i hi => absurd hi (Nat.not_lt_zero _)⟩
        refine GS.run [] 1 rfl ?_
        refine GS.if_ne rfl (fun q => absurd (rfl) q) (fun c30 => ?_)
        refine GS.run [] 2 rfl ?_
        refine GS.callV oX0_sizeOfAsked (c_sizeAsked d σ26 (0, x.2) t0 (Nat.zero_le 16) a (s.2 a) (kdF (s.2 a)) hw29 f1 f2 f3 kdF_c) rfl rfl rfl rfl rfl rfl rfl (Nat.le_of_ble_eq_true rfl) (by omega) (fun v37 σ37 hq37 => ?_)
        obtain ⟨rfl, xe, se⟩ := hq37
        refine GS.run [] 1 rfl ?_
        refine GS.iret rfl rfl (rfl) ?_
        have hqq : qAsk s x (nI a) 0 = qAsk s x (nI a) (nI 0) := rfl
        rw [hqq, hq]
        exact ⟨rfl, xe, (sb.sub (by decide)).trans se.1⟩
      · have hq : qAsk s x (nI a) (nI 1) = (akV a (s.2 a) (kdF (s.2 a)) 1, tL (0, x.2) (akC (kdF (s.2 a)) 1)) := by unfold qAsk; rw [if_pos ⟨g1, by decide⟩, ec, show cn (nI 1) = 1 from rfl]
        have hw29 := isW_29 (hys.2 a ha)
        have t0 : traceV 67 5 68 σ26 (0, x.2) := ⟨f5, fun i hi => absurd hi (Nat.not_lt_zero _)⟩
        refine GS.run [] 1 rfl ?_
        refine GS.if_ne rfl (fun c30 => ?_) (fun q => absurd q (by decide))
        refine GS.run [] 2 rfl ?_
        refine GS.callV oX0_markOfAsked (c_markAsked (d + 1) σ26 (0, x.2) t0 (Nat.zero_le 16) a (s.2 a) (kdF (s.2 a)) hw29 f1 f2 f3 kdF_c) rfl rfl rfl rfl rfl rfl rfl (Nat.le_of_ble_eq_true rfl) (by omega) (fun v47 σ47 hq47 => ?_)
        obtain ⟨rfl, xe, se⟩ := hq47
        refine GS.iret rfl rfl (rfl) ?_
        have hqq : qAsk s x (nI a) 1 = qAsk s x (nI a) (nI 1) := rfl
        rw [hqq, hq]
        exact ⟨rfl, xe, (sb.sub (by decide)).trans se.1⟩
    · have hbad : ¬ (okw s k ∧ okb what) := fun h => am_b0.mp c15 h.2
      refine GS.run [] 1 rfl ?_
      refine GS.iret rfl rfl (rfl) ?_
      have hq : qAsk s x k what = (-1000001, x) := by unfold qAsk; rw [if_neg hbad]
      rw [hq]
      exact ⟨rfl, hx, same.rf⟩
theorem c_began (d : Nat) (σ : am_S) (x : Tr) (hx : traceV 69 40 88 σ x) (h16 : x.1 ≤ 16) (v : Int32) : CallS mX12_began (d) [.ref 69, .int v] σ (fun r σ' => r = none ∧ traceV 69 40 88 σ' (tA x v) ∧ sameM [88] [40] σ σ') := by
  refine CallS.of kX12_began pX12_began [.ref 69, .int v] rfl (Nat.le_of_ble_eq_true rfl) ?_
  refine GS.run [] 3 rfl ?_
  refine GS.icmp_ge rfl (fun c6 => ?_) (fun c6 => ?_)
  · rw [show σ 69 40 = nI x.1 from hx.1] at c6
    have hn : ¬ x.1 < 16 := by have := (nI_leI (a := 16) (by omega) (by omega)).mp c6; omega
    refine GS.vret rfl rfl ?_
    first
      | exact ⟨rfl, by unfold tA; rw [if_neg hn]; exact hx, sameM.rf⟩
      | exact ⟨rfl, tr_put hx hn ((congrArg (· + 1) hx.1).trans (nI_1 _)) rfl, (sameM.rf.cell (by decide) (by decide)).fld (by decide)⟩
  · rw [show σ 69 40 = nI x.1 from hx.1] at c6
    have hn : x.1 < 16 := (nI_gtI (a := 16) (by omega) (by omega)).mp c6
    refine GS.run [] 5 rfl ?_
    rw [show σ 69 40 = nI x.1 from hx.1]
    refine GS.run [] 0 rfl ?_
    refine GS.ast (x.1) rfl rfl (rfl) (by omega) ?_
    refine GS.run [] 6 rfl ?_
    refine GS.vret rfl rfl ?_
    first
      | exact ⟨rfl, by unfold tA; rw [if_neg hn]; exact hx, sameM.rf⟩
      | exact ⟨rfl, tr_put hx hn ((congrArg (· + 1) hx.1).trans (nI_1 _)) rfl, (sameM.rf.cell (by decide) (by decide)).fld (by decide)⟩
theorem c_plain (d : Nat) (σ : am_S) (x : Tr) (hx : traceV 69 40 88 σ x) (h16 : x.1 ≤ 16) (s : Sy) (k : Nat) (hy : sayM 75 0 σ s) (hys : wfS s) (hk : k < s.1) : CallS mX12_plainSize (d + 1) [.ref 69, .int (nI k)] σ (fun r σ' => r = some (.int (nI k)) ∧ traceV 69 40 88 σ' (tL x [10]) ∧ sameM [88] [40] σ σ') := by
  refine CallS.of kX12_plainSize pX12_plainSize [.ref 69, .int (nI k)] rfl (Nat.le_of_ble_eq_true rfl) ?_
  refine GS.run [] 2 rfl ?_
  refine GS.callV oX12_began (c_began d σ x hx h16 10) rfl rfl rfl rfl rfl rfl rfl (Nat.le_of_ble_eq_true rfl) (by omega) (fun v3 σ3 hq3 => ?_)
  obtain ⟨rfl, x3, s3⟩ := hq3
  have y3 := sameM_say s3 (by decide) hy
  have g3 := tA_le (v := 10) h16
  refine GS.run [] 1 rfl ?_
  refine GS.iret rfl rfl (rfl) ?_
  exact ⟨rfl, x3, s3⟩
theorem c_taken (d : Nat) (σ : am_S) (x : Tr) (hx : traceV 69 40 88 σ x) (h16 : x.1 ≤ 16) (s : Sy) (k : Nat) (hy : sayM 75 0 σ s) (hys : wfS s) (hk : k < s.1) : CallS mX12_takenSize (d + 2) [.ref 69, .int (nI k)] σ (fun r σ' => r = some (.int (-nI k)) ∧ traceV 69 40 88 σ' (tL x [14, 10]) ∧ sameM [88] [40] σ σ') := by
  refine CallS.of kX12_takenSize pX12_takenSize [.ref 69, .int (nI k)] rfl (Nat.le_of_ble_eq_true rfl) ?_
  refine GS.run [] 2 rfl ?_
  refine GS.callV oX12_began (c_began (d + 1) σ x hx h16 14) rfl rfl rfl rfl rfl rfl rfl (Nat.le_of_ble_eq_true rfl) (by omega) (fun v3 σ3 hq3 => ?_)
  obtain ⟨rfl, x3, s3⟩ := hq3
  have y3 := sameM_say s3 (by decide) hy
  have g3 := tA_le (v := 14) h16
  refine GS.run [] 2 rfl ?_
  refine GS.callV oX12_plainSize (c_plain d σ3 _ x3 g3 s k y3 hys hk) rfl rfl rfl rfl rfl rfl rfl (Nat.le_of_ble_eq_true rfl) (by omega) (fun v8 σ8 hq8 => ?_)
  obtain ⟨rfl, x8, s8⟩ := hq8
  refine GS.run [] 1 rfl ?_
  refine GS.iret rfl rfl (rfl) ?_
  exact ⟨rfl, x8, s3.trans s8⟩
theorem c_markOf (d : Nat) (σ : am_S) (x : Tr) (hx : traceV 69 40 88 σ x) (h16 : x.1 ≤ 16) (s : Sy) (k : Nat) (hy : sayM 75 0 σ s) (hys : wfS s) (hk : k < s.1) (kd : Nat) (hkd : kdF (s.2 k) = kd) (hc : kd = 1 ∨ kd = 2 ∨ kd = 3 ∨ kd = 4 ∨ kd = 5) : CallS mX12_markOf (d + 3) [.ref 69, .int (nI k)] σ (fun r σ' => r = some (.int (akV k (s.2 k) kd 1)) ∧ traceV 69 40 88 σ' (tL x (akC kd 1)) ∧ sameM [88] [40] σ σ') := by
  refine CallS.of kX12_markOf pX12_markOf [.ref 69, .int (nI k), .retAddr 0, .retAddr 0] rfl (Nat.le_of_ble_eq_true rfl) ?_
  refine GS.run [] 2 rfl ?_
  refine GS.cV oX12_kindOf (c_kindOf (d + 1) σ s k hy hys hk) rfl rfl rfl rfl rfl rfl rfl (Nat.le_of_ble_eq_true rfl) (by omega) ?_
  rcases hc with rfl | rfl | rfl | rfl | rfl
  · have hw29 := isW_29 (hys.2 k hk)
    rw [hkd]
    refine GS.run [] 0 rfl ?_
    refine GS.run [] 3 rfl ?_
    refine GS.icmp_eq rfl (fun q => absurd q (by decide)) (fun c8 => ?_)
    refine GS.run [] 2 rfl ?_
    refine GS.icmp_eq rfl (fun q => absurd q (by decide)) (fun c13 => ?_)
    refine GS.run [] 2 rfl ?_
    refine GS.icmp_ne rfl (fun c18 => ?_) (fun q => absurd q (by decide))
    refine GS.run [] 2 rfl ?_
    refine GS.callV oX12_began (c_began (d + 1) σ x hx h16 20) rfl rfl rfl rfl rfl rfl rfl (Nat.le_of_ble_eq_true rfl) (by omega) (fun v50 σ50 hq50 => ?_)
    obtain ⟨rfl, x50, s50⟩ := hq50
    have t50 := s50
    have y50 := sameM_say t50 (by decide) hy
    have g50 := tA_le (v := 20) h16
    refine GS.run [] 2 rfl ?_
    refine GS.cV oX12_wordAt (c_mwordAt (d + 1) σ50 s k y50 hys hk) rfl rfl rfl rfl rfl rfl rfl (Nat.le_of_ble_eq_true rfl) (by omega) ?_
    refine GS.run [] 3 rfl ?_
    refine GS.icmp_ne rfl (fun c61 => ?_) (fun q => absurd q (by decide))
    refine GS.run [] 2 rfl ?_
    refine GS.icmp_ne rfl (fun c74 => ?_) (fun q => absurd q (by decide))
    refine GS.run [] 2 rfl ?_
    refine GS.icmp_ne rfl (fun c98 => ?_) (fun q => absurd q (by decide))
    refine GS.run [] 1 rfl ?_
    refine GS.iret rfl rfl (rfl) ?_
    exact ⟨rfl, x50, t50⟩
  · have hw29 := isW_29 (hys.2 k hk)
    rw [hkd]
    refine GS.run [] 0 rfl ?_
    refine GS.run [] 3 rfl ?_
    refine GS.icmp_eq rfl (fun c8 => ?_) (fun q => absurd (rfl) q)
    refine GS.run [] 3 rfl ?_
    refine GS.icmp_ne rfl (fun q => absurd (rfl) q) (fun c24 => ?_)
    refine GS.run [] 2 rfl ?_
    refine GS.callV oX12_began (c_began (d + 1) σ x hx h16 21) rfl rfl rfl rfl rfl rfl rfl (Nat.le_of_ble_eq_true rfl) (by omega) (fun v44 σ44 hq44 => ?_)
    obtain ⟨rfl, x44, s44⟩ := hq44
    have y44 := sameM_say s44 (by decide) hy
    have g44 := tA_le (v := 21) h16
    refine GS.run [] 2 rfl ?_
    refine GS.callV oX12_began (c_began (d + 1) σ44 _ x44 g44 20) rfl rfl rfl rfl rfl rfl rfl (Nat.le_of_ble_eq_true rfl) (by omega) (fun v50 σ50 hq50 => ?_)
    obtain ⟨rfl, x50, s50⟩ := hq50
    have t50 := s44.trans s50
    have y50 := sameM_say t50 (by decide) hy
    have g50 := tA_le (v := 20) g44
    refine GS.run [] 2 rfl ?_
    refine GS.cV oX12_wordAt (c_mwordAt (d + 1) σ50 s k y50 hys hk) rfl rfl rfl rfl rfl rfl rfl (Nat.le_of_ble_eq_true rfl) (by omega) ?_
    refine GS.run [] 3 rfl ?_
    refine GS.icmp_ne rfl (fun c61 => ?_) (fun q => absurd q (by decide))
    refine GS.run [] 2 rfl ?_
    refine GS.icmp_ne rfl (fun q => absurd (rfl) q) (fun c74 => ?_)
    refine GS.run [] 7 rfl ?_
    refine GS.ald (1 + k) rfl rfl (he_1) (by have := hys.1; omega) ?_
    rw [m_word y50 hk]
    refine GS.run [] 5 rfl ?_
    refine GS.iret rfl rfl (rfl) ?_
    exact ⟨rfl, x50, t50⟩
  · have hw29 := isW_29 (hys.2 k hk)
    rw [hkd]
    refine GS.run [] 0 rfl ?_
    refine GS.run [] 3 rfl ?_
    refine GS.icmp_eq rfl (fun q => absurd q (by decide)) (fun c8 => ?_)
    refine GS.run [] 2 rfl ?_
    refine GS.icmp_eq rfl (fun q => absurd q (by decide)) (fun c13 => ?_)
    refine GS.run [] 2 rfl ?_
    refine GS.icmp_ne rfl (fun c18 => ?_) (fun q => absurd q (by decide))
    refine GS.run [] 2 rfl ?_
    refine GS.callV oX12_began (c_began (d + 1) σ x hx h16 20) rfl rfl rfl rfl rfl rfl rfl (Nat.le_of_ble_eq_true rfl) (by omega) (fun v50 σ50 hq50 => ?_)
    obtain ⟨rfl, x50, s50⟩ := hq50
    have t50 := s50
    have y50 := sameM_say t50 (by decide) hy
    have g50 := tA_le (v := 20) h16
    refine GS.run [] 2 rfl ?_
    refine GS.cV oX12_wordAt (c_mwordAt (d + 1) σ50 s k y50 hys hk) rfl rfl rfl rfl rfl rfl rfl (Nat.le_of_ble_eq_true rfl) (by omega) ?_
    refine GS.run [] 3 rfl ?_
    refine GS.icmp_ne rfl (fun c61 => ?_) (fun q => absurd q (by decide))
    refine GS.run [] 2 rfl ?_
    refine GS.icmp_ne rfl (fun c74 => ?_) (fun q => absurd q (by decide))
    refine GS.run [] 2 rfl ?_
    refine GS.icmp_ne rfl (fun c98 => ?_) (fun q => absurd q (by decide))
    refine GS.run [] 1 rfl ?_
    refine GS.iret rfl rfl (rfl) ?_
    exact ⟨rfl, x50, t50⟩
  · have hw29 := isW_29 (hys.2 k hk)
    rw [hkd]
    refine GS.run [] 0 rfl ?_
    refine GS.run [] 3 rfl ?_
    refine GS.icmp_eq rfl (fun q => absurd q (by decide)) (fun c8 => ?_)
    refine GS.run [] 2 rfl ?_
    refine GS.icmp_eq rfl (fun c13 => ?_) (fun q => absurd (rfl) q)
    refine GS.run [] 3 rfl ?_
    refine GS.icmp_ne rfl (fun c24 => ?_) (fun q => absurd q (by decide))
    refine GS.run [] 2 rfl ?_
    refine GS.icmp_ne rfl (fun q => absurd (rfl) q) (fun c34 => ?_)
    refine GS.run [] 2 rfl ?_
    refine GS.callV oX12_began (c_began (d + 1) σ x hx h16 22) rfl rfl rfl rfl rfl rfl rfl (Nat.le_of_ble_eq_true rfl) (by omega) (fun v44 σ44 hq44 => ?_)
    obtain ⟨rfl, x44, s44⟩ := hq44
    have y44 := sameM_say s44 (by decide) hy
    have g44 := tA_le (v := 22) h16
    refine GS.run [] 2 rfl ?_
    refine GS.callV oX12_began (c_began (d + 1) σ44 _ x44 g44 20) rfl rfl rfl rfl rfl rfl rfl (Nat.le_of_ble_eq_true rfl) (by omega) (fun v50 σ50 hq50 => ?_)
    obtain ⟨rfl, x50, s50⟩ := hq50
    have t50 := s44.trans s50
    have y50 := sameM_say t50 (by decide) hy
    have g50 := tA_le (v := 20) g44
    refine GS.run [] 2 rfl ?_
    refine GS.cV oX12_wordAt (c_mwordAt (d + 1) σ50 s k y50 hys hk) rfl rfl rfl rfl rfl rfl rfl (Nat.le_of_ble_eq_true rfl) (by omega) ?_
    refine GS.run [] 3 rfl ?_
    refine GS.icmp_ne rfl (fun c61 => ?_) (fun q => absurd q (by decide))
    refine GS.run [] 2 rfl ?_
    refine GS.icmp_ne rfl (fun c74 => ?_) (fun q => absurd q (by decide))
    refine GS.run [] 2 rfl ?_
    refine GS.icmp_ne rfl (fun q => absurd (rfl) q) (fun c98 => ?_)
    refine GS.run [] 4 rfl ?_
    refine GS.iret rfl rfl (rfl) ?_
    exact ⟨rfl, x50, t50⟩
  · have hw29 := isW_29 (hys.2 k hk)
    rw [hkd]
    refine GS.run [] 0 rfl ?_
    refine GS.run [] 3 rfl ?_
    refine GS.icmp_eq rfl (fun q => absurd q (by decide)) (fun c8 => ?_)
    refine GS.run [] 2 rfl ?_
    refine GS.icmp_eq rfl (fun q => absurd q (by decide)) (fun c13 => ?_)
    refine GS.run [] 2 rfl ?_
    refine GS.icmp_ne rfl (fun q => absurd (rfl) q) (fun c18 => ?_)
    refine GS.run [] 3 rfl ?_
    refine GS.icmp_ne rfl (fun c24 => ?_) (fun q => absurd q (by decide))
    refine GS.run [] 2 rfl ?_
    refine GS.icmp_ne rfl (fun c34 => ?_) (fun q => absurd q (by decide))
    refine GS.run [] 1 rfl ?_
    refine GS.callV oX12_began (c_began (d + 1) σ x hx h16 23) rfl rfl rfl rfl rfl rfl rfl (Nat.le_of_ble_eq_true rfl) (by omega) (fun v44 σ44 hq44 => ?_)
    obtain ⟨rfl, x44, s44⟩ := hq44
    have y44 := sameM_say s44 (by decide) hy
    have g44 := tA_le (v := 23) h16
    refine GS.run [] 2 rfl ?_
    refine GS.callV oX12_began (c_began (d + 1) σ44 _ x44 g44 20) rfl rfl rfl rfl rfl rfl rfl (Nat.le_of_ble_eq_true rfl) (by omega) (fun v50 σ50 hq50 => ?_)
    obtain ⟨rfl, x50, s50⟩ := hq50
    have t50 := s44.trans s50
    have y50 := sameM_say t50 (by decide) hy
    have g50 := tA_le (v := 20) g44
    refine GS.run [] 2 rfl ?_
    refine GS.cV oX12_wordAt (c_mwordAt (d + 1) σ50 s k y50 hys hk) rfl rfl rfl rfl rfl rfl rfl (Nat.le_of_ble_eq_true rfl) (by omega) ?_
    refine GS.run [] 3 rfl ?_
    refine GS.icmp_ne rfl (fun q => absurd (rfl) q) (fun c61 => ?_)
    refine GS.run [] 3 rfl ?_
    refine GS.callV oX12_takenSize (c_taken d σ50 _ x50 g50 s k y50 hys hk) rfl rfl rfl rfl rfl rfl rfl (Nat.le_of_ble_eq_true rfl) (by omega) (fun v67 σ67 hq67 => ?_)
    obtain ⟨rfl, x67, s67⟩ := hq67
    refine GS.run [] 1 rfl ?_
    refine GS.iret rfl rfl (rfl) ?_
    exact ⟨rfl, x67, t50.trans s67⟩
theorem c_turned (d : Nat) (σ : am_S) (x : Tr) (hx : traceV 69 40 88 σ x) (h16 : x.1 ≤ 16) (s : Sy) (k : Nat) (hy : sayM 75 0 σ s) (hys : wfS s) (hk : k < s.1) (kd : Nat) (hkd : kdF (s.2 k) = kd) : CallS mX12_turnedSize (d + 4) [.ref 69, .int (nI k)] σ (fun r σ' => r = some (.int (nI k - akV k (s.2 k) kd 1)) ∧ traceV 69 40 88 σ' (tL (tL x [12, 10]) (akC kd 1)) ∧ sameM [88] [40] σ σ') := by
  refine CallS.of kX12_turnedSize pX12_turnedSize [.ref 69, .int (nI k), .retAddr 0] rfl (Nat.le_of_ble_eq_true rfl) ?_
  refine GS.run [] 2 rfl ?_
  refine GS.callV oX12_began (c_began (d + 3) σ x hx h16 12) rfl rfl rfl rfl rfl rfl rfl (Nat.le_of_ble_eq_true rfl) (by omega) (fun v3 σ3 hq3 => ?_)
  obtain ⟨rfl, x3, s3⟩ := hq3
  have y3 := sameM_say s3 (by decide) hy
  have g3 := tA_le (v := 12) h16
  refine GS.run [] 2 rfl ?_
  refine GS.callV oX12_plainSize (c_plain (d + 2) σ3 _ x3 g3 s k y3 hys hk) rfl rfl rfl rfl rfl rfl rfl (Nat.le_of_ble_eq_true rfl) (by omega) (fun v8 σ8 hq8 => ?_)
  obtain ⟨rfl, x8, s8⟩ := hq8
  have t8 := s3.trans s8
  have y8 := sameM_say t8 (by decide) hy
  have g8 := tL_le (l := [10]) g3
  refine GS.run [] 4 rfl ?_
  refine GS.callV oX12_markOf (c_markOf d σ8 _ x8 g8 s k y8 hys hk kd hkd (hkd ▸ kdF_c)) rfl rfl rfl rfl rfl rfl rfl (Nat.le_of_ble_eq_true rfl) (by omega) (fun v15 σ15 hq15 => ?_)
  obtain ⟨rfl, x15, s15⟩ := hq15
  refine GS.run [] 1 rfl ?_
  refine GS.iret rfl rfl (rfl) ?_
  exact ⟨rfl, x15, t8.trans s15⟩
theorem c_sizeOf (d : Nat) (σ : am_S) (x : Tr) (hx : traceV 69 40 88 σ x) (h16 : x.1 ≤ 16) (s : Sy) (k : Nat) (hy : sayM 75 0 σ s) (hys : wfS s) (hk : k < s.1) (kd : Nat) (hkd : kdF (s.2 k) = kd) (hc : kd = 1 ∨ kd = 2 ∨ kd = 3 ∨ kd = 4 ∨ kd = 5) : CallS mX12_sizeOf (d + 5) [.ref 69, .int (nI k)] σ (fun r σ' => r = some (.int (akV k (s.2 k) kd 0)) ∧ traceV 69 40 88 σ' (tL x (akC kd 0)) ∧ sameM [88] [40] σ σ') := by
  refine CallS.of kX12_sizeOf pX12_sizeOf [.ref 69, .int (nI k), .retAddr 0] rfl (Nat.le_of_ble_eq_true rfl) ?_
  refine GS.run [] 4 rfl ?_
  refine GS.cV oX12_kindOf (c_kindOf (d + 3) σ s k hy hys hk) rfl rfl rfl rfl rfl rfl rfl (Nat.le_of_ble_eq_true rfl) (by omega) ?_
  rcases hc with rfl | rfl | rfl | rfl | rfl
  · have hw29 := isW_29 (hys.2 k hk)
    rw [hkd]
    refine GS.tabIn (t := 40) rfl (by decide) (by decide) (rfl) ?_
    refine GS.run [] 2 rfl ?_
    refine GS.callV oX12_began (c_began (d + 4) σ x hx h16 11) rfl rfl rfl rfl rfl rfl rfl (Nat.le_of_ble_eq_true rfl) (by omega) (fun v43 σ43 hq43 => ?_)
    obtain ⟨rfl, x43, s43⟩ := hq43
    have y43 := sameM_say s43 (by decide) hy
    have g43 := tA_le (v := 11) h16
    refine GS.run [] 2 rfl ?_
    refine GS.callV oX12_plainSize (c_plain (d + 3) σ43 _ x43 g43 s k y43 hys hk) rfl rfl rfl rfl rfl rfl rfl (Nat.le_of_ble_eq_true rfl) (by omega) (fun v48 σ48 hq48 => ?_)
    obtain ⟨rfl, x48, s48⟩ := hq48
    have t48 := s43.trans s48
    have y48 := sameM_say t48 (by decide) hy
    have g48 := tL_le (l := [10]) g43
    refine GS.run [] 4 rfl ?_
    refine GS.callV oX12_markOf (c_markOf (d + 1) σ48 _ x48 g48 s k y48 hys hk 1 hkd (Or.inl rfl)) rfl rfl rfl rfl rfl rfl rfl (Nat.le_of_ble_eq_true rfl) (by omega) (fun v55 σ55 hq55 => ?_)
    obtain ⟨rfl, x55, s55⟩ := hq55
    refine GS.run [] 1 rfl ?_
    refine GS.iret rfl rfl (rfl) ?_
    exact ⟨rfl, x55, t48.trans s55⟩
  · have hw29 := isW_29 (hys.2 k hk)
    rw [hkd]
    refine GS.tabIn (t := 86) rfl (by decide) (by decide) (rfl) ?_
    refine GS.run [] 2 rfl ?_
    refine GS.callV oX12_plainSize (c_plain (d + 3) σ x hx h16 s k hy hys hk) rfl rfl rfl rfl rfl rfl rfl (Nat.le_of_ble_eq_true rfl) (by omega) (fun v88 σ88 hq88 => ?_)
    obtain ⟨rfl, xe, se⟩ := hq88
    refine GS.iret rfl rfl (rfl) ?_
    exact ⟨rfl, xe, se⟩
  · have hw29 := isW_29 (hys.2 k hk)
    rw [hkd]
    refine GS.tabIn (t := 60) rfl (by decide) (by decide) (rfl) ?_
    refine GS.run [] 2 rfl ?_
    refine GS.callV oX12_turnedSize (c_turned d σ x hx h16 s k hy hys hk 3 hkd) rfl rfl rfl rfl rfl rfl rfl (Nat.le_of_ble_eq_true rfl) (by omega) (fun v62 σ62 hq62 => ?_)
    obtain ⟨rfl, xe, se⟩ := hq62
    refine GS.iret rfl rfl (rfl) ?_
    exact ⟨rfl, xe, se⟩
  · have hw29 := isW_29 (hys.2 k hk)
    rw [hkd]
    refine GS.tabIn (t := 66) rfl (by decide) (by decide) (rfl) ?_
    refine GS.run [] 2 rfl ?_
    refine GS.callV oX12_began (c_began (d + 4) σ x hx h16 13) rfl rfl rfl rfl rfl rfl rfl (Nat.le_of_ble_eq_true rfl) (by omega) (fun v69 σ69 hq69 => ?_)
    obtain ⟨rfl, x69, s69⟩ := hq69
    have y69 := sameM_say s69 (by decide) hy
    have g69 := tA_le (v := 13) h16
    refine GS.run [] 3 rfl ?_
    refine GS.callV oX12_turnedSize (c_turned d σ69 _ x69 g69 s k y69 hys hk 4 hkd) rfl rfl rfl rfl rfl rfl rfl (Nat.le_of_ble_eq_true rfl) (by omega) (fun v75 σ75 hq75 => ?_)
    obtain ⟨rfl, xe, se⟩ := hq75
    refine GS.run [] 1 rfl ?_
    refine GS.iret rfl rfl (rfl) ?_
    exact ⟨rfl, xe, s69.trans se⟩
  · have hw29 := isW_29 (hys.2 k hk)
    rw [hkd]
    refine GS.tabIn (t := 80) rfl (by decide) (by decide) (rfl) ?_
    refine GS.run [] 2 rfl ?_
    refine GS.callV oX12_takenSize (c_taken (d + 2) σ x hx h16 s k hy hys hk) rfl rfl rfl rfl rfl rfl rfl (Nat.le_of_ble_eq_true rfl) (by omega) (fun v82 σ82 hq82 => ?_)
    obtain ⟨rfl, xe, se⟩ := hq82
    refine GS.iret rfl rfl (rfl) ?_
    exact ⟨rfl, xe, se⟩
theorem p_ask_m (d : Nat) (σ : am_S) (s : Sy) (x : Tr) (k what : Int32) (hy : sayM 75 0 σ s) (hys : wfS s) (hx : traceV 69 40 88 σ x) : CallS mX12_ask (d + 6) [.ref 69, .int k, .int what] σ (fun r σ' => r = some (.int (qAsk s x k what).1) ∧ traceV 69 40 88 σ' (qAsk s x k what).2 ∧ sameM [88] [0, 40] σ σ') := by
  refine CallS.of kX12_ask pX12_ask [.ref 69, .int k, .int what] rfl (Nat.le_of_ble_eq_true rfl) ?_
  refine GS.run [] 5 rfl ?_
  refine GS.cV oX12_isWord (c_isWord (d + 4) (am_s1 σ 69 (upd (σ 69) 0 0)) s k hy hys) rfl rfl rfl rfl rfl rfl rfl (Nat.le_of_ble_eq_true rfl) (by omega) ?_
  refine GS.if_eq rfl (fun c10 => ?_) (fun c10 => ?_)
  · have hbad : ¬ (okw s k ∧ okb what) := fun h => am_b0.mp c10 h.1
    refine GS.run [] 1 rfl ?_
    refine GS.iret rfl rfl (rfl) ?_
    have hq : qAsk s x k what = (-1000001, x) := by unfold qAsk; rw [if_neg hbad]
    rw [hq]
    exact ⟨rfl, hx, sameM.rf.fld (by decide)⟩
  · have g1 : okw s k := am_bT c10
    refine GS.run [] 4 rfl ?_
    refine GS.cS oX12_in (c_inB (d + 5) (am_s1 σ 69 (upd (σ 69) 0 0)) what) rfl rfl rfl rfl (Nat.le_of_ble_eq_true rfl) (by omega) ?_
    refine GS.if_ne rfl (fun c20 => ?_) (fun c20 => ?_)
    · have g2 : okb what := am_bT c20
      have h12 := hys.1
      obtain ⟨a, ha, rfl⟩ := okn_nat (n := s.1) g1
      have ec : cn (nI a) = a := cn_nI (by omega)
      refine GS.run [] 3 rfl ?_
      rcases g2 with rfl | rfl
      · have hq : qAsk s x (nI a) (nI 0) = (akV a (s.2 a) (kdF (s.2 a)) 0, tL (0, x.2) (akC (kdF (s.2 a)) 0)) := by unfold qAsk; rw [if_pos ⟨g1, by decide⟩, ec, show cn (nI 0) = 0 from rfl]
        have t0 : traceV 69 40 88 (am_s1 (am_s1 σ 69 (upd (σ 69) 0 0)) 69 (upd ((am_s1 σ 69 (upd (σ 69) 0 0)) 69) 40 0)) (0, x.2) := ⟨rfl, fun i hi => absurd hi (Nat.not_lt_zero _)⟩
        refine GS.run [] 1 rfl ?_
        refine GS.if_ne rfl (fun q => absurd (rfl) q) (fun c32 => ?_)
        refine GS.run [] 2 rfl ?_
        refine GS.callV oX12_sizeOf (c_sizeOf d (am_s1 (am_s1 σ 69 (upd (σ 69) 0 0)) 69 (upd ((am_s1 σ 69 (upd (σ 69) 0 0)) 69) 40 0)) (0, x.2) t0 (Nat.zero_le 16) s a hy hys ha (kdF (s.2 a)) rfl kdF_c) rfl rfl rfl rfl rfl rfl rfl (Nat.le_of_ble_eq_true rfl) (by omega) (fun v37 σ37 hq37 => ?_)
        obtain ⟨rfl, xe, se⟩ := hq37
        refine GS.run [] 1 rfl ?_
        refine GS.iret rfl rfl (rfl) ?_
        have hqq : qAsk s x (nI a) 0 = qAsk s x (nI a) (nI 0) := rfl
        rw [hqq, hq]
        exact ⟨rfl, xe, (((sameM.rf (l := [88]) (f := [0, 40])).fld (by decide)).fld (by decide)).trans (se.sub (by decide) (by decide))⟩
      · have hq : qAsk s x (nI a) (nI 1) = (akV a (s.2 a) (kdF (s.2 a)) 1, tL (0, x.2) (akC (kdF (s.2 a)) 1)) := by unfold qAsk; rw [if_pos ⟨g1, by decide⟩, ec, show cn (nI 1) = 1 from rfl]
        have t0 : traceV 69 40 88 (am_s1 (am_s1 σ 69 (upd (σ 69) 0 0)) 69 (upd ((am_s1 σ 69 (upd (σ 69) 0 0)) 69) 40 0)) (0, x.2) := ⟨rfl, fun i hi => absurd hi (Nat.not_lt_zero _)⟩
        refine GS.run [] 1 rfl ?_
        refine GS.if_ne rfl (fun c32 => ?_) (fun q => absurd q (by decide))
        refine GS.run [] 2 rfl ?_
        refine GS.callV oX12_markOf (c_markOf (d + 2) (am_s1 (am_s1 σ 69 (upd (σ 69) 0 0)) 69 (upd ((am_s1 σ 69 (upd (σ 69) 0 0)) 69) 40 0)) (0, x.2) t0 (Nat.zero_le 16) s a hy hys ha (kdF (s.2 a)) rfl kdF_c) rfl rfl rfl rfl rfl rfl rfl (Nat.le_of_ble_eq_true rfl) (by omega) (fun v45 σ45 hq45 => ?_)
        obtain ⟨rfl, xe, se⟩ := hq45
        refine GS.iret rfl rfl (rfl) ?_
        have hqq : qAsk s x (nI a) 1 = qAsk s x (nI a) (nI 1) := rfl
        rw [hqq, hq]
        exact ⟨rfl, xe, (((sameM.rf (l := [88]) (f := [0, 40])).fld (by decide)).fld (by decide)).trans (se.sub (by decide) (by decide))⟩
    · have hbad : ¬ (okw s k ∧ okb what) := fun h => am_b0.mp c20 h.2
      refine GS.run [] 1 rfl ?_
      refine GS.iret rfl rfl (rfl) ?_
      have hq : qAsk s x k what = (-1000001, x) := by unfold qAsk; rw [if_neg hbad]
      rw [hq]
      exact ⟨rfl, hx, sameM.rf.fld (by decide)⟩
