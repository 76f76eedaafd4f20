abbrev okw (s : Sy) (k : Int32) : Prop := 0 ≤ k.toInt ∧ k.toInt < (s.1 : Int)
abbrev okn (k : Int32) (n : Nat) : Prop := 0 ≤ k.toInt ∧ k.toInt < (n : Int)
def qWord (s : Sy) (k : Int32) : Int32 := if k.toInt < 0 then -1000001 else if k.toInt < (s.1 : Int) then nI (s.2 (cn k)) else -1000000
def qTrace (x : Tr) (i : Int32) : Int32 := if okn i x.1 then x.2 (cn i) else -1000000
def qCount (r : Rw) (t : Tn) (s : Sy) (p : Tp) (c : Int32) : Int32 := if c = 0 then nI (rwF r 8) else if c = 1 then nI (tN t) else if c = 2 then nI (tS t) else if c = 3 then nI (wlF t (tN t)) else if c = 4 then nI s.1 else if c = 5 then nI p.1 else -1000001
def kdF (w : Nat) : Nat := if w < 2 then 1 else if 20 ≤ w then 2 else if w < 5 then 3 else if w < 7 then 4 else 5
def qKind (s : Sy) (k : Int32) : Int32 := if okw s k then nI (kdF (s.2 (cn k))) else -1000001
abbrev isO (k v : Nat) : Prop := v = 0 ∨ v = k ∨ (v = 3 ∧ k = 4)
def qAs (s : Sy) (f k v : Int32) : Int32 × Int32 := if okw s k ∧ okn v 6 then (if isO (kdF (s.2 (cn k))) (cn v) then (nI (s.2 (cn k)), 0) else (-1000013, 3)) else (-1000001, f)
def qCorner (t : Tn) (c i : Int32) : Int32 := if okc t c then (if i = 0 then nI (tH t (cn c)) else if i = 1 then nI (tM t (cn c)) else if i = 2 then nI (tW t (cn c)) else if i = 3 then nI (tD t (cn c)) else if 10 ≤ i.toInt ∧ i.toInt < 16 then (if cn i - 10 < tD t (cn c) then nI (tB t (cn c) (cn i - 10)) else -1000000) else -1000001) else -1000001
def tMk (t : Tn) (c m : Nat) : Tn := (t.1, t.2.1, t.2.2.1, va_up t.2.2.2.1 c m, t.2.2.2.2)
def qMark (t : Tn) (c m : Int32) : Int32 × Tn := if okc t c ∧ okn m 10 then (nI (tM t (cn c)), tMk t (cn c) (cn m)) else (-1000001, t)
def qImage (t : Tn) (s : Sy) (a b : Kp) (k : Int32) : Int32 × Kp × Kp := if okb k then (if tN t = 0 then (-1000002, a, b) else if k = 0 then (1, some (t, s), b) else (1, a, some (t, s))) else (-1000001, a, b)
def qRestore (t : Tn) (s : Sy) (a b : Kp) (k : Int32) : Int32 × Tn × Sy := if okb k then (match (if k = 0 then a else b) with
  | none => (-1000002, t, s)
  | some q => (1, q.1, q.2)) else (-1000001, t, s)
theorem isW_29 {v : Nat} (h : isW v) : v < 30 := by unfold isW at h; omega
theorem kdF_b {v : Nat} : kdF v < 6 := by
  unfold kdF
  repeat' split
  all_goals omega
theorem okn_nat {v : Int32} {n : Nat} (h : okn v n) : ∃ a, a < n ∧ v = nI a := by
  refine ⟨v.toInt.toNat, by omega, ?_⟩
  rw [zI_n, show ((v.toInt.toNat : Nat) : Int) = v.toInt by omega, zI_of]
theorem six (c : Int32) : c = 0 ∨ c = 1 ∨ c = 2 ∨ c = 3 ∨ c = 4 ∨ c = 5 ∨ (c.toInt < 0 ∨ 5 < c.toInt) := by
  rcases (by omega : c.toInt = 0 ∨ c.toInt = 1 ∨ c.toInt = 2 ∨ c.toInt = 3 ∨ c.toInt = 4 ∨ c.toInt = 5 ∨ (c.toInt < 0 ∨ 5 < c.toInt)) with h | h | h | h | h | h | h
  · exact Or.inl (Int32.toInt_inj.mp h)
  · exact Or.inr (Or.inl (Int32.toInt_inj.mp h))
  · exact Or.inr (Or.inr (Or.inl (Int32.toInt_inj.mp h)))
  · exact Or.inr (Or.inr (Or.inr (Or.inl (Int32.toInt_inj.mp h))))
  · exact Or.inr (Or.inr (Or.inr (Or.inr (Or.inl (Int32.toInt_inj.mp h)))))
  · exact Or.inr (Or.inr (Or.inr (Or.inr (Or.inr (Or.inl (Int32.toInt_inj.mp h))))))
  · exact Or.inr (Or.inr (Or.inr (Or.inr (Or.inr (Or.inr h)))))
theorem p_status_c (d : Nat) (σ : am_S)  : CallS mX11_status (d) [.ref 0] σ (am_det (some (.int (σ 0 13))) σ) := by
  refine CallS.of kX11_status pX11_status [.ref 0] rfl (Nat.le_of_ble_eq_true rfl) ?_
  refine GS.run [] 2 rfl ?_
  refine GS.iret rfl rfl (rfl) ?_
  exact ⟨rfl, rfl⟩
theorem c_faultNumber (d : Nat) (σ : am_S)  : CallS mX7_faultNumber (d) [.ref 5] σ (am_det (some (.int (σ 5 8))) σ) := by
  refine CallS.of kX7_faultNumber pX7_faultNumber [.ref 5] rfl (Nat.le_of_ble_eq_true rfl) ?_
  refine GS.run [] 2 rfl ?_
  refine GS.iret rfl rfl (rfl) ?_
  exact ⟨rfl, rfl⟩
theorem p_fault_c (d : Nat) (σ : am_S)  : CallS mX11_fault (d + 2) [.ref 0] σ (am_det (some (.int (σ 5 8))) σ) := by
  refine CallS.of kX11_fault pX11_fault [.ref 0] rfl (Nat.le_of_ble_eq_true rfl) ?_
  refine GS.run [] 2 rfl ?_
  refine GS.cV oX7_faultNumber (c_faultNumber (d + 1) σ) rfl rfl rfl rfl rfl rfl rfl (Nat.le_of_ble_eq_true rfl) (by omega) ?_
  refine GS.iret rfl rfl (rfl) ?_
  exact ⟨rfl, rfl⟩
theorem c_tlength (d : Nat) (σ : am_S)  : CallS mX7_length (d) [.ref 5] σ (am_det (some (.int (σ 5 1))) σ) := by
  refine CallS.of kX7_length pX7_length [.ref 5] rfl (Nat.le_of_ble_eq_true rfl) ?_
  refine GS.run [] 2 rfl ?_
  refine GS.iret rfl rfl (rfl) ?_
  exact ⟨rfl, rfl⟩
theorem p_word_c (d : Nat) (σ : am_S) (s : Sy) (k : Int32) (hy : sayC 24 σ s) (hys : wfS s) : CallS mX11_word (d + 4) [.ref 0, .int k] σ (am_det (some (.int (qWord s k))) σ) := by
  refine CallS.of kX11_word pX11_word [.ref 0, .int k] rfl (Nat.le_of_ble_eq_true rfl) ?_
  refine GS.run [] 1 rfl ?_
  refine GS.if_ge rfl (fun c1 => ?_) (fun c1 => ?_)
  · have hk : ¬ k.toInt < 0 := by rw [tI_le, tI_0] at c1; omega
    refine GS.run [] 3 rfl ?_
    refine GS.cV oX5_wordAt (c_wordAt (d + 1) σ k) rfl rfl rfl rfl rfl rfl rfl (Nat.le_of_ble_eq_true rfl) (by omega) ?_
    refine GS.iret rfl rfl (rfl) ?_
    have h12 := hys.1
    refine ⟨congrArg (fun z => some (Value.int z)) ?_, rfl⟩
    unfold qWord
    first
      | (rw [if_pos hk])
      | (rw [if_neg hk]
         by_cases h : k.toInt < (s.1 : Int)
         · obtain ⟨a, ha, rfl⟩ := okn_nat (v := k) (n := s.1) ⟨by omega, h⟩
           rw [if_pos h, v_word hy hys ha, cn_nI (by omega)]
         · rw [if_neg h]
           unfold am_wd
           rw [hy.1, nI_toInt (by omega), if_neg (by omega)])
  · have hk : k.toInt < 0 := by rw [tI_le, tI_0] at c1; omega
    refine GS.run [] 2 rfl ?_
    refine GS.iret rfl rfl (rfl) ?_
    have h12 := hys.1
    refine ⟨congrArg (fun z => some (Value.int z)) ?_, rfl⟩
    unfold qWord
    first
      | (rw [if_pos hk])
      | (rw [if_neg hk]
         by_cases h : k.toInt < (s.1 : Int)
         · obtain ⟨a, ha, rfl⟩ := okn_nat (v := k) (n := s.1) ⟨by omega, h⟩
           rw [if_pos h, v_word hy hys ha, cn_nI (by omega)]
         · rw [if_neg h]
           unfold am_wd
           rw [hy.1, nI_toInt (by omega), if_neg (by omega)])
theorem c_left (d : Nat) (σ : am_S) (x : Tr) (i : Int32) (hx : traceV 67 5 68 σ x) (h16 : x.1 ≤ 16) : CallS mX0_left (d + 1) [.ref 67, .int i] σ (am_det (some (.int (qTrace x i))) σ) := by
  refine CallS.of kX0_left pX0_left [.ref 67, .int i] rfl (Nat.le_of_ble_eq_true rfl) ?_
  refine GS.run [] 3 rfl ?_
  rw [show (σ 67 5) = nI x.1 from hx.1]
  refine GS.cS oX11_within (c_withinN d σ i x.1 (by omega)) rfl rfl rfl rfl (Nat.le_of_ble_eq_true rfl) (by omega) ?_
  refine GS.if_eq rfl (fun c8 => ?_) (fun c8 => ?_)
  · have hk : ¬ okn i x.1 := am_b0.mp c8
    refine GS.run [] 1 rfl ?_
    refine GS.iret rfl rfl (rfl) ?_
    first
      | exact ⟨by unfold qTrace; rw [if_neg hk], rfl⟩
      | (refine ⟨congrArg (fun z => some (Value.int z)) ?_, rfl⟩
         unfold qTrace; rw [if_pos hk, v_get (v := x.2 a) (by omega) (by omega) (hx.2 a ha), cn_nI (by omega)])
  · have hk := am_bT c8
    obtain ⟨a, ha, rfl⟩ := okn_nat hk
    refine GS.run [] 3 rfl ?_
    refine GS.cS oX11_at (c_at d σ 68 16 (nI a) rfl) rfl rfl rfl rfl (Nat.le_of_ble_eq_true rfl) (by omega) ?_
    refine GS.run [] 1 rfl ?_
    refine GS.iret rfl rfl (rfl) ?_
    first
      | exact ⟨by unfold qTrace; rw [if_neg hk], rfl⟩
      | (refine ⟨congrArg (fun z => some (Value.int z)) ?_, rfl⟩
         unfold qTrace; rw [if_pos hk, v_get (v := x.2 a) (by omega) (by omega) (hx.2 a ha), cn_nI (by omega)])
theorem p_trace_c (d : Nat) (σ : am_S) (x : Tr) (i : Int32) (hx : traceV 67 5 68 σ x) (h16 : x.1 ≤ 16) : CallS mX11_trace (d + 3) [.ref 0, .int i] σ (am_det (some (.int (qTrace x i))) σ) := by
  refine CallS.of kX11_trace pX11_trace [.ref 0, .int i] rfl (Nat.le_of_ble_eq_true rfl) ?_
  refine GS.run [] 3 rfl ?_
  refine GS.cV oX0_left (c_left (d + 1) σ x i hx h16) rfl rfl rfl rfl rfl rfl rfl (Nat.le_of_ble_eq_true rfl) (by omega) ?_
  refine GS.iret rfl rfl (rfl) ?_
  exact ⟨rfl, rfl⟩
theorem p_count_c (d : Nat) (σ : am_S) (r : Rw) (t : Tn) (s : Sy) (p : Tp) (c : Int32) (hr : rowsV 2 3 4 σ r) (hwf : wfR r) (ht : townC 10 σ t) (hw : wfT t) (hy : sayC 24 σ s) (hp : σ 5 1 = nI p.1) : CallS mX11_count (d + 4) [.ref 0, .int c] σ (am_det (some (.int (qCount r t s p c))) σ) := by
  refine CallS.of kX11_count pX11_count [.ref 0, .int c] rfl (Nat.le_of_ble_eq_true rfl) ?_
  refine GS.run [] 1 rfl ?_
  rcases six c with rfl | rfl | rfl | rfl | rfl | rfl | hc
  · refine GS.tabIn (t := 40) rfl (by decide) (by decide) (rfl) ?_
    refine GS.run [] 2 rfl ?_
    refine GS.cV oX4_howMany (c_howMany (d + 1) σ r hr hwf) rfl rfl rfl rfl rfl rfl rfl (Nat.le_of_ble_eq_true rfl) (by omega) ?_
    refine GS.iret rfl rfl (rfl) ?_
    exact ⟨rfl, rfl⟩
  · refine GS.tabIn (t := 48) rfl (by decide) (by decide) (rfl) ?_
    refine GS.run [] 2 rfl ?_
    refine GS.cV oX8_corners (c_corners_10 (d + 1) σ) rfl rfl rfl rfl rfl rfl rfl (Nat.le_of_ble_eq_true rfl) (by omega) ?_
    refine GS.iret rfl rfl (rfl) ?_
    exact ⟨congrArg (fun z => some (Value.int z)) ht.1, rfl⟩
  · refine GS.tabIn (t := 56) rfl (by decide) (by decide) (rfl) ?_
    refine GS.run [] 2 rfl ?_
    refine GS.cV oX8_streets (c_streets_10 (d + 1) σ) rfl rfl rfl rfl rfl rfl rfl (Nat.le_of_ble_eq_true rfl) (by omega) ?_
    refine GS.iret rfl rfl (rfl) ?_
    exact ⟨congrArg (fun z => some (Value.int z)) ht.2.1, rfl⟩
  · refine GS.tabIn (t := 64) rfl (by decide) (by decide) (rfl) ?_
    refine GS.run [] 2 rfl ?_
    refine GS.cV oX8_wells (c_wells (d + 1) σ t ht hw) rfl rfl rfl rfl rfl rfl rfl (Nat.le_of_ble_eq_true rfl) (by omega) ?_
    refine GS.iret rfl rfl (rfl) ?_
    exact ⟨rfl, rfl⟩
  · refine GS.tabIn (t := 72) rfl (by decide) (by decide) (rfl) ?_
    refine GS.run [] 2 rfl ?_
    refine GS.cV oX5_length (c_slength_24 (d + 1) σ) rfl rfl rfl rfl rfl rfl rfl (Nat.le_of_ble_eq_true rfl) (by omega) ?_
    refine GS.iret rfl rfl (rfl) ?_
    exact ⟨congrArg (fun z => some (Value.int z)) hy.1, rfl⟩
  · refine GS.tabIn (t := 80) rfl (by decide) (by decide) (rfl) ?_
    refine GS.run [] 2 rfl ?_
    refine GS.cV oX7_length (c_tlength (d + 1) σ) rfl rfl rfl rfl rfl rfl rfl (Nat.le_of_ble_eq_true rfl) (by omega) ?_
    refine GS.iret rfl rfl (rfl) ?_
    exact ⟨congrArg (fun z => some (Value.int z)) hp, rfl⟩
  · refine GS.tabOut rfl (hc) ?_
    refine GS.run [] 1 rfl ?_
    refine GS.iret rfl rfl (rfl) ?_
    refine ⟨congrArg (fun z => some (Value.int z)) ?_, rfl⟩
    have h : ∀ m : Int32, 0 ≤ m.toInt → m.toInt ≤ 5 → ¬ c = m := fun m h1 h2 e => by rw [e] at hc; omega
    unfold qCount
    rw [if_neg (h 0 (by decide) (by decide)), if_neg (h 1 (by decide) (by decide)), if_neg (h 2 (by decide) (by decide)), if_neg (h 3 (by decide) (by decide)), if_neg (h 4 (by decide) (by decide)), if_neg (h 5 (by decide) (by decide))]
theorem c_kindAt (d : Nat) (σ : am_S) (s : Sy) (k : Nat) (hy : sayC 24 σ s) (hys : wfS s) (hk : k < s.1) : CallS mX5_kindAt (d + 3) [.ref 24, .int (nI k)] σ (am_det (some (.int (nI (kdF (s.2 k))))) σ) := by
  refine CallS.of kX5_kindAt pX5_kindAt [.ref 24, .int (nI k)] rfl (Nat.le_of_ble_eq_true rfl) ?_
  refine GS.run [] 2 rfl ?_
  refine GS.cV oX5_wordAt ((c_wordAt d σ (nI k)).eq (congrArg (fun z => some (Value.int z)) (v_word hy hys hk)) rfl) rfl rfl rfl rfl rfl rfl rfl (Nat.le_of_ble_eq_true rfl) (by omega) ?_
  have hv := hys.2 k hk
  generalize s.2 k = v at hv ⊢
  rcases (by unfold isW at hv; omega : v = 0 ∨ v = 1 ∨ v = 3 ∨ v = 4 ∨ v = 5 ∨ v = 6 ∨ v = 7 ∨ (20 ≤ v ∧ v < 30)) with rfl | rfl | rfl | rfl | rfl | rfl | rfl | hv2
  · refine GS.tabIn (t := 52) rfl (by decide) (by decide) (rfl) ?_
    refine GS.run [] 1 rfl ?_
    refine GS.iret rfl rfl (rfl) ?_
    exact ⟨rfl, rfl⟩
  · refine GS.tabIn (t := 52) rfl (by decide) (by decide) (rfl) ?_
    refine GS.run [] 1 rfl ?_
    refine GS.iret rfl rfl (rfl) ?_
    exact ⟨rfl, rfl⟩
  · refine GS.tabIn (t := 54) rfl (by decide) (by decide) (rfl) ?_
    refine GS.run [] 1 rfl ?_
    refine GS.iret rfl rfl (rfl) ?_
    exact ⟨rfl, rfl⟩
  · refine GS.tabIn (t := 54) rfl (by decide) (by decide) (rfl) ?_
    refine GS.run [] 1 rfl ?_
    refine GS.iret rfl rfl (rfl) ?_
    exact ⟨rfl, rfl⟩
  · refine GS.tabIn (t := 56) rfl (by decide) (by decide) (rfl) ?_
    refine GS.run [] 1 rfl ?_
    refine GS.iret rfl rfl (rfl) ?_
    exact ⟨rfl, rfl⟩
  · refine GS.tabIn (t := 56) rfl (by decide) (by decide) (rfl) ?_
    refine GS.run [] 1 rfl ?_
    refine GS.iret rfl rfl (rfl) ?_
    exact ⟨rfl, rfl⟩
  · refine GS.tabIn (t := 58) rfl (by decide) (by decide) (rfl) ?_
    refine GS.run [] 1 rfl ?_
    refine GS.iret rfl rfl (rfl) ?_
    exact ⟨rfl, rfl⟩
  · refine GS.tabOut rfl (Or.inr (by rw [nI_toInt (by omega)]; omega)) ?_
    refine GS.run [] 1 rfl ?_
    refine GS.iret rfl rfl (rfl) ?_
    exact ⟨by unfold kdF; rw [if_neg (by omega), if_pos (by omega)]; rfl, rfl⟩
theorem p_kind_c (d : Nat) (σ : am_S) (s : Sy) (k : Int32) (hy : sayC 24 σ s) (hys : wfS s) : CallS mX11_kind (d + 4) [.ref 0, .int k] σ (am_det (some (.int (qKind s k))) σ) := by
  refine CallS.of kX11_kind pX11_kind [.ref 0, .int k] rfl (Nat.le_of_ble_eq_true rfl) ?_
  refine GS.run [] 3 rfl ?_
  refine GS.cV oX5_has ((c_shas_24 (d + 2) σ k).eq (congrArg (fun z => some (Value.int z)) (am_b_congr (q := okw s k) (by rw [hy.1, nI_toInt (by have := hys.1; omega)]))) rfl) rfl rfl rfl rfl rfl rfl rfl (Nat.le_of_ble_eq_true rfl) (by omega) ?_
  refine GS.if_eq rfl (fun c8 => ?_) (fun c8 => ?_)
  · have g1 : ¬ okw s k := am_b0.mp c8
    refine GS.run [] 1 rfl ?_
    refine GS.iret rfl rfl (rfl) ?_
    first
      | exact ⟨by unfold qKind; rw [if_neg g1], rfl⟩
      | exact ⟨by unfold qKind; rw [if_pos g1, ec], rfl⟩
  · have g1 : okw s k := am_bT c8
    have h12 := hys.1
    obtain ⟨a, ha, rfl⟩ := okn_nat (n := s.1) g1
    have ec : cn (nI a) = a := cn_nI (by omega)
    refine GS.run [] 3 rfl ?_
    refine GS.cV oX5_kindAt (c_kindAt d σ s a hy hys ha) rfl rfl rfl rfl rfl rfl rfl (Nat.le_of_ble_eq_true rfl) (by omega) ?_
    refine GS.run [] 1 rfl ?_
    refine GS.iret rfl rfl (rfl) ?_
    first
      | exact ⟨by unfold qKind; rw [if_neg g1], rfl⟩
      | exact ⟨by unfold qKind; rw [if_pos g1, ec], rfl⟩
theorem c_isOne (d : Nat) (σ : am_S) (s : Sy) (k v : Nat) (hy : sayC 24 σ s) (hys : wfS s) (hk : k < s.1) (hv : v < 6) : CallS mX5_isOne (d + 4) [.ref 24, .int (nI k), .int (nI v)] σ (am_det (some (.int (am_b (isO (kdF (s.2 k)) v)))) σ) := by
  refine CallS.of kX5_isOne pX5_isOne [.ref 24, .int (nI k), .int (nI v), .retAddr 0] rfl (Nat.le_of_ble_eq_true rfl) ?_
  refine GS.run [] 2 rfl ?_
  refine GS.cV oX5_kindAt (c_kindAt d σ s k hy hys hk) rfl rfl rfl rfl rfl rfl rfl (Nat.le_of_ble_eq_true rfl) (by omega) ?_
  refine GS.run [] 2 rfl ?_
  refine GS.if_eq rfl (fun c7 => ?_) (fun c7 => ?_)
  · refine GS.run [] 2 rfl ?_
    refine GS.iret rfl rfl (rfl) ?_
    refine ⟨congrArg (fun z => some (Value.int z)) ?_, rfl⟩
    have e1 : ∀ a b : Nat, a < 1000 → b < 1000 → (nI a = nI b ↔ a = b) := fun a b h1 h2 => nI_eq (by omega) (by omega)
    have h6 := kdF_b (v := s.2 k)
    simp only [e1 v (kdF (s.2 k)) (by omega) (by omega), show (nI v = (0 : Int32) ↔ v = 0) from e1 v 0 (by omega) (by omega), show (nI v = (3 : Int32) ↔ v = 3) from e1 v 3 (by omega) (by omega), show (nI (kdF (s.2 k)) = (4 : Int32) ↔ kdF (s.2 k) = 4) from e1 _ 4 (by omega) (by omega)] at *
    unfold am_b
    first
      | rw [if_pos (by omega)]
      | rw [if_neg (by omega)]
  · refine GS.run [] 2 rfl ?_
    refine GS.icmp_eq rfl (fun c12 => ?_) (fun c12 => ?_)
    · refine GS.run [] 2 rfl ?_
      refine GS.iret rfl rfl (rfl) ?_
      refine ⟨congrArg (fun z => some (Value.int z)) ?_, rfl⟩
      have e1 : ∀ a b : Nat, a < 1000 → b < 1000 → (nI a = nI b ↔ a = b) := fun a b h1 h2 => nI_eq (by omega) (by omega)
      have h6 := kdF_b (v := s.2 k)
      simp only [e1 v (kdF (s.2 k)) (by omega) (by omega), show (nI v = (0 : Int32) ↔ v = 0) from e1 v 0 (by omega) (by omega), show (nI v = (3 : Int32) ↔ v = 3) from e1 v 3 (by omega) (by omega), show (nI (kdF (s.2 k)) = (4 : Int32) ↔ kdF (s.2 k) = 4) from e1 _ 4 (by omega) (by omega)] at *
      unfold am_b
      first
        | rw [if_pos (by omega)]
        | rw [if_neg (by omega)]
    · refine GS.run [] 2 rfl ?_
      refine GS.icmp_ne rfl (fun c17 => ?_) (fun c17 => ?_)
      · refine GS.run [] 1 rfl ?_
        refine GS.iret rfl rfl (rfl) ?_
        refine ⟨congrArg (fun z => some (Value.int z)) ?_, rfl⟩
        have e1 : ∀ a b : Nat, a < 1000 → b < 1000 → (nI a = nI b ↔ a = b) := fun a b h1 h2 => nI_eq (by omega) (by omega)
        have h6 := kdF_b (v := s.2 k)
        simp only [e1 v (kdF (s.2 k)) (by omega) (by omega), show (nI v = (0 : Int32) ↔ v = 0) from e1 v 0 (by omega) (by omega), show (nI v = (3 : Int32) ↔ v = 3) from e1 v 3 (by omega) (by omega), show (nI (kdF (s.2 k)) = (4 : Int32) ↔ kdF (s.2 k) = 4) from e1 _ 4 (by omega) (by omega)] at *
        unfold am_b
        first
          | rw [if_pos (by omega)]
          | rw [if_neg (by omega)]
      · refine GS.run [] 2 rfl ?_
        refine GS.icmp_ne rfl (fun c22 => ?_) (fun c22 => ?_)
        · refine GS.run [] 1 rfl ?_
          refine GS.iret rfl rfl (rfl) ?_
          refine ⟨congrArg (fun z => some (Value.int z)) ?_, rfl⟩
          have e1 : ∀ a b : Nat, a < 1000 → b < 1000 → (nI a = nI b ↔ a = b) := fun a b h1 h2 => nI_eq (by omega) (by omega)
          have h6 := kdF_b (v := s.2 k)
          simp only [e1 v (kdF (s.2 k)) (by omega) (by omega), show (nI v = (0 : Int32) ↔ v = 0) from e1 v 0 (by omega) (by omega), show (nI v = (3 : Int32) ↔ v = 3) from e1 v 3 (by omega) (by omega), show (nI (kdF (s.2 k)) = (4 : Int32) ↔ kdF (s.2 k) = 4) from e1 _ 4 (by omega) (by omega)] at *
          unfold am_b
          first
            | rw [if_pos (by omega)]
            | rw [if_neg (by omega)]
        · refine GS.run [] 2 rfl ?_
          refine GS.iret rfl rfl (rfl) ?_
          refine ⟨congrArg (fun z => some (Value.int z)) ?_, rfl⟩
          have e1 : ∀ a b : Nat, a < 1000 → b < 1000 → (nI a = nI b ↔ a = b) := fun a b h1 h2 => nI_eq (by omega) (by omega)
          have h6 := kdF_b (v := s.2 k)
          simp only [e1 v (kdF (s.2 k)) (by omega) (by omega), show (nI v = (0 : Int32) ↔ v = 0) from e1 v 0 (by omega) (by omega), show (nI v = (3 : Int32) ↔ v = 3) from e1 v 3 (by omega) (by omega), show (nI (kdF (s.2 k)) = (4 : Int32) ↔ kdF (s.2 k) = 4) from e1 _ 4 (by omega) (by omega)] at *
          unfold am_b
          first
            | rw [if_pos (by omega)]
            | rw [if_neg (by omega)]
theorem p_as_c (d : Nat) (σ : am_S) (s : Sy) (k : Int32) (v : Int32) (f : Int32) (hy : sayC 24 σ s) (hys : wfS s) (hf : σ 0 13 = f) : CallS mX11_as (d + 6) [.ref 0, .int k, .int v] σ (fun x σ' => x = some (.int (qAs s f k v).1) ∧ σ' 0 13 = (qAs s f k v).2 ∧ same [0] σ σ') := by
  refine CallS.of kX11_as pX11_as [.ref 0, .int k, .int v] rfl (Nat.le_of_ble_eq_true rfl) ?_
  refine GS.run [] 3 rfl ?_
  refine GS.cV oX5_has ((c_shas_24 (d + 4) σ k).eq (congrArg (fun z => some (Value.int z)) (am_b_congr (q := okw s k) (by rw [hy.1, nI_toInt (by have := hys.1; omega)]))) rfl) rfl rfl rfl rfl rfl rfl rfl (Nat.le_of_ble_eq_true rfl) (by omega) ?_
  refine GS.if_eq rfl (fun c8 => ?_) (fun c8 => ?_)
  · have hbad : ¬ (okw s k ∧ okn v 6) := fun h => am_b0.mp c8 h.1
    refine GS.run [] 1 rfl ?_
    refine GS.iret rfl rfl (rfl) ?_
    exact ⟨by unfold qAs; rw [if_neg hbad], by unfold qAs; rw [if_neg hbad]; exact hf, same.rf⟩
  · have g1 : okw s k := am_bT c8
    refine GS.run [] 2 rfl ?_
    refine GS.cS oX11_within (c_withinN (d + 5) σ v 6 (by omega)) rfl rfl rfl rfl (Nat.le_of_ble_eq_true rfl) (by omega) ?_
    refine GS.if_ne rfl (fun c17 => ?_) (fun c17 => ?_)
    · have g2 : okn v 6 := am_bT c17
      have h12 := hys.1
      obtain ⟨a, ha, rfl⟩ := okn_nat (n := s.1) g1
      have ec : cn (nI a) = a := cn_nI (by omega)
      obtain ⟨b, hb, rfl⟩ := okn_nat g2
      have eb : cn (nI b) = b := cn_nI (by omega)
      refine GS.run [] 4 rfl ?_
      refine GS.cV oX5_isOne (c_isOne d σ s a b hy hys ha hb) rfl rfl rfl rfl rfl rfl rfl (Nat.le_of_ble_eq_true rfl) (by omega) ?_
      refine GS.if_eq rfl (fun c32 => ?_) (fun c32 => ?_)
      · have g3 : ¬ isO (kdF (s.2 a)) b := am_b0.mp c32
        refine GS.run [] 2 rfl ?_
        refine GS.cV oX11_found (c_found (d + 5) σ 3) rfl rfl rfl rfl rfl rfl rfl (Nat.le_of_ble_eq_true rfl) (by omega) ?_
        refine GS.iret rfl rfl (rfl) ?_
        first
          | (have hq : qAs s f (nI a) (nI b) = (nI (s.2 a), 0) := by unfold qAs; rw [if_pos ⟨g1, g2⟩, ec, eb, if_pos g3])
          | (have hq : qAs s f (nI a) (nI b) = (-1000013, 3) := by unfold qAs; rw [if_pos ⟨g1, g2⟩, ec, eb, if_neg g3])
        rw [hq]
        exact ⟨rfl, rfl, same.rf.s1 (by decide)⟩
      · have g3 : isO (kdF (s.2 a)) b := am_bT c32
        refine GS.run [] 4 rfl ?_
        refine GS.cV oX5_wordAt ((c_wordAt (d + 3) σ (nI a)).eq (congrArg (fun z => some (Value.int z)) (v_word hy hys ha)) rfl) rfl rfl rfl rfl rfl rfl rfl (Nat.le_of_ble_eq_true rfl) (by omega) ?_
        refine GS.cV oX11_fine (c_fine (d + 5) σ (nI (s.2 a))) rfl rfl rfl rfl rfl rfl rfl (Nat.le_of_ble_eq_true rfl) (by omega) ?_
        refine GS.run [] 1 rfl ?_
        refine GS.iret rfl rfl (rfl) ?_
        first
          | (have hq : qAs s f (nI a) (nI b) = (nI (s.2 a), 0) := by unfold qAs; rw [if_pos ⟨g1, g2⟩, ec, eb, if_pos g3])
          | (have hq : qAs s f (nI a) (nI b) = (-1000013, 3) := by unfold qAs; rw [if_pos ⟨g1, g2⟩, ec, eb, if_neg g3])
        rw [hq]
        exact ⟨rfl, rfl, same.rf.s1 (by decide)⟩
    · have hbad : ¬ (okw s k ∧ okn v 6) := fun h => am_b0.mp c17 h.2
      refine GS.run [] 1 rfl ?_
      refine GS.iret rfl rfl (rfl) ?_
      exact ⟨by unfold qAs; rw [if_neg hbad], by unfold qAs; rw [if_neg hbad]; exact hf, same.rf⟩
