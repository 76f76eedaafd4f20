abbrev okc (t : Tn) (c : Int32) : Prop := 0 ≤ c.toInt ∧ c.toInt < (tN t : Int)
abbrev okb (v : Int32) : Prop := v = 0 ∨ v = 1
theorem am_b_congr {p q : Prop} [Decidable p] [Decidable q] (h : p ↔ q) : am_b p = am_b q := by
  unfold am_b
  by_cases hp : p
  · rw [if_pos hp, if_pos (h.mp hp)]
  · rw [if_neg hp, if_neg (fun z => hp (h.mpr z))]
theorem am_bT {p : Prop} [Decidable p] (h : ¬ am_b p = 0) : p := Decidable.not_not.mp (fun z => h (am_b0.mpr z))
theorem okc_nat {t : Tn} {c : Int32} (h : okc t c) : ∃ k, k < tN t ∧ c = nI k := by
  refine ⟨c.toInt.toNat, by omega, ?_⟩
  rw [zI_n, show ((c.toInt.toNat : Nat) : Int) = c.toInt by omega, zI_of]
theorem okc_iff {t : Tn} (hw : wfT t) {k : Nat} (hk : k < 1000) : okc t (nI k) ↔ k < tN t := by
  have := hw.1
  unfold okc
  rw [nI_toInt (by omega)]; omega
def cn (c : Int32) : Nat := c.toInt.toNat
theorem cn_nI {k : Nat} (h : k < 1000) : cn (nI k) = k := by unfold cn; rw [nI_toInt (by omega)]; omega
theorem v_has (d : Nat) (σ : am_S) (t : Tn) (c : Int32) (ht : townC 10 σ t) (hw : wfT t) : CallS mX8_has (d + 1) [.ref 10, .int c] σ (am_det (some (.int (am_b (okc t c)))) σ) := by
  have h := c_has_10 d σ c
  have h8 := hw.1
  refine h.eq (congrArg (fun z => some (Value.int z)) (am_b_congr ?_)) rfl
  rw [ht.1, nI_toInt (by omega)]
theorem c_in (d : Nat) (σ : am_S) (a b c : Int64) : CallS mX12_in (d) [.long a, .long b, .long c] σ (am_det (some (.int (am_b (b.toInt ≤ a.toInt ∧ a.toInt ≤ c.toInt)))) σ) := by
  refine CallS.of kX12_in pX12_in [.long a, .retAddr 0, .long b, .retAddr 0, .long c, .retAddr 0] rfl (Nat.le_of_ble_eq_true rfl) ?_
  refine GS.run [] 3 rfl ?_
  refine GS.if_lt rfl (fun c3 => ?_) (fun c3 => ?_)
  · refine GS.run [] 1 rfl ?_
    refine GS.iret rfl rfl (rfl) ?_
    refine ⟨?_, rfl⟩
    unfold am_b
    first
      | (rw [if_neg (fun h => absurd ((lg_cmp_ge _ _).mpr (Int64.le_iff_toInt_le.mpr h.1)) (Int32.not_le.mpr c3))])
      | (rw [if_neg (fun h => absurd ((lg_cmp_le _ _).mpr (Int64.le_iff_toInt_le.mpr h.2)) (Int32.not_le.mpr c10))])
      | (rw [if_pos ⟨Int64.le_iff_toInt_le.mp ((lg_cmp_ge _ _).mp (Int32.not_lt.mp c3)), Int64.le_iff_toInt_le.mp ((lg_cmp_le _ _).mp (Int32.not_lt.mp c10))⟩])
  · refine GS.run [] 3 rfl ?_
    refine GS.if_gt rfl (fun c10 => ?_) (fun c10 => ?_)
    · refine GS.run [] 1 rfl ?_
      refine GS.iret rfl rfl (rfl) ?_
      refine ⟨?_, rfl⟩
      unfold am_b
      first
        | (rw [if_neg (fun h => absurd ((lg_cmp_ge _ _).mpr (Int64.le_iff_toInt_le.mpr h.1)) (Int32.not_le.mpr c3))])
        | (rw [if_neg (fun h => absurd ((lg_cmp_le _ _).mpr (Int64.le_iff_toInt_le.mpr h.2)) (Int32.not_le.mpr c10))])
        | (rw [if_pos ⟨Int64.le_iff_toInt_le.mp ((lg_cmp_ge _ _).mp (Int32.not_lt.mp c3)), Int64.le_iff_toInt_le.mp ((lg_cmp_le _ _).mp (Int32.not_lt.mp c10))⟩])
    · refine GS.run [] 2 rfl ?_
      refine GS.iret rfl rfl (rfl) ?_
      refine ⟨?_, rfl⟩
      unfold am_b
      first
        | (rw [if_neg (fun h => absurd ((lg_cmp_ge _ _).mpr (Int64.le_iff_toInt_le.mpr h.1)) (Int32.not_le.mpr c3))])
        | (rw [if_neg (fun h => absurd ((lg_cmp_le _ _).mpr (Int64.le_iff_toInt_le.mpr h.2)) (Int32.not_le.mpr c10))])
        | (rw [if_pos ⟨Int64.le_iff_toInt_le.mp ((lg_cmp_ge _ _).mp (Int32.not_lt.mp c3)), Int64.le_iff_toInt_le.mp ((lg_cmp_le _ _).mp (Int32.not_lt.mp c10))⟩])
theorem c_inI (d : Nat) (σ : am_S) (v : Int32) (lo hi : Int64) (p : Prop) [Decidable p] (h : lo.toInt ≤ v.toInt ∧ v.toInt ≤ hi.toInt ↔ p) : CallS mX12_in d [.long v.toInt64, .long lo, .long hi] σ (am_det (some (.int (am_b p))) σ) :=
  (c_in d σ v.toInt64 lo hi).eq (congrArg (fun z => some (Value.int z)) (am_b_congr (by rw [Int32.toInt_toInt64]; exact h))) rfl
theorem okb_iff {v : Int32} : (0 : Int64).toInt ≤ v.toInt ∧ v.toInt ≤ (1 : Int64).toInt ↔ okb v := by
  rw [show (0 : Int64).toInt = 0 from rfl, show (1 : Int64).toInt = 1 from rfl]
  constructor
  · intro h
    rcases (by omega : v.toInt = 0 ∨ v.toInt = 1) with h | h
    · exact Or.inl (Int32.toInt_inj.mp h)
    · exact Or.inr (Int32.toInt_inj.mp h)
  · rintro (rfl | rfl)
    · exact ⟨by decide, by decide⟩
    · exact ⟨by decide, by decide⟩
theorem c_inB (d : Nat) (σ : am_S) (v : Int32) : CallS mX12_in d [.long v.toInt64, .long 0, .long 1] σ (am_det (some (.int (am_b (okb v)))) σ) := c_inI d σ v 0 1 _ okb_iff
theorem l_m1 {n : Nat} (h : n < 1000) : (nI n - 1).toInt64.toInt = (n : Int) - 1 := by
  rw [Int32.toInt_toInt64, zI_n, show (1 : Int32) = zI 1 from rfl, zI_sub, zI_t (by omega) (by omega)]
theorem c_isCorner (d : Nat) (σ : am_S) (t : Tn) (c : Int32) (ht : townM 73 0 σ t) (hw : wfT t) : CallS mX12_isCorner (d + 1) [.ref 69, .int c] σ (am_det (some (.int (am_b (okc t c)))) σ) := by
  refine CallS.of kX12_isCorner pX12_isCorner [.ref 69, .int c] rfl (Nat.le_of_ble_eq_true rfl) ?_
  have h8 := hw.1
  refine GS.run [] 6 rfl ?_
  refine GS.ald (0) rfl rfl (rfl) (by omega) ?_
  rw [m_n ht]
  refine GS.run [] 3 rfl ?_
  refine GS.cS oX12_in (c_inI d σ c 0 (nI (tN t) - 1).toInt64 (okc t c) (by rw [l_m1 (by omega), show (0 : Int64).toInt = 0 from rfl]; unfold okc; omega)) rfl rfl rfl rfl (Nat.le_of_ble_eq_true rfl) (by omega) ?_
  refine GS.iret rfl rfl (nar_b _) ?_
  exact ⟨rfl, rfl⟩
theorem c_isWord (d : Nat) (σ : am_S) (s : Sy) (c : Int32) (hy : sayM 75 0 σ s) (hys : wfS s) : CallS mX12_isWord (d + 1) [.ref 69, .int c] σ (am_det (some (.int (am_b (0 ≤ c.toInt ∧ c.toInt < (s.1 : Int))))) σ) := by
  refine CallS.of kX12_isWord pX12_isWord [.ref 69, .int c] rfl (Nat.le_of_ble_eq_true rfl) ?_
  have h12 := hys.1
  refine GS.run [] 6 rfl ?_
  refine GS.ald (0) rfl rfl (rfl) (by omega) ?_
  rw [m_len hy]
  refine GS.run [] 3 rfl ?_
  refine GS.cS oX12_in (c_inI d σ c 0 (nI s.1 - 1).toInt64 (0 ≤ c.toInt ∧ c.toInt < (s.1 : Int)) (by rw [l_m1 (by omega), show (0 : Int64).toInt = 0 from rfl]; omega)) rfl rfl rfl rfl (Nat.le_of_ble_eq_true rfl) (by omega) ?_
  refine GS.iret rfl rfl (nar_b _) ?_
  exact ⟨rfl, rfl⟩
def b1 (v : Int32) : Bool := decide (v = 1)
def qWalk (t : Tn) (s : Sy) (c img raw what : Int32) : Int32 := if okc t c ∧ okb img ∧ okb raw ∧ okb what then (if what = 0 then nI (runR t s (b1 img) (b1 raw) 100 s.1 0 (stW (cn c))).2.1 else fkI (runR t s (b1 img) (b1 raw) 100 s.1 0 (stW (cn c))).1) else -1000001
def qParts (t : Tn) (s : Sy) (c raw : Int32) : Int32 := if okc t c ∧ okb raw then fkI (partR t s (b1 raw) s.1 0 (stW (cn c)) (stW (cn c))) else -1000001
def qLost (t : Tn) (s : Sy) (c : Int32) : Int32 := if okc t c then lostF t s (cn c) s.1 else -1000001
theorem p_walk_c (d : Nat) (σ : am_S) (t : Tn) (s : Sy) (c img raw what : Int32) (ht : townC 10 σ t) (hw : wfT t) (hy : sayC 24 σ s) (hys : wfS s) : CallS mX11_walk (d + 7) [.ref 0, .int c, .int img, .int raw, .int what] σ (fun r σ' => r = some (.int (qWalk t s c img raw what)) ∧ same [49] σ σ') := by
  refine CallS.of kX11_walk pX11_walk [.ref 0, .int c, .int img, .int raw, .int what, .retAddr 0] rfl (Nat.le_of_ble_eq_true rfl) ?_
  refine GS.run [] 3 rfl ?_
  refine GS.cV oX8_has (v_has (d + 5) σ t c ht hw) rfl rfl rfl rfl rfl rfl rfl (Nat.le_of_ble_eq_true rfl) (by omega) ?_
  refine GS.if_eq rfl (fun c8 => ?_) (fun c8 => ?_)
  · have hbad : ¬ (okc t c ∧ okb img ∧ okb raw ∧ okb what) := fun h => am_b0.mp c8 h.1
    refine GS.run [] 1 rfl ?_
    refine GS.iret rfl rfl (rfl) ?_
    exact ⟨by unfold qWalk; rw [if_neg hbad], same.rf⟩
  · have g1 := am_bT c8
    refine GS.run [] 1 rfl ?_
    refine GS.cS oX11_bit (c_bit (d + 6) σ img) rfl rfl rfl rfl (Nat.le_of_ble_eq_true rfl) (by omega) ?_
    refine GS.if_eq rfl (fun c15 => ?_) (fun c15 => ?_)
    · have hbad : ¬ (okc t c ∧ okb img ∧ okb raw ∧ okb what) := fun h => am_b0.mp c15 h.2.1
      refine GS.run [] 1 rfl ?_
      refine GS.iret rfl rfl (rfl) ?_
      exact ⟨by unfold qWalk; rw [if_neg hbad], same.rf⟩
    · have g2 := am_bT c15
      refine GS.run [] 1 rfl ?_
      refine GS.cS oX11_bit (c_bit (d + 6) σ raw) rfl rfl rfl rfl (Nat.le_of_ble_eq_true rfl) (by omega) ?_
      refine GS.if_eq rfl (fun c22 => ?_) (fun c22 => ?_)
      · have hbad : ¬ (okc t c ∧ okb img ∧ okb raw ∧ okb what) := fun h => am_b0.mp c22 h.2.2.1
        refine GS.run [] 1 rfl ?_
        refine GS.iret rfl rfl (rfl) ?_
        exact ⟨by unfold qWalk; rw [if_neg hbad], same.rf⟩
      · have g3 := am_bT c22
        refine GS.run [] 1 rfl ?_
        refine GS.cS oX11_bit (c_bit (d + 6) σ what) rfl rfl rfl rfl (Nat.le_of_ble_eq_true rfl) (by omega) ?_
        refine GS.if_ne rfl (fun c30 => ?_) (fun c30 => ?_)
        · have g4 := am_bT c30
          have h8 := hw.1
          have g1 := g1
          obtain ⟨k, hk, rfl⟩ := okc_nat g1
          rcases g2 with rfl | rfl <;> rcases g3 with rfl | rfl <;> rcases g4 with rfl | rfl
          · refine GS.run [] 5 rfl ?_
            refine GS.icmp_ne rfl (fun c43 => ?_) (fun q => absurd q (by decide))
            refine GS.run [] 3 rfl ?_
            refine GS.icmp_ne rfl (fun c53 => ?_) (fun q => absurd q (by decide))
            refine GS.run [] 2 rfl ?_
            refine GS.callV oX10_lead (c_lead d σ t s k false false 100 (-1000000) ht hw hy hys hk (fun k h => ⟨fun z => absurd z (nI_ne_none (by omega)), fun z => absurd z (by omega)⟩)) rfl rfl rfl rfl rfl rfl rfl (Nat.le_of_ble_eq_true rfl) (by omega) (fun v63 σ63 hq63 => ?_)
            obtain ⟨rfl, s63, k63⟩ := hq63
            refine GS.run [] 2 rfl ?_
            refine GS.if_ne rfl (fun q => absurd (rfl) q) (fun c70 => ?_)
            refine GS.run [] 2 rfl ?_
            refine GS.cV oX10_end ((c_end (d + 4) σ63).eq (congrArg (fun z => some (Value.int z)) (k63.1)) rfl) rfl rfl rfl rfl rfl rfl rfl (Nat.le_of_ble_eq_true rfl) (by omega) ?_
            refine GS.run [] 1 rfl ?_
            refine GS.iret rfl rfl (rfl) ?_
            exact ⟨by unfold qWalk; rw [if_pos ⟨g1, by decide, by decide, by decide⟩, cn_nI (by omega)]; rfl, s63⟩
          · refine GS.run [] 5 rfl ?_
            refine GS.icmp_ne rfl (fun c43 => ?_) (fun q => absurd q (by decide))
            refine GS.run [] 3 rfl ?_
            refine GS.icmp_ne rfl (fun c53 => ?_) (fun q => absurd q (by decide))
            refine GS.run [] 2 rfl ?_
            refine GS.callV oX10_lead (c_lead d σ t s k false false 100 (-1000000) ht hw hy hys hk (fun k h => ⟨fun z => absurd z (nI_ne_none (by omega)), fun z => absurd z (by omega)⟩)) rfl rfl rfl rfl rfl rfl rfl (Nat.le_of_ble_eq_true rfl) (by omega) (fun v63 σ63 hq63 => ?_)
            obtain ⟨rfl, s63, k63⟩ := hq63
            refine GS.run [] 2 rfl ?_
            refine GS.if_ne rfl (fun c70 => ?_) (fun q => absurd q (by decide))
            refine GS.run [] 1 rfl ?_
            refine GS.iret rfl rfl (rfl) ?_
            exact ⟨by unfold qWalk; rw [if_pos ⟨g1, by decide, by decide, by decide⟩, cn_nI (by omega)]; rfl, s63⟩
          · refine GS.run [] 5 rfl ?_
            refine GS.icmp_ne rfl (fun c43 => ?_) (fun q => absurd q (by decide))
            refine GS.run [] 3 rfl ?_
            refine GS.icmp_ne rfl (fun q => absurd (rfl) q) (fun c53 => ?_)
            refine GS.run [] 3 rfl ?_
            refine GS.callV oX10_lead (c_lead d σ t s k false true 100 (-1000000) ht hw hy hys hk (fun k h => ⟨fun z => absurd z (nI_ne_none (by omega)), fun z => absurd z (by omega)⟩)) rfl rfl rfl rfl rfl rfl rfl (Nat.le_of_ble_eq_true rfl) (by omega) (fun v63 σ63 hq63 => ?_)
            obtain ⟨rfl, s63, k63⟩ := hq63
            refine GS.run [] 2 rfl ?_
            refine GS.if_ne rfl (fun q => absurd (rfl) q) (fun c70 => ?_)
            refine GS.run [] 2 rfl ?_
            refine GS.cV oX10_end ((c_end (d + 4) σ63).eq (congrArg (fun z => some (Value.int z)) (k63.1)) rfl) rfl rfl rfl rfl rfl rfl rfl (Nat.le_of_ble_eq_true rfl) (by omega) ?_
            refine GS.run [] 1 rfl ?_
            refine GS.iret rfl rfl (rfl) ?_
            exact ⟨by unfold qWalk; rw [if_pos ⟨g1, by decide, by decide, by decide⟩, cn_nI (by omega)]; rfl, s63⟩
          · refine GS.run [] 5 rfl ?_
            refine GS.icmp_ne rfl (fun c43 => ?_) (fun q => absurd q (by decide))
            refine GS.run [] 3 rfl ?_
            refine GS.icmp_ne rfl (fun q => absurd (rfl) q) (fun c53 => ?_)
            refine GS.run [] 3 rfl ?_
            refine GS.callV oX10_lead (c_lead d σ t s k false true 100 (-1000000) ht hw hy hys hk (fun k h => ⟨fun z => absurd z (nI_ne_none (by omega)), fun z => absurd z (by omega)⟩)) rfl rfl rfl rfl rfl rfl rfl (Nat.le_of_ble_eq_true rfl) (by omega) (fun v63 σ63 hq63 => ?_)
            obtain ⟨rfl, s63, k63⟩ := hq63
            refine GS.run [] 2 rfl ?_
            refine GS.if_ne rfl (fun c70 => ?_) (fun q => absurd q (by decide))
            refine GS.run [] 1 rfl ?_
            refine GS.iret rfl rfl (rfl) ?_
            exact ⟨by unfold qWalk; rw [if_pos ⟨g1, by decide, by decide, by decide⟩, cn_nI (by omega)]; rfl, s63⟩
          · refine GS.run [] 5 rfl ?_
            refine GS.icmp_ne rfl (fun q => absurd (rfl) q) (fun c43 => ?_)
            refine GS.run [] 4 rfl ?_
            refine GS.icmp_ne rfl (fun c53 => ?_) (fun q => absurd q (by decide))
            refine GS.run [] 2 rfl ?_
            refine GS.callV oX10_lead (c_lead d σ t s k true false 100 (-1000000) ht hw hy hys hk (fun k h => ⟨fun z => absurd z (nI_ne_none (by omega)), fun z => absurd z (by omega)⟩)) rfl rfl rfl rfl rfl rfl rfl (Nat.le_of_ble_eq_true rfl) (by omega) (fun v63 σ63 hq63 => ?_)
            obtain ⟨rfl, s63, k63⟩ := hq63
            refine GS.run [] 2 rfl ?_
            refine GS.if_ne rfl (fun q => absurd (rfl) q) (fun c70 => ?_)
            refine GS.run [] 2 rfl ?_
            refine GS.cV oX10_end ((c_end (d + 4) σ63).eq (congrArg (fun z => some (Value.int z)) (k63.1)) rfl) rfl rfl rfl rfl rfl rfl rfl (Nat.le_of_ble_eq_true rfl) (by omega) ?_
            refine GS.run [] 1 rfl ?_
            refine GS.iret rfl rfl (rfl) ?_
            exact ⟨by unfold qWalk; rw [if_pos ⟨g1, by decide, by decide, by decide⟩, cn_nI (by omega)]; rfl, s63⟩
          · refine GS.run [] 5 rfl ?_
            refine GS.icmp_ne rfl (fun q => absurd (rfl) q) (fun c43 => ?_)
            refine GS.run [] 4 rfl ?_
            refine GS.icmp_ne rfl (fun c53 => ?_) (fun q => absurd q (by decide))
            refine GS.run [] 2 rfl ?_
            refine GS.callV oX10_lead (c_lead d σ t s k true false 100 (-1000000) ht hw hy hys hk (fun k h => ⟨fun z => absurd z (nI_ne_none (by omega)), fun z => absurd z (by omega)⟩)) rfl rfl rfl rfl rfl rfl rfl (Nat.le_of_ble_eq_true rfl) (by omega) (fun v63 σ63 hq63 => ?_)
            obtain ⟨rfl, s63, k63⟩ := hq63
            refine GS.run [] 2 rfl ?_
            refine GS.if_ne rfl (fun c70 => ?_) (fun q => absurd q (by decide))
            refine GS.run [] 1 rfl ?_
            refine GS.iret rfl rfl (rfl) ?_
            exact ⟨by unfold qWalk; rw [if_pos ⟨g1, by decide, by decide, by decide⟩, cn_nI (by omega)]; rfl, s63⟩
          · refine GS.run [] 5 rfl ?_
            refine GS.icmp_ne rfl (fun q => absurd (rfl) q) (fun c43 => ?_)
            refine GS.run [] 4 rfl ?_
            refine GS.icmp_ne rfl (fun q => absurd (rfl) q) (fun c53 => ?_)
            refine GS.run [] 3 rfl ?_
            refine GS.callV oX10_lead (c_lead d σ t s k true true 100 (-1000000) ht hw hy hys hk (fun k h => ⟨fun z => absurd z (nI_ne_none (by omega)), fun z => absurd z (by omega)⟩)) rfl rfl rfl rfl rfl rfl rfl (Nat.le_of_ble_eq_true rfl) (by omega) (fun v63 σ63 hq63 => ?_)
            obtain ⟨rfl, s63, k63⟩ := hq63
            refine GS.run [] 2 rfl ?_
            refine GS.if_ne rfl (fun q => absurd (rfl) q) (fun c70 => ?_)
            refine GS.run [] 2 rfl ?_
            refine GS.cV oX10_end ((c_end (d + 4) σ63).eq (congrArg (fun z => some (Value.int z)) (k63.1)) rfl) rfl rfl rfl rfl rfl rfl rfl (Nat.le_of_ble_eq_true rfl) (by omega) ?_
            refine GS.run [] 1 rfl ?_
            refine GS.iret rfl rfl (rfl) ?_
            exact ⟨by unfold qWalk; rw [if_pos ⟨g1, by decide, by decide, by decide⟩, cn_nI (by omega)]; rfl, s63⟩
          · refine GS.run [] 5 rfl ?_
            refine GS.icmp_ne rfl (fun q => absurd (rfl) q) (fun c43 => ?_)
            refine GS.run [] 4 rfl ?_
            refine GS.icmp_ne rfl (fun q => absurd (rfl) q) (fun c53 => ?_)
            refine GS.run [] 3 rfl ?_
            refine GS.callV oX10_lead (c_lead d σ t s k true true 100 (-1000000) ht hw hy hys hk (fun k h => ⟨fun z => absurd z (nI_ne_none (by omega)), fun z => absurd z (by omega)⟩)) rfl rfl rfl rfl rfl rfl rfl (Nat.le_of_ble_eq_true rfl) (by omega) (fun v63 σ63 hq63 => ?_)
            obtain ⟨rfl, s63, k63⟩ := hq63
            refine GS.run [] 2 rfl ?_
            refine GS.if_ne rfl (fun c70 => ?_) (fun q => absurd q (by decide))
            refine GS.run [] 1 rfl ?_
            refine GS.iret rfl rfl (rfl) ?_
            exact ⟨by unfold qWalk; rw [if_pos ⟨g1, by decide, by decide, by decide⟩, cn_nI (by omega)]; rfl, s63⟩
        · have hbad : ¬ (okc t c ∧ okb img ∧ okb raw ∧ okb what) := fun h => am_b0.mp c30 h.2.2.2
          refine GS.run [] 1 rfl ?_
          refine GS.iret rfl rfl (rfl) ?_
          exact ⟨by unfold qWalk; rw [if_neg hbad], same.rf⟩
theorem p_parts_c (d : Nat) (σ : am_S) (t : Tn) (s : Sy) (c raw : Int32) (ht : townC 10 σ t) (hw : wfT t) (hy : sayC 24 σ s) (hys : wfS s) : CallS mX11_parts (d + 7) [.ref 0, .int c, .int raw] σ (fun r σ' => r = some (.int (qParts t s c raw)) ∧ same [49, 50] σ σ') := by
  refine CallS.of kX11_parts pX11_parts [.ref 0, .int c, .int raw] rfl (Nat.le_of_ble_eq_true rfl) ?_
  refine GS.run [] 3 rfl ?_
  refine GS.cV oX8_has (v_has (d + 5) σ t c ht hw) rfl rfl rfl rfl rfl rfl rfl (Nat.le_of_ble_eq_true rfl) (by omega) ?_
  refine GS.if_eq rfl (fun c8 => ?_) (fun c8 => ?_)
  · have hbad : ¬ (okc t c ∧ okb raw) := fun h => am_b0.mp c8 h.1
    refine GS.run [] 2 rfl ?_
    refine GS.iret rfl rfl (rfl) ?_
    exact ⟨by unfold qParts; rw [if_neg hbad], same.rf⟩
  · have g1 := am_bT c8
    refine GS.run [] 1 rfl ?_
    refine GS.cS oX11_bit (c_bit (d + 6) σ raw) rfl rfl rfl rfl (Nat.le_of_ble_eq_true rfl) (by omega) ?_
    refine GS.if_ne rfl (fun c15 => ?_) (fun c15 => ?_)
    · have g2 := am_bT c15
      have h8 := hw.1
      obtain ⟨k, hk, rfl⟩ := okc_nat g1
      rcases g2 with rfl | rfl
      · refine GS.run [] 5 rfl ?_
        refine GS.icmp_ne rfl (fun c30 => ?_) (fun q => absurd q (by decide))
        refine GS.run [] 1 rfl ?_
        refine GS.callV oX10_partingOf (c_parting d σ t s k false ht hw hy hys hk) rfl rfl rfl rfl rfl rfl rfl (Nat.le_of_ble_eq_true rfl) (by omega) (fun v38 σ38 hq38 => ?_)
        obtain ⟨rfl, s38⟩ := hq38
        refine GS.iret rfl rfl (rfl) ?_
        exact ⟨by unfold qParts; rw [if_pos ⟨g1, by decide⟩, cn_nI (by omega)]; rfl, s38⟩
      · refine GS.run [] 5 rfl ?_
        refine GS.icmp_ne rfl (fun q => absurd (rfl) q) (fun c30 => ?_)
        refine GS.run [] 2 rfl ?_
        refine GS.callV oX10_partingOf (c_parting d σ t s k true ht hw hy hys hk) rfl rfl rfl rfl rfl rfl rfl (Nat.le_of_ble_eq_true rfl) (by omega) (fun v38 σ38 hq38 => ?_)
        obtain ⟨rfl, s38⟩ := hq38
        refine GS.iret rfl rfl (rfl) ?_
        exact ⟨by unfold qParts; rw [if_pos ⟨g1, by decide⟩, cn_nI (by omega)]; rfl, s38⟩
    · have hbad : ¬ (okc t c ∧ okb raw) := fun h => am_b0.mp c15 h.2
      refine GS.run [] 2 rfl ?_
      refine GS.iret rfl rfl (rfl) ?_
      exact ⟨by unfold qParts; rw [if_neg hbad], same.rf⟩
theorem p_lost_c (d : Nat) (σ : am_S) (t : Tn) (s : Sy) (c : Int32) (ht : townC 10 σ t) (hw : wfT t) (hy : sayC 24 σ s) (hys : wfS s) : CallS mX11_lost (d + 7) [.ref 0, .int c] σ (fun r σ' => r = some (.int (qLost t s c)) ∧ same [49] σ σ') := by
  refine CallS.of kX11_lost pX11_lost [.ref 0, .int c] rfl (Nat.le_of_ble_eq_true rfl) ?_
  refine GS.run [] 3 rfl ?_
  refine GS.cV oX8_has (v_has (d + 5) σ t c ht hw) rfl rfl rfl rfl rfl rfl rfl (Nat.le_of_ble_eq_true rfl) (by omega) ?_
  refine GS.if_ne rfl (fun c8 => ?_) (fun c8 => ?_)
  · have g1 := am_bT c8
    have h8 := hw.1
    obtain ⟨k, hk, rfl⟩ := okc_nat g1
    refine GS.run [] 3 rfl ?_
    refine GS.callV oX10_endsWithOneLost (c_lost d σ t s k ht hw hy hys hk) rfl rfl rfl rfl rfl rfl rfl (Nat.le_of_ble_eq_true rfl) (by omega) (fun v21 σ21 hq21 => ?_)
    obtain ⟨rfl, s21⟩ := hq21
    refine GS.iret rfl rfl (rfl) ?_
    first
      | exact ⟨by unfold qLost; rw [if_neg hbad], same.rf⟩
      | exact ⟨by unfold qLost; rw [if_pos g1, cn_nI (by omega)], s21⟩
  · have hbad : ¬ okc t c := am_b0.mp c8
    refine GS.run [] 2 rfl ?_
    refine GS.iret rfl rfl (rfl) ?_
    first
      | exact ⟨by unfold qLost; rw [if_neg hbad], same.rf⟩
      | exact ⟨by unfold qLost; rw [if_pos g1, cn_nI (by omega)], s21⟩
theorem hM.kept {σ σ' : am_S} {l f : List Nat} (h : hM σ) (hs : sameM l f σ σ') (hf : 22 ∉ f ∧ 25 ∉ f) : hM σ' := by
  obtain ⟨⟨z, hz⟩, y, hy⟩ := h
  exact ⟨⟨z, (hs.2 _ hf.1).trans hz⟩, y, (hs.2 _ hf.2).trans hy⟩
theorem hM.wk {σ σ' : am_S} {l f : List Nat} {w : Wk} (h : hM σ) (hs : sameM l f σ σ') (hf : 25 ∉ f) (hk : wkM σ' w) : hM σ' := by
  obtain ⟨-, y, hy⟩ := h
  exact ⟨⟨_, hk.2.2⟩, y, (hs.2 _ hf).trans hy⟩
theorem kI_fk {o : Option Nat} : (if kI o < 0 then (-1000000 : Int32) else kI o) = (if kI o < 0 then -1000000 else kI o) := rfl
theorem p_walk_m (d : Nat) (σ : am_S) (t : Tn) (s : Sy) (c img raw what : Int32) (ht : townM 73 0 σ t) (hw : wfT t) (hy : sayM 75 0 σ s) (hys : wfS s) (hh : hM σ) : CallS mX12_walk (d + 4) [.ref 69, .int c, .int img, .int raw, .int what] σ (fun r σ' => r = some (.int (qWalk t s c img raw what)) ∧ sameM [] [0, 20, 21, 22, 23, 24, 25] σ σ' ∧ hM σ') := by
  refine CallS.of kX12_walk pX12_walk [.ref 69, .int c, .int img, .int raw, .int what, .retAddr 0] rfl (Nat.le_of_ble_eq_true rfl) ?_
  have s0 : sameM [] [0, 20, 21, 22, 23, 24, 25] σ (am_s1 σ 69 (upd (σ 69) 0 0)) := sameM.rf.fld (by decide)
  have ht0 := sameM_town s0 (by decide) ht
  have hy0 := sameM_say s0 (by decide) hy
  have hh0 : hM (am_s1 σ 69 (upd (σ 69) 0 0)) := hh
  refine GS.run [] 5 rfl ?_
  refine GS.cV oX12_isCorner (c_isCorner (d + 1) (am_s1 σ 69 (upd (σ 69) 0 0)) t c ht0 hw) rfl rfl rfl rfl rfl rfl rfl (Nat.le_of_ble_eq_true rfl) (by omega) ?_
  refine GS.if_eq rfl (fun c10 => ?_) (fun c10 => ?_)
  · have hbad : ¬ (okc t c ∧ okb img ∧ okb raw ∧ okb what) := fun h => am_b0.mp c10 h.1
    refine GS.run [] 1 rfl ?_
    refine GS.iret rfl rfl (rfl) ?_
    exact ⟨by unfold qWalk; rw [if_neg hbad], s0, hh0⟩
  · have g10 := am_bT c10
    refine GS.run [] 4 rfl ?_
    refine GS.cS oX12_in (c_inB (d + 2) (am_s1 σ 69 (upd (σ 69) 0 0)) img) rfl rfl rfl rfl (Nat.le_of_ble_eq_true rfl) (by omega) ?_
    refine GS.if_eq rfl (fun c20 => ?_) (fun c20 => ?_)
    · have hbad : ¬ (okc t c ∧ okb img ∧ okb raw ∧ okb what) := fun h => am_b0.mp c20 h.2.1
      refine GS.run [] 1 rfl ?_
      refine GS.iret rfl rfl (rfl) ?_
      exact ⟨by unfold qWalk; rw [if_neg hbad], s0, hh0⟩
    · have g20 := am_bT c20
      refine GS.run [] 4 rfl ?_
      refine GS.cS oX12_in (c_inB (d + 2) (am_s1 σ 69 (upd (σ 69) 0 0)) raw) rfl rfl rfl rfl (Nat.le_of_ble_eq_true rfl) (by omega) ?_
      refine GS.if_eq rfl (fun c30 => ?_) (fun c30 => ?_)
      · have hbad : ¬ (okc t c ∧ okb img ∧ okb raw ∧ okb what) := fun h => am_b0.mp c30 h.2.2.1
        refine GS.run [] 1 rfl ?_
        refine GS.iret rfl rfl (rfl) ?_
        exact ⟨by unfold qWalk; rw [if_neg hbad], s0, hh0⟩
      · have g30 := am_bT c30
        refine GS.run [] 4 rfl ?_
        refine GS.cS oX12_in (c_inB (d + 2) (am_s1 σ 69 (upd (σ 69) 0 0)) what) rfl rfl rfl rfl (Nat.le_of_ble_eq_true rfl) (by omega) ?_
        refine GS.if_ne rfl (fun c41 => ?_) (fun c41 => ?_)
        · have g41 := am_bT c41
          have h8 := hw.1
          have h12 := hys.1
          obtain ⟨k, hk, rfl⟩ := okc_nat g10
          rcases g20 with rfl | rfl <;> rcases g30 with rfl | rfl <;> rcases g41 with rfl | rfl
          · refine GS.run [] 4 rfl ?_
            refine GS.icmp_ne rfl (fun c51 => ?_) (fun q => absurd q (by decide))
            refine GS.run [] 3 rfl ?_
            refine GS.icmp_ne rfl (fun c61 => ?_) (fun q => absurd q (by decide))
            refine GS.run [] 2 rfl ?_
            refine GS.callV oX12_walks (c_mwalks d (am_s1 σ 69 (upd (σ 69) 0 0)) t s k false false 100 (-1) ht0 hw hy0 hys hk (fun k h => ⟨fun z => absurd z (by intro e; have := congrArg Int32.toInt e; rw [nI_toInt (by omega), show (-1 : Int32).toInt = -1 from rfl] at this; omega), fun z => absurd z (by omega)⟩)) rfl rfl rfl rfl rfl rfl rfl (Nat.le_of_ble_eq_true rfl) (by omega) (fun v70 σ70 hq70 => ?_)
            obtain ⟨rfl, s70, k70⟩ := hq70
            have s71 := s0.trans (s70.sub (by simp) (by simp))
            have hh1 := hh0.wk s70 (by decide) k70
            have hkk : ∀ i, (runR t s false false 100 s.1 0 (stW k)).1 = some i → i < 2 ^ 31 := fun i hi => by have := runR_k hi; omega
            refine GS.run [] 2 rfl ?_
            refine GS.if_ne rfl (fun q => absurd (rfl) q) (fun c77 => ?_)
            refine GS.run [] 3 rfl ?_
            refine GS.iret rfl rfl (rfl) ?_
            exact ⟨by unfold qWalk; rw [if_pos ⟨g10, by decide, by decide, by decide⟩, cn_nI (by omega), if_pos rfl]; exact congrArg (fun z => some (Value.int z)) k70.1, s71, hh1⟩
          · refine GS.run [] 4 rfl ?_
            refine GS.icmp_ne rfl (fun c51 => ?_) (fun q => absurd q (by decide))
            refine GS.run [] 3 rfl ?_
            refine GS.icmp_ne rfl (fun c61 => ?_) (fun q => absurd q (by decide))
            refine GS.run [] 2 rfl ?_
            refine GS.callV oX12_walks (c_mwalks d (am_s1 σ 69 (upd (σ 69) 0 0)) t s k false false 100 (-1) ht0 hw hy0 hys hk (fun k h => ⟨fun z => absurd z (by intro e; have := congrArg Int32.toInt e; rw [nI_toInt (by omega), show (-1 : Int32).toInt = -1 from rfl] at this; omega), fun z => absurd z (by omega)⟩)) rfl rfl rfl rfl rfl rfl rfl (Nat.le_of_ble_eq_true rfl) (by omega) (fun v70 σ70 hq70 => ?_)
            obtain ⟨rfl, s70, k70⟩ := hq70
            have s71 := s0.trans (s70.sub (by simp) (by simp))
            have hh1 := hh0.wk s70 (by decide) k70
            have hkk : ∀ i, (runR t s false false 100 s.1 0 (stW k)).1 = some i → i < 2 ^ 31 := fun i hi => by have := runR_k hi; omega
            refine GS.run [] 2 rfl ?_
            refine GS.if_ne rfl (fun c77 => ?_) (fun q => absurd q (by decide))
            refine GS.run [] 1 rfl ?_
            refine GS.if_ge rfl (fun c89 => ?_) (fun c89 => ?_)
            · have e2 : kI (runR t s false false 100 s.1 0 (stW k)).1 = fkI (runR t s false false 100 s.1 0 (stW k)).1 := by
                cases he : (runR t s false false 100 s.1 0 (stW k)).1 with
                | none => rw [he] at c89; exact absurd c89 (by decide)
                | some i => rfl
              refine GS.run [] 1 rfl ?_
              refine GS.iret rfl rfl (rfl) ?_
              exact ⟨by unfold qWalk; rw [if_pos ⟨g10, by decide, by decide, by decide⟩, cn_nI (by omega), if_neg (by decide)]; exact congrArg (fun z => some (Value.int z)) e2, s71, hh1⟩
            · have e2 : (-1000000 : Int32) = fkI (runR t s false false 100 s.1 0 (stW k)).1 := by
                cases he : (runR t s false false 100 s.1 0 (stW k)).1 with
                | none => rfl
                | some i => rw [he] at c89; exact absurd (nI_pos' (hkk i he)) c89
              refine GS.run [] 2 rfl ?_
              refine GS.iret rfl rfl (rfl) ?_
              exact ⟨by unfold qWalk; rw [if_pos ⟨g10, by decide, by decide, by decide⟩, cn_nI (by omega), if_neg (by decide)]; exact congrArg (fun z => some (Value.int z)) e2, s71, hh1⟩
          · refine GS.run [] 4 rfl ?_
            refine GS.icmp_ne rfl (fun c51 => ?_) (fun q => absurd q (by decide))
            refine GS.run [] 3 rfl ?_
            refine GS.icmp_ne rfl (fun q => absurd (rfl) q) (fun c61 => ?_)
            refine GS.run [] 3 rfl ?_
            refine GS.callV oX12_walks (c_mwalks d (am_s1 σ 69 (upd (σ 69) 0 0)) t s k false true 100 (-1) ht0 hw hy0 hys hk (fun k h => ⟨fun z => absurd z (by intro e; have := congrArg Int32.toInt e; rw [nI_toInt (by omega), show (-1 : Int32).toInt = -1 from rfl] at this; omega), fun z => absurd z (by omega)⟩)) rfl rfl rfl rfl rfl rfl rfl (Nat.le_of_ble_eq_true rfl) (by omega) (fun v70 σ70 hq70 => ?_)
            obtain ⟨rfl, s70, k70⟩ := hq70
            have s71 := s0.trans (s70.sub (by simp) (by simp))
            have hh1 := hh0.wk s70 (by decide) k70
            have hkk : ∀ i, (runR t s false true 100 s.1 0 (stW k)).1 = some i → i < 2 ^ 31 := fun i hi => by have := runR_k hi; omega
            refine GS.run [] 2 rfl ?_
            refine GS.if_ne rfl (fun q => absurd (rfl) q) (fun c77 => ?_)
            refine GS.run [] 3 rfl ?_
            refine GS.iret rfl rfl (rfl) ?_
            exact ⟨by unfold qWalk; rw [if_pos ⟨g10, by decide, by decide, by decide⟩, cn_nI (by omega), if_pos rfl]; exact congrArg (fun z => some (Value.int z)) k70.1, s71, hh1⟩
          · refine GS.run [] 4 rfl ?_
            refine GS.icmp_ne rfl (fun c51 => ?_) (fun q => absurd q (by decide))
            refine GS.run [] 3 rfl ?_
            refine GS.icmp_ne rfl (fun q => absurd (rfl) q) (fun c61 => ?_)
            refine GS.run [] 3 rfl ?_
            refine GS.callV oX12_walks (c_mwalks d (am_s1 σ 69 (upd (σ 69) 0 0)) t s k false true 100 (-1) ht0 hw hy0 hys hk (fun k h => ⟨fun z => absurd z (by intro e; have := congrArg Int32.toInt e; rw [nI_toInt (by omega), show (-1 : Int32).toInt = -1 from rfl] at this; omega), fun z => absurd z (by omega)⟩)) rfl rfl rfl rfl rfl rfl rfl (Nat.le_of_ble_eq_true rfl) (by omega) (fun v70 σ70 hq70 => ?_)
            obtain ⟨rfl, s70, k70⟩ := hq70
            have s71 := s0.trans (s70.sub (by simp) (by simp))
            have hh1 := hh0.wk s70 (by decide) k70
            have hkk : ∀ i, (runR t s false true 100 s.1 0 (stW k)).1 = some i → i < 2 ^ 31 := fun i hi => by have := runR_k hi; omega
            refine GS.run [] 2 rfl ?_
            refine GS.if_ne rfl (fun c77 => ?_) (fun q => absurd q (by decide))
            refine GS.run [] 1 rfl ?_
            refine GS.if_ge rfl (fun c89 => ?_) (fun c89 => ?_)
            · have e2 : kI (runR t s false true 100 s.1 0 (stW k)).1 = fkI (runR t s false true 100 s.1 0 (stW k)).1 := by
                cases he : (runR t s false true 100 s.1 0 (stW k)).1 with
                | none => rw [he] at c89; exact absurd c89 (by decide)
                | some i => rfl
              refine GS.run [] 1 rfl ?_
              refine GS.iret rfl rfl (rfl) ?_
              exact ⟨by unfold qWalk; rw [if_pos ⟨g10, by decide, by decide, by decide⟩, cn_nI (by omega), if_neg (by decide)]; exact congrArg (fun z => some (Value.int z)) e2, s71, hh1⟩
            · have e2 : (-1000000 : Int32) = fkI (runR t s false true 100 s.1 0 (stW k)).1 := by
                cases he : (runR t s false true 100 s.1 0 (stW k)).1 with
                | none => rfl
                | some i => rw [he] at c89; exact absurd (nI_pos' (hkk i he)) c89
              refine GS.run [] 2 rfl ?_
              refine GS.iret rfl rfl (rfl) ?_
              exact ⟨by unfold qWalk; rw [if_pos ⟨g10, by decide, by decide, by decide⟩, cn_nI (by omega), if_neg (by decide)]; exact congrArg (fun z => some (Value.int z)) e2, s71, hh1⟩
          · refine GS.run [] 4 rfl ?_
            refine GS.icmp_ne rfl (fun q => absurd (rfl) q) (fun c51 => ?_)
            refine GS.run [] 4 rfl ?_
            refine GS.icmp_ne rfl (fun c61 => ?_) (fun q => absurd q (by decide))
            refine GS.run [] 2 rfl ?_
            refine GS.callV oX12_walks (c_mwalks d (am_s1 σ 69 (upd (σ 69) 0 0)) t s k true false 100 (-1) ht0 hw hy0 hys hk (fun k h => ⟨fun z => absurd z (by intro e; have := congrArg Int32.toInt e; rw [nI_toInt (by omega), show (-1 : Int32).toInt = -1 from rfl] at this; omega), fun z => absurd z (by omega)⟩)) rfl rfl rfl rfl rfl rfl rfl (Nat.le_of_ble_eq_true rfl) (by omega) (fun v70 σ70 hq70 => ?_)
            obtain ⟨rfl, s70, k70⟩ := hq70
            have s71 := s0.trans (s70.sub (by simp) (by simp))
            have hh1 := hh0.wk s70 (by decide) k70
            have hkk : ∀ i, (runR t s true false 100 s.1 0 (stW k)).1 = some i → i < 2 ^ 31 := fun i hi => by have := runR_k hi; omega
            refine GS.run [] 2 rfl ?_
            refine GS.if_ne rfl (fun q => absurd (rfl) q) (fun c77 => ?_)
            refine GS.run [] 3 rfl ?_
            refine GS.iret rfl rfl (rfl) ?_
            exact ⟨by unfold qWalk; rw [if_pos ⟨g10, by decide, by decide, by decide⟩, cn_nI (by omega), if_pos rfl]; exact congrArg (fun z => some (Value.int z)) k70.1, s71, hh1⟩
          · refine GS.run [] 4 rfl ?_
            refine GS.icmp_ne rfl (fun q => absurd (rfl) q) (fun c51 => ?_)
            refine GS.run [] 4 rfl ?_
            refine GS.icmp_ne rfl (fun c61 => ?_) (fun q => absurd q (by decide))
            refine GS.run [] 2 rfl ?_
            refine GS.callV oX12_walks (c_mwalks d (am_s1 σ 69 (upd (σ 69) 0 0)) t s k true false 100 (-1) ht0 hw hy0 hys hk (fun k h => ⟨fun z => absurd z (by intro e; have := congrArg Int32.toInt e; rw [nI_toInt (by omega), show (-1 : Int32).toInt = -1 from rfl] at this; omega), fun z => absurd z (by omega)⟩)) rfl rfl rfl rfl rfl rfl rfl (Nat.le_of_ble_eq_true rfl) (by omega) (fun v70 σ70 hq70 => ?_)
            obtain ⟨rfl, s70, k70⟩ := hq70
            have s71 := s0.trans (s70.sub (by simp) (by simp))
            have hh1 := hh0.wk s70 (by decide) k70
            have hkk : ∀ i, (runR t s true false 100 s.1 0 (stW k)).1 = some i → i < 2 ^ 31 := fun i hi => by have := runR_k hi; omega
            refine GS.run [] 2 rfl ?_
            refine GS.if_ne rfl (fun c77 => ?_) (fun q => absurd q (by decide))
            refine GS.run [] 1 rfl ?_
            refine GS.if_ge rfl (fun c89 => ?_) (fun c89 => ?_)
            · have e2 : kI (runR t s true false 100 s.1 0 (stW k)).1 = fkI (runR t s true false 100 s.1 0 (stW k)).1 := by
                cases he : (runR t s true false 100 s.1 0 (stW k)).1 with
                | none => rw [he] at c89; exact absurd c89 (by decide)
                | some i => rfl
              refine GS.run [] 1 rfl ?_
              refine GS.iret rfl rfl (rfl) ?_
              exact ⟨by unfold qWalk; rw [if_pos ⟨g10, by decide, by decide, by decide⟩, cn_nI (by omega), if_neg (by decide)]; exact congrArg (fun z => some (Value.int z)) e2, s71, hh1⟩
            · have e2 : (-1000000 : Int32) = fkI (runR t s true false 100 s.1 0 (stW k)).1 := by
                cases he : (runR t s true false 100 s.1 0 (stW k)).1 with
                | none => rfl
                | some i => rw [he] at c89; exact absurd (nI_pos' (hkk i he)) c89
              refine GS.run [] 2 rfl ?_
              refine GS.iret rfl rfl (rfl) ?_
              exact ⟨by unfold qWalk; rw [if_pos ⟨g10, by decide, by decide, by decide⟩, cn_nI (by omega), if_neg (by decide)]; exact congrArg (fun z => some (Value.int z)) e2, s71, hh1⟩
          · refine GS.run [] 4 rfl ?_
            refine GS.icmp_ne rfl (fun q => absurd (rfl) q) (fun c51 => ?_)
            refine GS.run [] 4 rfl ?_
            refine GS.icmp_ne rfl (fun q => absurd (rfl) q) (fun c61 => ?_)
            refine GS.run [] 3 rfl ?_
            refine GS.callV oX12_walks (c_mwalks d (am_s1 σ 69 (upd (σ 69) 0 0)) t s k true true 100 (-1) ht0 hw hy0 hys hk (fun k h => ⟨fun z => absurd z (by intro e; have := congrArg Int32.toInt e; rw [nI_toInt (by omega), show (-1 : Int32).toInt = -1 from rfl] at this; omega), fun z => absurd z (by omega)⟩)) rfl rfl rfl rfl rfl rfl rfl (Nat.le_of_ble_eq_true rfl) (by omega) (fun v70 σ70 hq70 => ?_)
            obtain ⟨rfl, s70, k70⟩ := hq70
            have s71 := s0.trans (s70.sub (by simp) (by simp))
            have hh1 := hh0.wk s70 (by decide) k70
            have hkk : ∀ i, (runR t s true true 100 s.1 0 (stW k)).1 = some i → i < 2 ^ 31 := fun i hi => by have := runR_k hi; omega
            refine GS.run [] 2 rfl ?_
            refine GS.if_ne rfl (fun q => absurd (rfl) q) (fun c77 => ?_)
            refine GS.run [] 3 rfl ?_
            refine GS.iret rfl rfl (rfl) ?_
            exact ⟨by unfold qWalk; rw [if_pos ⟨g10, by decide, by decide, by decide⟩, cn_nI (by omega), if_pos rfl]; exact congrArg (fun z => some (Value.int z)) k70.1, s71, hh1⟩
          · refine GS.run [] 4 rfl ?_
            refine GS.icmp_ne rfl (fun q => absurd (rfl) q) (fun c51 => ?_)
            refine GS.run [] 4 rfl ?_
            refine GS.icmp_ne rfl (fun q => absurd (rfl) q) (fun c61 => ?_)
            refine GS.run [] 3 rfl ?_
            refine GS.callV oX12_walks (c_mwalks d (am_s1 σ 69 (upd (σ 69) 0 0)) t s k true true 100 (-1) ht0 hw hy0 hys hk (fun k h => ⟨fun z => absurd z (by intro e; have := congrArg Int32.toInt e; rw [nI_toInt (by omega), show (-1 : Int32).toInt = -1 from rfl] at this; omega), fun z => absurd z (by omega)⟩)) rfl rfl rfl rfl rfl rfl rfl (Nat.le_of_ble_eq_true rfl) (by omega) (fun v70 σ70 hq70 => ?_)
            obtain ⟨rfl, s70, k70⟩ := hq70
            have s71 := s0.trans (s70.sub (by simp) (by simp))
            have hh1 := hh0.wk s70 (by decide) k70
            have hkk : ∀ i, (runR t s true true 100 s.1 0 (stW k)).1 = some i → i < 2 ^ 31 := fun i hi => by have := runR_k hi; omega
            refine GS.run [] 2 rfl ?_
            refine GS.if_ne rfl (fun c77 => ?_) (fun q => absurd q (by decide))
            refine GS.run [] 1 rfl ?_
            refine GS.if_ge rfl (fun c89 => ?_) (fun c89 => ?_)
            · have e2 : kI (runR t s true true 100 s.1 0 (stW k)).1 = fkI (runR t s true true 100 s.1 0 (stW k)).1 := by
                cases he : (runR t s true true 100 s.1 0 (stW k)).1 with
                | none => rw [he] at c89; exact absurd c89 (by decide)
                | some i => rfl
              refine GS.run [] 1 rfl ?_
              refine GS.iret rfl rfl (rfl) ?_
              exact ⟨by unfold qWalk; rw [if_pos ⟨g10, by decide, by decide, by decide⟩, cn_nI (by omega), if_neg (by decide)]; exact congrArg (fun z => some (Value.int z)) e2, s71, hh1⟩
            · have e2 : (-1000000 : Int32) = fkI (runR t s true true 100 s.1 0 (stW k)).1 := by
                cases he : (runR t s true true 100 s.1 0 (stW k)).1 with
                | none => rfl
                | some i => rw [he] at c89; exact absurd (nI_pos' (hkk i he)) c89
              refine GS.run [] 2 rfl ?_
              refine GS.iret rfl rfl (rfl) ?_
              exact ⟨by unfold qWalk; rw [if_pos ⟨g10, by decide, by decide, by decide⟩, cn_nI (by omega), if_neg (by decide)]; exact congrArg (fun z => some (Value.int z)) e2, s71, hh1⟩
        · have hbad : ¬ (okc t c ∧ okb img ∧ okb raw ∧ okb what) := fun h => am_b0.mp c41 h.2.2.2
          refine GS.run [] 1 rfl ?_
          refine GS.iret rfl rfl (rfl) ?_
          exact ⟨by unfold qWalk; rw [if_neg hbad], s0, hh0⟩
