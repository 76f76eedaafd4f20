theorem rows_make {a b c : Nat} {σ σ' : am_S} {r : Rw} {k n : Nat} {l : Int32} (h : rowsV a b c σ r) (h1 : σ' a = upd (σ a) k l) (h2 : σ' b = upd (σ b) k (nI n)) (h3 : ∀ j i, j < 8 → j ≠ k → i < r.2.1 j → σ' c (40 * j + i) = σ c (40 * j + i)) (h4 : ∀ i, i < n → σ' c (40 * k + i) = 0) (hn : n ≤ 40) (hw : wfR r) : rowsV a b c σ' (rMake r k l n) := by
  intro j hj
  unfold rMake va_up
  rw [h1, h2]
  unfold upd
  by_cases e : j = k
  · subst e
    simp only [if_true]
    refine ⟨trivial, trivial, fun i hi => ?_⟩
    rw [h4 i hi, if_pos (by omega)]
  · simp only [if_neg e]
    refine ⟨(h j hj).1, (h j hj).2.1, fun i hi => ?_⟩
    have := (hw j hj).2
    rw [h3 j i hj e hi, (h j hj).2.2 i hi, if_neg]
    rcases Nat.lt_trichotomy j k with q | q | q <;> omega
theorem wf_make {r : Rw} {k n : Nat} {l : Int32} (h : wfR r) (hl : l = 0 ∨ l = 1 ∨ l = 2) (hn : n ≤ 40) : wfR (rMake r k l n) := by
  intro j hj
  unfold rMake va_up
  by_cases e : j = k
  · simp only [if_pos e]; exact ⟨Or.inr hl, hn⟩
  · simp only [if_neg e]; exact h j hj
theorem rows_store {a b c : Nat} {σ σ' : am_S} {r : Rw} {k i : Nat} {v : Int32} (h : rowsV a b c σ r) (h1 : σ' a = σ a) (h2 : σ' b = σ b) (h3 : σ' c = upd (σ c) (40 * k + i) v) : rowsV a b c σ' (rStore r k i v) := by
  intro j hj
  rw [h1, h2, h3]
  refine ⟨(h j hj).1, (h j hj).2.1, fun x hx => ?_⟩
  show upd (σ c) (40 * k + i) v (40 * j + x) = va_up r.2.2 (40 * k + i) v (40 * j + x)
  unfold upd va_up
  rw [(h j hj).2.2 x hx]
theorem rows_drop {a b c : Nat} {σ σ' : am_S} {r : Rw} {k : Nat} (h : rowsV a b c σ r) (h1 : σ' a = upd (σ a) k (-1)) (h2 : σ' b = σ b) (h3 : σ' c = σ c) : rowsV a b c σ' (rDrop r k) := by
  intro j hj
  rw [h1, h2, h3]
  refine ⟨?_, (h j hj).2.1, (h j hj).2.2⟩
  show upd (σ a) k (-1) j = va_up r.1 k (-1) j
  unfold upd va_up
  rw [(h j hj).1]
theorem wf_drop {r : Rw} {k : Nat} (h : wfR r) : wfR (rDrop r k) := by
  intro j hj
  unfold rDrop va_up
  by_cases e : j = k
  · simp only [if_pos e]; exact ⟨Or.inl trivial, (h j hj).2⟩
  · simp only [if_neg e]; exact h j hj
theorem rows_copy {q1 q2 q3 : Nat} {σ σ' : am_S} {r : Rw} {a b i j n : Nat} (h : rowsV q1 q2 q3 σ r) (hw : wfR r) (h1 : σ' q1 = σ q1) (h2 : σ' q2 = σ q2) (h3 : σ' q3 = mvF true (σ q3) (40 * a + i) (40 * b + j) n n) (ha : a < 8) (hb : b < 8) (hi : i + n ≤ r.2.1 a) (hj : j + n ≤ r.2.1 b) : rowsV q1 q2 q3 σ' (rCopy r a i b j n) := by
  intro y hy
  rw [h1, h2, h3]
  refine ⟨(h y hy).1, (h y hy).2.1, fun x hx => ?_⟩
  have s1 := (hw y hy).2
  have s2 := (hw b hb).2
  have hx' : x < r.2.1 y := hx
  show mvF true (σ q3) (40 * a + i) (40 * b + j) n n (40 * y + x) = mvF true r.2.2 (40 * a + i) (40 * b + j) n n (40 * y + x)
  unfold mvF
  simp only [decide_eq_true_eq]
  by_cases hq : 40 * b + j ≤ 40 * y + x ∧ 40 * y + x < 40 * b + j + n
  · rw [if_pos hq, if_pos hq]
    have e : y = b := by rcases Nat.lt_trichotomy y b with q | q | q <;> omega
    subst e
    rw [show 40 * a + i + (40 * y + x - (40 * y + j)) = 40 * a + (i + (x - j)) by omega]
    exact (h a ha).2.2 _ (by omega)
  · rw [if_neg hq, if_neg hq]
    exact (h y hy).2.2 x hx
theorem p_row_c (d : Nat) (σ : am_S) (r : Rw) (f : Int32) (k l n : Int32) (hr : rowsV 2 3 4 σ r) (hwf : wfR r) (hf : σ 0 13 = f) : CallS mX11_row (d + 4) [.ref 0, .int k, .int l, .int n] σ (fun x σ' => x = some (.int (qRow r f k l n).1) ∧ rowsV 2 3 4 σ' (qRow r f k l n).2.1 ∧ σ' 0 13 = (qRow r f k l n).2.2 ∧ same [0, 2, 3, 4] σ σ') := by
  refine CallS.of kX11_row pX11_row [.ref 0, .int k, .int l, .int n] rfl (Nat.le_of_ble_eq_true rfl) ?_
  refine GS.run [] 3 rfl ?_
  refine GS.cV oX4_has (c_rhas (d + 2) σ k) rfl rfl rfl rfl rfl rfl rfl (Nat.le_of_ble_eq_true rfl) (by omega) ?_
  refine GS.if_eq rfl (fun c8 => ?_) (fun c8 => ?_)
  · have hbad : ¬ (okr k ∧ (0 ≤ l.toInt ∧ l.toInt < 3) ∧ n.toInt ≤ 40) := fun h => am_b0.mp c8 h.1
    refine GS.run [] 1 rfl ?_
    refine GS.iret rfl rfl (rfl) ?_
    rw [show qRow r f k l n = (-1000001, r, f) from if_neg hbad]
    exact ⟨rfl, hr, hf, same.rf⟩
  · have g1 := am_bT c8
    refine GS.run [] 2 rfl ?_
    refine GS.cS oX11_within (c_withinN (d + 3) σ l 3 (by decide)) rfl rfl rfl rfl (Nat.le_of_ble_eq_true rfl) (by omega) ?_
    refine GS.if_eq rfl (fun c16 => ?_) (fun c16 => ?_)
    · have hbad : ¬ (okr k ∧ (0 ≤ l.toInt ∧ l.toInt < 3) ∧ n.toInt ≤ 40) := fun h => am_b0.mp c16 ⟨h.2.1.1, by have := h.2.1.2; omega⟩
      refine GS.run [] 1 rfl ?_
      refine GS.iret rfl rfl (rfl) ?_
      rw [show qRow r f k l n = (-1000001, r, f) from if_neg hbad]
      exact ⟨rfl, hr, hf, same.rf⟩
    · have g2 := am_bT c16
      refine GS.run [] 2 rfl ?_
      refine GS.icmp_le rfl (fun c22 => ?_) (fun c22 => ?_)
      · have g3 : n.toInt ≤ 40 := by rw [tI_le] at c22; exact c22
        have hgood : okr k ∧ (0 ≤ l.toInt ∧ l.toInt < 3) ∧ n.toInt ≤ 40 := ⟨g1, ⟨g2.1, by have := g2.2; omega⟩, g3⟩
        refine GS.run [] 1 rfl ?_
        refine GS.if_ge rfl (fun c29 => ?_) (fun c29 => ?_)
        · have g4 : ¬ n.toInt < 0 := by rw [tI_le, tI_0] at c29; omega
          obtain ⟨a, ha, rfl⟩ := okr_nat g1
          obtain ⟨m, hm, rfl⟩ := nat_of (m := 40) (by omega) g3
          refine GS.run [] 5 rfl ?_
          refine GS.cV oX4_make (c_make (d + 2) σ a m l ha hm) rfl rfl rfl rfl rfl rfl rfl (Nat.le_of_ble_eq_true rfl) (by omega) ?_
          refine GS.run [] 2 rfl ?_
          refine GS.cV oX11_fine (c_fine (d + 2) _ (nI m)) rfl rfl rfl rfl rfl rfl rfl (Nat.le_of_ble_eq_true rfl) (by omega) ?_
          refine GS.iret rfl rfl (rfl) ?_
          rw [show qRow r f (nI a) l (nI m) = (nI m, rMake r a l m, 0) by unfold qRow; rw [if_pos hgood, if_neg g4, cn_nI (by omega), cn_nI (by omega)]]
          refine ⟨rfl, rows_make hr rfl rfl (fun j i hj hjk hi => ?_) (fun i hi => ?_) hm hwf, rfl, (((same.rf.s1 (by simp)).s1 (by simp)).s1 (by simp)).s1 (by simp)⟩
          · show zF (σ 4) a m (40 * j + i) = σ 4 (40 * j + i)
            have := (hwf j hj).2
            unfold zF
            rw [if_neg (by rcases Nat.lt_trichotomy j a with q | q | q <;> omega)]
          · show zF (σ 4) a m (40 * a + i) = 0
            unfold zF
            rw [if_pos (by omega)]
        · have g4 : n.toInt < 0 := by rw [tI_le, tI_0] at c29; omega
          refine GS.run [] 2 rfl ?_
          refine GS.cV oX11_found (c_found (d + 2) σ 4) rfl rfl rfl rfl rfl rfl rfl (Nat.le_of_ble_eq_true rfl) (by omega) ?_
          refine GS.iret rfl rfl (rfl) ?_
          rw [show qRow r f k l n = (-1000014, r, 4) by (unfold qRow; rw [if_pos hgood, if_pos g4])]
          exact ⟨rfl, hr.kept rfl rfl rfl, rfl, same.rf.s1 (by simp)⟩
      · have hbad : ¬ (okr k ∧ (0 ≤ l.toInt ∧ l.toInt < 3) ∧ n.toInt ≤ 40) := fun h => c22 (by rw [tI_le]; exact h.2.2)
        refine GS.run [] 1 rfl ?_
        refine GS.iret rfl rfl (rfl) ?_
        rw [show qRow r f k l n = (-1000001, r, f) from if_neg hbad]
        exact ⟨rfl, hr, hf, same.rf⟩
theorem p_set_c (d : Nat) (σ : am_S) (r : Rw) (f : Int32) (k i v : Int32) (hr : rowsV 2 3 4 σ r) (hwf : wfR r) (hf : σ 0 13 = f) : CallS mX11_set (d + 5) [.ref 0, .int k, .int i, .int v] σ (fun x σ' => x = some (.int (qSet r f k i v).1) ∧ rowsV 2 3 4 σ' (qSet r f k i v).2.1 ∧ σ' 0 13 = (qSet r f k i v).2.2 ∧ same [0, 2, 3, 4] σ σ') := by
  refine CallS.of kX11_set pX11_set [.ref 0, .int k, .int i, .int v, .retAddr 0] rfl (Nat.le_of_ble_eq_true rfl) ?_
  refine GS.run [] 3 rfl ?_
  refine GS.cV oX4_has (c_rhas (d + 3) σ k) rfl rfl rfl rfl rfl rfl rfl (Nat.le_of_ble_eq_true rfl) (by omega) ?_
  refine GS.if_ne rfl (fun c8 => ?_) (fun c8 => ?_)
  · have g1 := am_bT c8
    obtain ⟨a, ha, rfl⟩ := okr_nat g1
    have ec : cn (nI a) = a := cn_nI (by omega)
    refine GS.run [] 5 rfl ?_
    refine GS.cV oX4_findingAt (c_findAt (d + 1) σ r a i 1 hr hwf ha) rfl rfl rfl rfl rfl rfl rfl (Nat.le_of_ble_eq_true rfl) (by omega) ?_
    skip
    rcases Classical.em ((r.1 a).toInt < 0) with h1 | h1
    rotate_left
    rcases Classical.em (beyR (r.2.1 a) i 1) with h2 | h2
    · rw [if_neg h1, if_pos h2]
      refine GS.run [] 2 rfl ?_
      refine GS.if_eq rfl (fun q => absurd q (by decide)) (fun c28 => ?_)
      refine GS.run [] 2 rfl ?_
      refine GS.cV oX11_found (c_found (d + 4) σ 2) rfl rfl rfl rfl rfl rfl rfl (Nat.le_of_ble_eq_true rfl) (by omega) ?_
      refine GS.run [] 1 rfl ?_
      refine GS.iret rfl rfl (rfl) ?_
      rw [show qSet r f (nI a) i v = (-1000012, r, 2) by (unfold qSet; rw [if_pos g1, ec, if_neg h1, if_pos h2])]
      exact ⟨rfl, hr.kept rfl rfl rfl, rfl, same.rf.s1 (by simp)⟩
    · rw [if_neg h1, if_neg h2]
      have h3 : (1 : Int32).toInt = 1 := rfl
      have h4 := (hwf a ha).2
      obtain ⟨m, hm, rfl⟩ := nat_of (i := i) (m := 40) (by omega) (by omega)
      have em : (nI m).toInt = m := nI_toInt (by omega)
      have hm2 : m < r.2.1 a := by omega
      refine GS.run [] 2 rfl ?_
      refine GS.if_eq rfl (fun c28 => ?_) (fun q => absurd (rfl) q)
      refine GS.run [] 6 rfl ?_
      refine GS.cV oX4_store (c_store (d + 3) σ r a m v hr hwf ha hm2 h1) rfl rfl rfl rfl rfl rfl rfl (Nat.le_of_ble_eq_true rfl) (by omega) ?_
      refine GS.cV oX11_fine (c_fine (d + 4) _ _) rfl rfl rfl rfl rfl rfl rfl (Nat.le_of_ble_eq_true rfl) (by omega) ?_
      refine GS.iret rfl rfl (rfl) ?_
      rw [show qSet r f (nI a) (nI m) v = (low (r.1 a) v, rStore r a m (low (r.1 a) v), 0) by unfold qSet; rw [if_pos g1, ec, if_neg h1, if_neg h2, cn_nI (by omega)]]
      exact ⟨rfl, rows_store hr rfl rfl rfl, rfl, (same.rf.s1 (by simp)).s1 (by simp)⟩
    · rw [if_pos h1]
      refine GS.run [] 2 rfl ?_
      refine GS.if_eq rfl (fun q => absurd q (by decide)) (fun c28 => ?_)
      refine GS.run [] 2 rfl ?_
      refine GS.cV oX11_found (c_found (d + 4) σ 1) rfl rfl rfl rfl rfl rfl rfl (Nat.le_of_ble_eq_true rfl) (by omega) ?_
      refine GS.run [] 1 rfl ?_
      refine GS.iret rfl rfl (rfl) ?_
      rw [show qSet r f (nI a) i v = (-1000011, r, 1) by (unfold qSet; rw [if_pos g1, ec, if_pos h1])]
      exact ⟨rfl, hr.kept rfl rfl rfl, rfl, same.rf.s1 (by simp)⟩
  · have hbad : ¬ okr k := am_b0.mp c8
    refine GS.run [] 1 rfl ?_
    refine GS.iret rfl rfl (rfl) ?_
    rw [show qSet r f k i v = (-1000001, r, f) from if_neg hbad]
    exact ⟨rfl, hr, hf, same.rf⟩
theorem p_copy_c (d : Nat) (σ : am_S) (r : Rw) (f : Int32) (a i b j n : Int32) (hr : rowsV 2 3 4 σ r) (hwf : wfR r) (hf : σ 0 13 = f) : CallS mX11_copy (d + 5) [.ref 0, .int a, .int i, .int b, .int j, .int n] σ (fun x σ' => x = some (.int (qCopy r f a i b j n).1) ∧ rowsV 2 3 4 σ' (qCopy r f a i b j n).2.1 ∧ σ' 0 13 = (qCopy r f a i b j n).2.2 ∧ same [0, 2, 3, 4] σ σ') := by
  refine CallS.of kX11_copy pX11_copy [.ref 0, .int a, .int i, .int b, .int j, .int n, .retAddr 0] rfl (Nat.le_of_ble_eq_true rfl) ?_
  refine GS.run [] 3 rfl ?_
  refine GS.cV oX4_has (c_rhas (d + 3) σ a) rfl rfl rfl rfl rfl rfl rfl (Nat.le_of_ble_eq_true rfl) (by omega) ?_
  refine GS.if_eq rfl (fun c8 => ?_) (fun c8 => ?_)
  · have hbad : ¬ (okr a ∧ okr b) := fun h => am_b0.mp c8 h.1
    refine GS.run [] 1 rfl ?_
    refine GS.iret rfl rfl (rfl) ?_
    rw [show qCopy r f a i b j n = (-1000001, r, f) from if_neg hbad]
    exact ⟨rfl, hr, hf, same.rf⟩
  · have g1 := am_bT c8
    refine GS.run [] 3 rfl ?_
    refine GS.cV oX4_has (c_rhas (d + 3) σ b) rfl rfl rfl rfl rfl rfl rfl (Nat.le_of_ble_eq_true rfl) (by omega) ?_
    refine GS.if_ne rfl (fun c19 => ?_) (fun c19 => ?_)
    · have g2 := am_bT c19
      obtain ⟨x, hx, rfl⟩ := okr_nat g1
      obtain ⟨y, hy, rfl⟩ := okr_nat g2
      have ex : cn (nI x) = x := cn_nI (by omega)
      have ey : cn (nI y) = y := cn_nI (by omega)
      refine GS.run [] 7 rfl ?_
      refine GS.cV oX4_findingBetween (c_findBt (d + 1) σ r x y i j n hr hwf hx hy) rfl rfl rfl rfl rfl rfl rfl (Nat.le_of_ble_eq_true rfl) (by omega) ?_
      rcases Classical.em ((r.1 x).toInt < 0 ∨ (r.1 y).toInt < 0) with h1 | h1
      rotate_left
      rcases Classical.em (r.1 x ≠ r.1 y) with h2 | h2
      rotate_left
      rcases Classical.em (beyR (r.2.1 x) i n ∨ beyR (r.2.1 y) j n) with h3 | h3
      · rw [if_neg h1, if_neg h2, if_pos h3]
        refine GS.run [] 2 rfl ?_
        refine GS.if_eq rfl (fun q => absurd q (by decide)) (fun c43 => ?_)
        refine GS.run [] 2 rfl ?_
        refine GS.cV oX11_found (c_found (d + 4) σ 2) rfl rfl rfl rfl rfl rfl rfl (Nat.le_of_ble_eq_true rfl) (by omega) ?_
        refine GS.iret rfl rfl (rfl) ?_
        rw [show qCopy r f (nI x) i (nI y) j n = (-1000012, r, 2) by (unfold qCopy; rw [if_pos ⟨g1, g2⟩, ex, ey, if_neg h1, if_neg h2, if_pos h3])]
        exact ⟨rfl, hr.kept rfl rfl rfl, rfl, same.rf.s1 (by simp)⟩
      · rw [if_neg h1, if_neg h2, if_neg h3]
        have s1 := (hwf x hx).2
        have s2 := (hwf y hy).2
        obtain ⟨i0, hi0, rfl⟩ := nat_of (i := i) (m := 40) (by omega) (by omega)
        obtain ⟨j0, hj0, rfl⟩ := nat_of (i := j) (m := 40) (by omega) (by omega)
        obtain ⟨n0, hn0, rfl⟩ := nat_of (i := n) (m := 40) (by omega) (by omega)
        have e1 : (nI i0).toInt = i0 := nI_toInt (by omega)
        have e2 : (nI j0).toInt = j0 := nI_toInt (by omega)
        have e3 : (nI n0).toInt = n0 := nI_toInt (by omega)
        refine GS.run [] 2 rfl ?_
        refine GS.if_eq rfl (fun c43 => ?_) (fun q => absurd (rfl) q)
        refine GS.run [] 7 rfl ?_
        refine GS.cV oX4_move (c_move (d + 2) σ x y i0 j0 n0 hx hy (by omega) (by omega)) rfl rfl rfl rfl rfl rfl rfl (Nat.le_of_ble_eq_true rfl) (by omega) ?_
        refine GS.run [] 2 rfl ?_
        refine GS.cV oX11_fine (c_fine (d + 4) _ (nI n0)) rfl rfl rfl rfl rfl rfl rfl (Nat.le_of_ble_eq_true rfl) (by omega) ?_
        refine GS.iret rfl rfl (rfl) ?_
        rw [show qCopy r f (nI x) (nI i0) (nI y) (nI j0) (nI n0) = (nI n0, rCopy r x i0 y j0 n0, 0) by unfold qCopy; rw [if_pos ⟨g1, g2⟩, ex, ey, if_neg h1, if_neg h2, if_neg h3, cn_nI (by omega), cn_nI (by omega), cn_nI (by omega)]]
        exact ⟨rfl, rows_copy hr hwf rfl rfl rfl hx hy (by omega) (by omega), rfl, (same.rf.s1 (by simp)).s1 (by simp)⟩
      · rw [if_pos h1]
        refine GS.run [] 2 rfl ?_
        refine GS.if_eq rfl (fun q => absurd q (by decide)) (fun c43 => ?_)
        refine GS.run [] 2 rfl ?_
        refine GS.cV oX11_found (c_found (d + 4) σ 1) rfl rfl rfl rfl rfl rfl rfl (Nat.le_of_ble_eq_true rfl) (by omega) ?_
        refine GS.iret rfl rfl (rfl) ?_
        rw [show qCopy r f (nI x) i (nI y) j n = (-1000011, r, 1) by (unfold qCopy; rw [if_pos ⟨g1, g2⟩, ex, ey, if_pos h1])]
        exact ⟨rfl, hr.kept rfl rfl rfl, rfl, same.rf.s1 (by simp)⟩
      · rw [if_neg h1, if_pos h2]
        refine GS.run [] 2 rfl ?_
        refine GS.if_eq rfl (fun q => absurd q (by decide)) (fun c43 => ?_)
        refine GS.run [] 2 rfl ?_
        refine GS.cV oX11_found (c_found (d + 4) σ 5) rfl rfl rfl rfl rfl rfl rfl (Nat.le_of_ble_eq_true rfl) (by omega) ?_
        refine GS.iret rfl rfl (rfl) ?_
        rw [show qCopy r f (nI x) i (nI y) j n = (-1000015, r, 5) by (unfold qCopy; rw [if_pos ⟨g1, g2⟩, ex, ey, if_neg h1, if_pos h2])]
        exact ⟨rfl, hr.kept rfl rfl rfl, rfl, same.rf.s1 (by simp)⟩
    · have hbad : ¬ (okr a ∧ okr b) := fun h => am_b0.mp c19 h.2
      refine GS.run [] 1 rfl ?_
      refine GS.iret rfl rfl (rfl) ?_
      rw [show qCopy r f a i b j n = (-1000001, r, f) from if_neg hbad]
      exact ⟨rfl, hr, hf, same.rf⟩
theorem p_drop_c (d : Nat) (σ : am_S) (r : Rw) (f : Int32) (k : Int32) (hr : rowsV 2 3 4 σ r) (hwf : wfR r) (hf : σ 0 13 = f) : CallS mX11_drop (d + 4) [.ref 0, .int k] σ (fun x σ' => x = some (.int (qDrop r f k).1) ∧ rowsV 2 3 4 σ' (qDrop r f k).2.1 ∧ σ' 0 13 = (qDrop r f k).2.2 ∧ same [0, 2, 3, 4] σ σ') := by
  refine CallS.of kX11_drop pX11_drop [.ref 0, .int k] rfl (Nat.le_of_ble_eq_true rfl) ?_
  refine GS.run [] 3 rfl ?_
  refine GS.cV oX4_has (c_rhas (d + 2) σ k) rfl rfl rfl rfl rfl rfl rfl (Nat.le_of_ble_eq_true rfl) (by omega) ?_
  refine GS.if_ne rfl (fun c8 => ?_) (fun c8 => ?_)
  · have g1 := am_bT c8
    obtain ⟨a, ha, rfl⟩ := okr_nat g1
    have ec : cn (nI a) = a := cn_nI (by omega)
    refine GS.run [] 3 rfl ?_
    refine GS.cV oX4_missing (c_missing (d + 2) σ r a hr hwf ha) rfl rfl rfl rfl rfl rfl rfl (Nat.le_of_ble_eq_true rfl) (by omega) ?_
    refine GS.if_eq rfl (fun c22 => ?_) (fun c22 => ?_)
    · have h1 := am_b0.mp c22
      refine GS.run [] 4 rfl ?_
      refine GS.cV oX4_takeAway (c_take (d + 2) σ r a hr hwf ha) rfl rfl rfl rfl rfl rfl rfl (Nat.le_of_ble_eq_true rfl) (by omega) ?_
      refine GS.cV oX11_fine (c_fine (d + 3) _ _) rfl rfl rfl rfl rfl rfl rfl (Nat.le_of_ble_eq_true rfl) (by omega) ?_
      refine GS.iret rfl rfl (rfl) ?_
      first
        | (rw [show qDrop r f (nI a) = (-1000011, r, 1) by unfold qDrop; rw [if_pos g1, ec, if_pos h1]]; exact ⟨rfl, hr.kept rfl rfl rfl, rfl, same.rf.s1 (by simp)⟩)
        | (rw [show qDrop r f (nI a) = (nI (r.2.1 a), rDrop r a, 0) by unfold qDrop; rw [if_pos g1, ec, if_neg h1]]; exact ⟨rfl, rows_drop hr rfl rfl rfl, rfl, (same.rf.s1 (by simp)).s1 (by simp)⟩)
    · have h1 := am_bT c22
      refine GS.run [] 2 rfl ?_
      refine GS.cV oX11_found (c_found (d + 3) σ 1) rfl rfl rfl rfl rfl rfl rfl (Nat.le_of_ble_eq_true rfl) (by omega) ?_
      refine GS.run [] 1 rfl ?_
      refine GS.iret rfl rfl (rfl) ?_
      first
        | (rw [show qDrop r f (nI a) = (-1000011, r, 1) by unfold qDrop; rw [if_pos g1, ec, if_pos h1]]; exact ⟨rfl, hr.kept rfl rfl rfl, rfl, same.rf.s1 (by simp)⟩)
        | (rw [show qDrop r f (nI a) = (nI (r.2.1 a), rDrop r a, 0) by unfold qDrop; rw [if_pos g1, ec, if_neg h1]]; exact ⟨rfl, rows_drop hr rfl rfl rfl, rfl, (same.rf.s1 (by simp)).s1 (by simp)⟩)
  · have hbad : ¬ okr k := am_b0.mp c8
    refine GS.run [] 1 rfl ?_
    refine GS.iret rfl rfl (rfl) ?_
    rw [show qDrop r f k = (-1000001, r, f) from if_neg hbad]
    exact ⟨rfl, hr, hf, same.rf⟩
def rwF (r : Rw) : Nat → Nat
  | 0 => 0
  | j + 1 => if (r.1 j).toInt < 0 then rwF r j else rwF r j + 1
theorem c_howMany (d : Nat) (σ : am_S) (r : Rw) (hr : rowsV 2 3 4 σ r) (hwf : wfR r) : CallS mX4_howMany (d + 2) [.ref 1] σ (am_det (some (.int (nI (rwF r 8)))) σ) := by
  refine CallS.of kX4_howMany pX4_howMany [.ref 1, .retAddr 0, .retAddr 0] rfl (Nat.le_of_ble_eq_true rfl) ?_
  refine GS.run [] 4 rfl ?_
  have loop4 : ∀ (fu : Nat) (j : Nat) (hj : j ≤ 8), 8 - j = fu → GS none mX4_howMany (d + 2) (am_det (some (.int (nI (rwF r 8)))) σ) 4 [.ref 1, .int (nI (rwF r j)), .int (nI j)] [] σ := by
    intro fu
    induction fu using Nat.strongRecOn with
    | ind fu ih4 =>
      intro j hj hfu
      refine GS.run [] 2 rfl ?_
      refine GS.icmp_ge rfl (fun c7 => ?_) (fun c7 => ?_)
      · have e : 8 = j := by have := (nI_leI (a := 8) (by omega) (by omega)).mp c7; omega
        refine GS.run [] 1 rfl ?_
        refine GS.iret rfl rfl (rfl) ?_
        subst e
        exact ⟨rfl, rfl⟩
      · have hlt : j < 8 := (nI_gtI (a := 8) (by omega) (by omega)).mp c7
        refine GS.run [] 3 rfl ?_
        refine GS.cV oX4_missing (c_missing d σ r j hr hwf hlt) rfl rfl rfl rfl rfl rfl rfl (Nat.le_of_ble_eq_true rfl) (by omega) ?_
        refine GS.if_eq rfl (fun c16 => ?_) (fun c16 => ?_)
        · have hs : rwF r (j + 1) = rwF r j + 1 := by rw [rwF, if_neg (am_b0.mp c16)]
          refine GS.run [] 5 rfl ?_
          have ih := ih4 _ (by omega) (j + 1) (by omega) rfl
          rw [hs] at ih
          simp only [nI_1]
          first
            | exact ih
            | (rw [show nI (rwF r j) + 0 = nI (rwF r j) from nI_add _ 0]; exact ih)
        · have hs : rwF r (j + 1) = rwF r j := by rw [rwF, if_pos (am_bT c16)]
          refine GS.run [] 6 rfl ?_
          have ih := ih4 _ (by omega) (j + 1) (by omega) rfl
          rw [hs] at ih
          simp only [nI_1]
          first
            | exact ih
            | (rw [show nI (rwF r j) + 0 = nI (rwF r j) from nI_add _ 0]; exact ih)
  exact loop4 _ 0 (Nat.zero_le _) rfl
