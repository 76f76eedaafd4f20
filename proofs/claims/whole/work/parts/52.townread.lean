/-- the town that is being read -/
def dftC (σ : am_S) (D : Tn) : Prop := σ 17 0 = nI (tN D) ∧ σ 17 1 = nI (tS D) ∧ (∀ c, c < tN D → σ 18 c = nI (tH D c) ∧ σ 19 c = nI (tM D c) ∧ σ 20 c = nI (tW D c)) ∧ ∀ c, c < 8 → σ 21 c = nI (tD D c) ∧ (∀ i, i < 6 → σ 22 (c * 6 + i) = if i < tD D c then nI (tB D c i) else -1000000) ∧ (∀ i, i < tD D c → σ 23 (c * 8 + tB D c i) = nI i) ∧ ∀ b, b < 8 → (∀ i, i < tD D c → tB D c i ≠ b) → σ 23 (c * 8 + b) = -1000000
theorem dftC.kept {L : List Nat} {σ σ' : am_S} {D : Tn} (h : dftC σ D) (hs : same L σ σ') (hL : 17 ∉ L ∧ 18 ∉ L ∧ 19 ∉ L ∧ 20 ∉ L ∧ 21 ∉ L ∧ 22 ∉ L ∧ 23 ∉ L) : dftC σ' D := by
  unfold dftC
  rw [hs 17 hL.1, hs 18 hL.2.1, hs 19 hL.2.2.1, hs 20 hL.2.2.2.1, hs 21 hL.2.2.2.2.1, hs 22 hL.2.2.2.2.2.1, hs 23 hL.2.2.2.2.2.2]
  exact h
theorem dftC.town {σ : am_S} {D : Tn} (h : dftC σ D) (hw : wfT D) : townC 17 σ D := by
  have h8 := hw.1
  refine ⟨h.1, h.2.1, fun c hc => ?_⟩
  obtain ⟨d1, d2, d3⟩ := h.2.2.1 c hc
  obtain ⟨e1, e2, e3, e4⟩ := h.2.2.2 c (by omega)
  exact ⟨d1, d2, d3, e1, e2, e3, e4⟩
theorem dftC_C {σ σ' : am_S} {D : Tn} {h m w : Nat} (hd : dftC σ D) (e0 : σ' 17 0 = nI (tN D + 1)) (e1 : σ' 17 1 = σ 17 1) (a1 : σ' 18 = upd (σ 18) (tN D) (nI h)) (a2 : σ' 19 = upd (σ 19) (tN D) (nI m)) (a3 : σ' 20 = upd (σ 20) (tN D) (nI w)) (b1 : σ' 21 = σ 21) (b2 : σ' 22 = σ 22) (b3 : σ' 23 = σ 23) : dftC σ' (tAddC D h m w) := by
  refine ⟨e0, e1.trans hd.2.1, fun c hc => ?_, fun c hc => ?_⟩
  · have hc : c < tN D + 1 := hc
    rw [a1, a2, a3]
    show upd (σ 18) (tN D) (nI h) c = nI (va_up (tH D) (tN D) h c) ∧ upd (σ 19) (tN D) (nI m) c = nI (va_up (tM D) (tN D) m c) ∧ upd (σ 20) (tN D) (nI w) c = nI (va_up (tW D) (tN D) w c)
    by_cases e : c = tN D
    · rw [e, upd_eq, upd_eq, upd_eq, va_eq, va_eq, va_eq]
      exact ⟨rfl, rfl, rfl⟩
    · rw [upd_ne _ _ e, upd_ne _ _ e, upd_ne _ _ e, va_ne _ _ e, va_ne _ _ e, va_ne _ _ e]
      exact hd.2.2.1 c (by omega)
  · rw [b1, b2, b3]
    exact hd.2.2.2 c hc
theorem dftC_H {σ σ' : am_S} {D : Tn} {a b : Nat} (hd : dftC σ D) (ha : a < 8) (hb : b < 8) (h6 : tD D a < 6) (hna : ∀ i, i < tD D a → tB D a i ≠ b) (hB : ∀ c i, c < 8 → i < tD D c → tB D c i < 8) (e0 : σ' 17 = σ 17) (e1 : σ' 18 = σ 18) (e2 : σ' 19 = σ 19) (e3 : σ' 20 = σ 20) (a1 : σ' 21 = upd (σ 21) a (nI (tD D a + 1))) (a2 : σ' 22 = upd (σ 22) (a * 6 + tD D a) (nI b)) (a3 : σ' 23 = upd (σ 23) (a * 8 + b) (nI (tD D a))) : dftC σ' (tHalf D a b) := by
  refine ⟨(congrFun e0 0).trans hd.1, (congrFun e0 1).trans hd.2.1, fun c hc => ?_, fun c hc => ?_⟩
  · rw [e1, e2, e3]; exact hd.2.2.1 c hc
  · obtain ⟨g1, g2, g3, g4⟩ := hd.2.2.2 c hc
    rw [a1, a2, a3]
    show upd (σ 21) a (nI (tD D a + 1)) c = nI (va_up (tD D) a (tD D a + 1) c) ∧ (∀ i, i < 6 → upd (σ 22) (a * 6 + tD D a) (nI b) (c * 6 + i) = if i < va_up (tD D) a (tD D a + 1) c then nI (if c = a ∧ i = tD D a then b else tB D c i) else -1000000) ∧ (∀ i, i < va_up (tD D) a (tD D a + 1) c → upd (σ 23) (a * 8 + b) (nI (tD D a)) (c * 8 + (if c = a ∧ i = tD D a then b else tB D c i)) = nI i) ∧ ∀ y, y < 8 → (∀ i, i < va_up (tD D) a (tD D a + 1) c → (if c = a ∧ i = tD D a then b else tB D c i) ≠ y) → upd (σ 23) (a * 8 + b) (nI (tD D a)) (c * 8 + y) = -1000000
    by_cases e : c = a
    · subst e
      rw [upd_eq, va_eq]
      refine ⟨rfl, fun i hi => ?_, fun i hi => ?_, fun y hy hn => ?_⟩
      · by_cases q : i = tD D c
        · rw [if_pos (by omega), if_pos ⟨rfl, q⟩, q, upd_eq]
        · have hv : (if c = c ∧ i = tD D c then b else tB D c i) = tB D c i := if_neg (fun z => q z.2)
          rw [upd_ne _ _ (by omega), g2 i hi, hv]
          by_cases q2 : i < tD D c
          · rw [if_pos q2, if_pos (by omega)]
          · rw [if_neg q2, if_neg (by omega)]
      · by_cases q : i = tD D c
        · rw [if_pos ⟨rfl, q⟩, upd_eq, q]
        · have hi2 : i < tD D c := by omega
          have := hna i hi2
          rw [if_neg (fun z => q z.2), upd_ne _ _ (by omega)]
          exact g3 i hi2
      · have h1 := hn (tD D c) (Nat.lt_succ_self _)
        rw [if_pos ⟨rfl, rfl⟩] at h1
        rw [upd_ne _ _ (by omega)]
        refine g4 y hy (fun i hi => ?_)
        have := hn i (by omega)
        rwa [if_neg (fun z => by omega)] at this
    · rw [upd_ne _ _ e, va_ne _ _ e]
      refine ⟨g1, fun i hi => ?_, fun i hi => ?_, fun y hy hn => ?_⟩
      · have hv : (if c = a ∧ i = tD D a then b else tB D c i) = tB D c i := if_neg (fun z => e z.1)
        rw [upd_ne _ _ (by omega), hv]; exact g2 i hi
      · have := hB c i hc hi
        rw [if_neg (fun z => e z.1), upd_ne _ _ (by omega)]; exact g3 i hi
      · rw [upd_ne _ _ (by omega)]
        refine g4 y hy (fun i hi => ?_)
        have := hn i hi
        rwa [if_neg (fun z => e z.1)] at this
theorem c_addCorner (d : Nat) (σ : am_S) (D : Tn) (h m : Nat) (w : Bool) (hd : dftC σ D) (h8 : tN D < 8) : CallS mX8_addCorner (d + 1) [.ref 17, .int (nI h), .int (nI m), .int (bI w)] σ (fun r σ' => r = none ∧ dftC σ' (tAddC D h m (if w = true then 1 else 0)) ∧ same [17, 18, 19, 20] σ σ') := by
  refine CallS.of kX8_addCorner pX8_addCorner [.ref 17, .int (nI h), .int (nI m), .int (bI w)] rfl (Nat.le_of_ble_eq_true rfl) ?_
  refine GS.run [] 4 rfl ?_
  rw [show σ 17 0 = nI (tN D) from hd.1]
  refine GS.run [] 0 rfl ?_
  refine GS.run [] 1 rfl ?_
  refine GS.cS oX11_put (c_put d σ 18 8 (nI (tN D)) (nI h) rfl) rfl rfl rfl rfl (Nat.le_of_ble_eq_true rfl) (by omega) ?_
  rw [am_put_nI (by omega) (by omega)]
  have a18 : am_s1 σ 18 (upd (σ 18) (tN D) (nI h)) 18 = upd (σ 18) (tN D) (nI h) := am_s1_eq _ _ _
  have b18 : ∀ q, q ≠ 18 → am_s1 σ 18 (upd (σ 18) (tN D) (nI h)) q = σ q := fun q hq => am_s1_ne _ _ hq
  generalize am_s1 σ 18 (upd (σ 18) (tN D) (nI h)) = σ1 at a18 b18 ⊢
  refine GS.run [] 4 rfl ?_
  rw [show σ1 17 0 = nI (tN D) from (congrFun (b18 17 (by decide)) 0).trans hd.1]
  refine GS.run [] 0 rfl ?_
  refine GS.run [] 1 rfl ?_
  refine GS.cS oX11_put (c_put d σ1 19 8 (nI (tN D)) (nI m) rfl) rfl rfl rfl rfl (Nat.le_of_ble_eq_true rfl) (by omega) ?_
  rw [am_put_nI (by omega) (by omega)]
  have a19 : am_s1 σ1 19 (upd (σ1 19) (tN D) (nI m)) 19 = upd (σ1 19) (tN D) (nI m) := am_s1_eq _ _ _
  have b19 : ∀ q, q ≠ 19 → am_s1 σ1 19 (upd (σ1 19) (tN D) (nI m)) q = σ1 q := fun q hq => am_s1_ne _ _ hq
  generalize am_s1 σ1 19 (upd (σ1 19) (tN D) (nI m)) = σ2 at a19 b19 ⊢
  refine GS.run [] 4 rfl ?_
  rw [show σ2 17 0 = nI (tN D) from (congrFun (b19 17 (by decide)) 0).trans ((congrFun (b18 17 (by decide)) 0).trans hd.1)]
  refine GS.run [] 0 rfl ?_
  refine GS.run [] 1 rfl ?_
  refine GS.if_eq rfl (fun c33 => ?_) (fun c33 => ?_)
  · have hwv : (0 : Int32) = nI (if w = true then 1 else 0) := by rw [bI0.mp c33]; rfl
    refine GS.run [] 1 rfl ?_
    refine GS.cS oX11_put (c_put d σ2 20 8 (nI (tN D)) 0 rfl) rfl rfl rfl rfl (Nat.le_of_ble_eq_true rfl) (by omega) ?_
    rw [am_put_nI (by omega) (by omega)]
    have a20 : am_s1 σ2 20 (upd (σ2 20) (tN D) (0)) 20 = upd (σ2 20) (tN D) (0) := am_s1_eq _ _ _
    have b20 : ∀ q, q ≠ 20 → am_s1 σ2 20 (upd (σ2 20) (tN D) (0)) q = σ2 q := fun q hq => am_s1_ne _ _ hq
    generalize am_s1 σ2 20 (upd (σ2 20) (tN D) (0)) = σ3 at a20 b20 ⊢
    rw [hwv] at a20
    refine GS.run [] 3 rfl ?_
    have e17 : σ3 17 = σ 17 := (b20 17 (by decide)).trans ((b19 17 (by decide)).trans (b18 17 (by decide)))
    rw [show σ3 17 0 = nI (tN D) from (congrFun e17 0).trans hd.1]
    refine GS.run [] 0 rfl ?_
    refine GS.run [] 3 rfl ?_
    refine GS.vret rfl rfl ?_
    refine ⟨rfl, dftC_C (σ' := am_s1 σ3 17 (upd (σ3 17) 0 (nI (tN D) + 1))) hd ?_ ?_ ?_ ?_ ?_ ?_ ?_ ?_, fun q hq => ?_⟩
    · rw [am_s1_eq, upd_eq]; exact nI_1 _
    · rw [am_s1_eq, upd_ne _ _ (by decide), e17]
    · rw [am_s1_ne _ _ (by decide), b20 18 (by decide), b19 18 (by decide)]; exact a18
    · rw [am_s1_ne _ _ (by decide), b20 19 (by decide), a19, b18 19 (by decide)]
    · rw [am_s1_ne _ _ (by decide), a20, b19 20 (by decide), b18 20 (by decide)]
    · rw [am_s1_ne _ _ (by decide), b20 21 (by decide), b19 21 (by decide), b18 21 (by decide)]
    · rw [am_s1_ne _ _ (by decide), b20 22 (by decide), b19 22 (by decide), b18 22 (by decide)]
    · rw [am_s1_ne _ _ (by decide), b20 23 (by decide), b19 23 (by decide), b18 23 (by decide)]
    · have h : q ≠ 17 ∧ q ≠ 18 ∧ q ≠ 19 ∧ q ≠ 20 := by simpa using hq
      rw [am_s1_ne _ _ h.1, b20 q h.2.2.2, b19 q h.2.2.1, b18 q h.2.1]
  · have hwv : (1 : Int32) = nI (if w = true then 1 else 0) := by rw [bI1.mp c33]; rfl
    refine GS.run [] 2 rfl ?_
    refine GS.cS oX11_put (c_put d σ2 20 8 (nI (tN D)) 1 rfl) rfl rfl rfl rfl (Nat.le_of_ble_eq_true rfl) (by omega) ?_
    rw [am_put_nI (by omega) (by omega)]
    have a20 : am_s1 σ2 20 (upd (σ2 20) (tN D) (1)) 20 = upd (σ2 20) (tN D) (1) := am_s1_eq _ _ _
    have b20 : ∀ q, q ≠ 20 → am_s1 σ2 20 (upd (σ2 20) (tN D) (1)) q = σ2 q := fun q hq => am_s1_ne _ _ hq
    generalize am_s1 σ2 20 (upd (σ2 20) (tN D) (1)) = σ3 at a20 b20 ⊢
    rw [hwv] at a20
    refine GS.run [] 3 rfl ?_
    have e17 : σ3 17 = σ 17 := (b20 17 (by decide)).trans ((b19 17 (by decide)).trans (b18 17 (by decide)))
    rw [show σ3 17 0 = nI (tN D) from (congrFun e17 0).trans hd.1]
    refine GS.run [] 0 rfl ?_
    refine GS.run [] 3 rfl ?_
    refine GS.vret rfl rfl ?_
    refine ⟨rfl, dftC_C (σ' := am_s1 σ3 17 (upd (σ3 17) 0 (nI (tN D) + 1))) hd ?_ ?_ ?_ ?_ ?_ ?_ ?_ ?_, fun q hq => ?_⟩
    · rw [am_s1_eq, upd_eq]; exact nI_1 _
    · rw [am_s1_eq, upd_ne _ _ (by decide), e17]
    · rw [am_s1_ne _ _ (by decide), b20 18 (by decide), b19 18 (by decide)]; exact a18
    · rw [am_s1_ne _ _ (by decide), b20 19 (by decide), a19, b18 19 (by decide)]
    · rw [am_s1_ne _ _ (by decide), a20, b19 20 (by decide), b18 20 (by decide)]
    · rw [am_s1_ne _ _ (by decide), b20 21 (by decide), b19 21 (by decide), b18 21 (by decide)]
    · rw [am_s1_ne _ _ (by decide), b20 22 (by decide), b19 22 (by decide), b18 22 (by decide)]
    · rw [am_s1_ne _ _ (by decide), b20 23 (by decide), b19 23 (by decide), b18 23 (by decide)]
    · have h : q ≠ 17 ∧ q ≠ 18 ∧ q ≠ 19 ∧ q ≠ 20 := by simpa using hq
      rw [am_s1_ne _ _ h.1, b20 q h.2.2.2, b19 q h.2.2.1, b18 q h.2.1]
theorem c_addStreetAt (d : Nat) (σ : am_S) (D : Tn) (a b : Nat) (hd : dftC σ D) (ha : a < 8) (hb : b < 8) (h6 : tD D a < 6) (hna : ∀ i, i < tD D a → tB D a i ≠ b) (hB : ∀ c i, c < 8 → i < tD D c → tB D c i < 8) : CallS mX8_addStreetAt (d + 1) [.ref 17, .int (nI a), .int (nI b)] σ (fun r σ' => r = none ∧ dftC σ' (tHalf D a b) ∧ same [21, 22, 23] σ σ') := by
  refine CallS.of kX8_addStreetAt pX8_addStreetAt [.ref 17, .int (nI a), .int (nI b), .retAddr 0] rfl (Nat.le_of_ble_eq_true rfl) ?_
  refine GS.run [] 3 rfl ?_
  refine GS.cS oX11_at ((c_at d σ 21 8 (nI a) rfl).eq (congrArg (fun z => some (Value.int z)) (v_get (by omega) (by omega) (hd.2.2.2 a ha).1)) rfl) rfl rfl rfl rfl (Nat.le_of_ble_eq_true rfl) (by omega) ?_
  refine GS.run [] 9 rfl ?_
  rw [show nI a * 6 + nI (tD D a) = nI (a * 6 + tD D a) by rw [show (6 : Int32) = nI 6 from rfl, pk_mul, nI_add]]
  refine GS.run [] 0 rfl ?_
  refine GS.cS oX11_put (c_put d σ 22 48 (nI (a * 6 + tD D a)) (nI b) rfl) rfl rfl rfl rfl (Nat.le_of_ble_eq_true rfl) (by omega) ?_
  rw [am_put_nI (by omega) (by omega)]
  have a22 : am_s1 σ 22 (upd (σ 22) (a * 6 + tD D a) (nI b)) 22 = upd (σ 22) (a * 6 + tD D a) (nI b) := am_s1_eq _ _ _
  have b22 : ∀ q, q ≠ 22 → am_s1 σ 22 (upd (σ 22) (a * 6 + tD D a) (nI b)) q = σ q := fun q hq => am_s1_ne _ _ hq
  generalize am_s1 σ 22 (upd (σ 22) (a * 6 + tD D a) (nI b)) = σ1 at a22 b22 ⊢
  refine GS.run [] 8 rfl ?_
  rw [show nI a * 8 + nI b = nI (a * 8 + b) by rw [show (8 : Int32) = nI 8 from rfl, pk_mul, nI_add]]
  refine GS.run [] 0 rfl ?_
  refine GS.cS oX11_put (c_put d σ1 23 64 (nI (a * 8 + b)) (nI (tD D a)) rfl) rfl rfl rfl rfl (Nat.le_of_ble_eq_true rfl) (by omega) ?_
  rw [am_put_nI (by omega) (by omega)]
  have a23 : am_s1 σ1 23 (upd (σ1 23) (a * 8 + b) (nI (tD D a))) 23 = upd (σ1 23) (a * 8 + b) (nI (tD D a)) := am_s1_eq _ _ _
  have b23 : ∀ q, q ≠ 23 → am_s1 σ1 23 (upd (σ1 23) (a * 8 + b) (nI (tD D a))) q = σ1 q := fun q hq => am_s1_ne _ _ hq
  generalize am_s1 σ1 23 (upd (σ1 23) (a * 8 + b) (nI (tD D a))) = σ2 at a23 b23 ⊢
  refine GS.run [] 6 rfl ?_
  rw [nI_1]
  refine GS.run [] 0 rfl ?_
  refine GS.cS oX11_put (c_put d σ2 21 8 (nI a) (nI (tD D a + 1)) rfl) rfl rfl rfl rfl (Nat.le_of_ble_eq_true rfl) (by omega) ?_
  rw [am_put_nI (by omega) (by omega)]
  have a21 : am_s1 σ2 21 (upd (σ2 21) a (nI (tD D a + 1))) 21 = upd (σ2 21) a (nI (tD D a + 1)) := am_s1_eq _ _ _
  have b21 : ∀ q, q ≠ 21 → am_s1 σ2 21 (upd (σ2 21) a (nI (tD D a + 1))) q = σ2 q := fun q hq => am_s1_ne _ _ hq
  generalize am_s1 σ2 21 (upd (σ2 21) a (nI (tD D a + 1))) = σ3 at a21 b21 ⊢
  refine GS.vret rfl rfl ?_
  have hk : ∀ q, q ∉ [21, 22, 23] → σ3 q = σ q := fun q hq => by
    have h : q ≠ 21 ∧ q ≠ 22 ∧ q ≠ 23 := by simpa using hq
    rw [b21 q h.1, b23 q h.2.2, b22 q h.2.1]
  refine ⟨rfl, dftC_H hd ha hb h6 hna hB (hk 17 (by decide)) (hk 18 (by decide)) (hk 19 (by decide)) (hk 20 (by decide)) ?_ ?_ ?_, hk⟩
  · rw [a21, b23 21 (by decide), b22 21 (by decide)]
  · rw [b21 22 (by decide), b23 22 (by decide)]; exact a22
  · rw [b21 23 (by decide), a23, b22 23 (by decide)]
theorem dftC_S {σ σ' : am_S} {D : Tn} {a b : Nat} (h : dftC σ (tHalf (tHalf D a b) b a)) (e0 : σ' 17 0 = σ 17 0) (e1 : σ' 17 1 = nI (tS D + 1)) (he : ∀ q, q ≠ 17 → σ' q = σ q) : dftC σ' (tAddS D a b) := by
  refine ⟨e0.trans h.1, e1, ?_, ?_⟩
  · rw [he 18 (by decide), he 19 (by decide), he 20 (by decide)]; exact h.2.2.1
  · rw [he 21 (by decide), he 22 (by decide), he 23 (by decide)]; exact h.2.2.2
theorem half_B {D : Tn} {a b : Nat} (hB : ∀ c i, c < 8 → i < tD D c → tB D c i < 8) (hb : b < 8) : ∀ c i, c < 8 → i < tD (tHalf D a b) c → tB (tHalf D a b) c i < 8 := by
  intro c i hc hi
  show (if c = a ∧ i = tD D a then b else tB D c i) < 8
  have hi : i < va_up (tD D) a (tD D a + 1) c := hi
  by_cases e : c = a ∧ i = tD D a
  · rw [if_pos e]; exact hb
  · rw [if_neg e]
    refine hB c i hc ?_
    by_cases e2 : c = a
    · rw [e2, va_eq] at hi
      have : i ≠ tD D a := fun q => e ⟨e2, q⟩
      rw [e2]; omega
    · rwa [va_ne _ _ e2] at hi
theorem wfD_B {D : Tn} (h : wfD D) : ∀ c i, c < 8 → i < tD D c → tB D c i < 8 := fun c i hc hi => by
  have h8 := h.1.1
  by_cases e : c < tN D
  · have := ((h.1.2.2 c e).2.2.2.2.1 i hi).1; omega
  · rw [h.2 c (by omega)] at hi; omega
theorem c_addStreet (d : Nat) (σ : am_S) (D : Tn) (a b : Nat) (hd : dftC σ D) (hw : wfD D) (ha : a < tN D) (hb : b < tN D) (hab : a ≠ b) (hj : adB D a b = false) (ha6 : tD D a < 6) (hb6 : tD D b < 6) : CallS mX8_addStreet (d + 2) [.ref 17, .int (nI a), .int (nI b)] σ (fun r σ' => r = none ∧ dftC σ' (tAddS D a b) ∧ same [17, 21, 22, 23] σ σ') := by
  refine CallS.of kX8_addStreet pX8_addStreet [.ref 17, .int (nI a), .int (nI b)] rfl (Nat.le_of_ble_eq_true rfl) ?_
  have h8 := hw.1.1
  refine GS.run [] 3 rfl ?_
  refine GS.callV oX8_addStreetAt (c_addStreetAt d σ D a b hd (by omega) (by omega) ha6 (adB_no hj) (wfD_B hw)) rfl rfl rfl rfl rfl rfl rfl (Nat.le_of_ble_eq_true rfl) (by omega) (fun v3 σ3 hq3 => ?_)
  obtain ⟨rfl, d3, s3⟩ := hq3
  have hdb : tD (tHalf D a b) b = tD D b := va_ne _ _ (Ne.symm hab)
  refine GS.run [] 3 rfl ?_
  refine GS.callV oX8_addStreetAt (c_addStreetAt d σ3 (tHalf D a b) b a d3 (by omega) (by omega) (by rw [hdb]; exact hb6) (fun i hi => by
    rw [hdb] at hi
    show (if b = a ∧ i = tD D a then b else tB D b i) ≠ a
    rw [if_neg (fun q => hab q.1.symm)]
    exact adB_no (by rw [adB_comm hw.1 hb ha]; exact hj) i hi) (half_B (wfD_B hw) (by omega))) rfl rfl rfl rfl rfl rfl rfl (Nat.le_of_ble_eq_true rfl) (by omega) (fun v9 σ9 hq9 => ?_)
  obtain ⟨rfl, d9, s9⟩ := hq9
  refine GS.run [] 3 rfl ?_
  have e17 : σ9 17 = σ 17 := (s9 17 (by decide)).trans (s3 17 (by decide))
  rw [show σ9 17 1 = nI (tS D) from (congrFun e17 1).trans hd.2.1]
  refine GS.run [] 0 rfl ?_
  refine GS.run [] 3 rfl ?_
  refine GS.vret rfl rfl ?_
  refine ⟨rfl, dftC_S d9 ?_ ?_ (fun q hq => am_s1_ne _ _ hq), fun q hq => ?_⟩
  · rw [am_s1_eq, upd_ne _ _ (by decide)]
  · rw [am_s1_eq, upd_eq]; exact nI_1 _
  · have h : q ≠ 17 ∧ q ∉ [21, 22, 23] := by simpa using hq
    rw [am_s1_ne _ _ h.1, s9 q h.2, s3 q h.2]
theorem c_clearT (d : Nat) (σ : am_S)  : CallS mX8_clear (d + 1) [.ref 17] σ (fun r σ' => r = none ∧ dftC σ' tn0 ∧ same [17, 21, 22, 23] σ σ') := by
  refine CallS.of kX8_clear pX8_clear [.ref 17] rfl (Nat.le_of_ble_eq_true rfl) ?_
  refine GS.run [] 9 rfl ?_
  refine GS.cS oX11_fill (c_fill d _ 21 8 0 rfl) rfl rfl rfl rfl (Nat.le_of_ble_eq_true rfl) (by omega) ?_
  refine GS.run [] 3 rfl ?_
  refine GS.cS oX11_fill (c_fill d _ 22 48 (-1000000) rfl) rfl rfl rfl rfl (Nat.le_of_ble_eq_true rfl) (by omega) ?_
  refine GS.run [] 3 rfl ?_
  refine GS.cS oX11_fill (c_fill d _ 23 64 (-1000000) rfl) rfl rfl rfl rfl (Nat.le_of_ble_eq_true rfl) (by omega) ?_
  refine GS.vret rfl rfl ?_
  refine ⟨rfl, ⟨rfl, rfl, fun c hc => absurd hc (Nat.not_lt_zero _), fun c hc => ⟨?_, fun i hi => ?_, fun i hi => absurd hi (Nat.not_lt_zero _), fun b hb _ => ?_⟩⟩, ((((same.rf.s1 (by decide)).s1 (by decide)).s1 (by decide)).s1 (by decide)).s1 (by decide)⟩
  · rw [am_s1_ne _ _ (by decide), am_s1_ne _ _ (by decide), am_s1_eq]
    exact if_pos hc
  · rw [am_s1_ne _ _ (by decide), am_s1_eq, show tD tn0 c = 0 from rfl, if_neg (Nat.not_lt_zero _)]
    exact if_pos (by omega)
  · rw [am_s1_eq]
    exact if_pos (by omega)
