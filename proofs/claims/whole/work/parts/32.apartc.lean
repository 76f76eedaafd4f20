def glI (t : Tn) (c w : Nat) : Int32 := match gl t c w with
  | none => -1000000
  | some x => nI x
theorem glI_st {t : Tn} {c : Nat} {o : Option Nat} : stG t c o = (match o.map (tB t c) with | none => -1000000 | some x => nI x) := by cases o <;> rfl
theorem glI_0 {t : Tn} {c : Nat} : stG t c (slope t c true) = glI t c 0 := glI_st
theorem glI_1 {t : Tn} {c : Nat} : stG t c (slope t c false) = glI t c 1 := glI_st
theorem glI_m {t : Tn} {c m : Nat} : stG t c (markedK t c m) = glI t c (2 + m) := by
  rw [glI_st]
  unfold glI gl
  rw [if_neg (by omega), if_neg (by omega), Nat.add_sub_cancel_left]
def goals (σ : am_S) (t : Tn) (n : Nat) : Prop := ∀ c, c < n → ∀ w, w < 12 → σ 52 (12 * c + w) = glI t c w
theorem he_g0 {c : Nat} : nI c * 12 = nI (12 * c + 0) := by rw [show (12 : Int32) = nI 12 from rfl, pk_mul, Nat.mul_comm]; rfl
theorem he_g {c w : Nat} : nI c * 12 + nI w = nI (12 * c + w) := by rw [he_g0, nI_add]; rfl
theorem he_g2 {c w : Nat} : nI c * 12 + 2 + nI w = nI (12 * c + (2 + w)) := by rw [he_g0, il_2, nI_add, nI_add, Nat.add_zero, Nat.add_assoc]
theorem goals_put {σ σ' : am_S} {t : Tn} {c w : Nat} {n : Nat} (h : goals σ t n) (e : σ' 52 = upd (σ 52) (12 * c + w) (glI t c w)) (hw : w < 12) : goals σ' t n := by
  intro a ha v hv
  rw [e]
  by_cases q : 12 * a + v = 12 * c + w
  · rw [q, upd_eq, show a = c by omega, show v = w by omega]
  · rw [upd_ne _ _ q]; exact h a ha v hv
theorem c_look (d : Nat) (σ : am_S) (t : Tn) (ht : townC 10 σ t) (hw : wfT t) : CallS mX1_look (d + 4) [.ref 51] σ (fun x σ' => x = none ∧ same [52] σ σ' ∧ goals σ' t (tN t)) := by
  refine CallS.of kX1_look pX1_look [.ref 51, .retAddr 0, .retAddr 0] rfl (Nat.le_of_ble_eq_true rfl) ?_
  have h8 := hw.1
  refine GS.run [] 2 rfl ?_
  have loop2 : ∀ (fu : Nat) (c : Nat) (σ1 : am_S) (hc : c ≤ tN t) (hs : same [52] σ σ1) (hg : goals σ1 t c), tN t - c = fu → GS none mX1_look (d + 4) (fun x σ' => x = none ∧ same [52] σ σ' ∧ goals σ' t (tN t)) 2 [.ref 51, .int (nI c), .retAddr 0] [] σ1 := by
    intro fu
    induction fu using Nat.strongRecOn with
    | ind fu ih2 =>
      intro c σ1 hc hs hg hfu
      have ht1 : townC 10 σ1 t := ht.kept (fun j hj => hs _ (by simp; omega))
      refine GS.run [] 3 rfl ?_
      refine GS.cV oX8_corners ((c_corners_10 (d + 2) σ1).eq (congrArg (fun z => some (Value.int z)) (ht1.1)) rfl) rfl rfl rfl rfl rfl rfl rfl (Nat.le_of_ble_eq_true rfl) (by omega) ?_
      refine GS.icmp_ge rfl (fun c10 => ?_) (fun c10 => ?_)
      · have e : tN t = c := by have := (nI_leI (by omega) (by omega)).mp c10; omega
        refine GS.vret rfl rfl ?_
        subst e
        exact ⟨rfl, hs, hg⟩
      · have hlt : c < tN t := (nI_gtI (by omega) (by omega)).mp c10
        refine GS.run [] 9 rfl ?_
        refine GS.cV oX8_steepest ((c_steepest d σ1 t c true ht1 hw hlt).eq (congrArg (fun z => some (Value.int z)) (glI_0)) rfl) rfl rfl rfl rfl rfl rfl rfl (Nat.le_of_ble_eq_true rfl) (by omega) ?_
        rw [he_g0]
        refine GS.run [] 0 rfl ?_
        refine GS.cS oX11_put (c_put (d + 2) σ1 52 96 (nI (12 * c + 0)) (glI t c 0) rfl) rfl rfl rfl rfl (Nat.le_of_ble_eq_true rfl) (by omega) ?_
        rw [am_put_nI (by omega) (by omega)]
        generalize hS2 : am_s1 σ1 52 (upd (σ1 52) (12 * c + 0) (glI t c 0)) = σ2
        have s2 : same [52] σ σ2 := by rw [← hS2]; exact hs.s1 (by decide)
        have ht2 : townC 10 σ2 t := ht.kept (fun j hj => s2 _ (by simp; omega))
        have g2 : goals σ2 t c := by rw [← hS2]; exact goals_put hg (by rw [am_s1_eq]) (by omega)
        have q20 : σ2 52 (12 * c + 0) = glI t c 0 := by rw [← hS2, am_s1_eq, upd_eq]
        refine GS.run [] 11 rfl ?_
        refine GS.cV oX8_steepest ((c_steepest d σ2 t c false ht2 hw hlt).eq (congrArg (fun z => some (Value.int z)) (glI_1)) rfl) rfl rfl rfl rfl rfl rfl rfl (Nat.le_of_ble_eq_true rfl) (by omega) ?_
        rw [show nI c * 12 + 1 = nI (12 * c + 1) from he_g (w := 1)]
        refine GS.run [] 0 rfl ?_
        refine GS.cS oX11_put (c_put (d + 2) σ2 52 96 (nI (12 * c + 1)) (glI t c 1) rfl) rfl rfl rfl rfl (Nat.le_of_ble_eq_true rfl) (by omega) ?_
        rw [am_put_nI (by omega) (by omega)]
        refine GS.run [] 2 rfl ?_
        have loop57 : ∀ (fu : Nat) (m : Nat) (σ3 : am_S) (hm : m ≤ 10) (hs3 : same [52] σ σ3) (hg3 : goals σ3 t c) (hc3 : ∀ w, w < 2 + m → σ3 52 (12 * c + w) = glI t c w), 10 - m = fu → GS none mX1_look (d + 4) (fun x σ' => x = none ∧ same [52] σ σ' ∧ goals σ' t (tN t)) 57 [.ref 51, .int (nI c), .int (nI m)] [] σ3 := by
          intro fu
          induction fu using Nat.strongRecOn with
          | ind fu ih57 =>
            intro m σ3 hm hs3 hg3 hc3 hfu
            have ht3 : townC 10 σ3 t := ht.kept (fun j hj => hs3 _ (by simp; omega))
            refine GS.run [] 2 rfl ?_
            refine GS.icmp_gt rfl (fun c60 => ?_) (fun c60 => ?_)
            · have hm2 : m = 10 := by have := (nI_ltI (a := 9) (by omega) (by omega)).mp c60; omega
              refine GS.run [] 2 rfl ?_
              rw [nI_1]
              exact GS.weak (by exact ⟨Or.inr rfl, Or.inr rfl, Or.inl rfl, trivial⟩) (ih2 _ (by omega) (c + 1) σ3 (by omega) hs3 (fun a ha v hv => by
                by_cases h : a = c
                · rw [h]; exact hc3 v (by omega)
                · exact hg3 a (by omega) v hv) rfl)
            · have hm2 : m < 10 := by have := (nI_leI (b := 9) (by omega) (by omega)).mp (Int32.not_lt.mp c60); omega
              refine GS.run [] 13 rfl ?_
              refine GS.cV oX8_marked ((c_marked d σ3 t c m ht3 hw hlt (by omega)).eq (congrArg (fun z => some (Value.int z)) (glI_m)) rfl) rfl rfl rfl rfl rfl rfl rfl (Nat.le_of_ble_eq_true rfl) (by omega) ?_
              rw [he_g2]
              refine GS.run [] 0 rfl ?_
              refine GS.cS oX11_put (c_put (d + 2) σ3 52 96 (nI (12 * c + (2 + m))) (glI t c (2 + m)) rfl) rfl rfl rfl rfl (Nat.le_of_ble_eq_true rfl) (by omega) ?_
              rw [am_put_nI (by omega) (by omega)]
              refine GS.run [] 2 rfl ?_
              rw [nI_1]
              refine ih57 _ (by omega) (m + 1) _ (by omega) (hs3.s1 (by decide)) (goals_put hg3 (by rw [am_s1_eq]) (by omega)) (fun w hww => ?_) rfl
              rw [am_s1_eq]
              by_cases h : w = 2 + m
              · rw [h, upd_eq]
              · rw [upd_ne _ _ (by omega)]; exact hc3 w (by omega)
        refine loop57 _ 0 _ (by omega) (s2.s1 (by decide)) (goals_put g2 (by rw [am_s1_eq]) (by omega)) (fun w hww => ?_) rfl
        rw [am_s1_eq]
        rcases (by omega : w = 0 ∨ w = 1) with rfl | rfl
        · rw [upd_ne _ _ (by omega)]; exact q20
        · rw [upd_eq]
  exact loop2 _ 0 σ (Nat.zero_le _) same.rf (fun c hc => absurd hc (Nat.not_lt_zero _)) rfl
