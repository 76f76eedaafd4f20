def glI (t : Tn) (c w : Nat) : Int32 := match gl t c w with
  | none => -1000000
  | some x => nI x
theorem glI_st {t : Tn} {c : Nat} {o : Option Nat} : stG t c o = (match o.map (tB t c) with | none => -1000000 | some x => nI x) := by cases o <;> rfl
theorem glI_0 {t : Tn} {c : Nat} : stG t c (slope t c true) = glI t c 0 := glI_st
theorem glI_1 {t : Tn} {c : Nat} : stG t c (slope t c false) = glI t c 1 := glI_st
theorem glI_m {t : Tn} {c m : Nat} : stG t c (markedK t c m) = glI t c (2 + m) := by
  rw [glI_st]
  unfold glI gl
  rw [if_neg (by omega), if_neg (by omega), Nat.add_sub_cancel_left]
def goals (σ : am_S) (t : Tn) (n : Nat) : Prop := ∀ c, c < n → ∀ w, w < 12 → σ 52 (12 * c + w) = glI t c w
theorem he_g0 {c : Nat} : nI c * 12 = nI (12 * c + 0) := by rw [show (12 : Int32) = nI 12 from rfl, pk_mul, Nat.mul_comm]; rfl
theorem he_g {c w : Nat} : nI c * 12 + nI w = nI (12 * c + w) := by rw [he_g0, nI_add]; rfl
theorem he_g2 {c w : Nat} : nI c * 12 + 2 + nI w = nI (12 * c + (2 + w)) := by rw [he_g0, il_2, nI_add, nI_add, Nat.add_zero, Nat.add_assoc]
theorem goals_put {σ σ' : am_S} {t : Tn} {c w : Nat} {n : Nat} (h : goals σ t n) (e : σ' 52 = upd (σ 52) (12 * c + w) (glI t c w)) (hw : w < 12) : goals σ' t n := by
  intro a ha v hv
  rw [e]
  by_cases q : 12 * a + v = 12 * c + w
  · rw [q, upd_eq, show a = c by omega, show v = w by omega]
  · rw [upd_ne _ _ q]; exact h a ha v hv
theorem c_look (d : Nat) (σ : am_S) (t : Tn) (ht : townC 10 σ t) (hw : wfT t) : CallS mX1_look (d + 4) [.ref 51] σ (fun x σ' => x = none ∧ same [52] σ σ' ∧ goals σ' t (tN t)) := by
  refine CallS.of kX1_look pX1_look [.ref 51, .retAddr 0, .retAddr 0] rfl (Nat.le_of_ble_eq_true rfl) ?_
  have h8 := hw.1
  refine GS.run [] 2 rfl ?_
  have loop2 : ∀ (fu : Nat) (c : Nat) (σ1 : am_S) (hc : c ≤ tN t) (hs : same [52] σ σ1) (hg : goals σ1 t c), tN t - c = fu → GS none mX1_look (d + 4) (fun x σ' => x = none ∧ same [52] σ σ' ∧ goals σ' t (tN t)) 2 [.ref 51, .int (nI c), .retAddr 0] [] σ1 := by
    intro fu
    induction fu using Nat.strongRecOn with
    | ind fu ih2 =>
      intro c σ1 hc hs hg hfu
      have ht1 : townC 10 σ1 t := ht.kept (fun j hj => hs _ (by simp; omega))
      refine GS.run [] 3 rfl ?_
      refine GS.cV oX8_corners ((c_corners_10 (d + 2) σ1).eq (congrArg (fun z => some (Value.int z)) (ht1.1)) rfl) rfl rfl rfl rfl rfl rfl rfl (Nat.le_of_ble_eq_true rfl) (by omega) ?_
      refine GS.icmp_ge rfl (fun c10 => ?_) (fun c10 => ?_)
      · have e : tN t = c := by have := (nI_leI (by omega) (by omega)).mp c10; omega
        refine GS.vret rfl rfl ?_
        subst e
        exact ⟨rfl, hs, hg⟩
      · have hlt : c < tN t := (nI_gtI (by omega) (by omega)).mp c10
        refine GS.run [] 9 rfl ?_
        refine GS.cV oX8_steepest ((c_steepest d σ1 t c true ht1 hw hlt).eq (congrArg (fun z => some (Value.int z)) (glI_0)) rfl) rfl rfl rfl rfl rfl rfl rfl (Nat.le_of_ble_eq_true rfl) (by omega) ?_
        rw [he_g0]
        refine GS.run [] 0 rfl ?_
        refine GS.cS oX11_put (c_put (d + 2) σ1 52 96 (nI (12 * c + 0)) (glI t c 0) rfl) rfl rfl rfl rfl (Nat.le_of_ble_eq_true rfl) (by omega) ?_
        rw [am_put_nI (by omega) (by omega)]
        generalize hS2 : am_s1 σ1 52 (upd (σ1 52) (12 * c + 0) (glI t c 0)) = σ2
        have s2 : same [52] σ σ2 := by rw [← hS2]; exact hs.s1 (by decide)
        have ht2 : townC 10 σ2 t := ht.kept (fun j hj => s2 _ (by simp; omega))
        have g2 : goals σ2 t c := by rw [← hS2]; exact goals_put hg (by rw [am_s1_eq]) (by omega)
        have q20 : σ2 52 (12 * c + 0) = glI t c 0 := by rw [← hS2, am_s1_eq, upd_eq]
        refine GS.run [] 11 rfl ?_
        refine GS.cV oX8_steepest ((c_steepest d σ2 t c false ht2 hw hlt).eq (congrArg (fun z => some (Value.int z)) (glI_1)) rfl) rfl rfl rfl rfl rfl rfl rfl (Nat.le_of_ble_eq_true rfl) (by omega) ?_
        rw [show nI c * 12 + 1 = nI (12 * c + 1) from he_g (w := 1)]
        refine GS.run [] 0 rfl ?_
        refine GS.cS oX11_put (c_put (d + 2) σ2 52 96 (nI (12 * c + 1)) (glI t c 1) rfl) rfl rfl rfl rfl (Nat.le_of_ble_eq_true rfl) (by omega) ?_
        rw [am_put_nI (by omega) (by omega)]
        refine GS.run [] 2 rfl ?_
        have loop57 : ∀ (fu : Nat) (m : Nat) (σ3 : am_S) (hm : m ≤ 10) (hs3 : same [52] σ σ3) (hg3 : goals σ3 t c) (hc3 : ∀ w, w < 2 + m → σ3 52 (12 * c + w) = glI t c w), 10 - m = fu → GS none mX1_look (d + 4) (fun x σ' => x = none ∧ same [52] σ σ' ∧ goals σ' t (tN t)) 57 [.ref 51, .int (nI c), .int (nI m)] [] σ3 := by
          intro fu
          induction fu using Nat.strongRecOn with
          | ind fu ih57 =>
            intro m σ3 hm hs3 hg3 hc3 hfu
            have ht3 : townC 10 σ3 t := ht.kept (fun j hj => hs3 _ (by simp; omega))
            refine GS.run [] 2 rfl ?_
            refine GS.icmp_gt rfl (fun c60 => ?_) (fun c60 => ?_)
            · have hm2 : m = 10 := by have := (nI_ltI (a := 9) (by omega) (by omega)).mp c60; omega
              refine GS.run [] 2 rfl ?_
              rw [nI_1]
              exact GS.weak (by exact ⟨Or.inr rfl, Or.inr rfl, Or.inl rfl, trivial⟩) (ih2 _ (by omega) (c + 1) σ3 (by omega) hs3 (fun a ha v hv => by
                by_cases h : a = c
                · rw [h]; exact hc3 v (by omega)
                · exact hg3 a (by omega) v hv) rfl)
            · have hm2 : m < 10 := by have := (nI_leI (b := 9) (by omega) (by omega)).mp (Int32.not_lt.mp c60); omega
              refine GS.run [] 13 rfl ?_
              refine GS.cV oX8_marked ((c_marked d σ3 t c m ht3 hw hlt (by omega)).eq (congrArg (fun z => some (Value.int z)) (glI_m)) rfl) rfl rfl rfl rfl rfl rfl rfl (Nat.le_of_ble_eq_true rfl) (by omega) ?_
              rw [he_g2]
              refine GS.run [] 0 rfl ?_
              refine GS.cS oX11_put (c_put (d + 2) σ3 52 96 (nI (12 * c + (2 + m))) (glI t c (2 + m)) rfl) rfl rfl rfl rfl (Nat.le_of_ble_eq_true rfl) (by omega) ?_
              rw [am_put_nI (by omega) (by omega)]
              refine GS.run [] 2 rfl ?_
              rw [nI_1]
              refine ih57 _ (by omega) (m + 1) _ (by omega) (hs3.s1 (by decide)) (goals_put hg3 (by rw [am_s1_eq]) (by omega)) (fun w hww => ?_) rfl
              rw [am_s1_eq]
              by_cases h : w = 2 + m
              · rw [h, upd_eq]
              · rw [upd_ne _ _ (by omega)]; exact hc3 w (by omega)
        refine loop57 _ 0 _ (by omega) (s2.s1 (by decide)) (goals_put g2 (by rw [am_s1_eq]) (by omega)) (fun w hww => ?_) rfl
        rw [am_s1_eq]
        rcases (by omega : w = 0 ∨ w = 1) with rfl | rfl
        · rw [upd_ne _ _ (by omega)]; exact q20
        · rw [upd_eq]
  exact loop2 _ 0 σ (Nat.zero_le _) same.rf (fun c hc => absurd hc (Nat.not_lt_zero _)) rfl
theorem va_eq {α : Type} (f : Nat → α) (k : Nat) (v : α) : va_up f k v k = v := if_pos rfl
theorem va_ne {α : Type} (f : Nat → α) {k j : Nat} (v : α) (h : j ≠ k) : va_up f k v j = f j := if_neg h
def cols (q : Nat) (σ : am_S) (f : Nat → Nat) (n : Nat) : Prop := ∀ c, c < n → σ q c = nI (f c)
def clI (f : Nat → Nat) (o : Option Nat) : Int32 := match o with
  | none => -1000000
  | some x => nI (f x)
theorem clI_eq {f : Nat → Nat} {x y : Option Nat} (h : ∀ a, f a < 1000) : clI f x = clI f y ↔ x.map f = y.map f := by
  have h1 : ∀ a, f a < 2 ^ 31 := fun a => by have := h a; omega
  cases x <;> cases y
  · exact ⟨fun _ => rfl, fun _ => rfl⟩
  · exact ⟨fun q => absurd q.symm (nI_ne_none (h1 _)), fun q => (by cases q)⟩
  · exact ⟨fun q => absurd q (nI_ne_none (h1 _)), fun q => (by cases q)⟩
  · rename_i a b
    show nI (f a) = nI (f b) ↔ some (f a) = some (f b)
    rw [Option.some.injEq]
    exact nI_eq (h1 _) (h1 _)
theorem cl_get {q : Nat} {σ : am_S} {t : Tn} {f : Nat → Nat} {c w : Nat} (hq : cols q σ f (tN t)) (hw : wfT t) (hc : c < tN t) : am_get (σ q) 8 (glI t c w) = clI f (gl t c w) := by
  have h8 := hw.1
  unfold glI
  cases e : gl t c w with
  | none => exact am_get_out (Or.inl (by decide))
  | some x =>
    have := gl_lt hw hc e
    exact v_get (by omega) (by omega) (hq x this)
theorem nb_lt {p : Nat → Nat → Bool} : ∀ {j c : Nat}, (nb p j).2 c ≤ j := by
  intro j
  induction j with
  | zero => intro c; exact Nat.le_refl _
  | succ j ih =>
    intro c
    rw [nb]
    split
    · show va_up (nb p j).2 j _ c ≤ j + 1
      unfold va_up
      split
      · exact Nat.le_succ_of_le ih
      · exact Nat.le_succ_of_le ih
    · show va_up (nb p j).2 j _ c ≤ j + 1
      unfold va_up
      split
      · exact Nat.le_succ_of_le nb_le
      · exact Nat.le_succ_of_le ih
theorem colC_lt {t : Tn} {k c : Nat} (hw : wfT t) : (colC t k).2 c < 1000 := by
  have h8 := hw.1
  cases k with
  | zero => exact Nat.zero_lt_succ _
  | succ k =>
    rw [colC]
    have := nb_lt (p := fun a b => decide (alk t (colC t k).2 a b)) (j := tN t) (c := c)
    omega
theorem c_classOf (d : Nat) (σ : am_S) (i : Int32) : CallS mX1_classOf (d + 1) [.ref 51, .int i] σ (am_det (some (.int (am_get (σ 53) 8 i))) σ) := by
  refine CallS.of kX1_classOf pX1_classOf [.ref 51, .int i] rfl (Nat.le_of_ble_eq_true rfl) ?_
  refine GS.run [] 3 rfl ?_
  refine GS.cS oX11_at (c_at d σ 53 8 i rfl) rfl rfl rfl rfl (Nat.le_of_ble_eq_true rfl) (by omega) ?_
  refine GS.iret rfl rfl (rfl) ?_
  exact ⟨rfl, rfl⟩
theorem c_classes (d : Nat) (σ : am_S)  : CallS mX1_classes (d) [.ref 51] σ (am_det (some (.int (σ 51 4))) σ) := by
  refine CallS.of kX1_classes pX1_classes [.ref 51] rfl (Nat.le_of_ble_eq_true rfl) ?_
  refine GS.run [] 2 rfl ?_
  refine GS.iret rfl rfl (rfl) ?_
  exact ⟨rfl, rfl⟩
theorem c_goal (d : Nat) (σ : am_S) (t : Tn) (c w : Nat) (hg : goals σ t (tN t)) (hw : wfT t) (hc : c < tN t) (hww : w < 12) : CallS mX1_goalOf (d + 1) [.ref 51, .int (nI c), .int (nI w)] σ (am_det (some (.int (glI t c w))) σ) := by
  refine CallS.of kX1_goalOf pX1_goalOf [.ref 51, .int (nI c), .int (nI w)] rfl (Nat.le_of_ble_eq_true rfl) ?_
  have h8 := hw.1
  refine GS.run [] 7 rfl ?_
  rw [he_g]
  refine GS.run [] 0 rfl ?_
  refine GS.cS oX11_at ((c_at d σ 52 96 (nI (12 * c + w)) rfl).eq (congrArg (fun z => some (Value.int z)) (v_get (by omega) (by omega) (hg c hc w hww))) rfl) rfl rfl rfl rfl (Nat.le_of_ble_eq_true rfl) (by omega) ?_
  refine GS.iret rfl rfl (rfl) ?_
  exact ⟨rfl, rfl⟩
theorem c_alike (d : Nat) (σ : am_S) (t : Tn) (f : Nat → Nat) (a b : Nat) (ht : townC 10 σ t) (hw : wfT t) (hg : goals σ t (tN t)) (hf : cols 53 σ f (tN t)) (hb : ∀ c, f c < 1000) (ha : a < tN t) (hb2 : b < tN t) : CallS mX1_alikeSoFar (d + 3) [.ref 51, .int (nI a), .int (nI b)] σ (am_det (some (.int (am_b (alk t f a b)))) σ) := by
  refine CallS.of kX1_alikeSoFar pX1_alikeSoFar [.ref 51, .int (nI a), .int (nI b), .retAddr 0] rfl (Nat.le_of_ble_eq_true rfl) ?_
  have h8 := hw.1
  refine GS.run [] 3 rfl ?_
  refine GS.cV oX8_markOf ((c_markOf_10 (d + 1) σ (nI a)).eq (congrArg (fun z => some (Value.int z)) (v_mk ht hw ha)) rfl) rfl rfl rfl rfl rfl rfl rfl (Nat.le_of_ble_eq_true rfl) (by omega) ?_
  refine GS.run [] 3 rfl ?_
  refine GS.cV oX8_markOf ((c_markOf_10 (d + 1) σ (nI b)).eq (congrArg (fun z => some (Value.int z)) (v_mk ht hw hb2)) rfl) rfl rfl rfl rfl rfl rfl rfl (Nat.le_of_ble_eq_true rfl) (by omega) ?_
  refine GS.icmp_ne rfl (fun c16 => ?_) (fun c16 => ?_)
  · have hn : ¬ alk t f a b := fun h => c16 (by rw [h.1])
    refine GS.run [] 1 rfl ?_
    refine GS.iret rfl rfl (rfl) ?_
    exact ⟨by unfold am_b; rw [if_neg hn], rfl⟩
  · have k1 : tM t a = tM t b := (nI_eq (by have := (hw.2.2 a ha).2.1; omega) (by have := (hw.2.2 b hb2).2.1; omega)).mp c16
    refine GS.run [] 2 rfl ?_
    refine GS.cV oX1_classOf ((c_classOf (d + 1) σ (nI a)).eq (congrArg (fun z => some (Value.int z)) (v_get (by omega) (by omega) (hf a ha))) rfl) rfl rfl rfl rfl rfl rfl rfl (Nat.le_of_ble_eq_true rfl) (by omega) ?_
    refine GS.run [] 2 rfl ?_
    refine GS.cV oX1_classOf ((c_classOf (d + 1) σ (nI b)).eq (congrArg (fun z => some (Value.int z)) (v_get (by omega) (by omega) (hf b hb2))) rfl) rfl rfl rfl rfl rfl rfl rfl (Nat.le_of_ble_eq_true rfl) (by omega) ?_
    refine GS.icmp_eq rfl (fun c29 => ?_) (fun c29 => ?_)
    · have k2 : f a = f b := (nI_eq (by have := hb a; omega) (by have := hb b; omega)).mp c29
      refine GS.run [] 2 rfl ?_
      have loop36 : ∀ (fu : Nat) (w : Nat) (hww : w ≤ 12) (hal : ∀ v, v < w → (gl t a v).map f = (gl t b v).map f), 12 - w = fu → GS none mX1_alikeSoFar (d + 3) (am_det (some (.int (am_b (alk t f a b)))) σ) 36 [.ref 51, .int (nI a), .int (nI b), .int (nI w)] [] σ := by
        intro fu
        induction fu using Nat.strongRecOn with
        | ind fu ih36 =>
          intro w hww hal hfu
          refine GS.run [] 2 rfl ?_
          refine GS.icmp_ge rfl (fun c39 => ?_) (fun c39 => ?_)
          · have e : w = 12 := by have := (nI_leI (a := 12) (by omega) (by omega)).mp c39; omega
            subst e
            refine GS.run [] 1 rfl ?_
            refine GS.iret rfl rfl (rfl) ?_
            exact ⟨by unfold am_b; rw [if_pos ⟨k1, k2, hal⟩], rfl⟩
          · have hlt : w < 12 := (nI_gtI (a := 12) (by omega) (by omega)).mp c39
            refine GS.run [] 4 rfl ?_
            refine GS.cV oX1_goalOf (c_goal (d + 1) σ t a w hg hw ha hlt) rfl rfl rfl rfl rfl rfl rfl (Nat.le_of_ble_eq_true rfl) (by omega) ?_
            refine GS.cV oX1_classOf ((c_classOf (d + 1) σ (glI t a w)).eq (congrArg (fun z => some (Value.int z)) (cl_get hf hw ha)) rfl) rfl rfl rfl rfl rfl rfl rfl (Nat.le_of_ble_eq_true rfl) (by omega) ?_
            refine GS.run [] 4 rfl ?_
            refine GS.cV oX1_goalOf (c_goal (d + 1) σ t b w hg hw hb2 hlt) rfl rfl rfl rfl rfl rfl rfl (Nat.le_of_ble_eq_true rfl) (by omega) ?_
            refine GS.cV oX1_classOf ((c_classOf (d + 1) σ (glI t b w)).eq (congrArg (fun z => some (Value.int z)) (cl_get hf hw hb2)) rfl) rfl rfl rfl rfl rfl rfl rfl (Nat.le_of_ble_eq_true rfl) (by omega) ?_
            refine GS.icmp_eq rfl (fun c62 => ?_) (fun c62 => ?_)
            · have k3 := (clI_eq hb).mp c62
              refine GS.run [] 2 rfl ?_
              rw [nI_1]
              exact ih36 _ (by omega) (w + 1) (by omega) (fun v hv => by
                by_cases h : v = w
                · rw [h]; exact k3
                · exact hal v (by omega)) rfl
            · have hn : ¬ alk t f a b := fun h => c62 ((clI_eq hb).mpr (h.2.2 w hlt))
              refine GS.run [] 1 rfl ?_
              refine GS.iret rfl rfl (rfl) ?_
              exact ⟨by unfold am_b; rw [if_neg hn], rfl⟩
      exact loop36 _ 0 (Nat.zero_le _) (fun v hv => absurd hv (Nat.not_lt_zero _)) rfl
    · have hn : ¬ alk t f a b := fun h => c29 (by rw [h.2.1])
      refine GS.run [] 1 rfl ?_
      refine GS.iret rfl rfl (rfl) ?_
      exact ⟨by unfold am_b; rw [if_neg hn], rfl⟩
theorem c_finer (d : Nat) (σ : am_S) (t : Tn) (f : Nat → Nat) (c : Nat) (ht : townC 10 σ t) (hw : wfT t) (hg : goals σ t (tN t)) (hf : cols 53 σ f (tN t)) (hb : ∀ c, f c < 1000) (hc : c < tN t) (h4 : σ 51 4 = nI (nb (fun a b => decide (alk t f a b)) c).1) (hn : cols 54 σ (nb (fun a b => decide (alk t f a b)) c).2 c) : CallS mX1_finerClassOf (d + 4) [.ref 51, .int (nI c)] σ (fun x σ' => x = some (.int (nI ((nb (fun a b => decide (alk t f a b)) (c + 1)).2 c))) ∧ σ' 51 4 = nI (nb (fun a b => decide (alk t f a b)) (c + 1)).1 ∧ same [51] σ σ') := by
  refine CallS.of kX1_finerClassOf pX1_finerClassOf [.ref 51, .int (nI c), .retAddr 0] rfl (Nat.le_of_ble_eq_true rfl) ?_
  have h8 := hw.1
  refine GS.run [] 2 rfl ?_
  have loop2 : ∀ (fu : Nat) (k : Nat) (hk : k ≤ c) (hu : ufst (fun x => (fun a b => decide (alk t f a b)) x c) k = none), c - k = fu → GS none mX1_finerClassOf (d + 4) (fun x σ' => x = some (.int (nI ((nb (fun a b => decide (alk t f a b)) (c + 1)).2 c))) ∧ σ' 51 4 = nI (nb (fun a b => decide (alk t f a b)) (c + 1)).1 ∧ same [51] σ σ') 2 [.ref 51, .int (nI c), .int (nI k)] [] σ := by
    intro fu
    induction fu using Nat.strongRecOn with
    | ind fu ih2 =>
      intro k hk hu hfu
      refine GS.run [] 2 rfl ?_
      refine GS.icmp_ge rfl (fun c4 => ?_) (fun c4 => ?_)
      · have e : c = k := by have := (nI_leI (by omega) (by omega)).mp c4; omega
        subst e
        refine GS.run [] 10 rfl ?_
        refine GS.iret rfl rfl (rfl) ?_
        have e1 : nb (fun a b => decide (alk t f a b)) (c + 1) = ((nb (fun a b => decide (alk t f a b)) c).1 + 1, va_up (nb (fun a b => decide (alk t f a b)) c).2 c (nb (fun a b => decide (alk t f a b)) c).1) := by rw [nb, hu]
        rw [e1]
        have h5 : (σ 51 4 + 1 : Int32) = nI ((nb (fun a b => decide (alk t f a b)) c).1 + 1) := by rw [h4, nI_1]
        refine ⟨?_, h5, same.rf.s1 (by decide)⟩
        show some (Value.int (σ 51 4 + 1 - 1)) = _
        rw [h5]
        show _ = some (Value.int (nI (va_up (nb (fun a b => decide (alk t f a b)) c).2 c (nb (fun a b => decide (alk t f a b)) c).1 c)))
        rw [va_eq]
        exact congrArg (fun z => some (Value.int z)) (pk_sub (a := (nb (fun a b => decide (alk t f a b)) c).1 + 1) (b := 1) (by omega))
      · have hlt : k < c := (nI_gtI (by omega) (by omega)).mp c4
        refine GS.run [] 3 rfl ?_
        refine GS.cV oX1_alikeSoFar (c_alike d σ t f k c ht hw hg hf hb (by omega) hc) rfl rfl rfl rfl rfl rfl rfl (Nat.le_of_ble_eq_true rfl) (by omega) ?_
        refine GS.if_eq rfl (fun c13 => ?_) (fun c13 => ?_)
        · have k1 : ¬ alk t f k c := am_b0.mp c13
          refine GS.run [] 2 rfl ?_
          rw [nI_1]
          exact ih2 _ (by omega) (k + 1) (by omega) (by rw [ufst, hu]; exact if_neg (by rw [decide_eq_true_iff]; exact k1)) rfl
        · have k1 : alk t f k c := am_bT c13
          refine GS.run [] 3 rfl ?_
          refine GS.cS oX11_at ((c_at (d + 3) σ 54 8 (nI k) rfl).eq (congrArg (fun z => some (Value.int z)) (v_get (by omega) (by omega) (hn k hlt))) rfl) rfl rfl rfl rfl (Nat.le_of_ble_eq_true rfl) (by omega) ?_
          refine GS.iret rfl rfl (rfl) ?_
          have hfull : ufst (fun x => (fun a b => decide (alk t f a b)) x c) c = some k := by
            have h1 : ufst (fun x => (fun a b => decide (alk t f a b)) x c) (k + 1) = some k := by rw [ufst, hu]; exact if_pos (decide_eq_true k1)
            have h2 : ∀ m, ufst (fun x => (fun a b => decide (alk t f a b)) x c) (k + 1 + m) = some k := by
              intro m
              induction m with
              | zero => exact h1
              | succ m ih => rw [← Nat.add_assoc, ufst, ih]
            have := h2 (c - (k + 1))
            rwa [show k + 1 + (c - (k + 1)) = c by omega] at this
          have e1 : nb (fun a b => decide (alk t f a b)) (c + 1) = ((nb (fun a b => decide (alk t f a b)) c).1, va_up (nb (fun a b => decide (alk t f a b)) c).2 c ((nb (fun a b => decide (alk t f a b)) c).2 k)) := by rw [nb, hfull]
          rw [e1]
          exact ⟨congrArg (fun z => some (Value.int (nI z))) (va_eq _ _ _).symm, h4, same.rf⟩
  exact loop2 _ 0 (Nat.zero_le _) rfl rfl
theorem c_sort (d : Nat) (σ : am_S) (t : Tn) (ht : townC 10 σ t) (hw : wfT t) : CallS mX1_sortIntoClasses (d + 5) [.ref 51] σ (fun x σ' => x = none ∧ same [51, 52, 53, 54] σ σ' ∧ cols 53 σ' (colC t (tN t + 1)).2 (tN t) ∧ σ' 51 4 = nI (colC t (tN t + 1)).1) := by
  refine CallS.of kX1_sortIntoClasses pX1_sortIntoClasses [.ref 51, .retAddr 0, .retAddr 0] rfl (Nat.le_of_ble_eq_true rfl) ?_
  have h8 := hw.1
  refine GS.run [] 1 rfl ?_
  refine GS.callV oX1_look (c_look d σ t ht hw) rfl rfl rfl rfl rfl rfl rfl (Nat.le_of_ble_eq_true rfl) (by omega) (fun v1 σ1 hq1 => ?_)
  obtain ⟨rfl, s1, g1⟩ := hq1
  refine GS.run [] 3 rfl ?_
  refine GS.cS oX11_fill (c_fill (d + 4) σ1 53 8 0 rfl) rfl rfl rfl rfl (Nat.le_of_ble_eq_true rfl) (by omega) ?_
  refine GS.run [] 2 rfl ?_
  have loop14 : ∀ (fu : Nat) (r : Nat) (σ2 : am_S) (hr : r ≤ tN t + 1) (h2s : same [51, 52, 53, 54] σ σ2) (h2g : goals σ2 t (tN t)) (h2c : cols 53 σ2 (colC t r).2 (tN t)) (h24 : 0 < r → σ2 51 4 = nI (colC t r).1), tN t + 1 - r = fu → GS none mX1_sortIntoClasses (d + 5) (fun x σ' => x = none ∧ same [51, 52, 53, 54] σ σ' ∧ cols 53 σ' (colC t (tN t + 1)).2 (tN t) ∧ σ' 51 4 = nI (colC t (tN t + 1)).1) 14 [.ref 51, .int (nI r), .retAddr 0] [] σ2 := by
    intro fu
    induction fu using Nat.strongRecOn with
    | ind fu ih14 =>
      intro r σ2 hr h2s h2g h2c h24 hfu
      have ht2 : townC 10 σ2 t := ht.kept (fun j hj => h2s _ (by simp; omega))
      refine GS.run [] 3 rfl ?_
      refine GS.cV oX8_corners ((c_corners_10 (d + 4) σ2).eq (congrArg (fun z => some (Value.int z)) (ht2.1)) rfl) rfl rfl rfl rfl rfl rfl rfl (Nat.le_of_ble_eq_true rfl) (by omega) ?_
      refine GS.icmp_gt rfl (fun c22 => ?_) (fun c22 => ?_)
      · have e : r = tN t + 1 := by have := (nI_ltI (by omega) (by omega)).mp c22; omega
        subst e
        refine GS.vret rfl rfl ?_
        exact ⟨rfl, h2s, h2c, h24 (by omega)⟩
      · have hlt : r ≤ tN t := (nI_leI (by omega) (by omega)).mp (Int32.not_lt.mp c22)
        refine GS.run [] 5 rfl ?_
        have loop32 : ∀ (fu : Nat) (i : Nat) (σ3 : am_S) (hi : i ≤ tN t) (h3s : same [51, 52, 53, 54] σ σ3) (h3g : goals σ3 t (tN t)) (h3c : cols 53 σ3 (colC t r).2 (tN t)) (h34 : σ3 51 4 = nI (nb (fun a b => decide (alk t (colC t r).2 a b)) i).1) (h3n : cols 54 σ3 (nb (fun a b => decide (alk t (colC t r).2 a b)) i).2 i), tN t - i = fu → GS none mX1_sortIntoClasses (d + 5) (fun x σ' => x = none ∧ same [51, 52, 53, 54] σ σ' ∧ cols 53 σ' (colC t (tN t + 1)).2 (tN t) ∧ σ' 51 4 = nI (colC t (tN t + 1)).1) 32 [.ref 51, .int (nI r), .int (nI i)] [] σ3 := by
          intro fu
          induction fu using Nat.strongRecOn with
          | ind fu ih32 =>
            intro i σ3 hi h3s h3g h3c h34 h3n hfu
            have ht3 : townC 10 σ3 t := ht.kept (fun j hj => h3s _ (by simp; omega))
            refine GS.run [] 3 rfl ?_
            refine GS.cV oX8_corners ((c_corners_10 (d + 4) σ3).eq (congrArg (fun z => some (Value.int z)) (ht3.1)) rfl) rfl rfl rfl rfl rfl rfl rfl (Nat.le_of_ble_eq_true rfl) (by omega) ?_
            refine GS.icmp_ge rfl (fun c40 => ?_) (fun c40 => ?_)
            · have e : i = tN t := by have := (nI_leI (by omega) (by omega)).mp c40; omega
              subst e
              refine GS.run [] 4 rfl ?_
              refine GS.cS oX11_putAll (c_putAll (d + 4) σ3 53 54 8 rfl rfl (by decide)) rfl rfl rfl rfl (Nat.le_of_ble_eq_true rfl) (by omega) ?_
              refine GS.run [] 2 rfl ?_
              rw [nI_1]
              refine GS.weak (by exact ⟨Or.inr rfl, Or.inr rfl, Or.inl rfl, trivial⟩) (ih14 _ (by omega) (r + 1) _ (by omega) (h3s.s1 (by decide)) h3g (fun c hc => ?_) (fun _ => ?_) rfl)
              · rw [am_s1_eq]
                show am_cop (σ3 53) (σ3 54) 8 c = nI ((colC t (r + 1)).2 c)
                unfold am_cop
                rw [if_pos (by omega), colC]
                exact h3n c hc
              · rw [colC]; exact h34
            · have hl2 : i < tN t := (nI_gtI (by omega) (by omega)).mp c40
              refine GS.run [] 5 rfl ?_
              refine GS.callV oX1_finerClassOf (c_finer d σ3 t (colC t r).2 i ht3 hw h3g h3c (fun c => colC_lt hw) hl2 h34 h3n) rfl rfl rfl rfl rfl rfl rfl (Nat.le_of_ble_eq_true rfl) (by omega) (fun v50 σ50 hq50 => ?_)
              obtain ⟨rfl, f4, sf⟩ := hq50
              refine GS.cS oX11_put (c_put (d + 4) σ50 54 8 (nI i) (nI ((nb (fun a b => decide (alk t (colC t r).2 a b)) (i + 1)).2 i)) rfl) rfl rfl rfl rfl (Nat.le_of_ble_eq_true rfl) (by omega) ?_
              rw [am_put_nI (by omega) (by omega)]
              refine GS.run [] 2 rfl ?_
              rw [nI_1]
              refine ih32 _ (by omega) (i + 1) _ (by omega) ((h3s.trans (sf.sub (by decide))).s1 (by decide)) (fun c hc w hww => ?_) (fun c hc => ?_) f4 (fun c hc => ?_) rfl
              · exact (congrFun (sf 52 (by decide)) _).trans (h3g c hc w hww)
              · exact (congrFun (sf 53 (by decide)) _).trans (h3c c hc)
              · rw [am_s1_eq]
                by_cases h : c = i
                · rw [h, upd_eq]
                · rw [upd_ne _ _ h, congrFun (sf 54 (by decide)) c, h3n c (by omega)]
                  congr 1
                  rw [nb]
                  split
                  · exact (va_ne _ _ h).symm
                  · exact (va_ne _ _ h).symm
        exact loop32 _ 0 _ (Nat.zero_le _) (h2s.s1 (by decide)) h2g h2c rfl (fun c hc => absurd hc (Nat.not_lt_zero _)) rfl
  exact loop14 _ 0 _ (Nat.zero_le _) ((s1.sub (by decide)).s1 (by decide)) g1 (fun c hc => by
    rw [am_s1_eq]
    show am_fill (σ1 53) 8 0 c = nI 0
    unfold am_fill
    rw [if_pos (by omega)]
    rfl) (fun h => absurd h (Nat.lt_irrefl 0)) rfl
theorem p_apart_c (d : Nat) (σ : am_S) (t : Tn) (c what : Int32) (ht : townC 10 σ t) (hw : wfT t) : CallS mX11_apart (d + 7) [.ref 0, .int c, .int what] σ (fun x σ' => x = some (.int (qApart t c what)) ∧ same [51, 52, 53, 54] σ σ') := by
  refine CallS.of kX11_apart pX11_apart [.ref 0, .int c, .int what] rfl (Nat.le_of_ble_eq_true rfl) ?_
  have h8 := hw.1
  refine GS.run [] 3 rfl ?_
  refine GS.cV oX8_has (v_has (d + 5) σ t c ht hw) rfl rfl rfl rfl rfl rfl rfl (Nat.le_of_ble_eq_true rfl) (by omega) ?_
  refine GS.if_eq rfl (fun c8 => ?_) (fun c8 => ?_)
  · have hbad : ¬ (okc t c ∧ okb what) := fun h => am_b0.mp c8 h.1
    refine GS.run [] 1 rfl ?_
    refine GS.iret rfl rfl (rfl) ?_
    exact ⟨by unfold qApart; rw [if_neg hbad], same.rf⟩
  · have g1 : okc t c := am_bT c8
    refine GS.run [] 1 rfl ?_
    refine GS.cS oX11_bit (c_bit (d + 6) σ what) rfl rfl rfl rfl (Nat.le_of_ble_eq_true rfl) (by omega) ?_
    refine GS.if_ne rfl (fun c15 => ?_) (fun c15 => ?_)
    · have g2 : okb what := am_bT c15
      obtain ⟨a, ha, rfl⟩ := okc_nat g1
      have ec : cn (nI a) = a := cn_nI (by omega)
      refine GS.run [] 2 rfl ?_
      refine GS.callV oX1_sortIntoClasses (c_sort (d + 1) σ t ht hw) rfl rfl rfl rfl rfl rfl rfl (Nat.le_of_ble_eq_true rfl) (by omega) (fun v25 σ25 hq25 => ?_)
      obtain ⟨rfl, s25, f1, f2⟩ := hq25
      rcases g2 with rfl | rfl
      · have eq2 : qApart t (nI a) (nI 0) = nI ((colC t (tN t + 1)).2 a) := by unfold qApart; rw [if_pos ⟨g1, by decide⟩, ec]; rfl
        refine GS.run [] 1 rfl ?_
        refine GS.if_ne rfl (fun q => absurd (rfl) q) (fun c29 => ?_)
        refine GS.run [] 3 rfl ?_
        refine GS.cV oX1_classOf ((c_classOf (d + 5) σ25 (nI a)).eq (congrArg (fun z => some (Value.int z)) (v_get (by omega) (by omega) (f1 a ha))) rfl) rfl rfl rfl rfl rfl rfl rfl (Nat.le_of_ble_eq_true rfl) (by omega) ?_
        refine GS.run [] 1 rfl ?_
        refine GS.iret rfl rfl (rfl) ?_
        exact ⟨congrArg (fun z => some (Value.int z)) eq2.symm, s25⟩
      · have eq2 : qApart t (nI a) (nI 1) = nI (colC t (tN t + 1)).1 := by unfold qApart; rw [if_pos ⟨g1, by decide⟩, ec]; rfl
        refine GS.run [] 1 rfl ?_
        refine GS.if_ne rfl (fun c29 => ?_) (fun q => absurd q (by decide))
        refine GS.run [] 2 rfl ?_
        refine GS.cV oX1_classes ((c_classes (d + 6) σ25).eq (congrArg (fun z => some (Value.int z)) (f2)) rfl) rfl rfl rfl rfl rfl rfl rfl (Nat.le_of_ble_eq_true rfl) (by omega) ?_
        refine GS.iret rfl rfl (rfl) ?_
        exact ⟨congrArg (fun z => some (Value.int z)) eq2.symm, s25⟩
    · have hbad : ¬ (okc t c ∧ okb what) := fun h => am_b0.mp c15 h.2
      refine GS.run [] 1 rfl ?_
      refine GS.iret rfl rfl (rfl) ?_
      exact ⟨by unfold qApart; rw [if_neg hbad], same.rf⟩
