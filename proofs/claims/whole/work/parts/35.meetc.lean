def dsI (o : Option Nat) : Int32 := match o with
  | none => -1000000
  | some d => nI d
def prV (σ : am_S) (b : Bf) : Prop := σ 51 7 = nI (bC b) ∧ (∀ j, j < bC b → σ 55 j = nI (bQ b j)) ∧ ∀ s, s < 64 → σ 56 s = dsI (bD b s)
theorem he_8 {x y : Nat} : nI x * 8 + nI y = nI (8 * x + y) := by rw [show (8 : Int32) = nI 8 from rfl, pk_mul, nI_add, Nat.mul_comm]
theorem dsI_none {o : Option Nat} (h : ∀ d, o = some d → d < 1000) : dsI o = -1000000 ↔ o = none := by
  cases o with
  | none => exact ⟨fun _ => rfl, fun _ => rfl⟩
  | some d => exact ⟨fun q => absurd q (nI_ne_none (by have := h d rfl; omega)), fun q => by cases q⟩
theorem wfB_D {N : Nat} {ok : Nat → Prop} {b : Bf} (h : wfB N ok b) {s d : Nat} (hd : bD b s = some d) : d ≤ N ∧ d < bC b := by
  obtain ⟨j, j1, j2⟩ := h.2.2 s (by rw [hd]; rfl)
  obtain ⟨-, -, e, e1, e2⟩ := h.2.1 j j1
  rw [j2, hd] at e1
  cases e1
  have : bC b ≤ N := by rw [h.1]; exact cnB_le
  exact ⟨by omega, by omega⟩
theorem wfB_C {N : Nat} {ok : Nat → Prop} {b : Bf} (h : wfB N ok b) : bC b ≤ N := by rw [h.1]; exact cnB_le
theorem dsB_eq {N : Nat} {ok : Nat → Prop} {b : Bf} (h : wfB N ok b) {i : Nat} (hi : i < bC b) : bD b (bQ b i) = some (dsB b i) ∧ dsB b i ≤ i := by
  obtain ⟨-, -, e, e1, e2⟩ := h.2.1 i hi
  have : dsB b i = e := by unfold dsB; rw [e1]; rfl
  rw [this]
  exact ⟨e1, e2⟩
theorem c_notePair (d : Nat) (σ : am_S) (t : Tn) (b : Bf) (x y dd p w : Nat) (hb : prV σ b) (hwb : wfB 64 (okP t) b) (hx : x < 8) (hy : y < 8) : CallS mX1_notePair (d + 1) [.ref 51, .int (nI x), .int (nI y), .int (nI dd)] σ (fun r σ' => r = none ∧ prV σ' (bN b (8 * x + y) dd p w) ∧ same [51, 55, 56] σ σ') := by
  refine CallS.of kX1_notePair pX1_notePair [.ref 51, .int (nI x), .int (nI y), .int (nI dd), .retAddr 0] rfl (Nat.le_of_ble_eq_true rfl) ?_
  refine GS.run [] 9 rfl ?_
  rw [he_8]
  refine GS.run [] 0 rfl ?_
  refine GS.cS oX11_at ((c_at d σ 56 64 (nI (8 * x + y)) rfl).eq (congrArg (fun z => some (Value.int z)) (v_get (by omega) (by omega) (hb.2.2 (8 * x + y) (by omega)))) rfl) rfl rfl rfl rfl (Nat.le_of_ble_eq_true rfl) (by omega) ?_
  refine GS.run [] 1 rfl ?_
  refine GS.icmp_ne rfl (fun c19 => ?_) (fun c19 => ?_)
  · have k1 : (bD b (8 * x + y)).isSome = true := by
      cases e : bD b (8 * x + y) with
      | none => rw [e] at c19; exact absurd rfl c19
      | some z => rfl
    refine GS.vret rfl rfl ?_
    first
      | (rw [bN_old k1]; exact ⟨rfl, hb, same.rf⟩)
      | (rw [bN_new k1]
         refine ⟨rfl, ⟨(congrArg (· + 1) hb.1).trans (nI_1 _), fun j hj => ?_, fun s hs => ?_⟩, ((same.rf.s1 (by decide)).s1 (by decide)).s1 (by decide)⟩
         · have hj2 : j < bC b + 1 := hj
           show upd (σ 55) (bC b) (nI (8 * x + y)) j = nI (va_up (bQ b) (bC b) (8 * x + y) j)
           by_cases e : j = bC b
           · rw [e, upd_eq, va_eq]
           · rw [upd_ne _ _ e, va_ne _ _ e]; exact hb.2.1 j (by omega)
         · show upd (σ 56) (8 * x + y) (nI dd) s = dsI (va_up (bD b) (8 * x + y) (some dd) s)
           by_cases e : s = 8 * x + y
           · rw [e, upd_eq, va_eq]; rfl
           · rw [upd_ne _ _ e, va_ne _ _ e]; exact hb.2.2 s hs)
  · have k1 : ¬ (bD b (8 * x + y)).isSome = true := by
      rw [dsI_none (fun z hz => by have := wfB_D hwb hz; omega)] at c19
      rw [c19]
      decide
    have hlt := wfB_lt hwb (by omega) k1
    refine GS.run [] 4 rfl ?_
    refine GS.cS oX11_put (c_put d σ 56 64 (nI (8 * x + y)) (nI dd) rfl) rfl rfl rfl rfl (Nat.le_of_ble_eq_true rfl) (by omega) ?_
    rw [am_put_nI (by omega) (by omega)]
    refine GS.run [] 5 rfl ?_
    rw [show (am_s1 σ 56 (upd (σ 56) (8 * x + y) (nI dd))) 51 7 = nI (bC b) from hb.1]
    refine GS.run [] 0 rfl ?_
    refine GS.cS oX11_put (c_put d (am_s1 σ 56 (upd (σ 56) (8 * x + y) (nI dd))) 55 64 (nI (bC b)) (nI (8 * x + y)) rfl) rfl rfl rfl rfl (Nat.le_of_ble_eq_true rfl) (by omega) ?_
    rw [am_put_nI (by omega) (by omega)]
    refine GS.run [] 6 rfl ?_
    refine GS.vret rfl rfl ?_
    first
      | (rw [bN_old k1]; exact ⟨rfl, hb, same.rf⟩)
      | (rw [bN_new k1]
         refine ⟨rfl, ⟨(congrArg (· + 1) hb.1).trans (nI_1 _), fun j hj => ?_, fun s hs => ?_⟩, ((same.rf.s1 (by decide)).s1 (by decide)).s1 (by decide)⟩
         · have hj2 : j < bC b + 1 := hj
           show upd (σ 55) (bC b) (nI (8 * x + y)) j = nI (va_up (bQ b) (bC b) (8 * x + y) j)
           by_cases e : j = bC b
           · rw [e, upd_eq, va_eq]
           · rw [upd_ne _ _ e, va_ne _ _ e]; exact hb.2.1 j (by omega)
         · show upd (σ 56) (8 * x + y) (nI dd) s = dsI (va_up (bD b) (8 * x + y) (some dd) s)
           by_cases e : s = 8 * x + y
           · rw [e, upd_eq, va_eq]; rfl
           · rw [upd_ne _ _ e, va_ne _ _ e]; exact hb.2.2 s hs)
theorem c_stepOf (d : Nat) (σ : am_S) (t : Tn) (b : Bf) (s dd i : Nat) (hw : wfT t) (hg : goals σ t (tN t)) (hb : prV σ b) (hwb : wfB 64 (okP t) b) (hs : okP t s) (hd : dd ≤ bC b) : CallS mX1_stepOf (d + 3) [.ref 51, .int (nI (s / 8)), .int (nI (s % 8)), .int (nI dd)] σ (fun r σ' => same [51, 55, 56] σ σ' ∧ (match mtE t s dd i 12 b with | none => r = some (.int 1) | some b' => r = some (.int 0) ∧ prV σ' b')) := by
  refine CallS.of kX1_stepOf pX1_stepOf [.ref 51, .int (nI (s / 8)), .int (nI (s % 8)), .int (nI dd), .retAddr 0, .retAddr 0, .retAddr 0] rfl (Nat.le_of_ble_eq_true rfl) ?_
  have h8 := hw.1
  refine GS.run [] 2 rfl ?_
  have loop3 : ∀ (fu : Nat) (w : Nat) (σw : am_S) (bw : Bf) (v5 v6 : Value) (hww : w ≤ 12) (hsw : same [51, 55, 56] σ σw) (hE : mtE t s dd i w b = some bw) (hpw : prV σw bw), 12 - w = fu → GS none mX1_stepOf (d + 3) (fun r σ' => same [51, 55, 56] σ σ' ∧ (match mtE t s dd i 12 b with | none => r = some (.int 1) | some b' => r = some (.int 0) ∧ prV σ' b')) 3 [.ref 51, .int (nI (s / 8)), .int (nI (s % 8)), .int (nI dd), .int (nI w), .retAddr 0, .retAddr 0] [] σw := by
    intro fu
    induction fu using Nat.strongRecOn with
    | ind fu ih3 =>
      intro w σw bw v5 v6 hww hsw hE hpw hfu
      have hgw : goals σw t (tN t) := fun c hc w hw => (congrFun (hsw 52 (by decide)) _).trans (hg c hc w hw)
      have hwf := mtE_wf hw hs hwb hd hE
      refine GS.run [] 2 rfl ?_
      refine GS.icmp_ge rfl (fun c7 => ?_) (fun c7 => ?_)
      · have e : w = 12 := by have := (nI_leI (a := 12) (by omega) (by omega)).mp c7; omega
        subst e
        refine GS.run [] 1 rfl ?_
        refine GS.iret rfl rfl (rfl) ?_
        rw [hE]
        exact ⟨hsw, rfl, hpw⟩
      · have hl : w < 12 := (nI_gtI (a := 12) (by omega) (by omega)).mp c7
        refine GS.run [] 3 rfl ?_
        refine GS.cV oX1_goalOf (c_goal (d + 1) σw t (s / 8) w hgw hw hs.1 hl) rfl rfl rfl rfl rfl rfl rfl (Nat.le_of_ble_eq_true rfl) (by omega) ?_
        refine GS.run [] 4 rfl ?_
        refine GS.cV oX1_goalOf (c_goal (d + 1) σw t (s % 8) w hgw hw hs.2 hl) rfl rfl rfl rfl rfl rfl rfl (Nat.le_of_ble_eq_true rfl) (by omega) ?_
        refine GS.run [] 1 rfl ?_
        unfold glI
        cases e1 : gl t (s / 8) w <;> cases e2 : gl t (s % 8) w
        · have hE2 : mtE t s dd i (w + 1) b = some bw := by rw [mtE, hE]; show (match nbP t s w with | none => some bw | some p => if dgP p then none else some (bN bw p dd i w)) = some bw; unfold nbP; rw [e1, e2]
          refine GS.run [] 2 rfl ?_
          refine GS.icmp_eq rfl (fun c32 => ?_) (fun q => absurd (rfl) q)
          refine GS.run [] 2 rfl ?_
          rw [nI_1]
          first
            | exact GS.weak (by exact ⟨Or.inr rfl, Or.inr rfl, Or.inr rfl, Or.inr rfl, Or.inr rfl, Or.inl rfl, Or.inl rfl, trivial⟩) (ih3 _ (by omega) (w + 1) σw bw Value.null Value.null (by omega) hsw hE2 hpw rfl)
            | exact GS.weak (by exact ⟨Or.inr rfl, Or.inr rfl, Or.inr rfl, Or.inr rfl, Or.inr rfl, Or.inl rfl, Or.inl rfl, trivial⟩) (ih3 _ (by omega) (w + 1) σ57 _ Value.null Value.null (by omega) (hsw.trans s57) hE2 p57 rfl)
        · have hE2 : mtE t s dd i (w + 1) b = some bw := by rw [mtE, hE]; show (match nbP t s w with | none => some bw | some p => if dgP p then none else some (bN bw p dd i w)) = some bw; unfold nbP; rw [e1, e2]
          refine GS.run [] 2 rfl ?_
          refine GS.icmp_eq rfl (fun c32 => ?_) (fun q => absurd (rfl) q)
          refine GS.run [] 2 rfl ?_
          rw [nI_1]
          first
            | exact GS.weak (by exact ⟨Or.inr rfl, Or.inr rfl, Or.inr rfl, Or.inr rfl, Or.inr rfl, Or.inl rfl, Or.inl rfl, trivial⟩) (ih3 _ (by omega) (w + 1) σw bw Value.null Value.null (by omega) hsw hE2 hpw rfl)
            | exact GS.weak (by exact ⟨Or.inr rfl, Or.inr rfl, Or.inr rfl, Or.inr rfl, Or.inr rfl, Or.inl rfl, Or.inl rfl, trivial⟩) (ih3 _ (by omega) (w + 1) σ57 _ Value.null Value.null (by omega) (hsw.trans s57) hE2 p57 rfl)
        · rename_i x
          have hx := gl_lt hw hs.1 e1
          have hE2 : mtE t s dd i (w + 1) b = some bw := by rw [mtE, hE]; show (match nbP t s w with | none => some bw | some p => if dgP p then none else some (bN bw p dd i w)) = some bw; unfold nbP; rw [e1, e2]
          refine GS.run [] 2 rfl ?_
          refine GS.icmp_eq rfl (fun q => absurd q (nI_ne_none (by omega))) (fun c32 => ?_)
          refine GS.run [] 2 rfl ?_
          refine GS.icmp_eq rfl (fun c39 => ?_) (fun q => absurd (rfl) q)
          refine GS.run [] 2 rfl ?_
          rw [nI_1]
          first
            | exact GS.weak (by exact ⟨Or.inr rfl, Or.inr rfl, Or.inr rfl, Or.inr rfl, Or.inr rfl, Or.inl rfl, Or.inl rfl, trivial⟩) (ih3 _ (by omega) (w + 1) σw bw Value.null Value.null (by omega) hsw hE2 hpw rfl)
            | exact GS.weak (by exact ⟨Or.inr rfl, Or.inr rfl, Or.inr rfl, Or.inr rfl, Or.inr rfl, Or.inl rfl, Or.inl rfl, trivial⟩) (ih3 _ (by omega) (w + 1) σ57 _ Value.null Value.null (by omega) (hsw.trans s57) hE2 p57 rfl)
        · rename_i x y
          have hx := gl_lt hw hs.1 e1
          have hy := gl_lt hw hs.2 e2
          have hE2 : mtE t s dd i (w + 1) b = if dgP (8 * x + y) then none else some (bN bw (8 * x + y) dd i w) := by rw [mtE, hE]; show (match nbP t s w with | none => some bw | some p => if dgP p then none else some (bN bw p dd i w)) = _; unfold nbP; rw [e1, e2]
          have hdg : dgP (8 * x + y) ↔ x = y := by unfold dgP; omega
          refine GS.run [] 2 rfl ?_
          refine GS.icmp_eq rfl (fun q => absurd q (nI_ne_none (by omega))) (fun c32 => ?_)
          refine GS.run [] 2 rfl ?_
          refine GS.icmp_eq rfl (fun q => absurd q (nI_ne_none (by omega))) (fun c39 => ?_)
          refine GS.run [] 2 rfl ?_
          refine GS.icmp_ne rfl (fun c46 => ?_) (fun c46 => ?_)
          · have k1 : ¬ x = y := fun h => c46 (by rw [h])
            rw [if_neg (fun h => k1 (hdg.mp h))] at hE2
            refine GS.run [] 4 rfl ?_
            refine GS.callV oX1_notePair (c_notePair (d + 1) σw t bw x y dd i w hpw hwf.1 (by omega) (by omega)) rfl rfl rfl rfl rfl rfl rfl (Nat.le_of_ble_eq_true rfl) (by omega) (fun v57 σ57 hq57 => ?_)
            obtain ⟨rfl, p57, s57⟩ := hq57
            refine GS.run [] 2 rfl ?_
            rw [nI_1]
            first
              | exact GS.weak (by exact ⟨Or.inr rfl, Or.inr rfl, Or.inr rfl, Or.inr rfl, Or.inr rfl, Or.inl rfl, Or.inl rfl, trivial⟩) (ih3 _ (by omega) (w + 1) σw bw Value.null Value.null (by omega) hsw hE2 hpw rfl)
              | exact GS.weak (by exact ⟨Or.inr rfl, Or.inr rfl, Or.inr rfl, Or.inr rfl, Or.inr rfl, Or.inl rfl, Or.inl rfl, trivial⟩) (ih3 _ (by omega) (w + 1) σ57 _ Value.null Value.null (by omega) (hsw.trans s57) hE2 p57 rfl)
          · have k1 : x = y := (nI_eq (by omega) (by omega)).mp c46
            rw [if_pos (hdg.mpr k1)] at hE2
            refine GS.run [] 1 rfl ?_
            refine GS.iret rfl rfl (rfl) ?_
            have hN : ∀ m, mtE t s dd i (w + 1 + m) b = none := by
              intro m
              induction m with
              | zero => exact hE2
              | succ m ih => rw [← Nat.add_assoc, mtE, ih]
            have h12 := hN (12 - (w + 1))
            rw [show w + 1 + (12 - (w + 1)) = 12 by omega] at h12
            rw [h12]
            exact ⟨hsw, rfl⟩
  exact loop3 _ 0 σ b Value.null Value.null (Nat.zero_le _) same.rf rfl hb rfl
theorem b0_D {s : Nat} : ¬ (bD b0 s).isSome = true := fun h => by cases h
theorem wf_b1 {t : Tn} {s : Nat} (h : okP t s) (hs : s < 64) : wfB 64 (okP t) (bN b0 s 0 0 0) := wfB_N wfB_0 hs h (Nat.zero_le _)
theorem okP_of {t : Tn} {a b : Nat} (hw : wfT t) (ha : a < tN t) (hb : b < tN t) : okP t (8 * a + b) := by
  have h8 := hw.1
  constructor
  · rw [show (8 * a + b) / 8 = a by omega]; exact ha
  · rw [show (8 * a + b) % 8 = b by omega]; exact hb
theorem mtL_s {t : Tn} {f i : Nat} {b : Bf} (h : i < bC b) : mtL t (f + 1) i b = (match mtE t (bQ b i) (dsB b i + 1) i 12 b with
    | none => some (dsB b i + 1)
    | some b' => mtL t f (i + 1) b') := by
  rw [mtL, if_pos h]
  cases mtE t (bQ b i) (dsB b i + 1) i 12 b <;> rfl
theorem mtL_e {t : Tn} {f i : Nat} {b : Bf} (h : ¬ i < bC b) : mtL t (f + 1) i b = none := by rw [mtL, if_neg h]
def qMeet (t : Tn) (s : Sy) (a b what : Int32) : Int32 := if okc t a ∧ okc t b ∧ okb what then (if what = 0 then fkI (meetR t s s.1 0 (stW (cn a)) (stW (cn b))) else fkI (soonF t (cn a) (cn b))) else -1000001
theorem c_soonest (d : Nat) (σ : am_S) (t : Tn) (a b : Nat) (ht : townC 10 σ t) (hw : wfT t) (ha : a < tN t) (hb : b < tN t) : CallS mX1_soonestMeeting (d + 5) [.ref 51, .int (nI a), .int (nI b)] σ (fun r σ' => r = some (.int (fkI (soonF t a b))) ∧ same [51, 52, 55, 56] σ σ') := by
  refine CallS.of kX1_soonestMeeting pX1_soonestMeeting [.ref 51, .int (nI a), .int (nI b), .retAddr 0, .retAddr 0, .retAddr 0] rfl (Nat.le_of_ble_eq_true rfl) ?_
  have h8 := hw.1
  refine GS.run [] 2 rfl ?_
  refine GS.icmp_ne rfl (fun c2 => ?_) (fun c2 => ?_)
  · have k1 : ¬ a = b := fun h => c2 (by rw [h])
    refine GS.run [] 1 rfl ?_
    refine GS.callV oX1_look (c_look d σ t ht hw) rfl rfl rfl rfl rfl rfl rfl (Nat.le_of_ble_eq_true rfl) (by omega) (fun v8 σ8 hq8 => ?_)
    obtain ⟨rfl, s8, g8⟩ := hq8
    refine GS.run [] 3 rfl ?_
    refine GS.cS oX11_fill (c_fill (d + 3) σ8 56 64 (-1000000) rfl) rfl rfl rfl rfl (Nat.le_of_ble_eq_true rfl) (by omega) ?_
    refine GS.run [] 7 rfl ?_
    have hp0 : prV (am_s1 (am_s1 σ8 56 (am_fill (σ8 56) 64 (-1000000))) 51 (upd ((am_s1 σ8 56 (am_fill (σ8 56) 64 (-1000000))) 51) 7 0)) b0 := by
      refine ⟨rfl, fun j hj => absurd hj (Nat.not_lt_zero _), fun s hs => ?_⟩
      show am_fill (σ8 56) 64 (-1000000) s = -1000000
      unfold am_fill
      rw [if_pos hs]
    refine GS.run [] 0 rfl ?_
    refine GS.callV oX1_notePair (c_notePair (d + 2) _ t b0 a b 0 0 0 hp0 wfB_0 (by omega) (by omega)) rfl rfl rfl rfl rfl rfl rfl (Nat.le_of_ble_eq_true rfl) (by omega) (fun v29 σ29 hq29 => ?_)
    obtain ⟨rfl, p29, s29⟩ := hq29
    have sa : same [51, 52, 55, 56] σ σ29 := (((s8.sub (by decide)).s1 (by decide)).s1 (by decide)).trans (s29.sub (by decide))
    have ga : goals σ29 t (tN t) := fun c hc w hww => (congrFun (s29 52 (by decide)) _).trans (g8 c hc w hww)
    refine GS.run [] 2 rfl ?_
    have loop34 : ∀ (fu : Nat) (i : Nat) (σi : am_S) (bi : Bf) (v4 v5 : Value) (hi : i ≤ bC bi) (hsi : same [51, 52, 55, 56] σ σi) (hgi : goals σi t (tN t)) (hpi : prV σi bi) (hwi : wfB 64 (okP t) bi) (hv : mtL t (65 - i) i bi = soonF t a b), 65 - i = fu → GS none mX1_soonestMeeting (d + 5) (fun r σ' => r = some (.int (fkI (soonF t a b))) ∧ same [51, 52, 55, 56] σ σ') 34 [.ref 51, .int (nI a), .int (nI b), .int (nI i), .retAddr 0, .retAddr 0] [] σi := by
      intro fu
      induction fu using Nat.strongRecOn with
      | ind fu ih34 =>
        intro i σi bi v4 v5 hi hsi hgi hpi hwi hv hfu
        have h64 := wfB_C hwi
        refine GS.run [] 3 rfl ?_
        rw [show σi 51 7 = nI (bC bi) from hpi.1]
        refine GS.run [] 0 rfl ?_
        refine GS.icmp_ge rfl (fun c39 => ?_) (fun c39 => ?_)
        · have k2 : ¬ i < bC bi := by have := (nI_leI (by omega) (by omega)).mp c39; omega
          refine GS.run [] 1 rfl ?_
          refine GS.iret rfl rfl (rfl) ?_
          have hL := mtL_e (t := t) (f := 64 - i) k2
          rw [show 64 - i + 1 = 65 - i by omega] at hL
          exact ⟨by rw [← hv, hL]; rfl, hsi⟩
        · have k2 : i < bC bi := (nI_gtI (by omega) (by omega)).mp c39
          refine GS.run [] 2 rfl ?_
          refine GS.icmp_ge rfl (fun c45 => ?_) (fun c45 => ?_)
          · have := (nI_leI (a := 64) (by omega) (by omega)).mp c45
            omega -- end
          · refine GS.run [] 3 rfl ?_
            refine GS.cS oX11_at ((c_at (d + 3) σi 55 64 (nI i) rfl).eq (congrArg (fun z => some (Value.int z)) (v_get (by omega) (by omega) (hpi.2.1 i k2))) rfl) rfl rfl rfl rfl (Nat.le_of_ble_eq_true rfl) (by omega) ?_
            refine GS.run [] 4 rfl ?_
            obtain ⟨hds, hdi⟩ := dsB_eq hwi k2
            obtain ⟨hq64, hqo, -⟩ := hwi.2.1 i k2
            refine GS.run [] 0 rfl ?_
            refine GS.cS oX11_at ((c_at (d + 3) σi 56 64 (nI (bQ bi i)) rfl).eq (congrArg (fun z => some (Value.int z)) (v_get (by omega) (by omega) (hpi.2.2 _ hq64))) rfl) rfl rfl rfl rfl (Nat.le_of_ble_eq_true rfl) (by omega) ?_
            rw [hds, show dsI (some (dsB bi i)) = nI (dsB bi i) from rfl]
            refine GS.run [] 6 rfl ?_
            refine GS.idiv rfl (by decide) ?_
            rw [show (8 : Int32) = nI 8 from rfl, pk_div (by omega) (by omega) (by omega), nI_1]
            refine GS.run [] 2 rfl ?_
            refine GS.irem rfl (by decide) ?_
            rw [show (8 : Int32) = nI 8 from rfl, pk_rem (by omega) (by omega) (by omega)]
            refine GS.run [] 1 rfl ?_
            refine GS.callV oX1_stepOf (c_stepOf d σi t bi (bQ bi i) (dsB bi i + 1) i hw hgi hpi hwi hqo (by omega)) rfl rfl rfl rfl rfl rfl rfl (Nat.le_of_ble_eq_true rfl) (by omega) (fun v84 σ84 hq84 => ?_)
            obtain ⟨s84, m84⟩ := hq84
            skip
            have hL := mtL_s (t := t) (f := 64 - i) k2
            rw [show 64 - i + 1 = 65 - i by omega] at hL
            cases e84 : mtE t (bQ bi i) (dsB bi i + 1) i 12 bi <;> rw [e84] at hL m84
            · obtain rfl := m84
              refine GS.run [] 0 rfl ?_
              skip
              refine GS.if_eq rfl (fun q => absurd q (by decide)) (fun c87 => ?_)
              refine GS.run [] 1 rfl ?_
              refine GS.iret rfl rfl (rfl) ?_
              exact ⟨by rw [← hv, hL]; rfl, hsi.trans (s84.sub (by decide))⟩
            · rename_i b2
              obtain ⟨rfl, p84⟩ := m84
              have hE2 := mtE_wf hw hqo hwi (show dsB bi i + 1 ≤ bC bi by omega) e84
              refine GS.run [] 0 rfl ?_
              skip
              refine GS.if_eq rfl (fun c87 => ?_) (fun q => absurd (rfl) q)
              refine GS.run [] 2 rfl ?_
              rw [show nI i + 1 = nI (i + 1) from nI_1 i]
              exact GS.weak (by exact ⟨Or.inr rfl, Or.inr rfl, Or.inr rfl, Or.inr rfl, Or.inl rfl, Or.inl rfl, trivial⟩) (ih34 _ (by omega) (i + 1) σ84 b2 Value.null Value.null (by omega) (hsi.trans (s84.sub (by decide))) (fun c hc w hww => (congrFun (s84 52 (by decide)) _).trans (hgi c hc w hww)) p84 hE2.1 (by rw [← hv, hL, show 65 - (i + 1) = 64 - i by omega]) rfl)
    exact loop34 _ 0 σ29 _ Value.null Value.null (Nat.zero_le _) sa ga p29 (wf_b1 (okP_of hw ha hb) (by omega)) (by unfold soonF; rw [if_neg k1]) rfl
  · have k1 : a = b := (nI_eq (by omega) (by omega)).mp c2
    refine GS.run [] 1 rfl ?_
    refine GS.iret rfl rfl (rfl) ?_
    exact ⟨by unfold soonF; rw [if_pos k1]; rfl, same.rf⟩
theorem p_meet_c (d : Nat) (σ : am_S) (t : Tn) (s : Sy) (a b what : Int32) (ht : townC 10 σ t) (hw : wfT t) (hy : sayC 24 σ s) (hys : wfS s) : CallS mX11_meet (d + 7) [.ref 0, .int a, .int b, .int what] σ (fun r σ' => r = some (.int (qMeet t s a b what)) ∧ same [49, 50, 51, 52, 55, 56] σ σ') := by
  refine CallS.of kX11_meet pX11_meet [.ref 0, .int a, .int b, .int what] rfl (Nat.le_of_ble_eq_true rfl) ?_
  have h8 := hw.1
  refine GS.run [] 3 rfl ?_
  refine GS.cV oX8_has (v_has (d + 5) σ t a ht hw) rfl rfl rfl rfl rfl rfl rfl (Nat.le_of_ble_eq_true rfl) (by omega) ?_
  refine GS.if_eq rfl (fun c8 => ?_) (fun c8 => ?_)
  · have hbad : ¬ (okc t a ∧ okc t b ∧ okb what) := fun h => am_b0.mp c8 h.1
    refine GS.run [] 1 rfl ?_
    refine GS.iret rfl rfl (rfl) ?_
    exact ⟨by unfold qMeet; rw [if_neg hbad], same.rf⟩
  · have g1 : okc t a := am_bT c8
    refine GS.run [] 3 rfl ?_
    refine GS.cV oX8_has (v_has (d + 5) σ t b ht hw) rfl rfl rfl rfl rfl rfl rfl (Nat.le_of_ble_eq_true rfl) (by omega) ?_
    refine GS.if_eq rfl (fun c19 => ?_) (fun c19 => ?_)
    · have hbad : ¬ (okc t a ∧ okc t b ∧ okb what) := fun h => am_b0.mp c19 h.2.1
      refine GS.run [] 1 rfl ?_
      refine GS.iret rfl rfl (rfl) ?_
      exact ⟨by unfold qMeet; rw [if_neg hbad], same.rf⟩
    · have g2 : okc t b := am_bT c19
      refine GS.run [] 1 rfl ?_
      refine GS.cS oX11_bit (c_bit (d + 6) σ what) rfl rfl rfl rfl (Nat.le_of_ble_eq_true rfl) (by omega) ?_
      refine GS.if_ne rfl (fun c26 => ?_) (fun c26 => ?_)
      · have g3 : okb what := am_bT c26
        obtain ⟨x, hx, rfl⟩ := okc_nat g1
        obtain ⟨y, hy2, rfl⟩ := okc_nat g2
        have ex : cn (nI x) = x := cn_nI (by omega)
        have ey : cn (nI y) = y := cn_nI (by omega)
        rcases g3 with rfl | rfl
        · have eq2 : qMeet t s (nI x) (nI y) 0 = fkI (meetR t s s.1 0 (stW x) (stW y)) := by unfold qMeet; rw [if_pos ⟨g1, g2, by decide⟩, ex, ey]; rfl
          refine GS.run [] 1 rfl ?_
          refine GS.if_ne rfl (fun q => absurd (rfl) q) (fun c33 => ?_)
          refine GS.run [] 4 rfl ?_
          refine GS.callV oX10_meeting (c_meeting (d + 1) σ t s x y ht hw hy hys hx hy2) rfl rfl rfl rfl rfl rfl rfl (Nat.le_of_ble_eq_true rfl) (by omega) (fun v42 σ42 hq42 => ?_)
          obtain ⟨rfl, se⟩ := hq42
          refine GS.run [] 1 rfl ?_
          refine GS.iret rfl rfl (rfl) ?_
          exact ⟨congrArg (fun z => some (Value.int z)) eq2.symm, se.sub (by decide)⟩
        · have eq2 : qMeet t s (nI x) (nI y) 1 = fkI (soonF t x y) := by unfold qMeet; rw [if_pos ⟨g1, g2, by decide⟩, ex, ey]; rfl
          refine GS.run [] 1 rfl ?_
          refine GS.if_ne rfl (fun c33 => ?_) (fun q => absurd q (by decide))
          refine GS.run [] 4 rfl ?_
          refine GS.callV oX1_soonestMeeting (c_soonest (d + 1) σ t x y ht hw hx hy2) rfl rfl rfl rfl rfl rfl rfl (Nat.le_of_ble_eq_true rfl) (by omega) (fun v54 σ54 hq54 => ?_)
          obtain ⟨rfl, se⟩ := hq54
          refine GS.iret rfl rfl (rfl) ?_
          exact ⟨congrArg (fun z => some (Value.int z)) eq2.symm, se.sub (by decide)⟩
      · have hbad : ¬ (okc t a ∧ okc t b ∧ okb what) := fun h => am_b0.mp c26 h.2.2
        refine GS.run [] 1 rfl ?_
        refine GS.iret rfl rfl (rfl) ?_
        exact ⟨by unfold qMeet; rw [if_neg hbad], same.rf⟩
