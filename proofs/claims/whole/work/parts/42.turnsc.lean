def extP (t : Tn) (on : Nat → Option Nat) (w : Nat → Nat) : Prop := ∀ c d, c < tN t → on c = some d → w c = d
def canP (t : Tn) (g : Bool) (on : Nat → Option Nat) (c x : Nat) : Prop := ∃ w, Wy t g w ∧ extP t on w ∧ w c = x
def pokP (t : Tn) (on : Nat → Option Nat) : Prop := ∀ c d, c < tN t → on c = some d → d < tN t ∧ akin t c d ∧ ∀ e d', e < tN t → on e = some d' → c ≠ e → d ≠ d' ∧ adB t c e = adB t d d'
def fiP (t : Tn) (on : Nat → Option Nat) (c x : Nat) : Prop := akin t c x ∧ ∀ e d', e < tN t → on e = some d' → d' ≠ x ∧ adB t c e = adB t x d'
theorem pokP_up {t : Tn} {on : Nat → Option Nat} {c x : Nat} (hw : wfT t) (h : pokP t on) (hn : on c = none) (hc : c < tN t) (hx : x < tN t) (hf : fiP t on c x) : pokP t (va_up on c (some x)) := by
  intro a d ha hd
  by_cases e : a = c
  · rw [e, va_eq] at hd
    cases hd
    subst e
    refine ⟨hx, hf.1, fun b d' hb hd' hne => ?_⟩
    rw [va_ne _ _ hne.symm] at hd'
    have := hf.2 b d' hb hd'
    exact ⟨this.1.symm, this.2⟩
  · rw [va_ne _ _ e] at hd
    obtain ⟨h1, h2, h3⟩ := h a d ha hd
    refine ⟨h1, h2, fun b d' hb hd' hne => ?_⟩
    by_cases e2 : b = c
    · rw [e2, va_eq] at hd'
      cases hd'
      have := hf.2 a d ha hd
      rw [e2, adB_comm hw ha hc, adB_comm hw h1 hx]
      exact this
    · rw [va_ne _ _ e2] at hd'
      exact h3 b d' hb hd' hne
theorem way_fiP {t : Tn} {g : Bool} {on : Nat → Option Nat} {w : Nat → Nat} {c : Nat} (hw : wfT t) (h : Wy t g w) (he : extP t on w) (hn : on c = none) (hc : c < tN t) : fiP t on c (w c) := by
  refine ⟨(h.1 c hc).2.1, fun e d' h1 h2 => ?_⟩
  rw [← he e d' h1 h2]
  refine ⟨fun q => ?_, pwO_adj hw (Nat.le_refl _) h.1 hc h1⟩
  have := pwO_inj h.1 h1 hc q
  rw [this, hn] at h2
  cases h2
theorem extP_up {t : Tn} {on : Nat → Option Nat} {w : Nat → Nat} {c : Nat} (he : extP t on w) : extP t (va_up on c (some (w c))) w := by
  intro a d ha hd
  by_cases e : a = c
  · rw [e, va_eq] at hd; cases hd; rw [e]
  · rw [va_ne _ _ e] at hd; exact he a d ha hd
theorem extP_dn {t : Tn} {on : Nat → Option Nat} {w : Nat → Nat} {c x : Nat} (hn : on c = none) (hc : c < tN t) (he : extP t (va_up on c (some x)) w) : extP t on w ∧ w c = x := by
  refine ⟨fun a d ha hd => he a d ha ?_, he c x hc (va_eq _ _ _)⟩
  rw [va_ne _ _ (fun e => ?_)]
  · exact hd
  · rw [e, hn] at hd; cases hd
/-- what lies s places round from where e lies about d is x -/
def RD (t : Tn) (g : Bool) (d e s x : Nat) : Prop := ∃ q, q < tD t d ∧ tB t d q = e ∧ tB t d (pl g q s (tD t d)) = x
def OAi (t : Tn) (g : Bool) (on : Nat → Option Nat) (c m : Nat) : Prop := ∀ d f i e x, on c = some d → f ≤ i → i < m → i < tD t c → on (tB t c f) = some e → on (tB t c i) = some x → (∀ j, j < f → on (tB t c j) = none) → RD t g d e (i - f) x
def OA (t : Tn) (g : Bool) (on : Nat → Option Nat) (m : Nat) : Prop := ∀ c, c < m → OAi t g on c (tD t c)
theorem pl_M : ∀ g : Bool, ∀ n : Fin 7, ∀ a f i : Fin 6, a.val < n.val → f.val ≤ i.val → i.val < n.val → pl g (pl g a.val f.val n.val) (i.val - f.val) n.val = pl g a.val i.val n.val := by decide +kernel
theorem way_OA {t : Tn} {g : Bool} {on : Nat → Option Nat} {w : Nat → Nat} (hw : wfT t) (h : Wy t g w) (he : extP t on w) : OA t g on (tN t) := by
  intro c hc d f i e x hd hfi _ hi h1 h2 _
  have h6 := (hw.2.2 c hc).2.2.2.1
  have hD : tD t c = tD t (w c) := (h.1 c hc).2.1.2.2.2
  have e1 := he c d hc hd
  subst e1
  rcases h.2 c hc with q | ⟨o, p1, p2⟩
  · omega
  · have b1 := ((hw.2.2 c hc).2.2.2.2.1 f (by omega)).1
    have b2 := ((hw.2.2 c hc).2.2.2.2.1 i hi).1
    refine ⟨pl g o f (tD t c), by rw [← hD]; exact pl_lt (by omega), ?_, ?_⟩
    · rw [p2 f (by omega)]; exact he _ _ b1 h1
    · rw [← hD, pl_M g ⟨tD t c, by omega⟩ ⟨o, by omega⟩ ⟨f, by omega⟩ ⟨i, by omega⟩ p1 hfi hi]
      rw [p2 i hi]; exact he _ _ b2 h2
theorem OA_way {t : Tn} {g : Bool} {on : Nat → Option Nat} (hw : wfT t) (hp : pokP t on) (ht : ∀ c, c < tN t → on c ≠ none) (ho : OA t g on (tN t)) : Wy t g (fun c => (on c).getD 0) ∧ extP t on (fun c => (on c).getD 0) := by
  have hs : ∀ c, c < tN t → on c = some ((on c).getD 0) := fun c hc => by
    cases e : on c with
    | none => exact absurd e (ht c hc)
    | some d => rfl
  have hx : extP t on (fun c => (on c).getD 0) := fun c d hc hd => by
    show (on c).getD 0 = d
    rw [hd]; rfl
  refine ⟨⟨pwO_mk (fun c hc => ?_) (fun a b ha hb q => ?_) (fun a b ha hb => ?_), fun c hc => ?_⟩, hx⟩
  · have := hp c _ hc (hs c hc)
    exact ⟨this.1, this.2.1⟩
  · by_cases e : a = b
    · exact e
    · exact absurd q ((hp a _ ha (hs a ha)).2.2 b _ hb (hs b hb) e).1
  · by_cases e : a = b
    · rw [e, adB_self hw hb, adB_self hw (hp b _ hb (hs b hb)).1]
    · exact ((hp a _ ha (hs a ha)).2.2 b _ hb (hs b hb) e).2
  · by_cases hz : tD t c = 0
    · exact Or.inl hz
    · have b0 := ((hw.2.2 c hc).2.2.2.2.1 0 (by omega)).1
      have hD : tD t c = tD t ((on c).getD 0) := (hp c _ hc (hs c hc)).2.1.2.2.2
      have hdn := (hp c _ hc (hs c hc)).1
      obtain ⟨q, q1, q2, q3⟩ := ho c hc _ 0 0 _ _ (hs c hc) (Nat.le_refl _) (by omega) (by omega) (hs _ b0) (hs _ b0) (fun j hj => absurd hj (Nat.not_lt_zero _))
      refine Or.inr ⟨q, by rw [hD]; exact q1, fun k hk => ?_⟩
      have bk := ((hw.2.2 c hc).2.2.2.2.1 k hk).1
      obtain ⟨p, p1, p2, p3⟩ := ho c hc _ 0 k _ _ (hs c hc) (Nat.zero_le _) hk hk (hs _ b0) (hs _ bk) (fun j hj => absurd hj (Nat.not_lt_zero _))
      have : p = q := (hw.2.2 _ hdn).2.2.2.2.2.1 p q p1 q1 (p2.trans q2.symm)
      subst this
      rw [Nat.sub_zero, ← hD] at p3
      exact p3
def unL (t : Tn) (on : Nat → Option Nat) : Nat := cnB (fun c => (on c).isNone) (tN t)
theorem unL_up {t : Tn} {on : Nat → Option Nat} {c x : Nat} (hn : on c = none) (hc : c < tN t) : unL t on = unL t (va_up on c (some x)) + 1 := by
  unfold unL
  refine cnB_put (k := c) ?_ ?_ (fun i hi => ?_) hc
  · show (va_up on c (some x) c).isNone = false
    rw [va_eq]; rfl
  · show (on c).isNone = true
    rw [hn]; rfl
  · show (on i).isNone = (va_up on c (some x) i).isNone
    rw [va_ne _ _ hi]
theorem unL_0 {t : Tn} {on : Nat → Option Nat} (h : unL t on = 0) : ∀ c, c < tN t → on c ≠ none := fun c hc e => by
  rw [unL_up (x := 0) e hc] at h
  cases h
def onV (σ : am_S) (t : Tn) (on : Nat → Option Nat) : Prop := ∀ c, c < tN t → σ 65 c = fkI (on c)
theorem onV_up {σ : am_S} {t : Tn} {on : Nat → Option Nat} {c : Nat} {x : Option Nat} (h : onV σ t on) : onV (am_s1 σ 65 (upd (σ 65) c (fkI x))) t (va_up on c x) := by
  intro a ha
  rw [am_s1_eq]
  by_cases e : a = c
  · rw [e, upd_eq, va_eq]
  · rw [upd_ne _ _ e, va_ne _ _ e]; exact h a ha
def rdI (g : Bool) : Int32 := match g with
  | true => -1
  | false => 1
theorem v_jn {σ : am_S} {t : Tn} {a b : Nat} (ht : townC 10 σ t) (hw : wfT t) (ha : a < tN t) (hb : b < tN t) : am_b (¬ am_get (σ 16) 64 (nI a * 8 + nI b) = -1000000) = bI (adB t a b) := by
  have h8 := hw.1
  cases e : adB t a b with
  | true =>
    obtain ⟨i, h1, h2⟩ := adB_iff.mp e
    have h6 := (hw.2.2 a ha).2.2.2.1
    rw [← h2, v_place ht hw ha h1]
    exact am_b_1 (nI_ne_none (by omega))
  | false =>
    rw [v_place0 ht hw ha (by omega) (fun i hi q => by
      have := adB_iff.mpr ⟨i, hi, q⟩
      rw [e] at this; cases this)]
    exact am_b_0 (fun h => h rfl)
theorem wl_e {a b : Nat} (ha : a ≤ 1) (hb : b ≤ 1) (h : am_b (a = 1) = am_b (b = 1)) : a = b := by
  by_cases e : a = 1
  · by_cases e2 : b = 1
    · omega
    · rw [am_b_1 e, am_b_0 e2] at h; exact absurd h (by decide)
  · by_cases e2 : b = 1
    · rw [am_b_0 e, am_b_1 e2] at h; exact absurd h (by decide)
    · omega
theorem bI_inj {a b : Bool} (h : bI a = bI b) : a = b := by cases a <;> cases b <;> first | rfl | exact absurd h (by decide)
theorem v_rd {σ : am_S} {t : Tn} {g : Bool} {d e s x : Nat} (ht : townC 10 σ t) (hw : wfT t) (hd : d < tN t) (he : e < tN t) (hs : s < tD t d) (hx : x < tN t) : am_rf (σ 14) (σ 16) (σ 15) (nI d) (nI e) (rdI g * nI s) = nI x ↔ RD t g d e s x := by
  have h8 := hw.1
  have h6 := (hw.2.2 d hd).2.2.2.1
  cases ea : adB t d e with
  | false =>
    refine ⟨fun h => ?_, fun ⟨q, q1, q2, _⟩ => ?_⟩
    · unfold am_rf at h
      rw [v_place0 ht hw hd (by omega) (fun i hi q => by
        have := adB_iff.mpr ⟨i, hi, q⟩
        rw [ea] at this; cases this), if_pos (Or.inl rfl)] at h
      exact absurd h.symm (nI_ne_none (by omega))
    · have := adB_iff.mpr ⟨q, q1, q2⟩
      rw [ea] at this; cases this
  | true =>
    obtain ⟨q, q1, q2⟩ := adB_iff.mp ea
    have hv : am_rf (σ 14) (σ 16) (σ 15) (nI d) (nI e) (rdI g * nI s) = nI (tB t d (pl g q s (tD t d))) := by
      rw [← q2]
      cases g with
      | true =>
        rw [show rdI true = zI (-1) from rfl, zI_n s, zI_mul, v_rf ht hw hd q1 (by omega) (by omega)]
        congr 2
        show (((q : Int) + -1 * (s : Int)) % (tD t d : Int)).toNat = (q + tD t d - s) % tD t d
        have : ((q : Int) + -1 * (s : Int)) % (tD t d : Int) = ((q + tD t d - s : Nat) : Int) % (tD t d : Int) := by
          rw [show ((q + tD t d - s : Nat) : Int) = ((q : Int) + -1 * (s : Int)) + (tD t d : Int) by omega, Int.add_emod_right]
        rw [this]
        rfl
      | false =>
        rw [show rdI false = zI 1 from rfl, zI_n s, zI_mul, v_rf ht hw hd q1 (by omega) (by omega)]
        congr 2
        show (((q : Int) + 1 * (s : Int)) % (tD t d : Int)).toNat = (q + s) % tD t d
        have : ((q : Int) + 1 * (s : Int)) % (tD t d : Int) = ((q + s : Nat) : Int) % (tD t d : Int) := by
          rw [show ((q + s : Nat) : Int) = (q : Int) + 1 * (s : Int) by omega]
        rw [this]
        rfl
    rw [hv]
    have hb := ((hw.2.2 d hd).2.2.2.2.1 (pl g q s (tD t d)) (pl_lt (by omega))).1
    refine ⟨fun h => ⟨q, q1, q2, (nI_eq (by omega) (by omega)).mp h⟩, fun ⟨p, p1, p2, p3⟩ => ?_⟩
    have : p = q := (hw.2.2 d hd).2.2.2.2.2.1 p q p1 q1 (p2.trans q2.symm)
    subst this
    rw [p3]
theorem c_lfits (d : Nat) (σ : am_S) (t : Tn) (on : Nat → Option Nat) (c x : Nat) (ht : townC 10 σ t) (hw : wfT t) (ho : onV σ t on) (hp : pokP t on) (hc : c < tN t) (hx : x < tN t) : CallS mX3_fits (d + 2) [.ref 64, .int (nI c), .int (nI x)] σ (fun r σ' => σ' = σ ∧ ∃ b : Bool, r = some (.int (bI b)) ∧ (b = true ↔ fiP t on c x)) := by
  refine CallS.of kX3_fits pX3_fits [.ref 64, .int (nI c), .int (nI x), .retAddr 0, .retAddr 0] rfl (Nat.le_of_ble_eq_true rfl) ?_
  have h8 := hw.1
  have wc := hw.2.2 c hc
  have wx := hw.2.2 x hx
  have b1 := wc.1
  have b2 := wc.2.1
  have b3 := wc.2.2.2.1
  have b4 := wx.1
  have b5 := wx.2.1
  have b6 := wx.2.2.2.1
  refine GS.run [] 3 rfl ?_
  refine GS.cV oX8_heightOf ((c_heightOf_10 d σ (nI c)).eq (congrArg (fun z => some (Value.int z)) (v_ht ht hw hc)) rfl) rfl rfl rfl rfl rfl rfl rfl (Nat.le_of_ble_eq_true rfl) (by omega) ?_
  refine GS.run [] 3 rfl ?_
  refine GS.cV oX8_heightOf ((c_heightOf_10 d σ (nI x)).eq (congrArg (fun z => some (Value.int z)) (v_ht ht hw hx)) rfl) rfl rfl rfl rfl rfl rfl rfl (Nat.le_of_ble_eq_true rfl) (by omega) ?_
  refine GS.icmp_ne rfl (fun c16 => ?_) (fun c16 => ?_)
  · have hno : ¬ fiP t on c x := fun h => c16 (by rw [h.1.1])
    refine GS.run [] 1 rfl ?_
    refine GS.iret rfl rfl (rfl) ?_
    exact ⟨rfl, false, rfl, ⟨fun h => (by cases h), fun h => absurd h hno⟩⟩
  · have k16 : tH t c = tH t x := (nI_eq (by omega) (by omega)).mp c16
    refine GS.run [] 3 rfl ?_
    refine GS.cV oX8_markOf ((c_markOf_10 d σ (nI c)).eq (congrArg (fun z => some (Value.int z)) (v_mk ht hw hc)) rfl) rfl rfl rfl rfl rfl rfl rfl (Nat.le_of_ble_eq_true rfl) (by omega) ?_
    refine GS.run [] 3 rfl ?_
    refine GS.cV oX8_markOf ((c_markOf_10 d σ (nI x)).eq (congrArg (fun z => some (Value.int z)) (v_mk ht hw hx)) rfl) rfl rfl rfl rfl rfl rfl rfl (Nat.le_of_ble_eq_true rfl) (by omega) ?_
    refine GS.icmp_ne rfl (fun c35 => ?_) (fun c35 => ?_)
    · have hno : ¬ fiP t on c x := fun h => c35 (by rw [h.1.2.1])
      refine GS.run [] 1 rfl ?_
      refine GS.iret rfl rfl (rfl) ?_
      exact ⟨rfl, false, rfl, ⟨fun h => (by cases h), fun h => absurd h hno⟩⟩
    · have k35 : tM t c = tM t x := (nI_eq (by omega) (by omega)).mp c35
      refine GS.run [] 3 rfl ?_
      refine GS.cV oX8_hasWell (c_well d σ t c ht hw hc) rfl rfl rfl rfl rfl rfl rfl (Nat.le_of_ble_eq_true rfl) (by omega) ?_
      refine GS.run [] 3 rfl ?_
      refine GS.cV oX8_hasWell (c_well d σ t x ht hw hx) rfl rfl rfl rfl rfl rfl rfl (Nat.le_of_ble_eq_true rfl) (by omega) ?_
      refine GS.icmp_ne rfl (fun c54 => ?_) (fun c54 => ?_)
      · have hno : ¬ fiP t on c x := fun h => c54 (by rw [h.1.2.2.1])
        refine GS.run [] 1 rfl ?_
        refine GS.iret rfl rfl (rfl) ?_
        exact ⟨rfl, false, rfl, ⟨fun h => (by cases h), fun h => absurd h hno⟩⟩
      · have k54 : tW t c = tW t x := wl_e wc.2.2.1 wx.2.2.1 c54
        refine GS.run [] 3 rfl ?_
        refine GS.cV oX8_streetsAt ((c_streetsAt_10 d σ (nI c)).eq (congrArg (fun z => some (Value.int z)) (v_dg ht hw hc)) rfl) rfl rfl rfl rfl rfl rfl rfl (Nat.le_of_ble_eq_true rfl) (by omega) ?_
        refine GS.run [] 3 rfl ?_
        refine GS.cV oX8_streetsAt ((c_streetsAt_10 d σ (nI x)).eq (congrArg (fun z => some (Value.int z)) (v_dg ht hw hx)) rfl) rfl rfl rfl rfl rfl rfl rfl (Nat.le_of_ble_eq_true rfl) (by omega) ?_
        refine GS.icmp_eq rfl (fun c73 => ?_) (fun c73 => ?_)
        · have k73 : tD t c = tD t x := (nI_eq (by omega) (by omega)).mp c73
          refine GS.run [] 2 rfl ?_
          have loop80 : ∀ (fu : Nat) (e : Nat) (v4 : Value) (he : e ≤ tN t) (hi : ∀ e' d', e' < e → on e' = some d' → d' ≠ x ∧ adB t c e' = adB t x d'), tN t - e = fu → GS none mX3_fits (d + 2) (fun r σ' => σ' = σ ∧ ∃ b : Bool, r = some (.int (bI b)) ∧ (b = true ↔ fiP t on c x)) 80 [.ref 64, .int (nI c), .int (nI x), .int (nI e), .retAddr 0] [] σ := by
            intro fu
            induction fu using Nat.strongRecOn with
            | ind fu ih80 =>
              intro e v4 he hi hfu
              refine GS.run [] 3 rfl ?_
              refine GS.cV oX8_corners ((c_corners_10 (d + 1) σ).eq (congrArg (fun z => some (Value.int z)) (ht.1)) rfl) rfl rfl rfl rfl rfl rfl rfl (Nat.le_of_ble_eq_true rfl) (by omega) ?_
              refine GS.icmp_ge rfl (fun c88 => ?_) (fun c88 => ?_)
              · have e0 : e = tN t := by have := (nI_leI (by omega) (by omega)).mp c88; omega
                subst e0
                refine GS.run [] 1 rfl ?_
                refine GS.iret rfl rfl (rfl) ?_
                exact ⟨rfl, true, rfl, ⟨fun _ => ⟨⟨k16, k35, k54, k73⟩, hi⟩, fun _ => rfl⟩⟩
              · have hl : e < tN t := (nI_gtI (by omega) (by omega)).mp c88
                refine GS.run [] 3 rfl ?_
                refine GS.cS oX11_at ((c_at (d + 1) σ 65 8 (nI e) rfl).eq (congrArg (fun z => some (Value.int z)) (v_get (by omega) (by omega) (ho e hl))) rfl) rfl rfl rfl rfl (Nat.le_of_ble_eq_true rfl) (by omega) ?_
                refine GS.run [] 3 rfl ?_
                rcases e105 : on e with _ | y
                · have hk : ∀ d', on e = some d' → d' ≠ x ∧ adB t c e = adB t x d' := fun d' q => by rw [e105] at q; cases q
                  refine GS.icmp_eq rfl (fun c105 => ?_) (fun q => absurd (rfl) q)
                  refine GS.run [] 2 rfl ?_
                  rw [nI_1]
                  exact GS.weak (by exact ⟨Or.inr rfl, Or.inr rfl, Or.inr rfl, Or.inr rfl, Or.inl rfl, trivial⟩) (ih80 _ (by omega) (e + 1) Value.null (by omega) (fun e' d' q q2 => by
                    by_cases e0 : e' = e
                    · subst e0; exact hk d' q2
                    · exact hi e' d' (by omega) q2) rfl)
                · have hy := (hp e y hl e105).1
                  refine GS.icmp_eq rfl (fun q => absurd q (nI_ne_none (by omega))) (fun c105 => ?_)
                  refine GS.run [] 2 rfl ?_
                  refine GS.icmp_eq rfl (fun c111 => ?_) (fun c111 => ?_)
                  · have hno : ¬ fiP t on c x := fun h => (h.2 e y hl e105).1 ((nI_eq (by omega) (by omega)).mp c111)
                    refine GS.run [] 1 rfl ?_
                    refine GS.iret rfl rfl (rfl) ?_
                    exact ⟨rfl, false, rfl, ⟨fun h => (by cases h), fun h => absurd h hno⟩⟩
                  · have k1 : y ≠ x := fun q => c111 (by rw [q]; rfl)
                    refine GS.run [] 4 rfl ?_
                    refine GS.cV oX8_joined ((c_joined_10 d σ (nI c) (nI e)).eq (congrArg (fun z => some (Value.int z)) (v_jn ht hw hc hl)) rfl) rfl rfl rfl rfl rfl rfl rfl (Nat.le_of_ble_eq_true rfl) (by omega) ?_
                    refine GS.run [] 4 rfl ?_
                    refine GS.cV oX8_joined ((c_joined_10 d σ (nI x) (nI y)).eq (congrArg (fun z => some (Value.int z)) (v_jn ht hw hx hy)) rfl) rfl rfl rfl rfl rfl rfl rfl (Nat.le_of_ble_eq_true rfl) (by omega) ?_
                    refine GS.icmp_eq rfl (fun c133 => ?_) (fun c133 => ?_)
                    · have hk : ∀ d', on e = some d' → d' ≠ x ∧ adB t c e = adB t x d' := fun d' q => by rw [e105] at q; cases q; exact ⟨k1, bI_inj c133⟩
                      refine GS.run [] 2 rfl ?_
                      rw [nI_1]
                      exact GS.weak (by exact ⟨Or.inr rfl, Or.inr rfl, Or.inr rfl, Or.inr rfl, Or.inl rfl, trivial⟩) (ih80 _ (by omega) (e + 1) Value.null (by omega) (fun e' d' q q2 => by
                        by_cases e0 : e' = e
                        · subst e0; exact hk d' q2
                        · exact hi e' d' (by omega) q2) rfl)
                    · have hno : ¬ fiP t on c x := fun h => c133 (by rw [(h.2 e y hl e105).2])
                      refine GS.run [] 1 rfl ?_
                      refine GS.iret rfl rfl (rfl) ?_
                      exact ⟨rfl, false, rfl, ⟨fun h => (by cases h), fun h => absurd h hno⟩⟩
          exact loop80 _ 0 Value.null (Nat.zero_le _) (fun e' d' q => absurd q (Nat.not_lt_zero _)) rfl
        · have hno : ¬ fiP t on c x := fun h => c73 (by rw [h.1.2.2.2])
          refine GS.run [] 1 rfl ?_
          refine GS.iret rfl rfl (rfl) ?_
          exact ⟨rfl, false, rfl, ⟨fun h => (by cases h), fun h => absurd h hno⟩⟩
def fsP (t : Tn) (on : Nat → Option Nat) (c i : Nat) (fo : Option Nat) : Prop := match fo with
  | none => ∀ j, j < i → on (tB t c j) = none
  | some f => f < i ∧ on (tB t c f) ≠ none ∧ ∀ j, j < f → on (tB t c j) = none
theorem fsP_no {t : Tn} {on : Nat → Option Nat} {c i : Nat} {fo : Option Nat} (h : fsP t on c i fo) (hn : on (tB t c i) = none) : fsP t on c (i + 1) fo := by
  cases fo with
  | none =>
    intro j hj
    by_cases e : j = i
    · rw [e]; exact hn
    · exact h j (by omega)
  | some f => exact ⟨Nat.lt_succ_of_lt h.1, h.2.1, h.2.2⟩
theorem fsP_st {t : Tn} {on : Nat → Option Nat} {c i f : Nat} (h : fsP t on c i (some f)) : fsP t on c (i + 1) (some f) := ⟨Nat.lt_succ_of_lt h.1, h.2.1, h.2.2⟩
theorem fsP_uniq {t : Tn} {on : Nat → Option Nat} {c i f f' : Nat} {e' : Nat} (h : fsP t on c i (some f)) (h1 : on (tB t c f') = some e') (h2 : ∀ j, j < f' → on (tB t c j) = none) : f' = f := by
  rcases Nat.lt_trichotomy f' f with q | q | q
  · rw [h.2.2 f' q] at h1; cases h1
  · exact q
  · exact absurd (h2 f q) h.2.1
theorem OAi_no {t : Tn} {g : Bool} {on : Nat → Option Nat} {c i : Nat} (h : OAi t g on c i) (hn : on (tB t c i) = none) : OAi t g on c (i + 1) := by
  intro d f j e x h1 h2 h3 h4 h5 h6 h7
  by_cases q : j = i
  · rw [q, hn] at h6; cases h6
  · exact h d f j e x h1 h2 (by omega) h4 h5 h6 h7
theorem OAi_yes {t : Tn} {g : Bool} {on : Nat → Option Nat} {c i f e x d : Nat} (h : OAi t g on c i) (hf : fsP t on c (i + 1) (some f)) (hd : on c = some d) (he : on (tB t c f) = some e) (hx : on (tB t c i) = some x) (hr : RD t g d e (i - f) x) : OAi t g on c (i + 1) := by
  intro d' f' j e' x' h1 h2 h3 h4 h5 h6 h7
  have := fsP_uniq hf h5 h7
  subst this
  by_cases q : j = i
  · rw [q] at h6 ⊢
    rw [hd] at h1; cases h1
    rw [he] at h5; cases h5
    rw [hx] at h6; cases h6
    exact hr
  · exact h d' f' j e' x' h1 h2 (by omega) h4 h5 h6 h7
theorem OA_s {t : Tn} {g : Bool} {on : Nat → Option Nat} {c : Nat} (h : OA t g on c) (hc : OAi t g on c (tD t c)) : OA t g on (c + 1) := by
  intro a ha
  by_cases e : a = c
  · rw [e]; exact hc
  · exact h a (by omega)
theorem c_lorders (d : Nat) (σ : am_S) (t : Tn) (on : Nat → Option Nat) (g : Bool) (ht : townC 10 σ t) (hw : wfT t) (ho : onV σ t on) (hp : pokP t on) : CallS mX3_ordersAgree (d + 2) [.ref 64, .int (rdI g)] σ (fun r σ' => σ' = σ ∧ ∃ b : Bool, r = some (.int (bI b)) ∧ (b = true ↔ OA t g on (tN t))) := by
  refine CallS.of kX3_ordersAgree pX3_ordersAgree [.ref 64, .int (rdI g), .retAddr 0, .retAddr 0, .retAddr 0, .retAddr 0, .retAddr 0] rfl (Nat.le_of_ble_eq_true rfl) ?_
  have h8 := hw.1
  refine GS.run [] 2 rfl ?_
  have loop2 : ∀ (fu : Nat) (c : Nat) (v3 v4 v5 v6 : Value) (hc : c ≤ tN t) (hA : OA t g on c), tN t - c = fu → GS none mX3_ordersAgree (d + 2) (fun r σ' => σ' = σ ∧ ∃ b : Bool, r = some (.int (bI b)) ∧ (b = true ↔ OA t g on (tN t))) 2 [.ref 64, .int (rdI g), .int (nI c), .retAddr 0, .retAddr 0, .retAddr 0, .retAddr 0] [] σ := by
    intro fu
    induction fu using Nat.strongRecOn with
    | ind fu ih2 =>
      intro c v3 v4 v5 v6 hc hA hfu
      refine GS.run [] 3 rfl ?_
      refine GS.cV oX8_corners ((c_corners_10 (d + 1) σ).eq (congrArg (fun z => some (Value.int z)) (ht.1)) rfl) rfl rfl rfl rfl rfl rfl rfl (Nat.le_of_ble_eq_true rfl) (by omega) ?_
      refine GS.icmp_ge rfl (fun c10 => ?_) (fun c10 => ?_)
      · have e0 : c = tN t := by have := (nI_leI (by omega) (by omega)).mp c10; omega
        subst e0
        refine GS.run [] 1 rfl ?_
        refine GS.iret rfl rfl (rfl) ?_
        exact ⟨rfl, true, rfl, ⟨fun _ => hA, fun _ => rfl⟩⟩
      · have hl : c < tN t := (nI_gtI (by omega) (by omega)).mp c10
        have h6 := (hw.2.2 c hl).2.2.2.1
        refine GS.run [] 4 rfl ?_
        have loop19 : ∀ (fu : Nat) (i : Nat) (fo : Option Nat) (v5 v6 : Value) (hi : i ≤ tD t c) (hF : fsP t on c i fo) (hB : OAi t g on c i), tD t c - i = fu → GS none mX3_ordersAgree (d + 2) (fun r σ' => σ' = σ ∧ ∃ b : Bool, r = some (.int (bI b)) ∧ (b = true ↔ OA t g on (tN t))) 19 [.ref 64, .int (rdI g), .int (nI c), .int (fkI fo), .int (nI i), .retAddr 0, .retAddr 0] [] σ := by
          intro fu
          induction fu using Nat.strongRecOn with
          | ind fu ih19 =>
            intro i fo v5 v6 hi hF hB hfu
            refine GS.run [] 4 rfl ?_
            refine GS.cV oX8_streetsAt ((c_streetsAt_10 d σ (nI c)).eq (congrArg (fun z => some (Value.int z)) (v_dg ht hw hl)) rfl) rfl rfl rfl rfl rfl rfl rfl (Nat.le_of_ble_eq_true rfl) (by omega) ?_
            refine GS.icmp_ge rfl (fun c29 => ?_) (fun c29 => ?_)
            · have e0 : i = tD t c := by have := (nI_leI (by omega) (by omega)).mp c29; omega
              subst e0
              have hnx := OA_s hA hB
              refine GS.run [] 2 rfl ?_
              rw [show nI c + 1 = nI (c + 1) from nI_1 c]
              exact GS.weak (by exact ⟨Or.inr rfl, Or.inr rfl, Or.inr rfl, Or.inl rfl, Or.inl rfl, Or.inl rfl, Or.inl rfl, trivial⟩) (ih2 _ (by omega) (c + 1) Value.null Value.null Value.null Value.null (by omega) hnx rfl)
            · have hi2 : i < tD t c := (nI_gtI (by omega) (by omega)).mp c29
              have bi := ((hw.2.2 c hl).2.2.2.2.1 i hi2).1
              refine GS.run [] 3 rfl ?_
              refine GS.cS oX11_at ((c_at (d + 1) σ 65 8 (nI c) rfl).eq (congrArg (fun z => some (Value.int z)) (v_get (by omega) (by omega) (ho c hl))) rfl) rfl rfl rfl rfl (Nat.le_of_ble_eq_true rfl) (by omega) ?_
              refine GS.run [] 1 rfl ?_
              rcases e42 : on c with _ | dd
              · have hnx := OA_s hA (fun d f i e x q => by rw [e42] at q; cases q)
                refine GS.icmp_eq rfl (fun c42 => ?_) (fun q => absurd (rfl) q)
                refine GS.run [] 2 rfl ?_
                rw [show nI c + 1 = nI (c + 1) from nI_1 c]
                exact GS.weak (by exact ⟨Or.inr rfl, Or.inr rfl, Or.inr rfl, Or.inl rfl, Or.inl rfl, Or.inl rfl, Or.inl rfl, trivial⟩) (ih2 _ (by omega) (c + 1) Value.null Value.null Value.null Value.null (by omega) hnx rfl)
              · obtain ⟨hdn, hak, -⟩ := hp c dd hl e42
                refine GS.icmp_eq rfl (fun q => absurd q (nI_ne_none (by omega))) (fun c42 => ?_)
                refine GS.run [] 6 rfl ?_
                refine GS.cV oX8_neighbour ((c_neighbour_10 d σ (nI c) (nI i)).eq (congrArg (fun z => some (Value.int z)) ((v_nbr ht hw hl (by omega)).trans (if_pos hi2))) rfl) rfl rfl rfl rfl rfl rfl rfl (Nat.le_of_ble_eq_true rfl) (by omega) ?_
                refine GS.cS oX11_at ((c_at (d + 1) σ 65 8 (nI (tB t c i)) rfl).eq (congrArg (fun z => some (Value.int z)) (v_get (by omega) (by omega) (ho _ bi))) rfl) rfl rfl rfl rfl (Nat.le_of_ble_eq_true rfl) (by omega) ?_
                rcases hx : on (tB t c i) with _ | x
                · have hfs2 := fsP_no hF hx
                  have hB2 := OAi_no hB hx
                  refine GS.run [] 3 rfl ?_
                  refine GS.icmp_eq rfl (fun c68 => ?_) (fun q => absurd (rfl) q)
                  refine GS.run [] 6 rfl ?_
                  refine GS.cV oX8_neighbour (c_neighbour_10 d σ (nI c) (fkI fo)) rfl rfl rfl rfl rfl rfl rfl (Nat.le_of_ble_eq_true rfl) (by omega) ?_
                  refine GS.cS oX11_at (c_at (d + 1) σ 65 8 _ rfl) rfl rfl rfl rfl (Nat.le_of_ble_eq_true rfl) (by omega) ?_
                  refine GS.run [] 3 rfl ?_
                  refine GS.icmp_eq rfl (fun c102 => ?_) (fun q => absurd (rfl) q)
                  refine GS.run [] 2 rfl ?_
                  rw [show nI i + 1 = nI (i + 1) from nI_1 i]
                  exact GS.weak (by exact ⟨Or.inr rfl, Or.inr rfl, Or.inr rfl, Or.inr rfl, Or.inr rfl, Or.inl rfl, Or.inl rfl, trivial⟩) (ih19 _ (by omega) (i + 1) _ Value.null Value.null (by omega) hfs2 hB2 rfl)
                · have hxn0 := (hp _ x bi hx).1
                  refine GS.run [] 3 rfl ?_
                  refine GS.icmp_eq rfl (fun q => absurd q (nI_ne_none (by omega))) (fun c68 => ?_)
                  rcases fo with _ | f
                  · have hfs : fsP t on c (i + 1) (some i) := ⟨Nat.lt_succ_self i, by rw [hx]; exact Option.some_ne_none _, hF⟩
                    have hf' : i < i + 1 := hfs.1
                    have bf := ((hw.2.2 c hl).2.2.2.2.1 i (by omega)).1
                    have hen : on (tB t c i) ≠ none := hfs.2.1
                    obtain ⟨e, he⟩ : ∃ e, on (tB t c i) = some e := Option.ne_none_iff_exists'.mp hen
                    have hen2 := (hp _ e bf he).1
                    have hxn := (hp _ x bi hx).1
                    have hrd := v_rd (g := g) ht hw hdn hen2 (s := i - i) (by have := hak.2.2.2; omega) hxn
                    refine GS.run [] 2 rfl ?_
                    refine GS.icmp_ne rfl (fun q => absurd (rfl) q) (fun c74 => ?_)
                    refine GS.run [] 8 rfl ?_
                    refine GS.cV oX8_neighbour ((c_neighbour_10 d σ (nI c) (nI i)).eq (congrArg (fun z => some (Value.int z)) ((v_nbr ht hw hl (by omega)).trans (if_pos (by omega)))) rfl) rfl rfl rfl rfl rfl rfl rfl (Nat.le_of_ble_eq_true rfl) (by omega) ?_
                    refine GS.cS oX11_at ((c_at (d + 1) σ 65 8 (nI (tB t c i)) rfl).eq (congrArg (fun z => some (Value.int z)) ((v_get (by omega) (by omega) (ho _ bf)).trans (congrArg fkI he))) rfl) rfl rfl rfl rfl (Nat.le_of_ble_eq_true rfl) (by omega) ?_
                    refine GS.run [] 3 rfl ?_
                    refine GS.icmp_eq rfl (fun q => absurd q (nI_ne_none (by omega))) (fun c102 => ?_)
                    refine GS.run [] 6 rfl ?_
                    refine GS.cS oX11_at ((c_at (d + 1) σ 65 8 (nI c) rfl).eq (congrArg (fun z => some (Value.int z)) ((v_get (by omega) (by omega) (ho c hl)).trans (congrArg fkI e42))) rfl) rfl rfl rfl rfl (Nat.le_of_ble_eq_true rfl) (by omega) ?_
                    refine GS.run [] 6 rfl ?_
                    refine GS.cV oX8_roundFrom (c_roundFrom_10 d σ (nI dd) (nI e) _) rfl rfl rfl rfl rfl rfl rfl (Nat.le_of_ble_eq_true rfl) (by omega) ?_
                    first
                      | rw [show nI i - fkI (some f) = nI (i - f) from pk_sub (a := i) (b := f) (by omega)]
                      | rw [show nI i - nI i = nI (i - i) from pk_sub (by omega)]
                    refine GS.run [] 0 rfl ?_
                    refine GS.icmp_eq rfl (fun c130 => ?_) (fun c130 => ?_)
                    · have hB2 := OAi_yes hB hfs e42 he hx (hrd.mp c130.symm)
                      have hfs2 := hfs
                      refine GS.run [] 2 rfl ?_
                      rw [show nI i + 1 = nI (i + 1) from nI_1 i]
                      exact GS.weak (by exact ⟨Or.inr rfl, Or.inr rfl, Or.inr rfl, Or.inr rfl, Or.inr rfl, Or.inl rfl, Or.inl rfl, trivial⟩) (ih19 _ (by omega) (i + 1) _ Value.null Value.null (by omega) hfs2 hB2 rfl)
                    · have hno : ¬ OA t g on (tN t) := fun h => c130 (hrd.mpr (h c hl dd _ i e x e42 (by have := hfs.1; omega) hi2 hi2 he hx hfs.2.2)).symm
                      refine GS.run [] 1 rfl ?_
                      refine GS.iret rfl rfl (rfl) ?_
                      exact ⟨rfl, false, rfl, ⟨fun h => (by cases h), fun h => absurd h hno⟩⟩
                  · have hfs := fsP_st hF
                    have hf' : f < i + 1 := hfs.1
                    have bf := ((hw.2.2 c hl).2.2.2.2.1 f (by omega)).1
                    have hen : on (tB t c f) ≠ none := hfs.2.1
                    obtain ⟨e, he⟩ : ∃ e, on (tB t c f) = some e := Option.ne_none_iff_exists'.mp hen
                    have hen2 := (hp _ e bf he).1
                    have hxn := (hp _ x bi hx).1
                    have hrd := v_rd (g := g) ht hw hdn hen2 (s := i - f) (by have := hak.2.2.2; omega) hxn
                    refine GS.run [] 2 rfl ?_
                    refine GS.icmp_ne rfl (fun c74 => ?_) (fun q => absurd q (nI_ne_none (by have := hF.1; omega)))
                    refine GS.run [] 6 rfl ?_
                    refine GS.cV oX8_neighbour ((c_neighbour_10 d σ (nI c) (nI f)).eq (congrArg (fun z => some (Value.int z)) ((v_nbr ht hw hl (by omega)).trans (if_pos (by omega)))) rfl) rfl rfl rfl rfl rfl rfl rfl (Nat.le_of_ble_eq_true rfl) (by omega) ?_
                    refine GS.cS oX11_at ((c_at (d + 1) σ 65 8 (nI (tB t c f)) rfl).eq (congrArg (fun z => some (Value.int z)) ((v_get (by omega) (by omega) (ho _ bf)).trans (congrArg fkI he))) rfl) rfl rfl rfl rfl (Nat.le_of_ble_eq_true rfl) (by omega) ?_
                    refine GS.run [] 3 rfl ?_
                    refine GS.icmp_eq rfl (fun q => absurd q (nI_ne_none (by omega))) (fun c102 => ?_)
                    refine GS.run [] 6 rfl ?_
                    refine GS.cS oX11_at ((c_at (d + 1) σ 65 8 (nI c) rfl).eq (congrArg (fun z => some (Value.int z)) ((v_get (by omega) (by omega) (ho c hl)).trans (congrArg fkI e42))) rfl) rfl rfl rfl rfl (Nat.le_of_ble_eq_true rfl) (by omega) ?_
                    refine GS.run [] 6 rfl ?_
                    refine GS.cV oX8_roundFrom (c_roundFrom_10 d σ (nI dd) (nI e) _) rfl rfl rfl rfl rfl rfl rfl (Nat.le_of_ble_eq_true rfl) (by omega) ?_
                    first
                      | rw [show nI i - fkI (some f) = nI (i - f) from pk_sub (a := i) (b := f) (by omega)]
                      | rw [show nI i - nI i = nI (i - i) from pk_sub (by omega)]
                    refine GS.run [] 0 rfl ?_
                    refine GS.icmp_eq rfl (fun c130 => ?_) (fun c130 => ?_)
                    · have hB2 := OAi_yes hB hfs e42 he hx (hrd.mp c130.symm)
                      have hfs2 := hfs
                      refine GS.run [] 2 rfl ?_
                      rw [show nI i + 1 = nI (i + 1) from nI_1 i]
                      exact GS.weak (by exact ⟨Or.inr rfl, Or.inr rfl, Or.inr rfl, Or.inr rfl, Or.inr rfl, Or.inl rfl, Or.inl rfl, trivial⟩) (ih19 _ (by omega) (i + 1) _ Value.null Value.null (by omega) hfs2 hB2 rfl)
                    · have hno : ¬ OA t g on (tN t) := fun h => c130 (hrd.mpr (h c hl dd _ i e x e42 (by have := hfs.1; omega) hi2 hi2 he hx hfs.2.2)).symm
                      refine GS.run [] 1 rfl ?_
                      refine GS.iret rfl rfl (rfl) ?_
                      exact ⟨rfl, false, rfl, ⟨fun h => (by cases h), fun h => absurd h hno⟩⟩
        exact loop19 _ 0 none Value.null Value.null (Nat.zero_le _) (fun j hj => absurd hj (Nat.not_lt_zero _)) (fun d f i e x _ _ q => absurd q (Nat.not_lt_zero _)) rfl
  exact loop2 _ 0 Value.null Value.null Value.null Value.null (Nat.zero_le _) (fun a ha => absurd ha (Nat.not_lt_zero _)) rfl
