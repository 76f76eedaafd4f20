def nxP (t : Tn) (on : Nat → Option Nat) (o : Option Nat) : Prop := (o = none → ∀ c, c < tN t → on c ≠ none) ∧ ∀ c, o = some c → c < tN t ∧ on c = none
theorem zI_m1 {m : Nat} : zI (((m + 1 : Nat) : Int) - 1) = nI m := by
  rw [zI_n]
  congr 1
  omega
theorem c_lnext (d : Nat) (σ : am_S) (t : Tn) (on : Nat → Option Nat) (ht : townC 10 σ t) (hw : wfT t) (ho : onV σ t on) (hp : pokP t on) : CallS mX3_nextToLay (d + 2) [.ref 64] σ (fun r σ' => σ' = σ ∧ ∃ o, r = some (.int (fkI o)) ∧ nxP t on o) := by
  refine CallS.of kX3_nextToLay pX3_nextToLay [.ref 64, .retAddr 0, .retAddr 0, .retAddr 0] rfl (Nat.le_of_ble_eq_true rfl) ?_
  have h8 := hw.1
  refine GS.run [] 4 rfl ?_
  refine GS.cV oX8_corners ((c_corners_10 (d + 1) σ).eq (congrArg (fun z => some (Value.int z)) (ht.1)) rfl) rfl rfl rfl rfl rfl rfl rfl (Nat.le_of_ble_eq_true rfl) (by omega) ?_
  refine GS.run [] 3 rfl ?_
  have loop13 : ∀ (fu : Nat) (k : Nat) (o : Option Nat) (v3 : Value) (hk : k ≤ tN t) (ho1 : o = none → ∀ c, k ≤ c → c < tN t → on c ≠ none) (ho2 : ∀ c, o = some c → c < tN t ∧ on c = none), k = fu → GS none mX3_nextToLay (d + 2) (fun r σ' => σ' = σ ∧ ∃ o, r = some (.int (fkI o)) ∧ nxP t on o) 13 [.ref 64, .int (fkI o), .int (zI ((k : Int) - 1)), .retAddr 0] [] σ := by
    intro fu
    induction fu using Nat.strongRecOn with
    | ind fu ih13 =>
      intro k o v3 hk ho1 ho2 hfu
      refine GS.run [] 1 rfl ?_
      rcases k with _ | m
      · refine GS.if_lt rfl (fun c14 => ?_) (fun q => absurd (by decide) q)
        refine GS.run [] 1 rfl ?_
        refine GS.iret rfl rfl (rfl) ?_
        exact ⟨rfl, o, rfl, (fun q c hc => ho1 q c (Nat.zero_le _) hc), ho2⟩
      · rw [zI_m1]
        have hm : m < tN t := by omega
        have h6 := (hw.2.2 m hm).2.2.2.1
        refine GS.if_lt rfl (fun q => absurd q (Int32.not_lt.mpr (nI_pos' (by omega)))) (fun c14 => ?_)
        refine GS.run [] 3 rfl ?_
        refine GS.cS oX11_at ((c_at (d + 1) σ 65 8 (nI m) rfl).eq (congrArg (fun z => some (Value.int z)) (v_get (by omega) (by omega) (ho m hm))) rfl) rfl rfl rfl rfl (Nat.le_of_ble_eq_true rfl) (by omega) ?_
        refine GS.run [] 1 rfl ?_
        rcases e27 : on m with _ | y
        · refine GS.icmp_ne rfl (fun q => absurd (rfl) q) (fun c27 => ?_)
          refine GS.run [] 4 rfl ?_
          have loop34 : ∀ (fu : Nat) (i : Nat) (hi : i ≤ tD t m), tD t m - i = fu → GS none mX3_nextToLay (d + 2) (fun r σ' => σ' = σ ∧ ∃ o, r = some (.int (fkI o)) ∧ nxP t on o) 34 [.ref 64, .int (nI m), .int (nI m), .int (nI i)] [] σ := by
            intro fu
            induction fu using Nat.strongRecOn with
            | ind fu ih34 =>
              intro i hi hfu
              refine GS.run [] 4 rfl ?_
              refine GS.cV oX8_streetsAt ((c_streetsAt_10 d σ (nI m)).eq (congrArg (fun z => some (Value.int z)) (v_dg ht hw hm)) rfl) rfl rfl rfl rfl rfl rfl rfl (Nat.le_of_ble_eq_true rfl) (by omega) ?_
              refine GS.icmp_ge rfl (fun c43 => ?_) (fun c43 => ?_)
              · have hy : nI m + -1 = zI ((m : Int) - 1) := by rw [zI_n, show (-1 : Int32) = zI (-1) from rfl, zI_add]; rfl
                refine GS.run [] 2 rfl ?_
                rw [hy]
                first
                  | exact GS.weak (by exact ⟨Or.inr rfl, Or.inr rfl, Or.inr rfl, Or.inl rfl, trivial⟩) (ih13 m (by omega) m (some m) Value.null (by omega) (fun q => by cases q) (fun c q => by cases q; exact ⟨hm, e27⟩) rfl)
                  | exact GS.weak (by exact ⟨Or.inr rfl, Or.inr rfl, Or.inr rfl, Or.inl rfl, trivial⟩) (ih13 m (by omega) m o Value.null (by omega) (fun q c h1 h2 => by
                      by_cases e : c = m
                      · rw [e, e27]; exact Option.some_ne_none _
                      · exact ho1 q c (by omega) h2) ho2 rfl)
              · have hi2 : i < tD t m := (nI_gtI (by omega) (by omega)).mp c43
                refine GS.run [] 6 rfl ?_
                refine GS.cV oX8_neighbour (c_neighbour_10 d σ (nI m) (nI i)) rfl rfl rfl rfl rfl rfl rfl (Nat.le_of_ble_eq_true rfl) (by omega) ?_
                refine GS.cS oX11_at (c_at (d + 1) σ 65 8 _ rfl) rfl rfl rfl rfl (Nat.le_of_ble_eq_true rfl) (by omega) ?_
                refine GS.run [] 1 rfl ?_
                refine GS.icmp_eq rfl (fun c64 => ?_) (fun c64 => ?_)
                · refine GS.run [] 2 rfl ?_
                  rw [show nI i + 1 = nI (i + 1) from nI_1 i]
                  exact ih34 _ (by omega) (i + 1) (by omega) rfl
                · refine GS.run [] 1 rfl ?_
                  refine GS.iret rfl rfl (rfl) ?_
                  exact ⟨rfl, some m, rfl, (fun q => by cases q), fun c q => by cases q; exact ⟨hm, e27⟩⟩
          exact loop34 _ 0 (Nat.zero_le _) rfl
        · have hy : nI m + -1 = zI ((m : Int) - 1) := by rw [zI_n, show (-1 : Int32) = zI (-1) from rfl, zI_add]; rfl
          refine GS.icmp_ne rfl (fun c27 => ?_) (fun q => absurd q (nI_ne_none (by have := (hp m y hm e27).1; omega)))
          refine GS.run [] 2 rfl ?_
          rw [hy]
          first
            | exact GS.weak (by exact ⟨Or.inr rfl, Or.inr rfl, Or.inr rfl, Or.inl rfl, trivial⟩) (ih13 m (by omega) m (some m) Value.null (by omega) (fun q => by cases q) (fun c q => by cases q; exact ⟨hm, e27⟩) rfl)
            | exact GS.weak (by exact ⟨Or.inr rfl, Or.inr rfl, Or.inr rfl, Or.inl rfl, trivial⟩) (ih13 m (by omega) m o Value.null (by omega) (fun q c h1 h2 => by
                by_cases e : c = m
                · rw [e, e27]; exact Option.some_ne_none _
                · exact ho1 q c (by omega) h2) ho2 rfl)
  rw [show nI (tN t) - 1 = zI ((tN t : Int) - 1) by rw [zI_n, show (1 : Int32) = zI 1 from rfl, zI_sub]]
  exact loop13 _ (tN t) none Value.null (Nat.le_refl _) (fun _ c h1 h2 => by omega) (fun c q => by cases q) rfl
def lyP (m : Nat) : Prop := ∀ (d : Nat) (σ : am_S) (t : Tn) (on : Nat → Option Nat) (g : Bool) (c x dep : Nat), townC 10 σ t → wfT t → onV σ t on → pokP t on → on c = none → c < tN t → x < tN t → unL t on = m + 1 → dep + m + 1 ≤ 8 → CallS mX3_canLay (d + (2 * m + 4)) [.ref 64, .int (nI c), .int (nI x), .int (rdI g), .int (nI dep)] σ (fun r σ' => σ' = σ ∧ ∃ b : Bool, r = some (.int (bI b)) ∧ (b = true ↔ canP t g on c x))
theorem c_lrest (d : Nat) (σ : am_S) (t : Tn) (on : Nat → Option Nat) (g : Bool) (m dep : Nat) (ih : ∀ m', m = m' + 1 → lyP m') (ht : townC 10 σ t) (hw : wfT t) (ho : onV σ t on) (hp : pokP t on) (hA : OA t g on (tN t)) (hu : unL t on = m) (hd : dep + m ≤ 8) : CallS mX3_canLayRest (d + (2 * m + 3)) [.ref 64, .int (rdI g), .int (nI dep)] σ (fun r σ' => σ' = σ ∧ ∃ b : Bool, r = some (.int (bI b)) ∧ (b = true ↔ ∃ w, Wy t g w ∧ extP t on w)) := by
  refine CallS.of kX3_canLayRest pX3_canLayRest [.ref 64, .int (rdI g), .int (nI dep), .retAddr 0, .retAddr 0] rfl (Nat.le_of_ble_eq_true rfl) ?_
  have h8 := hw.1
  refine GS.run [] 1 rfl ?_
  refine GS.callV oX3_nextToLay (c_lnext (d + 2 * m) σ t on ht hw ho hp) rfl rfl rfl rfl rfl rfl rfl (Nat.le_of_ble_eq_true rfl) (by omega) (fun v1 σ1 hq1 => ?_)
  obtain ⟨hs1, o, rfl, no1, no2⟩ := hq1
  obtain rfl := hs1.symm
  refine GS.run [] 3 rfl ?_
  rcases o with _ | c
  · refine GS.icmp_ne rfl (fun q => absurd (rfl) q) (fun c8 => ?_)
    refine GS.run [] 1 rfl ?_
    refine GS.iret rfl rfl (rfl) ?_
    exact ⟨rfl, true, rfl, ⟨fun _ => ⟨_, OA_way hw hp (no1 rfl) hA⟩, fun _ => rfl⟩⟩
  · obtain ⟨hc, hcn⟩ := no2 c rfl
    refine GS.icmp_ne rfl (fun c8 => ?_) (fun q => absurd q (nI_ne_none (by omega)))
    refine GS.run [] 2 rfl ?_
    have loop16 : ∀ (fu : Nat) (x : Nat) (hx : x ≤ tN t) (hx2 : ∀ y, y < x → ¬ canP t g on c y), tN t - x = fu → GS none mX3_canLayRest (d + (2 * m + 3)) (fun r σ' => σ' = σ ∧ ∃ b : Bool, r = some (.int (bI b)) ∧ (b = true ↔ ∃ w, Wy t g w ∧ extP t on w)) 16 [.ref 64, .int (rdI g), .int (nI dep), .int (nI c), .int (nI x)] [] σ := by
      intro fu
      induction fu using Nat.strongRecOn with
      | ind fu ih16 =>
        intro x hx hx2 hfu
        refine GS.run [] 3 rfl ?_
        refine GS.cV oX8_corners ((c_corners_10 (d + 2 * m + 2) σ).eq (congrArg (fun z => some (Value.int z)) (ht.1)) rfl) rfl rfl rfl rfl rfl rfl rfl (Nat.le_of_ble_eq_true rfl) (by omega) ?_
        refine GS.icmp_ge rfl (fun c25 => ?_) (fun c25 => ?_)
        · have e0 : x = tN t := by have := (nI_leI (by omega) (by omega)).mp c25; omega
          subst e0
          have hno : ¬ ∃ w, Wy t g w ∧ extP t on w := fun ⟨w, w1, w2⟩ => hx2 (w c) (w1.1 c hc).1 ⟨w, w1, w2, rfl⟩
          refine GS.run [] 1 rfl ?_
          refine GS.iret rfl rfl (rfl) ?_
          exact ⟨rfl, false, rfl, ⟨fun h => (by cases h), fun h => absurd h hno⟩⟩
        · have hl : x < tN t := (nI_gtI (by omega) (by omega)).mp c25
          refine GS.run [] 2 rfl ?_
          refine GS.icmp_gt rfl (fun q => absurd q (fun q => by have := (nI_gtI (a := dep) (b := 8) (by omega) (by omega)); exact absurd q (Int32.not_lt.mpr ((nI_leI (a := dep) (b := 8) (by omega) (by omega)).mpr (by omega))))) (fun c31 => ?_)
          refine GS.run [] 5 rfl ?_
          obtain ⟨m', hm'⟩ : ∃ m', m = m' + 1 := by
            cases m with
            | zero => exact absurd hcn (unL_0 hu c hc)
            | succ m' => exact ⟨m', rfl⟩
          subst hm'
          refine GS.run [] 0 rfl ?_
          refine GS.callV oX3_canLay (ih m' rfl d σ t on g c x dep ht hw ho hp hcn hc hl hu (by omega)) rfl rfl rfl rfl rfl rfl rfl (Nat.le_of_ble_eq_true rfl) (by omega) (fun v40 σ40 hq40 => ?_)
          obtain ⟨hs40, b, rfl, hb⟩ := hq40
          obtain rfl := hs40.symm
          refine GS.if_eq rfl (fun c43 => ?_) (fun c43 => ?_)
          · have hbf := bI0.mp c43
            subst hbf
            have hx3 : ¬ canP t g on c x := fun h => by have := hb.mpr h; cases this
            refine GS.run [] 2 rfl ?_
            rw [nI_1]
            exact ih16 _ (by omega) (x + 1) (by omega) (fun y hy => by
              by_cases e : y = x
              · rw [e]; exact hx3
              · exact hx2 y (by omega)) rfl
          · have hbt := bI1.mp c43
            subst hbt
            obtain ⟨w, w1, w2, w3⟩ := hb.mp rfl
            refine GS.run [] 1 rfl ?_
            refine GS.iret rfl rfl (rfl) ?_
            exact ⟨rfl, true, rfl, ⟨fun _ => ⟨w, w1, w2⟩, fun _ => rfl⟩⟩
    exact loop16 _ 0 (Nat.zero_le _) (fun y hy => absurd hy (Nat.not_lt_zero _)) rfl
theorem lay_back {σ : am_S} {t : Tn} {on : Nat → Option Nat} {c : Nat} {v : Int32} (ho : onV σ t on) (hc : c < tN t) (hn : on c = none) : am_s1 (am_s1 σ 65 (upd (σ 65) c v)) 65 (upd (am_s1 σ 65 (upd (σ 65) c v) 65) c (-1000000)) = σ := by
  rw [am_s1_eq, am_s1_s1, upd_upd]
  have e65 : upd (σ 65) c (-1000000) = σ 65 := by
    funext j
    by_cases e : j = c
    · rw [e, upd_eq, ho c hc, hn]; rfl
    · exact upd_ne _ _ e
  rw [e65, am_s1_self]
theorem c_lcan (d : Nat) (σ : am_S) (t : Tn) (on : Nat → Option Nat) (g : Bool) (m c x dep : Nat) (ih : ∀ m', m = m' + 1 → lyP m') (ht : townC 10 σ t) (hw : wfT t) (ho : onV σ t on) (hp : pokP t on) (hn : on c = none) (hc : c < tN t) (hx : x < tN t) (hu : unL t on = m + 1) (hd : dep + m + 1 ≤ 8) : CallS mX3_canLay (d + (2 * m + 4)) [.ref 64, .int (nI c), .int (nI x), .int (rdI g), .int (nI dep)] σ (fun r σ' => σ' = σ ∧ ∃ b : Bool, r = some (.int (bI b)) ∧ (b = true ↔ canP t g on c x)) := by
  refine CallS.of kX3_canLay pX3_canLay [.ref 64, .int (nI c), .int (nI x), .int (rdI g), .int (nI dep), .retAddr 0] rfl (Nat.le_of_ble_eq_true rfl) ?_
  have h8 := hw.1
  refine GS.run [] 3 rfl ?_
  refine GS.callV oX3_fits (c_lfits (d + 2 * m + 1) σ t on c x ht hw ho hp hc hx) rfl rfl rfl rfl rfl rfl rfl (Nat.le_of_ble_eq_true rfl) (by omega) (fun v3 σ3 hq3 => ?_)
  obtain ⟨hs3, b3, rfl, hb3⟩ := hq3
  obtain rfl := hs3.symm
  refine GS.if_ne rfl (fun c6 => ?_) (fun c6 => ?_)
  · have hbt := bI1.mp c6
    subst hbt
    have hf := hb3.mp rfl
    have hp1 := pokP_up hw hp hn hc hx hf
    refine GS.run [] 4 rfl ?_
    refine GS.cS oX11_put (c_put (d + 2 * m + 3) σ 65 8 (nI c) (nI x) rfl) rfl rfl rfl rfl (Nat.le_of_ble_eq_true rfl) (by omega) ?_
    rw [am_put_nI (by omega) (by omega)]
    have ho1 : onV (am_s1 σ 65 (upd (σ 65) c (nI x))) t (va_up on c (some x)) := onV_up (x := some x) ho
    have ht1 : townC 10 (am_s1 σ 65 (upd (σ 65) c (nI x))) t := ht.kept (fun j hj => am_s1_ne _ _ (by omega))
    have hcan : ∀ b : Bool, (b = true ↔ ∃ w, Wy t g w ∧ extP t (va_up on c (some x)) w) → (b = true ↔ canP t g on c x) := fun b hb => hb.trans ⟨fun ⟨w, w1, w2⟩ => ⟨w, w1, (extP_dn hn hc w2).1, (extP_dn hn hc w2).2⟩, fun ⟨w, w1, w2, w3⟩ => ⟨w, w1, by rw [← w3]; exact extP_up w2⟩⟩
    refine GS.run [] 2 rfl ?_
    refine GS.callV oX3_ordersAgree (c_lorders (d + 2 * m + 1) _ t _ g ht1 hw ho1 hp1) rfl rfl rfl rfl rfl rfl rfl (Nat.le_of_ble_eq_true rfl) (by omega) (fun v22 σ22 hq22 => ?_)
    obtain ⟨hs22, b22, rfl, hb22⟩ := hq22
    obtain rfl := hs22.symm
    refine GS.if_eq rfl (fun c25 => ?_) (fun c25 => ?_)
    · have hbf := bI0.mp c25
      subst hbf
      have hno : ¬ canP t g on c x := fun h => by
        obtain ⟨w, w1, w2⟩ := (hcan true ⟨fun _ => by obtain ⟨w, w1, w2, w3⟩ := h; exact ⟨w, w1, by rw [← w3]; exact extP_up w2⟩, fun _ => rfl⟩).mp rfl |> fun _ => h
        have := hb22.mpr (way_OA hw w1 (by rw [← w2.2]; exact extP_up w2.1))
        cases this
      refine GS.run [] 6 rfl ?_
      refine GS.cS oX11_put (c_put (d + 2 * m + 3) _ 65 8 (nI c) (-1000000) rfl) rfl rfl rfl rfl (Nat.le_of_ble_eq_true rfl) (by omega) ?_
      rw [am_put_nI (by omega) (by omega)]
      refine GS.run [] 1 rfl ?_
      refine GS.iret rfl rfl (rfl) ?_
      first
        | exact ⟨lay_back ho hc hn, true, rfl, ⟨fun _ => hyes, fun _ => rfl⟩⟩
        | exact ⟨lay_back ho hc hn, false, rfl, ⟨fun h => (by cases h), fun h => absurd h hno⟩⟩
    · have hbt := bI1.mp c25
      subst hbt
      have hA1 := hb22.mp rfl
      refine GS.run [] 5 rfl ?_
      rw [nI_1]
      refine GS.run [] 0 rfl ?_
      refine GS.callV oX3_canLayRest (c_lrest d _ t _ g m (dep + 1) ih ht1 hw ho1 hp1 hA1 (by have := unL_up (x := x) hn hc; omega) (by omega)) rfl rfl rfl rfl rfl rfl rfl (Nat.le_of_ble_eq_true rfl) (by omega) (fun v34 σ34 hq34 => ?_)
      obtain ⟨hs34, b34, rfl, hb34⟩ := hq34
      obtain rfl := hs34.symm
      have hb35 := hcan b34 hb34
      refine GS.if_eq rfl (fun c37 => ?_) (fun c37 => ?_)
      · have hbf := bI0.mp c37
        subst hbf
        have hno : ¬ canP t g on c x := fun h => by have := hb35.mpr h; cases this
        refine GS.run [] 6 rfl ?_
        refine GS.cS oX11_put (c_put (d + 2 * m + 3) _ 65 8 (nI c) (-1000000) rfl) rfl rfl rfl rfl (Nat.le_of_ble_eq_true rfl) (by omega) ?_
        rw [am_put_nI (by omega) (by omega)]
        refine GS.run [] 1 rfl ?_
        refine GS.iret rfl rfl (rfl) ?_
        first
          | exact ⟨lay_back ho hc hn, true, rfl, ⟨fun _ => hyes, fun _ => rfl⟩⟩
          | exact ⟨lay_back ho hc hn, false, rfl, ⟨fun h => (by cases h), fun h => absurd h hno⟩⟩
      · have hbt := bI1.mp c37
        subst hbt
        have hyes := hb35.mp rfl
        refine GS.run [] 7 rfl ?_
        refine GS.cS oX11_put (c_put (d + 2 * m + 3) _ 65 8 (nI c) (-1000000) rfl) rfl rfl rfl rfl (Nat.le_of_ble_eq_true rfl) (by omega) ?_
        rw [am_put_nI (by omega) (by omega)]
        refine GS.run [] 1 rfl ?_
        refine GS.iret rfl rfl (rfl) ?_
        first
          | exact ⟨lay_back ho hc hn, true, rfl, ⟨fun _ => hyes, fun _ => rfl⟩⟩
          | exact ⟨lay_back ho hc hn, false, rfl, ⟨fun h => (by cases h), fun h => absurd h hno⟩⟩
  · have hbf := bI0.mp c6
    subst hbf
    have hno : ¬ canP t g on c x := fun ⟨w, w1, w2, w3⟩ => by
      have := hb3.mpr (by rw [← w3]; exact way_fiP hw w1 w2 hn hc)
      cases this
    refine GS.run [] 1 rfl ?_
    refine GS.iret rfl rfl (rfl) ?_
    exact ⟨rfl, false, rfl, ⟨fun h => (by cases h), fun h => absurd h hno⟩⟩
theorem c_lay (m : Nat) : lyP m := by
  induction m with
  | zero => exact fun d σ t on g c x dep ht hw ho hp hn hc hx hu hd => c_lcan d σ t on g 0 c x dep (fun m' q => by omega) ht hw ho hp hn hc hx hu hd
  | succ m ih => exact fun d σ t on g c x dep ht hw ho hp hn hc hx hu hd => c_lcan d σ t on g (m + 1) c x dep (fun m' q => by have : m' = m := (Nat.succ.inj q).symm; rw [this]; exact ih) ht hw ho hp hn hc hx hu hd
theorem c_can (d : Nat) (σ : am_S) (t : Tn) (on : Nat → Option Nat) (g : Bool) (c x : Nat) (ht : townC 10 σ t) (hw : wfT t) (ho : onV σ t on) (hp : pokP t on) (hn : on c = none) (hc : c < tN t) (hx : x < tN t) : CallS mX3_canLay (d + 18) [.ref 64, .int (nI c), .int (nI x), .int (rdI g), .int 0] σ (fun r σ' => σ' = σ ∧ ∃ b : Bool, r = some (.int (bI b)) ∧ (b = true ↔ canP t g on c x)) := by
  have h8 := hw.1
  have hu := unL_up (x := x) hn hc
  have hle : unL t (va_up on c (some x)) ≤ 7 := by
    have : unL t on ≤ tN t := cnB_le
    omega
  have h := c_lay (unL t (va_up on c (some x))) (d + 14 - 2 * unL t (va_up on c (some x))) σ t on g c x 0 ht hw ho hp hn hc hx hu (by omega)
  rw [show d + 14 - 2 * unL t (va_up on c (some x)) + (2 * unL t (va_up on c (some x)) + 4) = d + 18 by omega] at h
  exact h
