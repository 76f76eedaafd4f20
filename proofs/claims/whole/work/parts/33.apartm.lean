def pwd (w : Nat) : Nat := if w < 2 then w else 18 + w
def clM (f : Nat → Nat) (o : Option Nat) : Int32 := match o with
  | none => -1
  | some x => nI (f x)
theorem nI_ne_m1 {n : Nat} (h : n < 2 ^ 31) : nI n ≠ -1 := fun e => by
  have := congrArg Int32.toInt e
  rw [nI_toInt h, show (-1 : Int32).toInt = -1 from rfl] at this
  omega
theorem clM_eq {f : Nat → Nat} {x y : Option Nat} (h : ∀ a, f a < 1000) : clM f x = clM f y ↔ x.map f = y.map f := by
  have h1 : ∀ a, f a < 2 ^ 31 := fun a => by have := h a; omega
  cases x <;> cases y
  · exact ⟨fun _ => rfl, fun _ => rfl⟩
  · exact ⟨fun q => absurd q.symm (nI_ne_m1 (h1 _)), fun q => (by cases q)⟩
  · exact ⟨fun q => absurd q (nI_ne_m1 (h1 _)), fun q => (by cases q)⟩
  · rename_i a b
    show nI (f a) = nI (f b) ↔ some (f a) = some (f b)
    rw [Option.some.injEq]
    exact nI_eq (h1 _) (h1 _)
theorem cut12 {w : Nat} (h : w < 12) : w = 0 ∨ w = 1 ∨ ∃ m, m < 10 ∧ w = m + 2 := by
  rcases (by omega : w = 0 ∨ w = 1 ∨ 2 ≤ w) with h1 | h1 | h1
  · exact Or.inl h1
  · exact Or.inr (Or.inl h1)
  · exact Or.inr (Or.inr ⟨w - 2, by omega, by omega⟩)
theorem c_pword (d : Nat) (σ : am_S) (w : Nat) (h : w < 12) : CallS mX12_plainWord (d) [.int (nI w)] σ (am_det (some (.int (nI (pwd w)))) σ) := by
  refine CallS.of kX12_plainWord pX12_plainWord [.int (nI w)] rfl (Nat.le_of_ble_eq_true rfl) ?_
  refine GS.run [] 2 rfl ?_
  refine GS.icmp_ge rfl (fun c2 => ?_) (fun c2 => ?_)
  · have h2 : ¬ w < 2 := by have := (nI_leI (a := 2) (by omega) (by omega)).mp c2; omega
    refine GS.run [] 5 rfl ?_
    refine GS.iret rfl rfl (rfl) ?_
    first
      | exact ⟨by unfold pwd; rw [if_pos h2], rfl⟩
      | exact ⟨by rw [show (20 : Int32) + nI w = nI (20 + w) from nI_add 20 w, show nI (20 + w) - 2 = nI (20 + w - 2) from pk_sub (a := 20 + w) (b := 2) (by omega)]; unfold pwd; rw [if_neg h2, show 20 + w - 2 = 18 + w by omega], rfl⟩
  · have h2 : w < 2 := (nI_gtI (a := 2) (by omega) (by omega)).mp c2
    refine GS.run [] 2 rfl ?_
    refine GS.iret rfl rfl (rfl) ?_
    first
      | exact ⟨by unfold pwd; rw [if_pos h2], rfl⟩
      | exact ⟨by rw [show (20 : Int32) + nI w = nI (20 + w) from nI_add 20 w, show nI (20 + w) - 2 = nI (20 + w - 2) from pk_sub (a := 20 + w) (b := 2) (by omega)]; unfold pwd; rw [if_neg h2, show 20 + w - 2 = 18 + w by omega], rfl⟩
theorem c_classBy (d : Nat) (σ : am_S) (t : Tn) (f : Nat → Nat) (c w : Nat) (ht : townM 73 0 σ t) (hw : wfT t) (hf : cols 78 σ f (tN t)) (hc : c < tN t) (hww : w < 12) : CallS mX12_classBy (d + 1) [.ref 69, .int (nI c), .int (nI (pwd w))] σ (am_det (some (.int (clM f (gl t c w)))) σ) := by
  refine CallS.of kX12_classBy pX12_classBy [.ref 69, .int (nI c), .int (nI (pwd w)), .retAddr 0] rfl (Nat.le_of_ble_eq_true rfl) ?_
  have h8 := hw.1
  rcases cut12 hww with rfl | rfl | ⟨m, hm, rfl⟩
  · have hgl : gl t c 0 = (slope t c true).map (tB t c) := rfl
    have hlt : ∀ k, slope t c true = some k → k < tD t c := fun k => slope_lt
    refine GS.run [] 2 rfl ?_
    refine GS.icmp_ge rfl (fun q => absurd q (by decide)) (fun c2 => ?_)
    refine GS.run [] 3 rfl ?_
    refine GS.if_ne rfl (fun q => absurd (rfl) q) (fun c8 => ?_)
    refine GS.run [] 2 rfl ?_
    refine GS.cV oX12_slope (c_mslope d σ t c true ht hw hc) rfl rfl rfl rfl rfl rfl rfl (Nat.le_of_ble_eq_true rfl) (by omega) ?_
    refine GS.run [] 1 rfl ?_
    rw [hgl]
    cases ho : slope t c true
    · refine GS.run [] 2 rfl ?_
      refine GS.if_ge rfl (fun q => absurd q (by decide)) (fun c33 => ?_)
      refine GS.run [] 2 rfl ?_
      refine GS.iret rfl rfl (rfl) ?_
      exact ⟨rfl, rfl⟩
    · rename_i k
      have hk := hlt k ho
      have h6 := (hw.2.2 c hc).2.2.2.1
      have hbn := ((hw.2.2 c hc).2.2.2.2.1 k hk).1
      refine GS.run [] 2 rfl ?_
      refine GS.if_ge rfl (fun c33 => ?_) (fun q => absurd (nI_pos' (by omega)) q)
      refine GS.run [] 11 rfl ?_
      refine GS.ald (50 + 6 * c + k) rfl rfl (he_to) (by omega) ?_
      rw [m_to ht hc hk]
      refine GS.ald (tB t c k) rfl rfl (rfl) (by omega) ?_
      rw [hf _ hbn]
      refine GS.iret rfl rfl (rfl) ?_
      exact ⟨rfl, rfl⟩
  · have hgl : gl t c 1 = (slope t c false).map (tB t c) := rfl
    have hlt : ∀ k, slope t c false = some k → k < tD t c := fun k => slope_lt
    refine GS.run [] 2 rfl ?_
    refine GS.icmp_ge rfl (fun q => absurd q (by decide)) (fun c2 => ?_)
    refine GS.run [] 3 rfl ?_
    refine GS.if_ne rfl (fun c8 => ?_) (fun q => absurd q (by decide))
    refine GS.run [] 1 rfl ?_
    refine GS.cV oX12_slope (c_mslope d σ t c false ht hw hc) rfl rfl rfl rfl rfl rfl rfl (Nat.le_of_ble_eq_true rfl) (by omega) ?_
    refine GS.run [] 1 rfl ?_
    rw [hgl]
    cases ho : slope t c false
    · refine GS.run [] 2 rfl ?_
      refine GS.if_ge rfl (fun q => absurd q (by decide)) (fun c33 => ?_)
      refine GS.run [] 2 rfl ?_
      refine GS.iret rfl rfl (rfl) ?_
      exact ⟨rfl, rfl⟩
    · rename_i k
      have hk := hlt k ho
      have h6 := (hw.2.2 c hc).2.2.2.1
      have hbn := ((hw.2.2 c hc).2.2.2.2.1 k hk).1
      refine GS.run [] 2 rfl ?_
      refine GS.if_ge rfl (fun c33 => ?_) (fun q => absurd (nI_pos' (by omega)) q)
      refine GS.run [] 11 rfl ?_
      refine GS.ald (50 + 6 * c + k) rfl rfl (he_to) (by omega) ?_
      rw [m_to ht hc hk]
      refine GS.ald (tB t c k) rfl rfl (rfl) (by omega) ?_
      rw [hf _ hbn]
      refine GS.iret rfl rfl (rfl) ?_
      exact ⟨rfl, rfl⟩
  · have hpb : pwd (m + 2) < 1000 := by unfold pwd; rw [if_neg (by omega)]; omega
    have hgl : gl t c (m + 2) = (markedK t c m).map (tB t c) := by unfold gl; rw [if_neg (by omega), if_neg (by omega), Nat.add_sub_cancel]
    have hlt : ∀ k, markedK t c m = some k → k < tD t c := fun k => markedK_lt
    refine GS.run [] 2 rfl ?_
    refine GS.icmp_ge rfl (fun c2 => ?_) (fun q => absurd ((nI_leI (a := 3) (by omega) (by omega)).mpr (by unfold pwd; rw [if_neg (by omega)]; omega)) q)
    refine GS.run [] 5 rfl ?_
    rw [show nI (pwd (m + 2)) - 20 = nI m by unfold pwd; rw [if_neg (by omega)]; rw [show nI (18 + (m + 2)) - 20 = nI (18 + (m + 2) - 20) from pk_sub (a := 18 + (m + 2)) (b := 20) (by omega)]; congr 1; omega]
    refine GS.run [] 0 rfl ?_
    refine GS.cV oX12_marked (c_mmarked d σ t c m ht hw hc (by omega)) rfl rfl rfl rfl rfl rfl rfl (Nat.le_of_ble_eq_true rfl) (by omega) ?_
    rw [hgl]
    cases ho : markedK t c m
    · refine GS.run [] 2 rfl ?_
      refine GS.if_ge rfl (fun q => absurd q (by decide)) (fun c33 => ?_)
      refine GS.run [] 2 rfl ?_
      refine GS.iret rfl rfl (rfl) ?_
      exact ⟨rfl, rfl⟩
    · rename_i k
      have hk := hlt k ho
      have h6 := (hw.2.2 c hc).2.2.2.1
      have hbn := ((hw.2.2 c hc).2.2.2.2.1 k hk).1
      refine GS.run [] 2 rfl ?_
      refine GS.if_ge rfl (fun c33 => ?_) (fun q => absurd (nI_pos' (by omega)) q)
      refine GS.run [] 11 rfl ?_
      refine GS.ald (50 + 6 * c + k) rfl rfl (he_to) (by omega) ?_
      rw [m_to ht hc hk]
      refine GS.ald (tB t c k) rfl rfl (rfl) (by omega) ?_
      rw [hf _ hbn]
      refine GS.iret rfl rfl (rfl) ?_
      exact ⟨rfl, rfl⟩
theorem am_b_1 {p : Prop} [Decidable p] (h : p) : am_b p = 1 := if_pos h
theorem am_b_0 {p : Prop} [Decidable p] (h : ¬ p) : am_b p = 0 := if_neg h
theorem c_malike (d : Nat) (σ : am_S) (t : Tn) (f : Nat → Nat) (a b : Nat) (ht : townM 73 0 σ t) (hw : wfT t) (hf : cols 78 σ f (tN t)) (hb : ∀ c, f c < 1000) (ha : a < tN t) (hb2 : b < tN t) : CallS mX12_areAlike (d + 2) [.ref 69, .int (nI a), .int (nI b)] σ (am_det (some (.int (am_b (alm t f a b)))) σ) := by
  refine CallS.of kX12_areAlike pX12_areAlike [.ref 69, .int (nI a), .int (nI b), .retAddr 0, .retAddr 0] rfl (Nat.le_of_ble_eq_true rfl) ?_
  have h8 := hw.1
  have loop24 : ∀ (fu : Nat) (w : Nat) (hww : w ≤ 12) (q : Int32) (hq : q = am_b (f a = f b ∧ ∀ v, v < w → (gl t a v).map f = (gl t b v).map f)), 12 - w = fu → GS none mX12_areAlike (d + 2) (am_det (some (.int (am_b (alm t f a b)))) σ) 24 [.ref 69, .int (nI a), .int (nI b), .int q, .int (nI w)] [] σ := by
    intro fu
    induction fu using Nat.strongRecOn with
    | ind fu ih24 =>
      intro w hww q hq hfu
      refine GS.run [] 2 rfl ?_
      refine GS.icmp_ge rfl (fun c28 => ?_) (fun c28 => ?_)
      · have e : w = 12 := by have := (nI_leI (a := 12) (by omega) (by omega)).mp c28; omega
        subst e
        subst hq
        refine GS.run [] 1 rfl ?_
        refine GS.iret rfl rfl (nar_b _) ?_
        first
          | exact ⟨congrArg (fun z => some (Value.int z)) (am_b_congr Iff.rfl), rfl⟩
          | exact ⟨congrArg (fun z => some (Value.int z)) (am_b_congr ⟨fun h => absurd h hn, fun h => absurd ⟨h.1, fun v hv => h.2 v (by omega)⟩ hn⟩), rfl⟩
      · have hlt : w < 12 := (nI_gtI (a := 12) (by omega) (by omega)).mp c28
        refine GS.run [] 1 rfl ?_
        rw [hq]
        refine GS.run [] 0 rfl ?_
        refine GS.if_eq rfl (fun c32 => ?_) (fun c32 => ?_)
        · have hn := am_b0.mp c32
          refine GS.run [] 1 rfl ?_
          refine GS.iret rfl rfl (nar_b _) ?_
          first
            | exact ⟨congrArg (fun z => some (Value.int z)) (am_b_congr Iff.rfl), rfl⟩
            | exact ⟨congrArg (fun z => some (Value.int z)) (am_b_congr ⟨fun h => absurd h hn, fun h => absurd ⟨h.1, fun v hv => h.2 v (by omega)⟩ hn⟩), rfl⟩
        · have hy := am_bT c32
          refine GS.run [] 3 rfl ?_
          refine GS.cS oX12_plainWord (c_pword (d + 1) σ w hlt) rfl rfl rfl rfl (Nat.le_of_ble_eq_true rfl) (by omega) ?_
          refine GS.cV oX12_classBy (c_classBy d σ t f a w ht hw hf ha hlt) rfl rfl rfl rfl rfl rfl rfl (Nat.le_of_ble_eq_true rfl) (by omega) ?_
          refine GS.run [] 3 rfl ?_
          refine GS.cS oX12_plainWord (c_pword (d + 1) σ w hlt) rfl rfl rfl rfl (Nat.le_of_ble_eq_true rfl) (by omega) ?_
          refine GS.cV oX12_classBy (c_classBy d σ t f b w ht hw hf hb2 hlt) rfl rfl rfl rfl rfl rfl rfl (Nat.le_of_ble_eq_true rfl) (by omega) ?_
          refine GS.icmp_ne rfl (fun c55 => ?_) (fun c55 => ?_)
          · have hx := fun h => c55 ((clM_eq hb).mpr h)
            refine GS.run [] 4 rfl ?_
            rw [nI_1]
            first
              | exact ih24 _ (by omega) (w + 1) (by omega) 1 (am_b_1 ⟨hy.1, fun v hv => by
                  by_cases h : v = w
                  · rw [h]; exact hx
                  · exact hy.2 v (by omega)⟩).symm rfl
              | exact ih24 _ (by omega) (w + 1) (by omega) 0 (am_b_0 (fun h => hx (h.2 w (by omega)))).symm rfl
          · have hx := (clM_eq hb).mp c55
            refine GS.run [] 5 rfl ?_
            rw [nI_1]
            first
              | exact ih24 _ (by omega) (w + 1) (by omega) 1 (am_b_1 ⟨hy.1, fun v hv => by
                  by_cases h : v = w
                  · rw [h]; exact hx
                  · exact hy.2 v (by omega)⟩).symm rfl
              | exact ih24 _ (by omega) (w + 1) (by omega) 0 (am_b_0 (fun h => hx (h.2 w (by omega)))).symm rfl
  refine GS.run [] 3 rfl ?_
  refine GS.ald (a) rfl rfl (rfl) (by omega) ?_
  rw [hf a ha]
  refine GS.run [] 3 rfl ?_
  refine GS.ald (b) rfl rfl (rfl) (by omega) ?_
  rw [hf b hb2]
  refine GS.icmp_ne rfl (fun c12 => ?_) (fun c12 => ?_)
  · have e0 : ¬ f a = f b := fun h => c12 (by rw [h])
    refine GS.run [] 4 rfl ?_
    first
      | exact loop24 _ 0 (Nat.zero_le _) 1 (am_b_1 ⟨e0, fun v hv => absurd hv (Nat.not_lt_zero _)⟩).symm rfl
      | exact loop24 _ 0 (Nat.zero_le _) 0 (am_b_0 (fun h => e0 h.1)).symm rfl
  · have e0 : f a = f b := (nI_eq (by have := hb a; omega) (by have := hb b; omega)).mp c12
    refine GS.run [] 5 rfl ?_
    first
      | exact loop24 _ 0 (Nat.zero_le _) 1 (am_b_1 ⟨e0, fun v hv => absurd hv (Nat.not_lt_zero _)⟩).symm rfl
      | exact loop24 _ 0 (Nat.zero_le _) 0 (am_b_0 (fun h => e0 h.1)).symm rfl
theorem ufst_is {p : Nat → Bool} {k : Nat} (hk : p k = true) (hl : ∀ i, i < k → p i = false) : ∀ {j : Nat}, k < j → ufst p j = some k := by
  intro j
  induction j with
  | zero => intro h; omega
  | succ j ih =>
    intro h
    rw [ufst]
    by_cases e : k = j
    · subst e
      have hn : ufst p k = none := by
        cases e2 : ufst p k with
        | none => rfl
        | some z =>
          obtain ⟨z1, z2, -⟩ := ufst_some e2
          rw [hl z z1] at z2; cases z2
      rw [hn]
      exact if_pos hk
    · rw [ih (by omega)]
theorem ufst_isN {p : Nat → Bool} {j : Nat} (hl : ∀ i, i < j → p i = false) : ufst p j = none := by
  cases e2 : ufst p j with
  | none => rfl
  | some z =>
    obtain ⟨z1, z2, -⟩ := ufst_some e2
    rw [hl z z1] at z2; cases z2
/-- what the search downward has found: the least so far -/
def fndV (p : Nat → Bool) (g : Nat → Nat) (i j : Nat) (v : Int32) : Prop := (∃ k, j ≤ k ∧ k < i ∧ p k = true ∧ (∀ x, j ≤ x → x < k → p x = false) ∧ v = nI (g k)) ∨ ((∀ x, j ≤ x → x < i → p x = false) ∧ v = -1)
theorem fnd_yes {p : Nat → Bool} {g : Nat → Nat} {i j : Nat} (h : p (j - 1) = true) (hj : 0 < j) (hi : j ≤ i) : fndV p g i (j - 1) (nI (g (j - 1))) := Or.inl ⟨j - 1, Nat.le_refl _, by omega, h, fun x h1 h2 => by omega, rfl⟩
theorem fnd_no {p : Nat → Bool} {g : Nat → Nat} {i j : Nat} {v : Int32} (h : p (j - 1) = false) (hj : 0 < j) (hv : fndV p g i j v) : fndV p g i (j - 1) v := by
  rcases hv with ⟨k, k1, k2, k3, k4, k5⟩ | ⟨h1, h2⟩
  · refine Or.inl ⟨k, by omega, k2, k3, fun x x1 x2 => ?_, k5⟩
    by_cases e : x = j - 1
    · rw [e]; exact h
    · exact k4 x (by omega) x2
  · refine Or.inr ⟨fun x x1 x2 => ?_, h2⟩
    by_cases e : x = j - 1
    · rw [e]; exact h
    · exact h1 x (by omega) x2
theorem c_splits (d : Nat) (σ : am_S) (t : Tn) (f : Nat → Nat) (ht : townM 73 0 σ t) (hw : wfT t) (hf : cols 78 σ f (tN t)) (hb : ∀ c, f c < 1000) : CallS mX12_splits (d + 3) [.ref 69] σ (fun x σ' => x = some (.int (nI (nb (fun a b => decide (alm t f a b)) (tN t)).1)) ∧ cols 78 σ' (nb (fun a b => decide (alm t f a b)) (tN t)).2 (tN t) ∧ sameM [78, 79] [] σ σ') := by
  refine CallS.of kX12_splits pX12_splits [.ref 69, .retAddr 0, .retAddr 0, .retAddr 0, .retAddr 0] rfl (Nat.le_of_ble_eq_true rfl) ?_
  have h8 := hw.1
  refine GS.run [] 4 rfl ?_
  have loop4 : ∀ (fu : Nat) (i : Nat) (σi : am_S) (a3 a4 : Value) (hi : i ≤ tN t) (hs : sameM [78, 79] [] σ σi) (h78 : σi 78 = σ 78) (h79 : cols 79 σi (nb (fun a b => decide (alm t f a b)) i).2 i), tN t - i = fu → GS none mX12_splits (d + 3) (fun x σ' => x = some (.int (nI (nb (fun a b => decide (alm t f a b)) (tN t)).1)) ∧ cols 78 σ' (nb (fun a b => decide (alm t f a b)) (tN t)).2 (tN t) ∧ sameM [78, 79] [] σ σ') 4 [.ref 69, .int (nI (nb (fun a b => decide (alm t f a b)) i).1), .int (nI i), .retAddr 0, .retAddr 0] [] σi := by
    intro fu
    induction fu using Nat.strongRecOn with
    | ind fu ih4 =>
      intro i σi a3 a4 hi hs h78 h79 hfu
      have hti : townM 73 0 σi t := sameM_town hs (by decide) ht
      have hfi : cols 78 σi f (tN t) := fun c hc => (congrFun h78 c).trans (hf c hc)
      refine GS.run [] 4 rfl ?_
      refine GS.ald (0) rfl rfl (rfl) (by omega) ?_
      rw [m_n hti]
      refine GS.icmp_ge rfl (fun c11 => ?_) (fun c11 => ?_)
      · have e : i = tN t := by have := (nI_leI (by omega) (by omega)).mp c11; omega
        subst e
        refine GS.run [] 2 rfl ?_
        have loop89 : ∀ (fu : Nat) (c : Nat) (σc : am_S) (hc : c ≤ tN t) (hsc : sameM [78, 79] [] σ σc) (hc9 : cols 79 σc (nb (fun a b => decide (alm t f a b)) (tN t)).2 (tN t)) (hc8 : cols 78 σc (nb (fun a b => decide (alm t f a b)) (tN t)).2 c), tN t - c = fu → GS none mX12_splits (d + 3) (fun x σ' => x = some (.int (nI (nb (fun a b => decide (alm t f a b)) (tN t)).1)) ∧ cols 78 σ' (nb (fun a b => decide (alm t f a b)) (tN t)).2 (tN t) ∧ sameM [78, 79] [] σ σ') 89 [.ref 69, .int (nI (nb (fun a b => decide (alm t f a b)) (tN t)).1), .int (nI c), .retAddr 0, .retAddr 0] [] σc := by
          intro fu
          induction fu using Nat.strongRecOn with
          | ind fu ih89 =>
            intro c σc hc hsc hc9 hc8 hfu
            have htc : townM 73 0 σc t := sameM_town hsc (by decide) ht
            refine GS.run [] 4 rfl ?_
            refine GS.ald (0) rfl rfl (rfl) (by omega) ?_
            rw [m_n htc]
            refine GS.icmp_ge rfl (fun c96 => ?_) (fun c96 => ?_)
            · have e : c = tN t := by have := (nI_leI (by omega) (by omega)).mp c96; omega
              subst e
              refine GS.run [] 1 rfl ?_
              refine GS.iret rfl rfl (rfl) ?_
              exact ⟨rfl, hc8, hsc⟩
            · have hlc : c < tN t := (nI_gtI (by omega) (by omega)).mp c96
              refine GS.run [] 6 rfl ?_
              refine GS.ald (c) rfl rfl (rfl) (by omega) ?_
              rw [hc9 c hlc]
              refine GS.ast (c) rfl rfl (rfl) (by omega) ?_
              refine GS.run [] 2 rfl ?_
              rw [nI_1]
              refine ih89 _ (by omega) (c + 1) _ (by omega) (hsc.cell (by decide) (by decide)) (fun x hx => hc9 x hx) (fun x hx => ?_) rfl
              rw [am_s1_eq]
              by_cases h : x = c
              · rw [h, upd_eq]
              · rw [upd_ne _ _ h]; exact hc8 x (by omega)
        exact loop89 _ 0 _ (Nat.zero_le _) hs h79 (fun c hc => absurd hc (Nat.not_lt_zero _)) rfl
      · have hl : i < tN t := (nI_gtI (by omega) (by omega)).mp c11
        refine GS.run [] 6 rfl ?_
        have loop21 : ∀ (fu : Nat) (j : Nat) (v : Int32) (hji : j ≤ i) (hv : fndV (fun k => (fun a b => decide (alm t f a b)) k i) (nb (fun a b => decide (alm t f a b)) i).2 i j v), j = fu → GS none mX12_splits (d + 3) (fun x σ' => x = some (.int (nI (nb (fun a b => decide (alm t f a b)) (tN t)).1)) ∧ cols 78 σ' (nb (fun a b => decide (alm t f a b)) (tN t)).2 (tN t) ∧ sameM [78, 79] [] σ σ') 21 [.ref 69, .int (nI (nb (fun a b => decide (alm t f a b)) i).1), .int (nI i), .int v, .int (nI j - 1)] [] σi := by
          intro fu
          induction fu using Nat.strongRecOn with
          | ind fu ih21 =>
            intro j v hji hv hfu
            refine GS.run [] 1 rfl ?_
            refine GS.if_lt rfl (fun c23 => ?_) (fun c23 => ?_)
            · have hz : j = 0 := (pred_lt (by omega)).mp c23
              subst hz
              rcases hv with ⟨k, -, k2, k3, k4, rfl⟩ | ⟨hall, rfl⟩
              · have hu : ufst (fun k => (fun a b => decide (alm t f a b)) k i) i = some k := ufst_is (k := k) k3 (fun x hx => k4 x (Nat.zero_le _) hx) k2
                have hnb : nb (fun a b => decide (alm t f a b)) (i + 1) = ((nb (fun a b => decide (alm t f a b)) i).1, va_up (nb (fun a b => decide (alm t f a b)) i).2 i ((nb (fun a b => decide (alm t f a b)) i).2 k)) := by rw [nb, hu]
                have hgk : (nb (fun a b => decide (alm t f a b)) i).2 k < 1000 := by have := nb_lt (p := (fun a b => decide (alm t f a b))) (j := i) (c := k); omega
                refine GS.run [] 4 rfl ?_
                refine GS.if_ge rfl (fun c60 => ?_) (fun q => absurd (nI_pos' (by omega)) q)
                refine GS.run [] 1 rfl ?_
                refine GS.ast (i) rfl rfl (rfl) (by omega) ?_
                refine GS.run [] 2 rfl ?_
                refine GS.if_ge rfl (fun c71 => ?_) (fun q => absurd (nI_pos' (by omega)) q)
                refine GS.run [] 5 rfl ?_
                rw [show nI i + 1 = nI (i + 1) from nI_1 i]
                first
                  | (rw [show nI (nb (fun a b => decide (alm t f a b)) i).1 + 1 = nI (nb (fun a b => decide (alm t f a b)) (i + 1)).1 by rw [hnb, nI_1]]
                     refine GS.weak (by exact ⟨Or.inr rfl, Or.inr rfl, Or.inr rfl, Or.inl rfl, Or.inl rfl, trivial⟩) (ih4 _ (by omega) (i + 1) _ Value.null Value.null (by omega) (hs.cell (by decide) (by decide)) h78 (fun x hx => ?_) rfl)
                     show upd (σi 79) i _ x = _
                     rw [hnb]
                     by_cases h : x = i
                     · rw [h, upd_eq]; exact congrArg nI (va_eq _ _ _).symm
                     · rw [upd_ne _ _ h, h79 x (by omega)]; exact congrArg nI (va_ne _ _ h).symm)
                  | (rw [show nI (nb (fun a b => decide (alm t f a b)) i).1 + 0 = nI (nb (fun a b => decide (alm t f a b)) (i + 1)).1 by rw [hnb]; exact nI_add _ 0]
                     refine GS.weak (by exact ⟨Or.inr rfl, Or.inr rfl, Or.inr rfl, Or.inl rfl, Or.inl rfl, trivial⟩) (ih4 _ (by omega) (i + 1) _ Value.null Value.null (by omega) (hs.cell (by decide) (by decide)) h78 (fun x hx => ?_) rfl)
                     show upd (σi 79) i _ x = _
                     rw [hnb]
                     by_cases h : x = i
                     · rw [h, upd_eq]; exact congrArg nI (va_eq _ _ _).symm
                     · rw [upd_ne _ _ h, h79 x (by omega)]; exact congrArg nI (va_ne _ _ h).symm)
              · have hu : ufst (fun k => (fun a b => decide (alm t f a b)) k i) i = none := ufst_isN (fun x hx => hall x (Nat.zero_le _) hx)
                have hnb : nb (fun a b => decide (alm t f a b)) (i + 1) = ((nb (fun a b => decide (alm t f a b)) i).1 + 1, va_up (nb (fun a b => decide (alm t f a b)) i).2 i (nb (fun a b => decide (alm t f a b)) i).1) := by rw [nb, hu]
                refine GS.run [] 4 rfl ?_
                refine GS.if_ge rfl (fun q => absurd q (by decide)) (fun c60 => ?_)
                refine GS.run [] 2 rfl ?_
                refine GS.ast (i) rfl rfl (rfl) (by omega) ?_
                refine GS.run [] 2 rfl ?_
                refine GS.if_ge rfl (fun q => absurd q (by decide)) (fun c71 => ?_)
                refine GS.run [] 6 rfl ?_
                rw [show nI i + 1 = nI (i + 1) from nI_1 i]
                first
                  | (rw [show nI (nb (fun a b => decide (alm t f a b)) i).1 + 1 = nI (nb (fun a b => decide (alm t f a b)) (i + 1)).1 by rw [hnb, nI_1]]
                     refine GS.weak (by exact ⟨Or.inr rfl, Or.inr rfl, Or.inr rfl, Or.inl rfl, Or.inl rfl, trivial⟩) (ih4 _ (by omega) (i + 1) _ Value.null Value.null (by omega) (hs.cell (by decide) (by decide)) h78 (fun x hx => ?_) rfl)
                     show upd (σi 79) i _ x = _
                     rw [hnb]
                     by_cases h : x = i
                     · rw [h, upd_eq]; exact congrArg nI (va_eq _ _ _).symm
                     · rw [upd_ne _ _ h, h79 x (by omega)]; exact congrArg nI (va_ne _ _ h).symm)
                  | (rw [show nI (nb (fun a b => decide (alm t f a b)) i).1 + 0 = nI (nb (fun a b => decide (alm t f a b)) (i + 1)).1 by rw [hnb]; exact nI_add _ 0]
                     refine GS.weak (by exact ⟨Or.inr rfl, Or.inr rfl, Or.inr rfl, Or.inl rfl, Or.inl rfl, trivial⟩) (ih4 _ (by omega) (i + 1) _ Value.null Value.null (by omega) (hs.cell (by decide) (by decide)) h78 (fun x hx => ?_) rfl)
                     show upd (σi 79) i _ x = _
                     rw [hnb]
                     by_cases h : x = i
                     · rw [h, upd_eq]; exact congrArg nI (va_eq _ _ _).symm
                     · rw [upd_ne _ _ h, h79 x (by omega)]; exact congrArg nI (va_ne _ _ h).symm)
            · have hj0 : 0 < j := by have := mt (pred_lt (j := j) (by omega)).mpr c23; omega
              refine GS.run [] 3 rfl ?_
              rw [show nI j - 1 = nI (j - 1) from pk_sub (a := j) (b := 1) hj0]
              refine GS.run [] 0 rfl ?_
              refine GS.cV oX12_areAlike (c_malike d σi t f (j - 1) i hti hw hfi hb (by omega) hl) rfl rfl rfl rfl rfl rfl rfl (Nat.le_of_ble_eq_true rfl) (by omega) ?_
              refine GS.if_eq rfl (fun c33 => ?_) (fun c33 => ?_)
              · have k1 : ¬ alm t f (j - 1) i := am_b0.mp c33
                have hnew := fnd_no (p := fun k => (fun a b => decide (alm t f a b)) k i) (decide_eq_false k1) hj0 hv
                refine GS.run [] 4 rfl ?_
                rw [show nI (j - 1) + -1 = nI (j - 1) - 1 from (Int32.sub_eq_add_neg _ _).symm]
                exact ih21 _ (by omega) (j - 1) _ (by omega) hnew rfl
              · have k1 : alm t f (j - 1) i := am_bT c33
                have hnew := fnd_yes (p := fun k => (fun a b => decide (alm t f a b)) k i) (g := (nb (fun a b => decide (alm t f a b)) i).2) (decide_eq_true k1) hj0 hji
                refine GS.run [] 3 rfl ?_
                refine GS.ald (j - 1) rfl rfl (rfl) (by omega) ?_
                rw [h79 (j - 1) (by omega)]
                refine GS.run [] 4 rfl ?_
                rw [show nI (j - 1) + -1 = nI (j - 1) - 1 from (Int32.sub_eq_add_neg _ _).symm]
                exact ih21 _ (by omega) (j - 1) _ (by omega) hnew rfl
        exact loop21 _ i (-1) (Nat.le_refl _) (Or.inr ⟨fun x h1 h2 => by omega, rfl⟩) rfl
  exact loop4 _ 0 σ Value.null Value.null (Nat.zero_le _) sameM.rf rfl (fun c hc => absurd hc (Nat.not_lt_zero _)) rfl
theorem colM_lt {t : Tn} {k c : Nat} (hw : wfT t) : (colM t k).2 c < 1000 := by
  have h8 := hw.1
  cases k with
  | zero => exact Nat.mod_lt _ (by omega)
  | succ k =>
    rw [colM]
    have := nb_lt (p := fun a b => decide (alm t (colM t k).2 a b)) (j := tN t) (c := c)
    omega
theorem p_apart_m (d : Nat) (σ : am_S) (t : Tn) (c what : Int32) (ht : townM 73 0 σ t) (hw : wfT t)  : CallS mX12_apart (d + 4) [.ref 69, .int c, .int what] σ (fun x σ' => x = some (.int (qApart t c what)) ∧ sameM [78, 79] [0] σ σ') := by
  refine CallS.of kX12_apart pX12_apart [.ref 69, .int c, .int what, .retAddr 0, .retAddr 0] rfl (Nat.le_of_ble_eq_true rfl) ?_
  have h8 := hw.1
  refine GS.run [] 5 rfl ?_
  refine GS.cV oX12_isCorner (c_isCorner (d + 2) (am_s1 σ 69 (upd (σ 69) 0 0)) t c ht hw) rfl rfl rfl rfl rfl rfl rfl (Nat.le_of_ble_eq_true rfl) (by omega) ?_
  refine GS.if_eq rfl (fun c10 => ?_) (fun c10 => ?_)
  · have hbad : ¬ (okc t c ∧ okb what) := fun h => am_b0.mp c10 h.1
    refine GS.run [] 1 rfl ?_
    refine GS.iret rfl rfl (rfl) ?_
    exact ⟨by unfold qApart; rw [if_neg hbad], sameM.rf.fld (by decide)⟩
  · have g1 : okc t c := am_bT c10
    refine GS.run [] 4 rfl ?_
    refine GS.cS oX12_in (c_inB (d + 3) (am_s1 σ 69 (upd (σ 69) 0 0)) what) rfl rfl rfl rfl (Nat.le_of_ble_eq_true rfl) (by omega) ?_
    refine GS.if_ne rfl (fun c20 => ?_) (fun c20 => ?_)
    · have g2 : okb what := am_bT c20
      obtain ⟨a, ha, rfl⟩ := okc_nat g1
      have ec : cn (nI a) = a := cn_nI (by omega)
      have s0 : sameM [78, 79] [0] σ (am_s1 σ 69 (upd (σ 69) 0 0)) := sameM.rf.fld (by decide)
      refine GS.run [] 2 rfl ?_
      have loop28 : ∀ (fu : Nat) (i : Nat) (σi : am_S) (hi : i ≤ 12) (hs : sameM [78, 79] [0] σ σi) (h73 : σi 73 = σ 73) (hci : ∀ x, x < i → σi 78 x = σ 73 (14 + x)), 12 - i = fu → GS none mX12_apart (d + 4) (fun x σ' => x = some (.int (qApart t (nI a) what)) ∧ sameM [78, 79] [0] σ σ') 28 [.ref 69, .int (nI a), .int what, .int (nI i), .retAddr 0] [] σi := by
        intro fu
        induction fu using Nat.strongRecOn with
        | ind fu ih28 =>
          intro i σi hi hs h73 hci hfu
          refine GS.run [] 2 rfl ?_
          refine GS.icmp_ge rfl (fun c31 => ?_) (fun c31 => ?_)
          · have e : i = 12 := by have := (nI_leI (a := 12) (by omega) (by omega)).mp c31; omega
            subst e
            refine GS.run [] 4 rfl ?_
            have loop60 : ∀ (fu : Nat) (k : Nat) (σk : am_S) (hk : k ≤ 13) (hsk : sameM [78, 79] [0] σ σk) (hck : cols 78 σk (colM t k).2 (tN t)), 13 - k = fu → GS none mX12_apart (d + 4) (fun x σ' => x = some (.int (qApart t (nI a) what)) ∧ sameM [78, 79] [0] σ σ') 60 [.ref 69, .int (nI a), .int what, .int (nI (colM t k).1), .int (nI k)] [] σk := by
              intro fu
              induction fu using Nat.strongRecOn with
              | ind fu ih60 =>
                intro k σk hk hsk hck hfu
                have htk : townM 73 0 σk t := sameM_town hsk (by decide) ht
                refine GS.run [] 2 rfl ?_
                refine GS.icmp_ge rfl (fun c64 => ?_) (fun c64 => ?_)
                · have e : k = 13 := by have := (nI_leI (a := 13) (by omega) (by omega)).mp c64; omega
                  subst e
                  refine GS.run [] 1 rfl ?_
                  have hqa := ap_eq hw (by omega)
                  rcases g2 with rfl | rfl
                  · refine GS.if_ne rfl (fun q => absurd (rfl) q) (fun c79 => ?_)
                    refine GS.run [] 3 rfl ?_
                    refine GS.ald (a) rfl rfl (rfl) (by omega) ?_
                    rw [hck a ha]
                    refine GS.run [] 1 rfl ?_
                    refine GS.iret rfl rfl (rfl) ?_
                    refine ⟨congrArg (fun z => some (Value.int z)) ?_, hsk⟩
                    unfold qApart
                    rw [if_pos ⟨g1, by decide⟩, ec, hqa]
                    rfl
                  · refine GS.if_ne rfl (fun c79 => ?_) (fun q => absurd q (by decide))
                    refine GS.run [] 1 rfl ?_
                    refine GS.iret rfl rfl (rfl) ?_
                    refine ⟨congrArg (fun z => some (Value.int z)) ?_, hsk⟩
                    unfold qApart
                    rw [if_pos ⟨g1, by decide⟩, hqa]
                    rfl
                · have hl : k < 13 := (nI_gtI (a := 13) (by omega) (by omega)).mp c64
                  refine GS.run [] 1 rfl ?_
                  refine GS.callV oX12_splits (c_splits d σk t (colM t k).2 htk hw hck (fun c => colM_lt hw)) rfl rfl rfl rfl rfl rfl rfl (Nat.le_of_ble_eq_true rfl) (by omega) (fun v68 σ68 hq68 => ?_)
                  obtain ⟨rfl, f1, f2⟩ := hq68
                  refine GS.run [] 3 rfl ?_
                  rw [nI_1]
                  have e1 : nb (fun a b => decide (alm t (colM t k).2 a b)) (tN t) = colM t (k + 1) := by rw [colM]
                  rw [e1] at f1 ⊢
                  exact ih60 _ (by omega) (k + 1) _ (by omega) (hsk.trans (f2.sub (by decide) (by decide))) f1 rfl
            exact loop60 _ 0 σi (Nat.zero_le _) hs (fun x hx => by
              rw [hci x (by omega)]
              show σ 73 (14 + x) = nI (tM t x % 1000)
              have h9 := (hw.2.2 x hx).2.1
              rw [m_mk ht hx, Nat.mod_eq_of_lt (by omega)]) rfl
          · have hl : i < 12 := (nI_gtI (a := 12) (by omega) (by omega)).mp c31
            refine GS.run [] 8 rfl ?_
            refine GS.ald (14 + i) rfl rfl (he_14) (by omega) ?_
            refine GS.ast (i) rfl rfl (rfl) (by omega) ?_
            refine GS.run [] 2 rfl ?_
            rw [nI_1]
            refine ih28 _ (by omega) (i + 1) _ (by omega) (hs.cell (by decide) (by decide)) h73 (fun x hx => ?_) rfl
            rw [am_s1_eq]
            by_cases h : x = i
            · rw [h, upd_eq, h73]
            · rw [upd_ne _ _ h]; exact hci x (by omega)
      exact loop28 _ 0 _ (Nat.zero_le _) s0 rfl (fun x hx => absurd hx (Nat.not_lt_zero _)) rfl
    · have hbad : ¬ (okc t c ∧ okb what) := fun h => am_b0.mp c20 h.2
      refine GS.run [] 1 rfl ?_
      refine GS.iret rfl rfl (rfl) ?_
      exact ⟨by unfold qApart; rw [if_neg hbad], sameM.rf.fld (by decide)⟩
