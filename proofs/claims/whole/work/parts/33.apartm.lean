def pwd (w : Nat) : Nat := if w < 2 then w else 18 + w
def clM (f : Nat → Nat) (o : Option Nat) : Int32 := match o with
  | none => -1
  | some x => nI (f x)
theorem nI_ne_m1 {n : Nat} (h : n < 2 ^ 31) : nI n ≠ -1 := fun e => by
  have := congrArg Int32.toInt e
  rw [nI_toInt h, show (-1 : Int32).toInt = -1 from rfl] at this
  omega
theorem clM_eq {f : Nat → Nat} {x y : Option Nat} (h : ∀ a, f a < 1000) : clM f x = clM f y ↔ x.map f = y.map f := by
  have h1 : ∀ a, f a < 2 ^ 31 := fun a => by have := h a; omega
  cases x <;> cases y
  · exact ⟨fun _ => rfl, fun _ => rfl⟩
  · exact ⟨fun q => absurd q.symm (nI_ne_m1 (h1 _)), fun q => (by cases q)⟩
  · exact ⟨fun q => absurd q (nI_ne_m1 (h1 _)), fun q => (by cases q)⟩
  · rename_i a b
    show nI (f a) = nI (f b) ↔ some (f a) = some (f b)
    rw [Option.some.injEq]
    exact nI_eq (h1 _) (h1 _)
theorem cut12 {w : Nat} (h : w < 12) : w = 0 ∨ w = 1 ∨ ∃ m, m < 10 ∧ w = m + 2 := by
  rcases (by omega : w = 0 ∨ w = 1 ∨ 2 ≤ w) with h1 | h1 | h1
  · exact Or.inl h1
  · exact Or.inr (Or.inl h1)
  · exact Or.inr (Or.inr ⟨w - 2, by omega, by omega⟩)
theorem c_pword (d : Nat) (σ : am_S) (w : Nat) (h : w < 12) : CallS mX12_plainWord (d) [.int (nI w)] σ (am_det (some (.int (nI (pwd w)))) σ) := by
  refine CallS.of kX12_plainWord pX12_plainWord [.int (nI w)] rfl (Nat.le_of_ble_eq_true rfl) ?_
  refine GS.run [] 2 rfl ?_
  refine GS.icmp_ge rfl (fun c2 => ?_) (fun c2 => ?_)
  · have h2 : ¬ w < 2 := by have := (nI_leI (a := 2) (by omega) (by omega)).mp c2; omega
    refine GS.run [] 5 rfl ?_
    refine GS.iret rfl rfl (rfl) ?_
    first
      | exact ⟨by unfold pwd; rw [if_pos h2], rfl⟩
      | exact ⟨by rw [show (20 : Int32) + nI w = nI (20 + w) from nI_add 20 w, show nI (20 + w) - 2 = nI (20 + w - 2) from pk_sub (a := 20 + w) (b := 2) (by omega)]; unfold pwd; rw [if_neg h2, show 20 + w - 2 = 18 + w by omega], rfl⟩
  · have h2 : w < 2 := (nI_gtI (a := 2) (by omega) (by omega)).mp c2
    refine GS.run [] 2 rfl ?_
    refine GS.iret rfl rfl (rfl) ?_
    first
      | exact ⟨by unfold pwd; rw [if_pos h2], rfl⟩
      | exact ⟨by rw [show (20 : Int32) + nI w = nI (20 + w) from nI_add 20 w, show nI (20 + w) - 2 = nI (20 + w - 2) from pk_sub (a := 20 + w) (b := 2) (by omega)]; unfold pwd; rw [if_neg h2, show 20 + w - 2 = 18 + w by omega], rfl⟩
theorem c_classBy (d : Nat) (σ : am_S) (t : Tn) (f : Nat → Nat) (c w : Nat) (ht : townM 73 0 σ t) (hw : wfT t) (hf : cols 78 σ f (tN t)) (hc : c < tN t) (hww : w < 12) : CallS mX12_classBy (d + 1) [.ref 69, .int (nI c), .int (nI (pwd w))] σ (am_det (some (.int (clM f (gl t c w)))) σ) := by
  refine CallS.of kX12_classBy pX12_classBy [.ref 69, .int (nI c), .int (nI (pwd w)), .retAddr 0] rfl (Nat.le_of_ble_eq_true rfl) ?_
  have h8 := hw.1
  rcases cut12 hww with rfl | rfl | ⟨m, hm, rfl⟩
  · have hgl : gl t c 0 = (slope t c true).map (tB t c) := rfl
    have hlt : ∀ k, slope t c true = some k → k < tD t c := fun k => slope_lt
    refine GS.run [] 2 rfl ?_
    refine GS.icmp_ge rfl (fun q => absurd q (by decide)) (fun c2 => ?_)
    refine GS.run [] 3 rfl ?_
    refine GS.if_ne rfl (fun q => absurd (rfl) q) (fun c8 => ?_)
    refine GS.run [] 2 rfl ?_
    refine GS.cV oX12_slope (c_mslope d σ t c true ht hw hc) rfl rfl rfl rfl rfl rfl rfl (Nat.le_of_ble_eq_true rfl) (by omega) ?_
    refine GS.run [] 1 rfl ?_
    rw [hgl]
    cases ho : slope t c true
    · refine GS.run [] 2 rfl ?_
      refine GS.if_ge rfl (fun q => absurd q (by decide)) (fun c33 => ?_)
      refine GS.run [] 2 rfl ?_
      refine GS.iret rfl rfl (rfl) ?_
      exact ⟨rfl, rfl⟩
    · rename_i k
      have hk := hlt k ho
      have h6 := (hw.2.2 c hc).2.2.2.1
      have hbn := ((hw.2.2 c hc).2.2.2.2.1 k hk).1
      refine GS.run [] 2 rfl ?_
      refine GS.if_ge rfl (fun c33 => ?_) (fun q => absurd (nI_pos' (by omega)) q)
      refine GS.run [] 11 rfl ?_
      refine GS.ald (50 + 6 * c + k) rfl rfl (he_to) (by omega) ?_
      rw [m_to ht hc hk]
      refine GS.ald (tB t c k) rfl rfl (rfl) (by omega) ?_
      rw [hf _ hbn]
      refine GS.iret rfl rfl (rfl) ?_
      exact ⟨rfl, rfl⟩
  · have hgl : gl t c 1 = (slope t c false).map (tB t c) := rfl
    have hlt : ∀ k, slope t c false = some k → k < tD t c := fun k => slope_lt
    refine GS.run [] 2 rfl ?_
    refine GS.icmp_ge rfl (fun q => absurd q (by decide)) (fun c2 => ?_)
    refine GS.run [] 3 rfl ?_
    refine GS.if_ne rfl (fun c8 => ?_) (fun q => absurd q (by decide))
    refine GS.run [] 1 rfl ?_
    refine GS.cV oX12_slope (c_mslope d σ t c false ht hw hc) rfl rfl rfl rfl rfl rfl rfl (Nat.le_of_ble_eq_true rfl) (by omega) ?_
    refine GS.run [] 1 rfl ?_
    rw [hgl]
    cases ho : slope t c false
    · refine GS.run [] 2 rfl ?_
      refine GS.if_ge rfl (fun q => absurd q (by decide)) (fun c33 => ?_)
      refine GS.run [] 2 rfl ?_
      refine GS.iret rfl rfl (rfl) ?_
      exact ⟨rfl, rfl⟩
    · rename_i k
      have hk := hlt k ho
      have h6 := (hw.2.2 c hc).2.2.2.1
      have hbn := ((hw.2.2 c hc).2.2.2.2.1 k hk).1
      refine GS.run [] 2 rfl ?_
      refine GS.if_ge rfl (fun c33 => ?_) (fun q => absurd (nI_pos' (by omega)) q)
      refine GS.run [] 11 rfl ?_
      refine GS.ald (50 + 6 * c + k) rfl rfl (he_to) (by omega) ?_
      rw [m_to ht hc hk]
      refine GS.ald (tB t c k) rfl rfl (rfl) (by omega) ?_
      rw [hf _ hbn]
      refine GS.iret rfl rfl (rfl) ?_
      exact ⟨rfl, rfl⟩
  · have hpb : pwd (m + 2) < 1000 := by unfold pwd; rw [if_neg (by omega)]; omega
    have hgl : gl t c (m + 2) = (markedK t c m).map (tB t c) := by unfold gl; rw [if_neg (by omega), if_neg (by omega), Nat.add_sub_cancel]
    have hlt : ∀ k, markedK t c m = some k → k < tD t c := fun k => markedK_lt
    refine GS.run [] 2 rfl ?_
    refine GS.icmp_ge rfl (fun c2 => ?_) (fun q => absurd ((nI_leI (a := 3) (by omega) (by omega)).mpr (by unfold pwd; rw [if_neg (by omega)]; omega)) q)
    refine GS.run [] 5 rfl ?_
    rw [show nI (pwd (m + 2)) - 20 = nI m by unfold pwd; rw [if_neg (by omega)]; rw [show nI (18 + (m + 2)) - 20 = nI (18 + (m + 2) - 20) from pk_sub (a := 18 + (m + 2)) (b := 20) (by omega)]; congr 1; omega]
    refine GS.run [] 0 rfl ?_
    refine GS.cV oX12_marked (c_mmarked d σ t c m ht hw hc (by omega)) rfl rfl rfl rfl rfl rfl rfl (Nat.le_of_ble_eq_true rfl) (by omega) ?_
    rw [hgl]
    cases ho : markedK t c m
    · refine GS.run [] 2 rfl ?_
      refine GS.if_ge rfl (fun q => absurd q (by decide)) (fun c33 => ?_)
      refine GS.run [] 2 rfl ?_
      refine GS.iret rfl rfl (rfl) ?_
      exact ⟨rfl, rfl⟩
    · rename_i k
      have hk := hlt k ho
      have h6 := (hw.2.2 c hc).2.2.2.1
      have hbn := ((hw.2.2 c hc).2.2.2.2.1 k hk).1
      refine GS.run [] 2 rfl ?_
      refine GS.if_ge rfl (fun c33 => ?_) (fun q => absurd (nI_pos' (by omega)) q)
      refine GS.run [] 11 rfl ?_
      refine GS.ald (50 + 6 * c + k) rfl rfl (he_to) (by omega) ?_
      rw [m_to ht hc hk]
      refine GS.ald (tB t c k) rfl rfl (rfl) (by omega) ?_
      rw [hf _ hbn]
      refine GS.iret rfl rfl (rfl) ?_
      exact ⟨rfl, rfl⟩
theorem am_b_1 {p : Prop} [Decidable p] (h : p) : am_b p = 1 := if_pos h
theorem am_b_0 {p : Prop} [Decidable p] (h : ¬ p) : am_b p = 0 := if_neg h
theorem c_malike (d : Nat) (σ : am_S) (t : Tn) (f : Nat → Nat) (a b : Nat) (ht : townM 73 0 σ t) (hw : wfT t) (hf : cols 78 σ f (tN t)) (hb : ∀ c, f c < 1000) (ha : a < tN t) (hb2 : b < tN t) : CallS mX12_areAlike (d + 2) [.ref 69, .int (nI a), .int (nI b)] σ (am_det (some (.int (am_b (alm t f a b)))) σ) := by
  refine CallS.of kX12_areAlike pX12_areAlike [.ref 69, .int (nI a), .int (nI b), .retAddr 0, .retAddr 0] rfl (Nat.le_of_ble_eq_true rfl) ?_
  have h8 := hw.1
  have loop24 : ∀ (fu : Nat) (w : Nat) (hww : w ≤ 12) (q : Int32) (hq : q = am_b (f a = f b ∧ ∀ v, v < w → (gl t a v).map f = (gl t b v).map f)), 12 - w = fu → GS none mX12_areAlike (d + 2) (am_det (some (.int (am_b (alm t f a b)))) σ) 24 [.ref 69, .int (nI a), .int (nI b), .int q, .int (nI w)] [] σ := by
    intro fu
    induction fu using Nat.strongRecOn with
    | ind fu ih24 =>
      intro w hww q hq hfu
      refine GS.run [] 2 rfl ?_
      refine GS.icmp_ge rfl (fun c28 => ?_) (fun c28 => ?_)
      · have e : w = 12 := by have := (nI_leI (a := 12) (by omega) (by omega)).mp c28; omega
        subst e
        subst hq
        refine GS.run [] 1 rfl ?_
        refine GS.iret rfl rfl (nar_b _) ?_
        first
          | exact ⟨congrArg (fun z => some (Value.int z)) (am_b_congr Iff.rfl), rfl⟩
          | exact ⟨congrArg (fun z => some (Value.int z)) (am_b_congr ⟨fun h => absurd h hn, fun h => absurd ⟨h.1, fun v hv => h.2 v (by omega)⟩ hn⟩), rfl⟩
      · have hlt : w < 12 := (nI_gtI (a := 12) (by omega) (by omega)).mp c28
        refine GS.run [] 1 rfl ?_
        rw [hq]
        refine GS.run [] 0 rfl ?_
        refine GS.if_eq rfl (fun c32 => ?_) (fun c32 => ?_)
        · have hn := am_b0.mp c32
          refine GS.run [] 1 rfl ?_
          refine GS.iret rfl rfl (nar_b _) ?_
          first
            | exact ⟨congrArg (fun z => some (Value.int z)) (am_b_congr Iff.rfl), rfl⟩
            | exact ⟨congrArg (fun z => some (Value.int z)) (am_b_congr ⟨fun h => absurd h hn, fun h => absurd ⟨h.1, fun v hv => h.2 v (by omega)⟩ hn⟩), rfl⟩
        · have hy := am_bT c32
          refine GS.run [] 3 rfl ?_
          refine GS.cS oX12_plainWord (c_pword (d + 1) σ w hlt) rfl rfl rfl rfl (Nat.le_of_ble_eq_true rfl) (by omega) ?_
          refine GS.cV oX12_classBy (c_classBy d σ t f a w ht hw hf ha hlt) rfl rfl rfl rfl rfl rfl rfl (Nat.le_of_ble_eq_true rfl) (by omega) ?_
          refine GS.run [] 3 rfl ?_
          refine GS.cS oX12_plainWord (c_pword (d + 1) σ w hlt) rfl rfl rfl rfl (Nat.le_of_ble_eq_true rfl) (by omega) ?_
          refine GS.cV oX12_classBy (c_classBy d σ t f b w ht hw hf hb2 hlt) rfl rfl rfl rfl rfl rfl rfl (Nat.le_of_ble_eq_true rfl) (by omega) ?_
          refine GS.icmp_ne rfl (fun c55 => ?_) (fun c55 => ?_)
          · have hx := fun h => c55 ((clM_eq hb).mpr h)
            refine GS.run [] 4 rfl ?_
            rw [nI_1]
            first
              | exact ih24 _ (by omega) (w + 1) (by omega) 1 (am_b_1 ⟨hy.1, fun v hv => by
                  by_cases h : v = w
                  · rw [h]; exact hx
                  · exact hy.2 v (by omega)⟩).symm rfl
              | exact ih24 _ (by omega) (w + 1) (by omega) 0 (am_b_0 (fun h => hx (h.2 w (by omega)))).symm rfl
          · have hx := (clM_eq hb).mp c55
            refine GS.run [] 5 rfl ?_
            rw [nI_1]
            first
              | exact ih24 _ (by omega) (w + 1) (by omega) 1 (am_b_1 ⟨hy.1, fun v hv => by
                  by_cases h : v = w
                  · rw [h]; exact hx
                  · exact hy.2 v (by omega)⟩).symm rfl
              | exact ih24 _ (by omega) (w + 1) (by omega) 0 (am_b_0 (fun h => hx (h.2 w (by omega)))).symm rfl
  refine GS.run [] 3 rfl ?_
  refine GS.ald (a) rfl rfl (rfl) (by omega) ?_
  rw [hf a ha]
  refine GS.run [] 3 rfl ?_
  refine GS.ald (b) rfl rfl (rfl) (by omega) ?_
  rw [hf b hb2]
  refine GS.icmp_ne rfl (fun c12 => ?_) (fun c12 => ?_)
  · have e0 : ¬ f a = f b := fun h => c12 (by rw [h])
    refine GS.run [] 4 rfl ?_
    first
      | exact loop24 _ 0 (Nat.zero_le _) 1 (am_b_1 ⟨e0, fun v hv => absurd hv (Nat.not_lt_zero _)⟩).symm rfl
      | exact loop24 _ 0 (Nat.zero_le _) 0 (am_b_0 (fun h => e0 h.1)).symm rfl
  · have e0 : f a = f b := (nI_eq (by have := hb a; omega) (by have := hb b; omega)).mp c12
    refine GS.run [] 5 rfl ?_
    first
      | exact loop24 _ 0 (Nat.zero_le _) 1 (am_b_1 ⟨e0, fun v hv => absurd hv (Nat.not_lt_zero _)⟩).symm rfl
      | exact loop24 _ 0 (Nat.zero_le _) 0 (am_b_0 (fun h => e0 h.1)).symm rfl
