def plI (o : Option Nat) : Int32 := match o with
  | none => -1
  | some x => nI x
def frV (σ : am_S) (b : Bf) : Prop := σ 69 32 = nI (bC b) ∧ (∀ j, j < bC b → σ 83 j = nI (12 * (bQ b j / 8) + bQ b j % 8)) ∧ ∀ x y, x < 8 → y < 8 → σ 82 (12 * x + y) = plI (bD b (8 * x + y))
theorem he_p {x y : Nat} : (12 : Int32) * nI x + nI y = nI (12 * x + y) := by rw [show (12 : Int32) = nI 12 from rfl, pk_mul, nI_add]
theorem c_plainTo (d : Nat) (σ : am_S) (t : Tn) (c w : Nat) (ht : townM 73 0 σ t) (hw : wfT t) (hc : c < tN t) (hww : w < 12) : CallS mX12_plainTo (d + 1) [.ref 69, .int (nI c), .int (nI (pwd w))] σ (am_det (some (.int (plI (gl t c w)))) σ) := by
  refine CallS.of kX12_plainTo pX12_plainTo [.ref 69, .int (nI c), .int (nI (pwd w)), .retAddr 0] rfl (Nat.le_of_ble_eq_true rfl) ?_
  have h8 := hw.1
  rcases cut12 hww with rfl | rfl | ⟨m, hm, rfl⟩
  · have hgl : gl t c 0 = (slope t c true).map (tB t c) := rfl
    have hlt : ∀ k, slope t c true = some k → k < tD t c := fun k => slope_lt
    refine GS.run [] 2 rfl ?_
    refine GS.icmp_ge rfl (fun q => absurd q (by decide)) (fun c2 => ?_)
    refine GS.run [] 3 rfl ?_
    refine GS.if_ne rfl (fun q => absurd (rfl) q) (fun c8 => ?_)
    refine GS.run [] 2 rfl ?_
    refine GS.cV oX12_slope (c_mslope d σ t c true ht hw hc) rfl rfl rfl rfl rfl rfl rfl (Nat.le_of_ble_eq_true rfl) (by omega) ?_
    refine GS.run [] 1 rfl ?_
    rw [hgl]
    cases ho : slope t c true
    · refine GS.run [] 2 rfl ?_
      refine GS.if_ge rfl (fun q => absurd q (by decide)) (fun c33 => ?_)
      refine GS.run [] 2 rfl ?_
      refine GS.iret rfl rfl (rfl) ?_
      exact ⟨rfl, rfl⟩
    · rename_i k
      have hk := hlt k ho
      have h6 := (hw.2.2 c hc).2.2.2.1
      refine GS.run [] 2 rfl ?_
      refine GS.if_ge rfl (fun c33 => ?_) (fun q => absurd (nI_pos' (by omega)) q)
      refine GS.run [] 9 rfl ?_
      refine GS.ald (50 + 6 * c + k) rfl rfl (he_to) (by omega) ?_
      rw [m_to ht hc hk]
      refine GS.iret rfl rfl (rfl) ?_
      exact ⟨rfl, rfl⟩
  · have hgl : gl t c 1 = (slope t c false).map (tB t c) := rfl
    have hlt : ∀ k, slope t c false = some k → k < tD t c := fun k => slope_lt
    refine GS.run [] 2 rfl ?_
    refine GS.icmp_ge rfl (fun q => absurd q (by decide)) (fun c2 => ?_)
    refine GS.run [] 3 rfl ?_
    refine GS.if_ne rfl (fun c8 => ?_) (fun q => absurd q (by decide))
    refine GS.run [] 1 rfl ?_
    refine GS.cV oX12_slope (c_mslope d σ t c false ht hw hc) rfl rfl rfl rfl rfl rfl rfl (Nat.le_of_ble_eq_true rfl) (by omega) ?_
    refine GS.run [] 1 rfl ?_
    rw [hgl]
    cases ho : slope t c false
    · refine GS.run [] 2 rfl ?_
      refine GS.if_ge rfl (fun q => absurd q (by decide)) (fun c33 => ?_)
      refine GS.run [] 2 rfl ?_
      refine GS.iret rfl rfl (rfl) ?_
      exact ⟨rfl, rfl⟩
    · rename_i k
      have hk := hlt k ho
      have h6 := (hw.2.2 c hc).2.2.2.1
      refine GS.run [] 2 rfl ?_
      refine GS.if_ge rfl (fun c33 => ?_) (fun q => absurd (nI_pos' (by omega)) q)
      refine GS.run [] 9 rfl ?_
      refine GS.ald (50 + 6 * c + k) rfl rfl (he_to) (by omega) ?_
      rw [m_to ht hc hk]
      refine GS.iret rfl rfl (rfl) ?_
      exact ⟨rfl, rfl⟩
  · have hpb : pwd (m + 2) < 1000 := by unfold pwd; rw [if_neg (by omega)]; omega
    have hgl : gl t c (m + 2) = (markedK t c m).map (tB t c) := by unfold gl; rw [if_neg (by omega), if_neg (by omega), Nat.add_sub_cancel]
    have hlt : ∀ k, markedK t c m = some k → k < tD t c := fun k => markedK_lt
    refine GS.run [] 2 rfl ?_
    refine GS.icmp_ge rfl (fun c2 => ?_) (fun q => absurd ((nI_leI (a := 3) (by omega) (by omega)).mpr (by unfold pwd; rw [if_neg (by omega)]; omega)) q)
    refine GS.run [] 5 rfl ?_
    rw [show nI (pwd (m + 2)) - 20 = nI m by unfold pwd; rw [if_neg (by omega)]; rw [show nI (18 + (m + 2)) - 20 = nI (18 + (m + 2) - 20) from pk_sub (a := 18 + (m + 2)) (b := 20) (by omega)]; congr 1; omega]
    refine GS.run [] 0 rfl ?_
    refine GS.cV oX12_marked (c_mmarked d σ t c m ht hw hc (by omega)) rfl rfl rfl rfl rfl rfl rfl (Nat.le_of_ble_eq_true rfl) (by omega) ?_
    rw [hgl]
    cases ho : markedK t c m
    · refine GS.run [] 2 rfl ?_
      refine GS.if_ge rfl (fun q => absurd q (by decide)) (fun c33 => ?_)
      refine GS.run [] 2 rfl ?_
      refine GS.iret rfl rfl (rfl) ?_
      exact ⟨rfl, rfl⟩
    · rename_i k
      have hk := hlt k ho
      have h6 := (hw.2.2 c hc).2.2.2.1
      refine GS.run [] 2 rfl ?_
      refine GS.if_ge rfl (fun c33 => ?_) (fun q => absurd (nI_pos' (by omega)) q)
      refine GS.run [] 9 rfl ?_
      refine GS.ald (50 + 6 * c + k) rfl rfl (he_to) (by omega) ?_
      rw [m_to ht hc hk]
      refine GS.iret rfl rfl (rfl) ?_
      exact ⟨rfl, rfl⟩
def mdB (t : Tn) (b : Bf) (i : Nat) (v : Option Nat) : Prop := ((∀ j, j < bC b → ¬ dgP (bQ b j)) ∧ v = mtL t (65 - i) i b) ∨ ∃ P, i ≤ P ∧ P < bC b ∧ dgP (bQ b P) ∧ (∀ j, i ≤ j → j < P → ¬ dgP (bQ b j)) ∧ v = bD b (bQ b P)
def mdW (t : Tn) (bi b : Bf) (i w : Nat) (v : Option Nat) : Prop := ((∀ j, j < bC b → ¬ dgP (bQ b j)) ∧ mtE t (bQ bi i) (dsB bi i + 1) i w bi = some b ∧ v = mtL t (65 - i) i bi) ∨ ∃ P, i < P ∧ P < bC b ∧ dgP (bQ b P) ∧ (∀ j, i < j → j < P → ¬ dgP (bQ b j)) ∧ v = bD b (bQ b P)
theorem mtE_none {t : Tn} {s d i k : Nat} {b : Bf} (h : mtE t s d i k b = none) : ∀ m, mtE t s d i (k + m) b = none := by
  intro m
  induction m with
  | zero => exact h
  | succ m ih => rw [← Nat.add_assoc, mtE, ih]
theorem mtE_some {t : Tn} {s d i k : Nat} {b b' : Bf} (h : mtE t s d i k b = some b') : mtE t s d i (k + 1) b = (match nbP t s k with
    | none => some b'
    | some p => if dgP p then none else some (bN b' p d i k)) := by
  rw [mtE, h]
  cases nbP t s k <;> rfl
theorem mdW_0 {t : Tn} {b : Bf} {i : Nat} {v : Option Nat} (h : mdB t b i v) (hi : i < bC b) (hn : ¬ dgP (bQ b i)) : mdW t b b i 0 v := by
  rcases h with ⟨h1, h2⟩ | ⟨P, p1, p2, p3, p4, p5⟩
  · exact Or.inl ⟨h1, rfl, h2⟩
  · have : i ≠ P := fun e => hn (by rw [e]; exact p3)
    exact Or.inr ⟨P, by omega, p2, p3, fun j j1 j2 => p4 j (by omega) j2, p5⟩
theorem mdB_ret {t : Tn} {b : Bf} {i : Nat} {v : Option Nat} (h : mdB t b i v) (hi : i < bC b) (hn : dgP (bQ b i)) : v = bD b (bQ b i) := by
  rcases h with ⟨h1, -⟩ | ⟨P, p1, p2, p3, p4, p5⟩
  · exact absurd hn (h1 i hi)
  · by_cases e : i = P
    · rw [e]; exact p5
    · exact absurd hn (p4 i (Nat.le_refl _) (by omega))
theorem mdB_end {t : Tn} {b : Bf} {i : Nat} {v : Option Nat} (h : mdB t b i v) (hi : ¬ i < bC b) (h64 : i ≤ 64) : v = none := by
  rcases h with ⟨-, h2⟩ | ⟨P, p1, p2, -⟩
  · rw [h2, show 65 - i = 64 - i + 1 by omega, mtL_e hi]
  · omega
theorem mdB_12 {t : Tn} {bi b : Bf} {i : Nat} {v : Option Nat} (h : mdW t bi b i 12 v) (hi : i < bC bi) (h64 : i ≤ 64) : mdB t b (i + 1) v := by
  rcases h with ⟨h1, h2, h3⟩ | ⟨P, p1, p2, p3, p4, p5⟩
  · refine Or.inl ⟨h1, ?_⟩
    rw [h3, show 65 - i = 64 - i + 1 by omega, mtL_s hi, h2, show 65 - (i + 1) = 64 - i by omega]
  · exact Or.inr ⟨P, p1, p2, p3, fun j j1 j2 => p4 j j1 j2, p5⟩
theorem mdW_no {t : Tn} {bi b : Bf} {i w : Nat} {v : Option Nat} (h : mdW t bi b i w v) (hp : nbP t (bQ bi i) w = none) : mdW t bi b i (w + 1) v := by
  rcases h with ⟨h1, h2, h3⟩ | h
  · exact Or.inl ⟨h1, by rw [mtE_some h2, hp], h3⟩
  · exact Or.inr h
theorem mdW_yes {t : Tn} {bi b : Bf} {i w p : Nat} {v : Option Nat} (h : mdW t bi b i w v) (hwf : wfB 64 (okP t) b) (hp : nbP t (bQ bi i) w = some p) (hw : w < 12) (hi : i < bC bi) (hib : i < bC b) (h64 : i ≤ 64) : mdW t bi (bN b p (dsB bi i + 1) i w) i (w + 1) v := by
  rcases h with ⟨h1, h2, h3⟩ | ⟨P, p1, p2, p3, p4, p5⟩
  · have h4 := mtE_some h2
    rw [hp] at h4
    have h4 : mtE t (bQ bi i) (dsB bi i + 1) i (w + 1) bi = if dgP p then none else some (bN b p (dsB bi i + 1) i w) := h4
    by_cases hd : dgP p
    · rw [if_pos hd] at h4
      have hns : ¬ (bD b p).isSome = true := fun hs => by
        obtain ⟨j, j1, j2⟩ := hwf.2.2 p hs
        exact h1 j j1 (by rw [j2]; exact hd)
      have h12 := mtE_none h4 (12 - (w + 1))
      rw [show w + 1 + (12 - (w + 1)) = 12 by omega] at h12
      have hv : v = some (dsB bi i + 1) := by rw [h3, show 65 - i = 64 - i + 1 by omega, mtL_s hi, h12]
      rw [bN_new hns]
      refine Or.inr ⟨bC b, hib, Nat.lt_succ_self _, ?_, fun j j1 j2 => ?_, ?_⟩
      · show dgP (va_up (bQ b) (bC b) p (bC b))
        rw [va_eq]; exact hd
      · show ¬ dgP (va_up (bQ b) (bC b) p j)
        rw [va_ne _ _ (by omega)]; exact h1 j j2
      · show v = va_up (bD b) p (some (dsB bi i + 1)) (va_up (bQ b) (bC b) p (bC b))
        rw [va_eq, va_eq]; exact hv
    · rw [if_neg hd] at h4
      refine Or.inl ⟨fun j hj => ?_, h4, h3⟩
      by_cases hns : (bD b p).isSome = true
      · rw [bN_old hns] at hj ⊢; exact h1 j hj
      · rw [bN_new hns] at hj ⊢
        have hj2 : j < bC b + 1 := hj
        show ¬ dgP (va_up (bQ b) (bC b) p j)
        by_cases e : j = bC b
        · rw [e, va_eq]; exact hd
        · rw [va_ne _ _ e]; exact h1 j (by omega)
  · refine Or.inr ⟨P, p1, Nat.lt_of_lt_of_le p2 bN_C, ?_, fun j j1 j2 => ?_, ?_⟩
    · rw [bN_Q p2]; exact p3
    · rw [bN_Q (by omega)]; exact p4 j j1 j2
    · rw [bN_Q p2, bN_D]
      · exact p5
      · obtain ⟨-, -, e, e1, -⟩ := hwf.2.1 P p2
        rw [e1]; rfl
theorem frV_N {σ σ' : am_S} {b : Bf} {x y d p w : Nat} (h : frV σ b) (hx : x < 8) (hy : y < 8) (hn : ¬ (bD b (8 * x + y)).isSome = true) (e1 : σ' 82 = upd (σ 82) (12 * x + y) (nI d)) (e2 : σ' 83 = upd (σ 83) (bC b) (nI (12 * x + y))) (e3 : σ' 69 32 = nI (bC b + 1)) : frV σ' (bN b (8 * x + y) d p w) := by
  rw [bN_new hn]
  refine ⟨e3, fun j hj => ?_, fun u v hu hv => ?_⟩
  · rw [e2]
    show upd (σ 83) (bC b) (nI (12 * x + y)) j = nI (12 * (va_up (bQ b) (bC b) (8 * x + y) j / 8) + va_up (bQ b) (bC b) (8 * x + y) j % 8)
    have hj2 : j < bC b + 1 := hj
    by_cases e : j = bC b
    · rw [e, upd_eq, va_eq, show (8 * x + y) / 8 = x by omega, show (8 * x + y) % 8 = y by omega]
    · rw [upd_ne _ _ e, va_ne _ _ e]; exact h.2.1 j (by omega)
  · rw [e1]
    show upd (σ 82) (12 * x + y) (nI d) (12 * u + v) = plI (va_up (bD b) (8 * x + y) (some d) (8 * u + v))
    by_cases e : 12 * u + v = 12 * x + y
    · rw [e, upd_eq, show 8 * u + v = 8 * x + y by omega, va_eq]; rfl
    · rw [upd_ne _ _ e, va_ne _ _ (by omega)]; exact h.2.2 u v hu hv
