def plI (o : Option Nat) : Int32 := match o with
  | none => -1
  | some x => nI x
def frV (σ : am_S) (b : Bf) : Prop := σ 69 32 = nI (bC b) ∧ (∀ j, j < bC b → σ 83 j = nI (12 * (bQ b j / 8) + bQ b j % 8)) ∧ ∀ x y, x < 8 → y < 8 → σ 82 (12 * x + y) = plI (bD b (8 * x + y))
theorem he_p {x y : Nat} : (12 : Int32) * nI x + nI y = nI (12 * x + y) := by rw [show (12 : Int32) = nI 12 from rfl, pk_mul, nI_add]
theorem c_plainTo (d : Nat) (σ : am_S) (t : Tn) (c w : Nat) (ht : townM 73 0 σ t) (hw : wfT t) (hc : c < tN t) (hww : w < 12) : CallS mX12_plainTo (d + 1) [.ref 69, .int (nI c), .int (nI (pwd w))] σ (am_det (some (.int (plI (gl t c w)))) σ) := by
  refine CallS.of kX12_plainTo pX12_plainTo [.ref 69, .int (nI c), .int (nI (pwd w)), .retAddr 0] rfl (Nat.le_of_ble_eq_true rfl) ?_
  have h8 := hw.1
  rcases cut12 hww with rfl | rfl | ⟨m, hm, rfl⟩
  · have hgl : gl t c 0 = (slope t c true).map (tB t c) := rfl
    have hlt : ∀ k, slope t c true = some k → k < tD t c := fun k => slope_lt
    refine GS.run [] 2 rfl ?_
    refine GS.icmp_ge rfl (fun q => absurd q (by decide)) (fun c2 => ?_)
    refine GS.run [] 3 rfl ?_
    refine GS.if_ne rfl (fun q => absurd (rfl) q) (fun c8 => ?_)
    refine GS.run [] 2 rfl ?_
    refine GS.cV oX12_slope (c_mslope d σ t c true ht hw hc) rfl rfl rfl rfl rfl rfl rfl (Nat.le_of_ble_eq_true rfl) (by omega) ?_
    refine GS.run [] 1 rfl ?_
    rw [hgl]
    cases ho : slope t c true
    · refine GS.run [] 2 rfl ?_
      refine GS.if_ge rfl (fun q => absurd q (by decide)) (fun c33 => ?_)
      refine GS.run [] 2 rfl ?_
      refine GS.iret rfl rfl (rfl) ?_
      exact ⟨rfl, rfl⟩
    · rename_i k
      have hk := hlt k ho
      have h6 := (hw.2.2 c hc).2.2.2.1
      refine GS.run [] 2 rfl ?_
      refine GS.if_ge rfl (fun c33 => ?_) (fun q => absurd (nI_pos' (by omega)) q)
      refine GS.run [] 9 rfl ?_
      refine GS.ald (50 + 6 * c + k) rfl rfl (he_to) (by omega) ?_
      rw [m_to ht hc hk]
      refine GS.iret rfl rfl (rfl) ?_
      exact ⟨rfl, rfl⟩
  · have hgl : gl t c 1 = (slope t c false).map (tB t c) := rfl
    have hlt : ∀ k, slope t c false = some k → k < tD t c := fun k => slope_lt
    refine GS.run [] 2 rfl ?_
    refine GS.icmp_ge rfl (fun q => absurd q (by decide)) (fun c2 => ?_)
    refine GS.run [] 3 rfl ?_
    refine GS.if_ne rfl (fun c8 => ?_) (fun q => absurd q (by decide))
    refine GS.run [] 1 rfl ?_
    refine GS.cV oX12_slope (c_mslope d σ t c false ht hw hc) rfl rfl rfl rfl rfl rfl rfl (Nat.le_of_ble_eq_true rfl) (by omega) ?_
    refine GS.run [] 1 rfl ?_
    rw [hgl]
    cases ho : slope t c false
    · refine GS.run [] 2 rfl ?_
      refine GS.if_ge rfl (fun q => absurd q (by decide)) (fun c33 => ?_)
      refine GS.run [] 2 rfl ?_
      refine GS.iret rfl rfl (rfl) ?_
      exact ⟨rfl, rfl⟩
    · rename_i k
      have hk := hlt k ho
      have h6 := (hw.2.2 c hc).2.2.2.1
      refine GS.run [] 2 rfl ?_
      refine GS.if_ge rfl (fun c33 => ?_) (fun q => absurd (nI_pos' (by omega)) q)
      refine GS.run [] 9 rfl ?_
      refine GS.ald (50 + 6 * c + k) rfl rfl (he_to) (by omega) ?_
      rw [m_to ht hc hk]
      refine GS.iret rfl rfl (rfl) ?_
      exact ⟨rfl, rfl⟩
  · have hpb : pwd (m + 2) < 1000 := by unfold pwd; rw [if_neg (by omega)]; omega
    have hgl : gl t c (m + 2) = (markedK t c m).map (tB t c) := by unfold gl; rw [if_neg (by omega), if_neg (by omega), Nat.add_sub_cancel]
    have hlt : ∀ k, markedK t c m = some k → k < tD t c := fun k => markedK_lt
    refine GS.run [] 2 rfl ?_
    refine GS.icmp_ge rfl (fun c2 => ?_) (fun q => absurd ((nI_leI (a := 3) (by omega) (by omega)).mpr (by unfold pwd; rw [if_neg (by omega)]; omega)) q)
    refine GS.run [] 5 rfl ?_
    rw [show nI (pwd (m + 2)) - 20 = nI m by unfold pwd; rw [if_neg (by omega)]; rw [show nI (18 + (m + 2)) - 20 = nI (18 + (m + 2) - 20) from pk_sub (a := 18 + (m + 2)) (b := 20) (by omega)]; congr 1; omega]
    refine GS.run [] 0 rfl ?_
    refine GS.cV oX12_marked (c_mmarked d σ t c m ht hw hc (by omega)) rfl rfl rfl rfl rfl rfl rfl (Nat.le_of_ble_eq_true rfl) (by omega) ?_
    rw [hgl]
    cases ho : markedK t c m
    · refine GS.run [] 2 rfl ?_
      refine GS.if_ge rfl (fun q => absurd q (by decide)) (fun c33 => ?_)
      refine GS.run [] 2 rfl ?_
      refine GS.iret rfl rfl (rfl) ?_
      exact ⟨rfl, rfl⟩
    · rename_i k
      have hk := hlt k ho
      have h6 := (hw.2.2 c hc).2.2.2.1
      refine GS.run [] 2 rfl ?_
      refine GS.if_ge rfl (fun c33 => ?_) (fun q => absurd (nI_pos' (by omega)) q)
      refine GS.run [] 9 rfl ?_
      refine GS.ald (50 + 6 * c + k) rfl rfl (he_to) (by omega) ?_
      rw [m_to ht hc hk]
      refine GS.iret rfl rfl (rfl) ?_
      exact ⟨rfl, rfl⟩
def mdB (t : Tn) (b : Bf) (i : Nat) (v : Option Nat) : Prop := ((∀ j, j < bC b → ¬ dgP (bQ b j)) ∧ v = mtL t (65 - i) i b) ∨ ∃ P, i ≤ P ∧ P < bC b ∧ dgP (bQ b P) ∧ (∀ j, i ≤ j → j < P → ¬ dgP (bQ b j)) ∧ v = bD b (bQ b P)
def mdW (t : Tn) (bi b : Bf) (i w : Nat) (v : Option Nat) : Prop := ((∀ j, j < bC b → ¬ dgP (bQ b j)) ∧ mtE t (bQ bi i) (dsB bi i + 1) i w bi = some b ∧ v = mtL t (65 - i) i bi) ∨ ∃ P, i < P ∧ P < bC b ∧ dgP (bQ b P) ∧ (∀ j, i < j → j < P → ¬ dgP (bQ b j)) ∧ v = bD b (bQ b P)
theorem mtE_none {t : Tn} {s d i k : Nat} {b : Bf} (h : mtE t s d i k b = none) : ∀ m, mtE t s d i (k + m) b = none := by
  intro m
  induction m with
  | zero => exact h
  | succ m ih => rw [← Nat.add_assoc, mtE, ih]
theorem mtE_some {t : Tn} {s d i k : Nat} {b b' : Bf} (h : mtE t s d i k b = some b') : mtE t s d i (k + 1) b = (match nbP t s k with
    | none => some b'
    | some p => if dgP p then none else some (bN b' p d i k)) := by
  rw [mtE, h]
  cases nbP t s k <;> rfl
theorem mdW_0 {t : Tn} {b : Bf} {i : Nat} {v : Option Nat} (h : mdB t b i v) (hi : i < bC b) (hn : ¬ dgP (bQ b i)) : mdW t b b i 0 v := by
  rcases h with ⟨h1, h2⟩ | ⟨P, p1, p2, p3, p4, p5⟩
  · exact Or.inl ⟨h1, rfl, h2⟩
  · have : i ≠ P := fun e => hn (by rw [e]; exact p3)
    exact Or.inr ⟨P, by omega, p2, p3, fun j j1 j2 => p4 j (by omega) j2, p5⟩
theorem mdB_ret {t : Tn} {b : Bf} {i : Nat} {v : Option Nat} (h : mdB t b i v) (hi : i < bC b) (hn : dgP (bQ b i)) : v = bD b (bQ b i) := by
  rcases h with ⟨h1, -⟩ | ⟨P, p1, p2, p3, p4, p5⟩
  · exact absurd hn (h1 i hi)
  · by_cases e : i = P
    · rw [e]; exact p5
    · exact absurd hn (p4 i (Nat.le_refl _) (by omega))
theorem mdB_end {t : Tn} {b : Bf} {i : Nat} {v : Option Nat} (h : mdB t b i v) (hi : ¬ i < bC b) (h64 : i ≤ 64) : v = none := by
  rcases h with ⟨-, h2⟩ | ⟨P, p1, p2, -⟩
  · rw [h2, show 65 - i = 64 - i + 1 by omega, mtL_e hi]
  · omega
theorem mdB_12 {t : Tn} {bi b : Bf} {i : Nat} {v : Option Nat} (h : mdW t bi b i 12 v) (hi : i < bC bi) (h64 : i ≤ 64) : mdB t b (i + 1) v := by
  rcases h with ⟨h1, h2, h3⟩ | ⟨P, p1, p2, p3, p4, p5⟩
  · refine Or.inl ⟨h1, ?_⟩
    rw [h3, show 65 - i = 64 - i + 1 by omega, mtL_s hi, h2, show 65 - (i + 1) = 64 - i by omega]
  · exact Or.inr ⟨P, p1, p2, p3, fun j j1 j2 => p4 j j1 j2, p5⟩
theorem mdW_no {t : Tn} {bi b : Bf} {i w : Nat} {v : Option Nat} (h : mdW t bi b i w v) (hp : nbP t (bQ bi i) w = none) : mdW t bi b i (w + 1) v := by
  rcases h with ⟨h1, h2, h3⟩ | h
  · exact Or.inl ⟨h1, by rw [mtE_some h2, hp], h3⟩
  · exact Or.inr h
theorem mdW_yes {t : Tn} {bi b : Bf} {i w p : Nat} {v : Option Nat} (h : mdW t bi b i w v) (hwf : wfB 64 (okP t) b) (hp : nbP t (bQ bi i) w = some p) (hw : w < 12) (hi : i < bC bi) (hib : i < bC b) (h64 : i ≤ 64) : mdW t bi (bN b p (dsB bi i + 1) i w) i (w + 1) v := by
  rcases h with ⟨h1, h2, h3⟩ | ⟨P, p1, p2, p3, p4, p5⟩
  · have h4 := mtE_some h2
    rw [hp] at h4
    have h4 : mtE t (bQ bi i) (dsB bi i + 1) i (w + 1) bi = if dgP p then none else some (bN b p (dsB bi i + 1) i w) := h4
    by_cases hd : dgP p
    · rw [if_pos hd] at h4
      have hns : ¬ (bD b p).isSome = true := fun hs => by
        obtain ⟨j, j1, j2⟩ := hwf.2.2 p hs
        exact h1 j j1 (by rw [j2]; exact hd)
      have h12 := mtE_none h4 (12 - (w + 1))
      rw [show w + 1 + (12 - (w + 1)) = 12 by omega] at h12
      have hv : v = some (dsB bi i + 1) := by rw [h3, show 65 - i = 64 - i + 1 by omega, mtL_s hi, h12]
      rw [bN_new hns]
      refine Or.inr ⟨bC b, hib, Nat.lt_succ_self _, ?_, fun j j1 j2 => ?_, ?_⟩
      · show dgP (va_up (bQ b) (bC b) p (bC b))
        rw [va_eq]; exact hd
      · show ¬ dgP (va_up (bQ b) (bC b) p j)
        rw [va_ne _ _ (by omega)]; exact h1 j j2
      · show v = va_up (bD b) p (some (dsB bi i + 1)) (va_up (bQ b) (bC b) p (bC b))
        rw [va_eq, va_eq]; exact hv
    · rw [if_neg hd] at h4
      refine Or.inl ⟨fun j hj => ?_, h4, h3⟩
      by_cases hns : (bD b p).isSome = true
      · rw [bN_old hns] at hj ⊢; exact h1 j hj
      · rw [bN_new hns] at hj ⊢
        have hj2 : j < bC b + 1 := hj
        show ¬ dgP (va_up (bQ b) (bC b) p j)
        by_cases e : j = bC b
        · rw [e, va_eq]; exact hd
        · rw [va_ne _ _ e]; exact h1 j (by omega)
  · refine Or.inr ⟨P, p1, Nat.lt_of_lt_of_le p2 bN_C, ?_, fun j j1 j2 => ?_, ?_⟩
    · rw [bN_Q p2]; exact p3
    · rw [bN_Q (by omega)]; exact p4 j j1 j2
    · rw [bN_Q p2, bN_D]
      · exact p5
      · obtain ⟨-, -, e, e1, -⟩ := hwf.2.1 P p2
        rw [e1]; rfl
theorem frV_N {σ σ' : am_S} {b : Bf} {x y d p w : Nat} (h : frV σ b) (hx : x < 8) (hy : y < 8) (hn : ¬ (bD b (8 * x + y)).isSome = true) (e1 : σ' 82 = upd (σ 82) (12 * x + y) (nI d)) (e2 : σ' 83 = upd (σ 83) (bC b) (nI (12 * x + y))) (e3 : σ' 69 32 = nI (bC b + 1)) : frV σ' (bN b (8 * x + y) d p w) := by
  rw [bN_new hn]
  refine ⟨e3, fun j hj => ?_, fun u v hu hv => ?_⟩
  · rw [e2]
    show upd (σ 83) (bC b) (nI (12 * x + y)) j = nI (12 * (va_up (bQ b) (bC b) (8 * x + y) j / 8) + va_up (bQ b) (bC b) (8 * x + y) j % 8)
    have hj2 : j < bC b + 1 := hj
    by_cases e : j = bC b
    · rw [e, upd_eq, va_eq, show (8 * x + y) / 8 = x by omega, show (8 * x + y) % 8 = y by omega]
    · rw [upd_ne _ _ e, va_ne _ _ e]; exact h.2.1 j (by omega)
  · rw [e1]
    show upd (σ 82) (12 * x + y) (nI d) (12 * u + v) = plI (va_up (bD b) (8 * x + y) (some d) (8 * u + v))
    by_cases e : 12 * u + v = 12 * x + y
    · rw [e, upd_eq, show 8 * u + v = 8 * x + y by omega, va_eq]; rfl
    · rw [upd_ne _ _ e, va_ne _ _ (by omega)]; exact h.2.2 u v hu hv
def fF (f : Nat → Int32) (j : Nat) : Nat → Int32 := fun x => if x < j then -1 else f x
theorem fF_0 (f : Nat → Int32) : fF f 0 = f := by funext x; unfold fF; rw [if_neg (by omega)]
theorem fF_s (f : Nat → Int32) (j : Nat) : upd (fF f j) j (-1) = fF f (j + 1) := by
  funext x
  unfold upd fF
  by_cases h : x = j
  · rw [if_pos h, if_pos (by omega)]
  · rw [if_neg h]
    by_cases h2 : x < j
    · rw [if_pos h2, if_pos (by omega)]
    · rw [if_neg h2, if_neg (by omega)]
theorem plI_neg {o : Option Nat} (h : ∀ d, o = some d → d < 1000) : plI o < 0 ↔ o = none := by
  cases o with
  | none => exact ⟨fun _ => rfl, fun _ => by decide⟩
  | some d => exact ⟨fun q => absurd q (Int32.not_lt.mpr (nI_pos' (by have := h d rfl; omega))), fun q => by cases q⟩
theorem fkI_some {d : Nat} : fkI (some d) = nI d := rfl
theorem div12 {x y : Nat} (hy : y < 8) : (12 * x + y) / 12 = x := by omega
theorem mod12 {x y : Nat} (hy : y < 8) : (12 * x + y) % 12 = y := by omega
theorem c_soon (d : Nat) (σ : am_S) (t : Tn) (a b : Nat) (ht : townM 73 0 σ t) (hw : wfT t) (ha : a < tN t) (hb : b < tN t) : CallS mX12_soon (d + 3) [.ref 69, .int (nI a), .int (nI b)] σ (fun r σ' => r = some (.int (fkI (soonF t a b))) ∧ sameM [82, 83] [32] σ σ') := by
  refine CallS.of kX12_soon pX12_soon [.ref 69, .int (nI a), .int (nI b), .retAddr 0, .retAddr 0, .retAddr 0, .retAddr 0, .retAddr 0, .retAddr 0] rfl (Nat.le_of_ble_eq_true rfl) ?_
  have h8 := hw.1
  refine GS.run [] 2 rfl ?_
  have loop2 : ∀ (fu : Nat) (j : Nat) (hj : j ≤ 168), 168 - j = fu → GS none mX12_soon (d + 3) (fun r σ' => r = some (.int (fkI (soonF t a b))) ∧ sameM [82, 83] [32] σ σ') 2 [.ref 69, .int (nI a), .int (nI b), .int (nI j), .retAddr 0, .retAddr 0, .retAddr 0, .retAddr 0, .retAddr 0] [] (am_s1 σ 82 (fF (σ 82) j)) := by
    intro fu
    induction fu using Nat.strongRecOn with
    | ind fu ih2 =>
      intro j hj hfu
      refine GS.run [] 2 rfl ?_
      refine GS.icmp_ge rfl (fun c6 => ?_) (fun c6 => ?_)
      · have e : j = 168 := by have := (nI_leI (a := 168) (by omega) (by omega)).mp c6; omega
        subst e
        refine GS.run [] 8 rfl ?_
        refine GS.ast (12 * a + b) rfl rfl (he_p) (by omega) ?_
        refine GS.run [] 8 rfl ?_
        rw [he_p]
        refine GS.run [] 0 rfl ?_
        refine GS.ast (0) rfl rfl (rfl) (by omega) ?_
        refine GS.run [] 5 rfl ?_
        have loop53 : ∀ (fu : Nat) (i : Nat) (σi : am_S) (bi : Bf) (v4 v5 v6 v7 v8 : Value) (hi : i ≤ bC bi) (hsi : sameM [82, 83] [32] σ σi) (hpi : frV σi bi) (hwi : wfB 64 (okP t) bi) (hv : mdB t bi i (soonF t a b)), 65 - i = fu → GS none mX12_soon (d + 3) (fun r σ' => r = some (.int (fkI (soonF t a b))) ∧ sameM [82, 83] [32] σ σ') 53 [.ref 69, .int (nI a), .int (nI b), .int (nI i), .retAddr 0, .retAddr 0, .retAddr 0, .retAddr 0, .retAddr 0] [] σi := by
          intro fu
          induction fu using Nat.strongRecOn with
          | ind fu ih53 =>
            intro i σi bi v4 v5 v6 v7 v8 hi hsi hpi hwi hv hfu
            have h64 := wfB_C hwi
            have hti : townM 73 0 σi t := sameM_town hsi (by decide) ht
            refine GS.run [] 3 rfl ?_
            rw [show σi 69 32 = nI (bC bi) from hpi.1]
            refine GS.run [] 0 rfl ?_
            refine GS.icmp_ge rfl (fun c58 => ?_) (fun c58 => ?_)
            · have k2 : ¬ i < bC bi := by have := (nI_leI (by omega) (by omega)).mp c58; omega
              refine GS.run [] 1 rfl ?_
              refine GS.iret rfl rfl (rfl) ?_
              have hr := mdB_end hv k2 (by omega)
              exact ⟨by rw [hr]; rfl, hsi⟩
            · have k2 : i < bC bi := (nI_gtI (by omega) (by omega)).mp c58
              obtain ⟨hds, hdi⟩ := dsB_eq hwi k2
              obtain ⟨hq64, hqo, -⟩ := hwi.2.1 i k2
              have hx0 : bQ bi i / 8 < 8 := by omega
              have hy0 : bQ bi i % 8 < 8 := by omega
              have hqi := hpi.2.1 i k2
              have hfi := hpi.2.2 _ _ hx0 hy0
              rw [show 8 * (bQ bi i / 8) + bQ bi i % 8 = bQ bi i by omega, hds] at hfi
              refine GS.run [] 3 rfl ?_
              refine GS.ald (i) rfl rfl (rfl) (by omega) ?_
              rw [hqi]
              refine GS.run [] 1 rfl ?_
              refine GS.idiv rfl (by decide) ?_
              rw [show (12 : Int32) = nI 12 from rfl, pk_div (by omega) (by omega) (by omega), div12 hy0]
              refine GS.run [] 4 rfl ?_
              refine GS.ald (i) rfl rfl (rfl) (by omega) ?_
              rw [hqi]
              refine GS.run [] 1 rfl ?_
              refine GS.irem rfl (by decide) ?_
              rw [show (12 : Int32) = nI 12 from rfl, pk_rem (by omega) (by omega) (by omega), mod12 hy0]
              refine GS.run [] 3 rfl ?_
              refine GS.icmp_ne rfl (fun c87 => ?_) (fun c87 => ?_)
              · have k3 : ¬ dgP (bQ bi i) := fun h => c87 (by rw [show bQ bi i / 8 = bQ bi i % 8 from h])
                refine GS.run [] 2 rfl ?_
                have loop105 : ∀ (fu : Nat) (w : Nat) (σw : am_S) (bw : Bf) (v7 v8 : Value) (hww : w ≤ 12) (hsw : sameM [82, 83] [32] σ σw) (hpw : frV σw bw) (hww2 : wfB 64 (okP t) bw) (hcw : bC bi ≤ bC bw) (hqw : bQ bw i = bQ bi i) (hdw : bD bw (bQ bi i) = some (dsB bi i)) (hm : mdW t bi bw i w (soonF t a b)), 12 - w = fu → GS none mX12_soon (d + 3) (fun r σ' => r = some (.int (fkI (soonF t a b))) ∧ sameM [82, 83] [32] σ σ') 105 [.ref 69, .int (nI a), .int (nI b), .int (nI i), .int (nI (bQ bi i / 8)), .int (nI (bQ bi i % 8)), .int (nI w), .retAddr 0, .retAddr 0] [] σw := by
                  intro fu
                  induction fu using Nat.strongRecOn with
                  | ind fu ih105 =>
                    intro w σw bw v7 v8 hww hsw hpw hww2 hcw hqw hdw hm hfu
                    have htw : townM 73 0 σw t := sameM_town hsw (by decide) ht
                    have hib : i < bC bw := by omega
                    have hfw := hpw.2.2 _ _ hx0 hy0
                    rw [show 8 * (bQ bi i / 8) + bQ bi i % 8 = bQ bi i by omega, hdw, show plI (some (dsB bi i)) = nI (dsB bi i) from rfl] at hfw
                    refine GS.run [] 2 rfl ?_
                    refine GS.icmp_ge rfl (fun c109 => ?_) (fun c109 => ?_)
                    · have e : w = 12 := by have := (nI_leI (a := 12) (by omega) (by omega)).mp c109; omega
                      subst e
                      refine GS.run [] 2 rfl ?_
                      rw [show nI i + 1 = nI (i + 1) from nI_1 i]
                      exact GS.weak (by exact ⟨Or.inr rfl, Or.inr rfl, Or.inr rfl, Or.inr rfl, Or.inl rfl, Or.inl rfl, Or.inl rfl, Or.inl rfl, Or.inl rfl, trivial⟩) (ih53 _ (by omega) (i + 1) σw bw Value.null Value.null Value.null Value.null Value.null (by omega) hsw hpw hww2 (mdB_12 hm k2 (by omega)) rfl)
                    · have hl : w < 12 := (nI_gtI (a := 12) (by omega) (by omega)).mp c109
                      refine GS.run [] 3 rfl ?_
                      refine GS.cS oX12_plainWord (c_pword (d + 2) σw w hl) rfl rfl rfl rfl (Nat.le_of_ble_eq_true rfl) (by omega) ?_
                      refine GS.cV oX12_plainTo (c_plainTo d σw t (bQ bi i / 8) w htw hw hqo.1 hl) rfl rfl rfl rfl rfl rfl rfl (Nat.le_of_ble_eq_true rfl) (by omega) ?_
                      refine GS.run [] 4 rfl ?_
                      refine GS.cS oX12_plainWord (c_pword (d + 2) σw w hl) rfl rfl rfl rfl (Nat.le_of_ble_eq_true rfl) (by omega) ?_
                      refine GS.cV oX12_plainTo (c_plainTo d σw t (bQ bi i % 8) w htw hw hqo.2 hl) rfl rfl rfl rfl rfl rfl rfl (Nat.le_of_ble_eq_true rfl) (by omega) ?_
                      refine GS.run [] 1 rfl ?_
                      cases e1 : gl t (bQ bi i / 8) w <;> cases e2 : gl t (bQ bi i % 8) w
                      · have hnb : nbP t (bQ bi i) w = none := by unfold nbP; rw [e1, e2]
                        refine GS.run [] 1 rfl ?_
                        refine GS.if_lt rfl (fun c140 => ?_) (fun q => absurd (by decide) q)
                        refine GS.run [] 2 rfl ?_
                        rw [show nI w + 1 = nI (w + 1) from nI_1 w]
                        first
                          | exact GS.weak (by exact ⟨Or.inr rfl, Or.inr rfl, Or.inr rfl, Or.inr rfl, Or.inr rfl, Or.inr rfl, Or.inr rfl, Or.inl rfl, Or.inl rfl, trivial⟩) (ih105 _ (by omega) (w + 1) σw bw Value.null Value.null (by omega) hsw hpw hww2 hcw hqw hdw (mdW_no hm hnb) rfl)
                          | (rw [← bN_old (d := dsB bi i + 1) (p := i) (w := w) k1] at hpw
                             exact GS.weak (by exact ⟨Or.inr rfl, Or.inr rfl, Or.inr rfl, Or.inr rfl, Or.inr rfl, Or.inr rfl, Or.inr rfl, Or.inl rfl, Or.inl rfl, trivial⟩) (ih105 _ (by omega) (w + 1) σw _ Value.null Value.null (by omega) hsw hpw hwN (Nat.le_trans hcw bN_C) ((bN_Q hib).trans hqw) ((bN_D (by rw [hdw]; rfl)).trans hdw) (mdW_yes hm hww2 hnb hl k2 hib (by omega)) rfl))
                          | exact GS.weak (by exact ⟨Or.inr rfl, Or.inr rfl, Or.inr rfl, Or.inr rfl, Or.inr rfl, Or.inr rfl, Or.inr rfl, Or.inl rfl, Or.inl rfl, trivial⟩) (ih105 _ (by omega) (w + 1) _ _ Value.null Value.null (by omega) (((hsw.cell (by decide) (by decide)).cell (by decide) (by decide)).fld (by decide)) (frV_N (d := dsB bi i + 1) (p := i) (w := w) hpw hx8 hy8 k1 rfl rfl ((congrArg (· + 1) hpw.1).trans (nI_1 _))) hwN (Nat.le_trans hcw bN_C) ((bN_Q hib).trans hqw) ((bN_D (by rw [hdw]; rfl)).trans hdw) (mdW_yes hm hww2 hnb hl k2 hib (by omega)) rfl)
                      · have hnb : nbP t (bQ bi i) w = none := by unfold nbP; rw [e1, e2]
                        refine GS.run [] 1 rfl ?_
                        refine GS.if_lt rfl (fun c140 => ?_) (fun q => absurd (by decide) q)
                        refine GS.run [] 2 rfl ?_
                        rw [show nI w + 1 = nI (w + 1) from nI_1 w]
                        first
                          | exact GS.weak (by exact ⟨Or.inr rfl, Or.inr rfl, Or.inr rfl, Or.inr rfl, Or.inr rfl, Or.inr rfl, Or.inr rfl, Or.inl rfl, Or.inl rfl, trivial⟩) (ih105 _ (by omega) (w + 1) σw bw Value.null Value.null (by omega) hsw hpw hww2 hcw hqw hdw (mdW_no hm hnb) rfl)
                          | (rw [← bN_old (d := dsB bi i + 1) (p := i) (w := w) k1] at hpw
                             exact GS.weak (by exact ⟨Or.inr rfl, Or.inr rfl, Or.inr rfl, Or.inr rfl, Or.inr rfl, Or.inr rfl, Or.inr rfl, Or.inl rfl, Or.inl rfl, trivial⟩) (ih105 _ (by omega) (w + 1) σw _ Value.null Value.null (by omega) hsw hpw hwN (Nat.le_trans hcw bN_C) ((bN_Q hib).trans hqw) ((bN_D (by rw [hdw]; rfl)).trans hdw) (mdW_yes hm hww2 hnb hl k2 hib (by omega)) rfl))
                          | exact GS.weak (by exact ⟨Or.inr rfl, Or.inr rfl, Or.inr rfl, Or.inr rfl, Or.inr rfl, Or.inr rfl, Or.inr rfl, Or.inl rfl, Or.inl rfl, trivial⟩) (ih105 _ (by omega) (w + 1) _ _ Value.null Value.null (by omega) (((hsw.cell (by decide) (by decide)).cell (by decide) (by decide)).fld (by decide)) (frV_N (d := dsB bi i + 1) (p := i) (w := w) hpw hx8 hy8 k1 rfl rfl ((congrArg (· + 1) hpw.1).trans (nI_1 _))) hwN (Nat.le_trans hcw bN_C) ((bN_Q hib).trans hqw) ((bN_D (by rw [hdw]; rfl)).trans hdw) (mdW_yes hm hww2 hnb hl k2 hib (by omega)) rfl)
                      · rename_i x
                        have hx := gl_lt hw hqo.1 e1
                        have hnb : nbP t (bQ bi i) w = none := by unfold nbP; rw [e1, e2]
                        refine GS.run [] 1 rfl ?_
                        refine GS.if_lt rfl (fun q => absurd q (Int32.not_lt.mpr (nI_pos' (by omega)))) (fun c140 => ?_)
                        refine GS.run [] 1 rfl ?_
                        refine GS.if_lt rfl (fun c145 => ?_) (fun q => absurd (by decide) q)
                        refine GS.run [] 2 rfl ?_
                        rw [show nI w + 1 = nI (w + 1) from nI_1 w]
                        first
                          | exact GS.weak (by exact ⟨Or.inr rfl, Or.inr rfl, Or.inr rfl, Or.inr rfl, Or.inr rfl, Or.inr rfl, Or.inr rfl, Or.inl rfl, Or.inl rfl, trivial⟩) (ih105 _ (by omega) (w + 1) σw bw Value.null Value.null (by omega) hsw hpw hww2 hcw hqw hdw (mdW_no hm hnb) rfl)
                          | (rw [← bN_old (d := dsB bi i + 1) (p := i) (w := w) k1] at hpw
                             exact GS.weak (by exact ⟨Or.inr rfl, Or.inr rfl, Or.inr rfl, Or.inr rfl, Or.inr rfl, Or.inr rfl, Or.inr rfl, Or.inl rfl, Or.inl rfl, trivial⟩) (ih105 _ (by omega) (w + 1) σw _ Value.null Value.null (by omega) hsw hpw hwN (Nat.le_trans hcw bN_C) ((bN_Q hib).trans hqw) ((bN_D (by rw [hdw]; rfl)).trans hdw) (mdW_yes hm hww2 hnb hl k2 hib (by omega)) rfl))
                          | exact GS.weak (by exact ⟨Or.inr rfl, Or.inr rfl, Or.inr rfl, Or.inr rfl, Or.inr rfl, Or.inr rfl, Or.inr rfl, Or.inl rfl, Or.inl rfl, trivial⟩) (ih105 _ (by omega) (w + 1) _ _ Value.null Value.null (by omega) (((hsw.cell (by decide) (by decide)).cell (by decide) (by decide)).fld (by decide)) (frV_N (d := dsB bi i + 1) (p := i) (w := w) hpw hx8 hy8 k1 rfl rfl ((congrArg (· + 1) hpw.1).trans (nI_1 _))) hwN (Nat.le_trans hcw bN_C) ((bN_Q hib).trans hqw) ((bN_D (by rw [hdw]; rfl)).trans hdw) (mdW_yes hm hww2 hnb hl k2 hib (by omega)) rfl)
                      · rename_i x y
                        have hx := gl_lt hw hqo.1 e1
                        have hy := gl_lt hw hqo.2 e2
                        have hx8 : x < 8 := by omega
                        have hy8 : y < 8 := by omega
                        have hnb : nbP t (bQ bi i) w = some (8 * x + y) := by unfold nbP; rw [e1, e2]
                        obtain ⟨ok1, ok2⟩ := nbP_ok hw hqo hnb
                        have hwN := wfB_N (d := dsB bi i + 1) (p := i) (w := w) hww2 ok2 ok1 (by omega)
                        rw [show plI (some x) = nI x from rfl, show plI (some y) = nI y from rfl]
                        refine GS.run [] 1 rfl ?_
                        refine GS.if_lt rfl (fun q => absurd q (Int32.not_lt.mpr (nI_pos' (by omega)))) (fun c140 => ?_)
                        refine GS.run [] 1 rfl ?_
                        refine GS.if_lt rfl (fun q => absurd q (Int32.not_lt.mpr (nI_pos' (by omega)))) (fun c145 => ?_)
                        refine GS.run [] 7 rfl ?_
                        refine GS.ald (12 * x + y) rfl rfl (he_p) (by omega) ?_
                        rw [hpw.2.2 x y hx8 hy8]
                        refine GS.if_ge rfl (fun c161 => ?_) (fun c161 => ?_)
                        · have k1 : (bD bw (8 * x + y)).isSome = true := by
                            cases e : bD bw (8 * x + y) with
                            | none => rw [e] at c161; exact absurd c161 (by decide)
                            | some z => rfl
                          refine GS.run [] 2 rfl ?_
                          rw [show nI w + 1 = nI (w + 1) from nI_1 w]
                          first
                            | exact GS.weak (by exact ⟨Or.inr rfl, Or.inr rfl, Or.inr rfl, Or.inr rfl, Or.inr rfl, Or.inr rfl, Or.inr rfl, Or.inl rfl, Or.inl rfl, trivial⟩) (ih105 _ (by omega) (w + 1) σw bw Value.null Value.null (by omega) hsw hpw hww2 hcw hqw hdw (mdW_no hm hnb) rfl)
                            | (rw [← bN_old (d := dsB bi i + 1) (p := i) (w := w) k1] at hpw
                               exact GS.weak (by exact ⟨Or.inr rfl, Or.inr rfl, Or.inr rfl, Or.inr rfl, Or.inr rfl, Or.inr rfl, Or.inr rfl, Or.inl rfl, Or.inl rfl, trivial⟩) (ih105 _ (by omega) (w + 1) σw _ Value.null Value.null (by omega) hsw hpw hwN (Nat.le_trans hcw bN_C) ((bN_Q hib).trans hqw) ((bN_D (by rw [hdw]; rfl)).trans hdw) (mdW_yes hm hww2 hnb hl k2 hib (by omega)) rfl))
                            | exact GS.weak (by exact ⟨Or.inr rfl, Or.inr rfl, Or.inr rfl, Or.inr rfl, Or.inr rfl, Or.inr rfl, Or.inr rfl, Or.inl rfl, Or.inl rfl, trivial⟩) (ih105 _ (by omega) (w + 1) _ _ Value.null Value.null (by omega) (((hsw.cell (by decide) (by decide)).cell (by decide) (by decide)).fld (by decide)) (frV_N (d := dsB bi i + 1) (p := i) (w := w) hpw hx8 hy8 k1 rfl rfl ((congrArg (· + 1) hpw.1).trans (nI_1 _))) hwN (Nat.le_trans hcw bN_C) ((bN_Q hib).trans hqw) ((bN_D (by rw [hdw]; rfl)).trans hdw) (mdW_yes hm hww2 hnb hl k2 hib (by omega)) rfl)
                        · rw [Int32.not_le, plI_neg (fun z hz => by have := wfB_D hww2 hz; omega)] at c161
                          have k1 : ¬ (bD bw (8 * x + y)).isSome = true := by rw [c161]; decide
                          have hlt := wfB_lt hww2 ok2 k1
                          refine GS.run [] 12 rfl ?_
                          refine GS.ald (i) rfl rfl (rfl) (by omega) ?_
                          rw [hpw.2.1 i hib, hqw]
                          refine GS.ald (12 * (bQ bi i / 8) + bQ bi i % 8) rfl rfl (rfl) (by omega) ?_
                          rw [hfw]
                          refine GS.run [] 2 rfl ?_
                          rw [nI_1]
                          refine GS.run [] 0 rfl ?_
                          refine GS.ast (12 * x + y) rfl rfl (he_p) (by omega) ?_
                          refine GS.run [] 9 rfl ?_
                          rw [he_p, show (am_s1 σw 82 (upd (σw 82) (12 * x + y) (nI (dsB bi i + 1)))) 69 32 = nI (bC bw) from hpw.1]
                          refine GS.run [] 0 rfl ?_
                          refine GS.ast (bC bw) rfl rfl (rfl) (by omega) ?_
                          refine GS.run [] 8 rfl ?_
                          rw [show nI w + 1 = nI (w + 1) from nI_1 w]
                          first
                            | exact GS.weak (by exact ⟨Or.inr rfl, Or.inr rfl, Or.inr rfl, Or.inr rfl, Or.inr rfl, Or.inr rfl, Or.inr rfl, Or.inl rfl, Or.inl rfl, trivial⟩) (ih105 _ (by omega) (w + 1) σw bw Value.null Value.null (by omega) hsw hpw hww2 hcw hqw hdw (mdW_no hm hnb) rfl)
                            | (rw [← bN_old (d := dsB bi i + 1) (p := i) (w := w) k1] at hpw
                               exact GS.weak (by exact ⟨Or.inr rfl, Or.inr rfl, Or.inr rfl, Or.inr rfl, Or.inr rfl, Or.inr rfl, Or.inr rfl, Or.inl rfl, Or.inl rfl, trivial⟩) (ih105 _ (by omega) (w + 1) σw _ Value.null Value.null (by omega) hsw hpw hwN (Nat.le_trans hcw bN_C) ((bN_Q hib).trans hqw) ((bN_D (by rw [hdw]; rfl)).trans hdw) (mdW_yes hm hww2 hnb hl k2 hib (by omega)) rfl))
                            | exact GS.weak (by exact ⟨Or.inr rfl, Or.inr rfl, Or.inr rfl, Or.inr rfl, Or.inr rfl, Or.inr rfl, Or.inr rfl, Or.inl rfl, Or.inl rfl, trivial⟩) (ih105 _ (by omega) (w + 1) _ _ Value.null Value.null (by omega) (((hsw.cell (by decide) (by decide)).cell (by decide) (by decide)).fld (by decide)) (frV_N (d := dsB bi i + 1) (p := i) (w := w) hpw hx8 hy8 k1 rfl rfl ((congrArg (· + 1) hpw.1).trans (nI_1 _))) hwN (Nat.le_trans hcw bN_C) ((bN_Q hib).trans hqw) ((bN_D (by rw [hdw]; rfl)).trans hdw) (mdW_yes hm hww2 hnb hl k2 hib (by omega)) rfl)
                exact loop105 _ 0 σi bi Value.null Value.null (Nat.zero_le _) hsi hpi hwi (Nat.le_refl _) rfl hds (mdW_0 hv k2 k3) rfl
              · have k3 : dgP (bQ bi i) := (nI_eq (by omega) (by omega)).mp c87
                refine GS.run [] 5 rfl ?_
                refine GS.ald (i) rfl rfl (rfl) (by omega) ?_
                rw [hqi]
                refine GS.ald (12 * (bQ bi i / 8) + bQ bi i % 8) rfl rfl (rfl) (by omega) ?_
                rw [hfi]
                refine GS.iret rfl rfl (rfl) ?_
                have hr := mdB_ret hv k2 k3
                rw [hds] at hr
                exact ⟨by rw [hr]; rfl, hsi⟩
        have hb1 : bN b0 (8 * a + b) 0 0 0 = (1, va_up (bQ b0) 0 (8 * a + b), va_up (bD b0) (8 * a + b) (some 0), va_up (bP b0) (8 * a + b) 0, va_up (bW b0) (8 * a + b) 0) := bN_new b0_D
        have hwf1 := wf_b1 (okP_of hw ha hb) (by omega)
        refine loop53 _ 0 _ (bN b0 (8 * a + b) 0 0 0) Value.null Value.null Value.null Value.null Value.null (Nat.zero_le _) ((((sameM.rf.cell (by decide) (by decide)).cell (by decide) (by decide)).cell (by decide) (by decide)).fld (by decide)) ?_ hwf1 ?_ rfl
        · rw [hb1]
          refine ⟨rfl, fun j hj => ?_, fun u v hu hv => ?_⟩
          · have hj2 : j < 1 := hj
            rw [show j = 0 by omega]
            show nI (12 * a + b) = nI (12 * ((8 * a + b) / 8) + (8 * a + b) % 8)
            rw [show (8 * a + b) / 8 = a by omega, show (8 * a + b) % 8 = b by omega]
          · show upd (fF (σ 82) 168) (12 * a + b) 0 (12 * u + v) = plI (va_up (bD b0) (8 * a + b) (some 0) (8 * u + v))
            by_cases e : 12 * u + v = 12 * a + b
            · rw [e, upd_eq, show 8 * u + v = 8 * a + b by omega, va_eq]; rfl
            · rw [upd_ne _ _ e, va_ne _ _ (by omega)]
              unfold fF
              rw [if_pos (by omega)]
              rfl
        · by_cases hab : a = b
          · refine Or.inr ⟨0, Nat.le_refl _, ?_, ?_, fun j j1 j2 => by omega, ?_⟩
            · rw [hb1]; exact Nat.zero_lt_one
            · rw [hb1]
              show (8 * a + b) / 8 = (8 * a + b) % 8
              omega
            · rw [hb1]
              unfold soonF
              rw [if_pos hab]
              exact (va_eq _ _ _).symm
          · refine Or.inl ⟨fun j hj => ?_, by unfold soonF; rw [if_neg hab]⟩
            rw [hb1] at hj ⊢
            have hj2 : j < 1 := hj
            rw [show j = 0 by omega]
            show ¬ (8 * a + b) / 8 = (8 * a + b) % 8
            omega
      · have hl : j < 168 := (nI_gtI (a := 168) (by omega) (by omega)).mp c6
        refine GS.run [] 4 rfl ?_
        refine GS.ast (j) rfl rfl (rfl) (by omega) ?_
        refine GS.run [] 2 rfl ?_
        rw [am_s1_eq, am_s1_s1, nI_1, fF_s]
        exact ih2 _ (by omega) (j + 1) (by omega) rfl
  have e0 := loop2 _ 0 (Nat.zero_le _) rfl
  rw [fF_0, am_s1_self] at e0
  exact e0
theorem p_meet_m (d : Nat) (σ : am_S) (t : Tn) (s : Sy) (a b what : Int32) (ht : townM 73 0 σ t) (hw : wfT t) (hy : sayM 75 0 σ s) (hys : wfS s) (hh : hM σ) : CallS mX12_meet (d + 4) [.ref 69, .int a, .int b, .int what] σ (fun r σ' => r = some (.int (qMeet t s a b what)) ∧ sameM [82, 83] [0, 20, 21, 22, 23, 24, 25, 32] σ σ' ∧ hM σ') := by
  refine CallS.of kX12_meet pX12_meet [.ref 69, .int a, .int b, .int what] rfl (Nat.le_of_ble_eq_true rfl) ?_
  have h8 := hw.1
  have s0 : sameM [82, 83] [0, 20, 21, 22, 23, 24, 25, 32] σ (am_s1 σ 69 (upd (σ 69) 0 0)) := sameM.rf.fld (by decide)
  have ht0 := sameM_town s0 (by decide) ht
  have hy0 := sameM_say s0 (by decide) hy
  have hh0 : hM (am_s1 σ 69 (upd (σ 69) 0 0)) := hh
  refine GS.run [] 5 rfl ?_
  refine GS.cV oX12_isCorner (c_isCorner (d + 1) (am_s1 σ 69 (upd (σ 69) 0 0)) t a ht0 hw) rfl rfl rfl rfl rfl rfl rfl (Nat.le_of_ble_eq_true rfl) (by omega) ?_
  refine GS.if_eq rfl (fun c10 => ?_) (fun c10 => ?_)
  · have hbad : ¬ (okc t a ∧ okc t b ∧ okb what) := fun h => am_b0.mp c10 h.1
    refine GS.run [] 1 rfl ?_
    refine GS.iret rfl rfl (rfl) ?_
    exact ⟨by unfold qMeet; rw [if_neg hbad], s0, hh0⟩
  · have g1 : okc t a := am_bT c10
    refine GS.run [] 2 rfl ?_
    refine GS.cV oX12_isCorner (c_isCorner (d + 1) (am_s1 σ 69 (upd (σ 69) 0 0)) t b ht0 hw) rfl rfl rfl rfl rfl rfl rfl (Nat.le_of_ble_eq_true rfl) (by omega) ?_
    refine GS.if_eq rfl (fun c18 => ?_) (fun c18 => ?_)
    · have hbad : ¬ (okc t a ∧ okc t b ∧ okb what) := fun h => am_b0.mp c18 h.2.1
      refine GS.run [] 1 rfl ?_
      refine GS.iret rfl rfl (rfl) ?_
      exact ⟨by unfold qMeet; rw [if_neg hbad], s0, hh0⟩
    · have g2 : okc t b := am_bT c18
      refine GS.run [] 4 rfl ?_
      refine GS.cS oX12_in (c_inB (d + 2) (am_s1 σ 69 (upd (σ 69) 0 0)) what) rfl rfl rfl rfl (Nat.le_of_ble_eq_true rfl) (by omega) ?_
      refine GS.if_ne rfl (fun c28 => ?_) (fun c28 => ?_)
      · have g3 : okb what := am_bT c28
        obtain ⟨x, hx, rfl⟩ := okc_nat g1
        obtain ⟨y, hy2, rfl⟩ := okc_nat g2
        have ex : cn (nI x) = x := cn_nI (by omega)
        have ey : cn (nI y) = y := cn_nI (by omega)
        rcases g3 with rfl | rfl
        · have eq2 : qMeet t s (nI x) (nI y) 0 = fkI (meetR t s s.1 0 (stW x) (stW y)) := by unfold qMeet; rw [if_pos ⟨g1, g2, by decide⟩, ex, ey]; rfl
          refine GS.run [] 1 rfl ?_
          refine GS.if_ne rfl (fun q => absurd (rfl) q) (fun c35 => ?_)
          refine GS.run [] 3 rfl ?_
          refine GS.callV oX12_meets (c_meets d (am_s1 σ 69 (upd (σ 69) 0 0)) t s x y ht0 hw hy0 hys hx hy2 hh0) rfl rfl rfl rfl rfl rfl rfl (Nat.le_of_ble_eq_true rfl) (by omega) (fun v41 σ41 hq41 => ?_)
          obtain ⟨rfl, se, he⟩ := hq41
          refine GS.run [] 1 rfl ?_
          refine GS.iret rfl rfl (rfl) ?_
          exact ⟨congrArg (fun z => some (Value.int z)) eq2.symm, s0.trans (se.sub (by decide) (by decide)), he⟩
        · have eq2 : qMeet t s (nI x) (nI y) 1 = fkI (soonF t x y) := by unfold qMeet; rw [if_pos ⟨g1, g2, by decide⟩, ex, ey]; rfl
          refine GS.run [] 1 rfl ?_
          refine GS.if_ne rfl (fun c35 => ?_) (fun q => absurd q (by decide))
          refine GS.run [] 3 rfl ?_
          refine GS.callV oX12_soon (c_soon d (am_s1 σ 69 (upd (σ 69) 0 0)) t x y ht0 hw hx hy2) rfl rfl rfl rfl rfl rfl rfl (Nat.le_of_ble_eq_true rfl) (by omega) (fun v50 σ50 hq50 => ?_)
          obtain ⟨rfl, se⟩ := hq50
          have he := hh0.kept se (by decide)
          refine GS.iret rfl rfl (rfl) ?_
          exact ⟨congrArg (fun z => some (Value.int z)) eq2.symm, s0.trans (se.sub (by decide) (by decide)), he⟩
      · have hbad : ¬ (okc t a ∧ okc t b ∧ okb what) := fun h => am_b0.mp c28 h.2.2
        refine GS.run [] 1 rfl ?_
        refine GS.iret rfl rfl (rfl) ?_
        exact ⟨by unfold qMeet; rw [if_neg hbad], s0, hh0⟩
