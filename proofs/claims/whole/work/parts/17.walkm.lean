theorem upd_upd (f : Nat → Int32) (k : Nat) (a b : Int32) : upd (upd f k a) k b = upd f k b := by
  funext i
  unfold upd
  split <;> rfl
theorem upd_eq (f : Nat → Int32) (k : Nat) (a : Int32) : upd f k a k = a := if_pos rfl
theorem upd_ne (f : Nat → Int32) {k i : Nat} (a : Int32) (h : i ≠ k) : upd f k a i = f i := if_neg h
/-- nothing else has changed: of the reference's cells but l, of its own fields but f -/
def sameM (l f : List Nat) (σ σ' : am_S) : Prop := (∀ q, q ≠ 69 → q ∉ l → σ' q = σ q) ∧ ∀ i, i ∉ f → σ' 69 i = σ 69 i
theorem sameM.rf {l f : List Nat} {σ : am_S} : sameM l f σ σ := ⟨fun _ _ _ => rfl, fun _ _ => rfl⟩
theorem sameM.trans {l f : List Nat} {a b c : am_S} (h1 : sameM l f a b) (h2 : sameM l f b c) : sameM l f a c := ⟨fun q h3 h4 => (h2.1 q h3 h4).trans (h1.1 q h3 h4), fun i hi => (h2.2 i hi).trans (h1.2 i hi)⟩
theorem sameM.sub {l f l' f' : List Nat} {a b : am_S} (h : sameM l f a b) (h1 : ∀ q ∈ l, q ∈ l') (h2 : ∀ q ∈ f, q ∈ f') : sameM l' f' a b := ⟨fun q h3 h4 => h.1 q h3 (fun z => h4 (h1 q z)), fun i hi => h.2 i (fun z => hi (h2 i z))⟩
theorem sameM.fld {l f : List Nat} {σ σ' : am_S} (h : sameM l f σ σ') {i : Nat} {v : Int32} (hi : i ∈ f) : sameM l f σ (am_s1 σ' 69 (upd (σ' 69) i v)) := by
  refine ⟨fun q h1 h2 => by rw [am_s1_ne _ _ h1]; exact h.1 q h1 h2, fun j hj => ?_⟩
  rw [am_s1_eq, upd_ne _ _ (fun e => hj (by rw [e]; exact hi))]
  exact h.2 j hj
theorem sameM.cell {l f : List Nat} {σ σ' : am_S} (h : sameM l f σ σ') {q : Nat} {g : Nat → Int32} (hq : q ∈ l) (h69 : q ≠ 69) : sameM l f σ (am_s1 σ' q g) := by
  refine ⟨fun a h1 h2 => by rw [am_s1_ne _ _ (fun e => h2 (by rw [e]; exact hq))]; exact h.1 a h1 h2, fun j hj => ?_⟩
  rw [am_s1_ne _ _ (fun e => h69 e.symm)]
  exact h.2 j hj
def wkM (σ : am_S) (w : Wk) : Prop := σ 69 20 = nI w.1 ∧ σ 69 21 = kI w.2.1 ∧ σ 69 22 = bI w.2.2
def wkO (σ : am_S) (w : Wk) : Prop := σ 69 23 = nI w.1 ∧ σ 69 24 = kI w.2.1 ∧ σ 69 25 = bI w.2.2
theorem sameM_town {l f : List Nat} {σ σ' : am_S} {t : Tn} (h : sameM l f σ σ') (hl : 73 ∉ l) (ht : townM 73 0 σ t) : townM 73 0 σ' t := ht.kept (h.1 73 (by decide) hl)
theorem sameM_say {l f : List Nat} {σ σ' : am_S} {s : Sy} (h : sameM l f σ σ') (hl : 75 ∉ l) (ht : sayM 75 0 σ s) : sayM 75 0 σ' s := ht.kept (h.1 75 (by decide) hl)
theorem c_mstarts (d : Nat) (σ : am_S) (c : Nat) : CallS mX12_starts (d) [.ref 69, .int (nI c)] σ (fun r σ' => r = none ∧ sameM [] [20, 21, 22] σ σ' ∧ wkM σ' (stW c)) := by
  refine CallS.of kX12_starts pX12_starts [.ref 69, .int (nI c)] rfl (Nat.le_of_ble_eq_true rfl) ?_
  refine GS.run [] 8 rfl ?_
  refine GS.putZ rfl rfl rfl (rfl) (rfl) rfl ?_
  refine GS.vret rfl rfl ?_
  refine ⟨rfl, ((sameM.rf.fld (by decide)).fld (by decide)).fld (by decide), ?_, ?_, ?_⟩ <;> rfl
theorem c_besides (d : Nat) (σ : am_S) (t : Tn) (w : Wk) (b : Int32) (e : Nat) (ht : townM 73 0 σ t) (hw : wfT t) (hW : wfW t w) (hk : wkM σ w) (hd : 0 < tD t w.1) (he : kI w.2.1 + b + nI (tD t w.1) = nI e) (hel : e < 1000) : CallS mX12_besides (d) [.ref 69, .int b] σ (am_det (some (.int (nI (e % tD t w.1)))) σ) := by
  refine CallS.of kX12_besides pX12_besides [.ref 69, .int b, .retAddr 0] rfl (Nat.le_of_ble_eq_true rfl) ?_
  obtain ⟨h1, h2, h3⟩ := hk
  have h8 := hw.1
  have hWl := hW.1
  have h6 := (hw.2.2 _ hW.1).2.2.2.1
  refine GS.run [] 6 rfl ?_
  refine GS.ald (38 + w.1) rfl rfl (by rw [h1]; exact he_38) (by omega) ?_
  rw [m_dg ht (hW.1)]
  refine GS.run [] 8 rfl ?_
  rw [h2, he]
  refine GS.irem rfl (fun z => by have := (nI_eq (b := 0) (by omega) (by omega)).mp z; omega) ?_
  refine GS.iret rfl rfl (rfl) ?_
  exact ⟨by rw [pk_rem (by omega) hd (by omega)], rfl⟩
theorem c_streetBy (d : Nat) (σ : am_S) (t : Tn) (w : Wk) (img raw : Bool) (v : Nat) (hv : v = 0 ∨ v = 1 ∨ v = 3 ∨ v = 4 ∨ v = 5 ∨ v = 6 ∨ (20 ≤ v ∧ v < 30)) (ht : townM 73 0 σ t) (hw : wfT t) (hW : wfW t w) (hk : wkM σ w) : CallS mX12_streetBy (d + 1) [.ref 69, .int (nI v), .int (bI img), .int (bI raw)] σ (am_det (some (.int (kI (strBy t w img raw v)))) σ) := by
  refine CallS.of kX12_streetBy pX12_streetBy [.ref 69, .int (nI v), .int (bI img), .int (bI raw), .retAddr 0, .retAddr 0] rfl (Nat.le_of_ble_eq_true rfl) ?_
  obtain ⟨h1, h2, h3⟩ := id hk
  have h8 := hw.1
  have hWl := hW.1
  have h6 := (hw.2.2 _ hW.1).2.2.2.1
  rcases hv with rfl | rfl | rfl | rfl | rfl | rfl | hv
  · have hs : strBy t w img raw 0 = slope t w.1 true := by
      unfold strBy
      rw [if_neg (by decide), if_pos (by decide)]
      rfl
    refine GS.run [] 2 rfl ?_
    refine GS.icmp_lt rfl (fun c2 => ?_) (fun q => absurd (by decide) q)
    refine GS.run [] 2 rfl ?_
    refine GS.icmp_lt rfl (fun c14 => ?_) (fun q => absurd (by decide) q)
    refine GS.run [] 4 rfl ?_
    refine GS.if_ne rfl (fun q => absurd (rfl) q) (fun c38 => ?_)
    refine GS.run [] 2 rfl ?_
    rw [h1]
    refine GS.cV oX12_slope (c_mslope d σ t w.1 true ht hw hW.1) rfl rfl rfl rfl rfl rfl rfl (Nat.le_of_ble_eq_true rfl) (by omega) ?_
    refine GS.iret rfl rfl (rfl) ?_
    exact ⟨by rw [hs], rfl⟩
  · have hs : strBy t w img raw 1 = slope t w.1 false := by
      unfold strBy
      rw [if_neg (by decide), if_pos (by decide)]
      rfl
    refine GS.run [] 2 rfl ?_
    refine GS.icmp_lt rfl (fun c2 => ?_) (fun q => absurd (by decide) q)
    refine GS.run [] 2 rfl ?_
    refine GS.icmp_lt rfl (fun c14 => ?_) (fun q => absurd (by decide) q)
    refine GS.run [] 4 rfl ?_
    refine GS.if_ne rfl (fun c38 => ?_) (fun q => absurd q (by decide))
    refine GS.run [] 1 rfl ?_
    rw [h1]
    refine GS.cV oX12_slope (c_mslope d σ t w.1 false ht hw hW.1) rfl rfl rfl rfl rfl rfl rfl (Nat.le_of_ble_eq_true rfl) (by omega) ?_
    refine GS.iret rfl rfl (rfl) ?_
    exact ⟨by rw [hs], rfl⟩
  · cases hj : w.2.1
    · have hs : strBy t w img raw 3 = none := by unfold strBy; rw [if_neg (by decide), if_neg (by decide), hj]
      refine GS.run [] 2 rfl ?_
      refine GS.icmp_lt rfl (fun q => absurd q (by decide)) (fun c2 => ?_)
      refine GS.run [] 2 rfl ?_
      refine GS.icmp_lt rfl (fun c8 => ?_) (fun q => absurd (by decide) q)
      refine GS.run [] 2 rfl ?_
      rw [h2, hj]
      refine GS.if_ge rfl (fun q => absurd q (by decide)) (fun c54 => ?_)
      refine GS.run [] 1 rfl ?_
      refine GS.iret rfl rfl (rfl) ?_
      exact ⟨by rw [hs]; rfl, rfl⟩
    · rename_i j
      have hlt := hW.2 j hj
      rcases img with _ | _ <;> rcases raw with _ | _
      · have hs : strBy t w false false 3 = if tD t w.1 % 2 = 0 then some ((j + tD t w.1 / 2) % tD t w.1) else none := by
          unfold strBy
          rw [if_neg (by decide), if_neg (by decide), hj]
          rfl
        refine GS.run [] 2 rfl ?_
        refine GS.icmp_lt rfl (fun q => absurd q (by decide)) (fun c2 => ?_)
        refine GS.run [] 2 rfl ?_
        refine GS.icmp_lt rfl (fun c8 => ?_) (fun q => absurd (by decide) q)
        refine GS.run [] 2 rfl ?_
        rw [h2, hj]
        refine GS.if_ge rfl (fun c54 => ?_) (fun q => absurd (nI_pos' (by omega)) q)
        refine GS.run [] 6 rfl ?_
        refine GS.ald (38 + w.1) rfl rfl (by rw [h1]; exact he_38) (by omega) ?_
        rw [m_dg ht (hW.1)]
        refine GS.run [] 3 rfl ?_
        refine GS.icmp_ne rfl (fun c75 => ?_) (fun q => absurd q (by decide))
        refine GS.run [] 2 rfl ?_
        refine GS.if_eq rfl (fun c84 => ?_) (fun q => absurd (rfl) q)
        refine GS.run [] 1 rfl ?_
        refine GS.icmp_eq rfl (fun c96 => ?_) (fun q => absurd (rfl) q)
        refine GS.run [] 3 rfl ?_
        refine GS.lkp (off := 25) (t := 132) rfl (rfl) (by decide) ?_
        refine GS.run [] 2 rfl ?_
        refine GS.irem rfl (by decide) ?_
        rw [il_2, pk_rem (by omega) (by omega) (by omega)]
        refine GS.if_ne rfl (fun c136 => ?_) (fun c136 => ?_)
        · rw [if_neg (fun z => c136 (by rw [z]; rfl))] at hs
          refine GS.run [] 1 rfl ?_
          refine GS.iret rfl rfl (rfl) ?_
          exact ⟨by rw [hs]; first | rfl | (rw [Nat.add_mod_right]; rfl), rfl⟩
        · rw [if_pos ((nI_eq (b := 0) (by omega) (by omega)).mp c136)] at hs
          refine GS.run [] 3 rfl ?_
          refine GS.idiv rfl (by decide) ?_
          rw [il_2, pk_div (by omega) (by omega) (by omega)]
          refine GS.cV oX12_besides (c_besides d σ t w (nI (tD t w.1 / 2)) (j + tD t w.1 / 2 + tD t w.1) ht hw hW hk (by omega) (by rw [hj]; simp only [kI, nI_add]) (by omega)) rfl rfl rfl rfl rfl rfl rfl (Nat.le_of_ble_eq_true rfl) (by omega) ?_
          refine GS.run [] 1 rfl ?_
          refine GS.iret rfl rfl (rfl) ?_
          exact ⟨by rw [hs]; first | rfl | (rw [Nat.add_mod_right]; rfl), rfl⟩
      · have hs : strBy t w false true 3 = if tD t w.1 % 2 = 0 then some ((j + tD t w.1 / 2) % tD t w.1) else none := by
          unfold strBy
          rw [if_neg (by decide), if_neg (by decide), hj]
          rfl
        refine GS.run [] 2 rfl ?_
        refine GS.icmp_lt rfl (fun q => absurd q (by decide)) (fun c2 => ?_)
        refine GS.run [] 2 rfl ?_
        refine GS.icmp_lt rfl (fun c8 => ?_) (fun q => absurd (by decide) q)
        refine GS.run [] 2 rfl ?_
        rw [h2, hj]
        refine GS.if_ge rfl (fun c54 => ?_) (fun q => absurd (nI_pos' (by omega)) q)
        refine GS.run [] 6 rfl ?_
        refine GS.ald (38 + w.1) rfl rfl (by rw [h1]; exact he_38) (by omega) ?_
        rw [m_dg ht (hW.1)]
        refine GS.run [] 3 rfl ?_
        refine GS.icmp_ne rfl (fun c75 => ?_) (fun q => absurd q (by decide))
        refine GS.run [] 2 rfl ?_
        refine GS.if_eq rfl (fun c84 => ?_) (fun q => absurd (rfl) q)
        refine GS.run [] 1 rfl ?_
        refine GS.icmp_eq rfl (fun c96 => ?_) (fun q => absurd (rfl) q)
        refine GS.run [] 3 rfl ?_
        refine GS.lkp (off := 25) (t := 132) rfl (rfl) (by decide) ?_
        refine GS.run [] 2 rfl ?_
        refine GS.irem rfl (by decide) ?_
        rw [il_2, pk_rem (by omega) (by omega) (by omega)]
        refine GS.if_ne rfl (fun c136 => ?_) (fun c136 => ?_)
        · rw [if_neg (fun z => c136 (by rw [z]; rfl))] at hs
          refine GS.run [] 1 rfl ?_
          refine GS.iret rfl rfl (rfl) ?_
          exact ⟨by rw [hs]; first | rfl | (rw [Nat.add_mod_right]; rfl), rfl⟩
        · rw [if_pos ((nI_eq (b := 0) (by omega) (by omega)).mp c136)] at hs
          refine GS.run [] 3 rfl ?_
          refine GS.idiv rfl (by decide) ?_
          rw [il_2, pk_div (by omega) (by omega) (by omega)]
          refine GS.cV oX12_besides (c_besides d σ t w (nI (tD t w.1 / 2)) (j + tD t w.1 / 2 + tD t w.1) ht hw hW hk (by omega) (by rw [hj]; simp only [kI, nI_add]) (by omega)) rfl rfl rfl rfl rfl rfl rfl (Nat.le_of_ble_eq_true rfl) (by omega) ?_
          refine GS.run [] 1 rfl ?_
          refine GS.iret rfl rfl (rfl) ?_
          exact ⟨by rw [hs]; first | rfl | (rw [Nat.add_mod_right]; rfl), rfl⟩
      · have hs : strBy t w true false 3 = if tD t w.1 % 2 = 0 then some ((j + tD t w.1 / 2) % tD t w.1) else none := by
          unfold strBy
          rw [if_neg (by decide), if_neg (by decide), hj]
          rfl
        refine GS.run [] 2 rfl ?_
        refine GS.icmp_lt rfl (fun q => absurd q (by decide)) (fun c2 => ?_)
        refine GS.run [] 2 rfl ?_
        refine GS.icmp_lt rfl (fun c8 => ?_) (fun q => absurd (by decide) q)
        refine GS.run [] 2 rfl ?_
        rw [h2, hj]
        refine GS.if_ge rfl (fun c54 => ?_) (fun q => absurd (nI_pos' (by omega)) q)
        refine GS.run [] 6 rfl ?_
        refine GS.ald (38 + w.1) rfl rfl (by rw [h1]; exact he_38) (by omega) ?_
        rw [m_dg ht (hW.1)]
        refine GS.run [] 3 rfl ?_
        refine GS.icmp_ne rfl (fun c75 => ?_) (fun q => absurd q (by decide))
        refine GS.run [] 2 rfl ?_
        refine GS.if_eq rfl (fun q => absurd q (by decide)) (fun c84 => ?_)
        refine GS.run [] 1 rfl ?_
        refine GS.if_eq rfl (fun c88 => ?_) (fun q => absurd (rfl) q)
        refine GS.run [] 1 rfl ?_
        refine GS.icmp_eq rfl (fun c96 => ?_) (fun q => absurd (rfl) q)
        refine GS.run [] 3 rfl ?_
        refine GS.lkp (off := 25) (t := 132) rfl (rfl) (by decide) ?_
        refine GS.run [] 2 rfl ?_
        refine GS.irem rfl (by decide) ?_
        rw [il_2, pk_rem (by omega) (by omega) (by omega)]
        refine GS.if_ne rfl (fun c136 => ?_) (fun c136 => ?_)
        · rw [if_neg (fun z => c136 (by rw [z]; rfl))] at hs
          refine GS.run [] 1 rfl ?_
          refine GS.iret rfl rfl (rfl) ?_
          exact ⟨by rw [hs]; first | rfl | (rw [Nat.add_mod_right]; rfl), rfl⟩
        · rw [if_pos ((nI_eq (b := 0) (by omega) (by omega)).mp c136)] at hs
          refine GS.run [] 3 rfl ?_
          refine GS.idiv rfl (by decide) ?_
          rw [il_2, pk_div (by omega) (by omega) (by omega)]
          refine GS.cV oX12_besides (c_besides d σ t w (nI (tD t w.1 / 2)) (j + tD t w.1 / 2 + tD t w.1) ht hw hW hk (by omega) (by rw [hj]; simp only [kI, nI_add]) (by omega)) rfl rfl rfl rfl rfl rfl rfl (Nat.le_of_ble_eq_true rfl) (by omega) ?_
          refine GS.run [] 1 rfl ?_
          refine GS.iret rfl rfl (rfl) ?_
          exact ⟨by rw [hs]; first | rfl | (rw [Nat.add_mod_right]; rfl), rfl⟩
      · have hs : strBy t w true true 3 = if tD t w.1 % 2 = 0 then some ((j + tD t w.1 / 2) % tD t w.1) else none := by
          unfold strBy
          rw [if_neg (by decide), if_neg (by decide), hj]
          rfl
        refine GS.run [] 2 rfl ?_
        refine GS.icmp_lt rfl (fun q => absurd q (by decide)) (fun c2 => ?_)
        refine GS.run [] 2 rfl ?_
        refine GS.icmp_lt rfl (fun c8 => ?_) (fun q => absurd (by decide) q)
        refine GS.run [] 2 rfl ?_
        rw [h2, hj]
        refine GS.if_ge rfl (fun c54 => ?_) (fun q => absurd (nI_pos' (by omega)) q)
        refine GS.run [] 6 rfl ?_
        refine GS.ald (38 + w.1) rfl rfl (by rw [h1]; exact he_38) (by omega) ?_
        rw [m_dg ht (hW.1)]
        refine GS.run [] 3 rfl ?_
        refine GS.icmp_ne rfl (fun c75 => ?_) (fun q => absurd q (by decide))
        refine GS.run [] 2 rfl ?_
        refine GS.if_eq rfl (fun q => absurd q (by decide)) (fun c84 => ?_)
        refine GS.run [] 1 rfl ?_
        refine GS.if_eq rfl (fun q => absurd q (by decide)) (fun c88 => ?_)
        refine GS.run [] 2 rfl ?_
        refine GS.icmp_eq rfl (fun q => absurd q (by decide)) (fun c96 => ?_)
        refine GS.run [] 4 rfl ?_
        refine GS.lkp (off := 25) (t := 132) rfl (rfl) (by decide) ?_
        refine GS.run [] 2 rfl ?_
        refine GS.irem rfl (by decide) ?_
        rw [il_2, pk_rem (by omega) (by omega) (by omega)]
        refine GS.if_ne rfl (fun c136 => ?_) (fun c136 => ?_)
        · rw [if_neg (fun z => c136 (by rw [z]; rfl))] at hs
          refine GS.run [] 1 rfl ?_
          refine GS.iret rfl rfl (rfl) ?_
          exact ⟨by rw [hs]; first | rfl | (rw [Nat.add_mod_right]; rfl), rfl⟩
        · rw [if_pos ((nI_eq (b := 0) (by omega) (by omega)).mp c136)] at hs
          refine GS.run [] 3 rfl ?_
          refine GS.idiv rfl (by decide) ?_
          rw [il_2, pk_div (by omega) (by omega) (by omega)]
          refine GS.cV oX12_besides (c_besides d σ t w (nI (tD t w.1 / 2)) (j + tD t w.1 / 2 + tD t w.1) ht hw hW hk (by omega) (by rw [hj]; simp only [kI, nI_add]) (by omega)) rfl rfl rfl rfl rfl rfl rfl (Nat.le_of_ble_eq_true rfl) (by omega) ?_
          refine GS.run [] 1 rfl ?_
          refine GS.iret rfl rfl (rfl) ?_
          exact ⟨by rw [hs]; first | rfl | (rw [Nat.add_mod_right]; rfl), rfl⟩
  · cases hj : w.2.1
    · have hs : strBy t w img raw 4 = none := by unfold strBy; rw [if_neg (by decide), if_neg (by decide), hj]
      refine GS.run [] 2 rfl ?_
      refine GS.icmp_lt rfl (fun q => absurd q (by decide)) (fun c2 => ?_)
      refine GS.run [] 2 rfl ?_
      refine GS.icmp_lt rfl (fun c8 => ?_) (fun q => absurd (by decide) q)
      refine GS.run [] 2 rfl ?_
      rw [h2, hj]
      refine GS.if_ge rfl (fun q => absurd q (by decide)) (fun c54 => ?_)
      refine GS.run [] 1 rfl ?_
      refine GS.iret rfl rfl (rfl) ?_
      exact ⟨by rw [hs]; rfl, rfl⟩
    · rename_i j
      have hlt := hW.2 j hj
      rcases img with _ | _ <;> rcases raw with _ | _
      · have hs : strBy t w false false 4 = some j := by
          unfold strBy
          rw [if_neg (by decide), if_neg (by decide), hj]
          rfl
        refine GS.run [] 2 rfl ?_
        refine GS.icmp_lt rfl (fun q => absurd q (by decide)) (fun c2 => ?_)
        refine GS.run [] 2 rfl ?_
        refine GS.icmp_lt rfl (fun c8 => ?_) (fun q => absurd (by decide) q)
        refine GS.run [] 2 rfl ?_
        rw [h2, hj]
        refine GS.if_ge rfl (fun c54 => ?_) (fun q => absurd (nI_pos' (by omega)) q)
        refine GS.run [] 6 rfl ?_
        refine GS.ald (38 + w.1) rfl rfl (by rw [h1]; exact he_38) (by omega) ?_
        rw [m_dg ht (hW.1)]
        refine GS.run [] 3 rfl ?_
        refine GS.icmp_ne rfl (fun c75 => ?_) (fun q => absurd q (by decide))
        refine GS.run [] 2 rfl ?_
        refine GS.if_eq rfl (fun c84 => ?_) (fun q => absurd (rfl) q)
        refine GS.run [] 1 rfl ?_
        refine GS.icmp_eq rfl (fun c96 => ?_) (fun q => absurd (rfl) q)
        refine GS.run [] 3 rfl ?_
        refine GS.lkp (off := 45) (t := 152) rfl (rfl) (by decide) ?_
        refine GS.run [] 2 rfl ?_
        rw [h2]
        refine GS.iret rfl rfl (rfl) ?_
        exact ⟨by rw [hs, hj], rfl⟩
      · have hs : strBy t w false true 4 = some j := by
          unfold strBy
          rw [if_neg (by decide), if_neg (by decide), hj]
          rfl
        refine GS.run [] 2 rfl ?_
        refine GS.icmp_lt rfl (fun q => absurd q (by decide)) (fun c2 => ?_)
        refine GS.run [] 2 rfl ?_
        refine GS.icmp_lt rfl (fun c8 => ?_) (fun q => absurd (by decide) q)
        refine GS.run [] 2 rfl ?_
        rw [h2, hj]
        refine GS.if_ge rfl (fun c54 => ?_) (fun q => absurd (nI_pos' (by omega)) q)
        refine GS.run [] 6 rfl ?_
        refine GS.ald (38 + w.1) rfl rfl (by rw [h1]; exact he_38) (by omega) ?_
        rw [m_dg ht (hW.1)]
        refine GS.run [] 3 rfl ?_
        refine GS.icmp_ne rfl (fun c75 => ?_) (fun q => absurd q (by decide))
        refine GS.run [] 2 rfl ?_
        refine GS.if_eq rfl (fun c84 => ?_) (fun q => absurd (rfl) q)
        refine GS.run [] 1 rfl ?_
        refine GS.icmp_eq rfl (fun c96 => ?_) (fun q => absurd (rfl) q)
        refine GS.run [] 3 rfl ?_
        refine GS.lkp (off := 45) (t := 152) rfl (rfl) (by decide) ?_
        refine GS.run [] 2 rfl ?_
        rw [h2]
        refine GS.iret rfl rfl (rfl) ?_
        exact ⟨by rw [hs, hj], rfl⟩
      · have hs : strBy t w true false 4 = some j := by
          unfold strBy
          rw [if_neg (by decide), if_neg (by decide), hj]
          rfl
        refine GS.run [] 2 rfl ?_
        refine GS.icmp_lt rfl (fun q => absurd q (by decide)) (fun c2 => ?_)
        refine GS.run [] 2 rfl ?_
        refine GS.icmp_lt rfl (fun c8 => ?_) (fun q => absurd (by decide) q)
        refine GS.run [] 2 rfl ?_
        rw [h2, hj]
        refine GS.if_ge rfl (fun c54 => ?_) (fun q => absurd (nI_pos' (by omega)) q)
        refine GS.run [] 6 rfl ?_
        refine GS.ald (38 + w.1) rfl rfl (by rw [h1]; exact he_38) (by omega) ?_
        rw [m_dg ht (hW.1)]
        refine GS.run [] 3 rfl ?_
        refine GS.icmp_ne rfl (fun c75 => ?_) (fun q => absurd q (by decide))
        refine GS.run [] 2 rfl ?_
        refine GS.if_eq rfl (fun q => absurd q (by decide)) (fun c84 => ?_)
        refine GS.run [] 1 rfl ?_
        refine GS.if_eq rfl (fun c88 => ?_) (fun q => absurd (rfl) q)
        refine GS.run [] 1 rfl ?_
        refine GS.icmp_eq rfl (fun c96 => ?_) (fun q => absurd (rfl) q)
        refine GS.run [] 3 rfl ?_
        refine GS.lkp (off := 45) (t := 152) rfl (rfl) (by decide) ?_
        refine GS.run [] 2 rfl ?_
        rw [h2]
        refine GS.iret rfl rfl (rfl) ?_
        exact ⟨by rw [hs, hj], rfl⟩
      · have hs : strBy t w true true 4 = some j := by
          unfold strBy
          rw [if_neg (by decide), if_neg (by decide), hj]
          rfl
        refine GS.run [] 2 rfl ?_
        refine GS.icmp_lt rfl (fun q => absurd q (by decide)) (fun c2 => ?_)
        refine GS.run [] 2 rfl ?_
        refine GS.icmp_lt rfl (fun c8 => ?_) (fun q => absurd (by decide) q)
        refine GS.run [] 2 rfl ?_
        rw [h2, hj]
        refine GS.if_ge rfl (fun c54 => ?_) (fun q => absurd (nI_pos' (by omega)) q)
        refine GS.run [] 6 rfl ?_
        refine GS.ald (38 + w.1) rfl rfl (by rw [h1]; exact he_38) (by omega) ?_
        rw [m_dg ht (hW.1)]
        refine GS.run [] 3 rfl ?_
        refine GS.icmp_ne rfl (fun c75 => ?_) (fun q => absurd q (by decide))
        refine GS.run [] 2 rfl ?_
        refine GS.if_eq rfl (fun q => absurd q (by decide)) (fun c84 => ?_)
        refine GS.run [] 1 rfl ?_
        refine GS.if_eq rfl (fun q => absurd q (by decide)) (fun c88 => ?_)
        refine GS.run [] 2 rfl ?_
        refine GS.icmp_eq rfl (fun q => absurd q (by decide)) (fun c96 => ?_)
        refine GS.run [] 4 rfl ?_
        refine GS.lkp (off := 45) (t := 152) rfl (rfl) (by decide) ?_
        refine GS.run [] 2 rfl ?_
        rw [h2]
        refine GS.iret rfl rfl (rfl) ?_
        exact ⟨by rw [hs, hj], rfl⟩
  · cases hj : w.2.1
    · have hs : strBy t w img raw 5 = none := by unfold strBy; rw [if_neg (by decide), if_neg (by decide), hj]
      refine GS.run [] 2 rfl ?_
      refine GS.icmp_lt rfl (fun q => absurd q (by decide)) (fun c2 => ?_)
      refine GS.run [] 2 rfl ?_
      refine GS.icmp_lt rfl (fun c8 => ?_) (fun q => absurd (by decide) q)
      refine GS.run [] 2 rfl ?_
      rw [h2, hj]
      refine GS.if_ge rfl (fun q => absurd q (by decide)) (fun c54 => ?_)
      refine GS.run [] 1 rfl ?_
      refine GS.iret rfl rfl (rfl) ?_
      exact ⟨by rw [hs]; rfl, rfl⟩
    · rename_i j
      have hlt := hW.2 j hj
      rcases img with _ | _ <;> rcases raw with _ | _
      · have hs : (w.2.2 || false) = true → strBy t w false false 5 = some ((j + (1)) % tD t w.1) := by
          intro hr
          unfold strBy
          rw [if_neg (by decide), if_neg (by decide), hj]
          simp only
          rw [if_neg (by decide), if_neg (by decide), if_pos hr]
          rfl
        have hs2 : w.2.2 = false → strBy t w false false 5 = none := by
          intro hr
          unfold strBy
          rw [if_neg (by decide), if_neg (by decide), hj]
          simp only
          rw [if_neg (by decide), if_neg (by decide), if_neg (by rw [hr]; decide)]
        refine GS.run [] 2 rfl ?_
        refine GS.icmp_lt rfl (fun q => absurd q (by decide)) (fun c2 => ?_)
        refine GS.run [] 2 rfl ?_
        refine GS.icmp_lt rfl (fun c8 => ?_) (fun q => absurd (by decide) q)
        refine GS.run [] 2 rfl ?_
        rw [h2, hj]
        refine GS.if_ge rfl (fun c54 => ?_) (fun q => absurd (nI_pos' (by omega)) q)
        refine GS.run [] 6 rfl ?_
        refine GS.ald (38 + w.1) rfl rfl (by rw [h1]; exact he_38) (by omega) ?_
        rw [m_dg ht (hW.1)]
        refine GS.run [] 3 rfl ?_
        refine GS.icmp_ne rfl (fun q => absurd (rfl) q) (fun c75 => ?_)
        refine GS.run [] 3 rfl ?_
        refine GS.if_eq rfl (fun c84 => ?_) (fun q => absurd (rfl) q)
        refine GS.run [] 1 rfl ?_
        refine GS.icmp_eq rfl (fun q => absurd q (by decide)) (fun c96 => ?_)
        refine GS.run [] 4 rfl ?_
        refine GS.lkp (off := 50) (t := 157) rfl (rfl) (by decide) ?_
        refine GS.run [] 2 rfl ?_
        rw [h3]
        refine GS.if_ne rfl (fun c161 => ?_) (fun c161 => ?_)
        · have hr : (w.2.2 || false) = true := by rw [bI1.mp c161]; rfl
          refine GS.run [] 2 rfl ?_
          refine GS.if_eq rfl (fun q => absurd q (by decide)) (fun c171 => ?_)
          refine GS.run [] 2 rfl ?_
          refine GS.cV oX12_besides (c_besides d σ t w 1 (j + 1 + tD t w.1) ht hw hW hk (by omega) (by rw [hj, il_1]; simp only [kI, nI_add]) (by omega)) rfl rfl rfl rfl rfl rfl rfl (Nat.le_of_ble_eq_true rfl) (by omega) ?_
          refine GS.run [] 1 rfl ?_
          refine GS.iret rfl rfl (rfl) ?_
          first
            | exact ⟨by rw [hs2 hr]; rfl, rfl⟩
            | exact ⟨by rw [hs hr]; first | rfl | (rw [Nat.add_mod_right]; rfl), rfl⟩
        · have hr := bI0.mp c161
          refine GS.run [] 1 rfl ?_
          refine GS.if_eq rfl (fun c165 => ?_) (fun q => absurd (rfl) q)
          refine GS.run [] 1 rfl ?_
          refine GS.iret rfl rfl (rfl) ?_
          first
            | exact ⟨by rw [hs2 hr]; rfl, rfl⟩
            | exact ⟨by rw [hs hr]; first | rfl | (rw [Nat.add_mod_right]; rfl), rfl⟩
      · have hs : (w.2.2 || true) = true → strBy t w false true 5 = some ((j + (1)) % tD t w.1) := by
          intro hr
          unfold strBy
          rw [if_neg (by decide), if_neg (by decide), hj]
          simp only
          rw [if_neg (by decide), if_neg (by decide), if_pos hr]
          rfl
        refine GS.run [] 2 rfl ?_
        refine GS.icmp_lt rfl (fun q => absurd q (by decide)) (fun c2 => ?_)
        refine GS.run [] 2 rfl ?_
        refine GS.icmp_lt rfl (fun c8 => ?_) (fun q => absurd (by decide) q)
        refine GS.run [] 2 rfl ?_
        rw [h2, hj]
        refine GS.if_ge rfl (fun c54 => ?_) (fun q => absurd (nI_pos' (by omega)) q)
        refine GS.run [] 6 rfl ?_
        refine GS.ald (38 + w.1) rfl rfl (by rw [h1]; exact he_38) (by omega) ?_
        rw [m_dg ht (hW.1)]
        refine GS.run [] 3 rfl ?_
        refine GS.icmp_ne rfl (fun q => absurd (rfl) q) (fun c75 => ?_)
        refine GS.run [] 3 rfl ?_
        refine GS.if_eq rfl (fun c84 => ?_) (fun q => absurd (rfl) q)
        refine GS.run [] 1 rfl ?_
        refine GS.icmp_eq rfl (fun q => absurd q (by decide)) (fun c96 => ?_)
        refine GS.run [] 4 rfl ?_
        refine GS.lkp (off := 50) (t := 157) rfl (rfl) (by decide) ?_
        refine GS.run [] 2 rfl ?_
        rw [h3]
        refine GS.if_ne rfl (fun c161 => ?_) (fun c161 => ?_)
        · have hr : (w.2.2 || true) = true := by rw [bI1.mp c161]; rfl
          refine GS.run [] 2 rfl ?_
          refine GS.if_eq rfl (fun q => absurd q (by decide)) (fun c171 => ?_)
          refine GS.run [] 2 rfl ?_
          refine GS.cV oX12_besides (c_besides d σ t w 1 (j + 1 + tD t w.1) ht hw hW hk (by omega) (by rw [hj, il_1]; simp only [kI, nI_add]) (by omega)) rfl rfl rfl rfl rfl rfl rfl (Nat.le_of_ble_eq_true rfl) (by omega) ?_
          refine GS.run [] 1 rfl ?_
          refine GS.iret rfl rfl (rfl) ?_
          first
            | exact ⟨by rw [hs2 hr]; rfl, rfl⟩
            | exact ⟨by rw [hs hr]; first | rfl | (rw [Nat.add_mod_right]; rfl), rfl⟩
        · have hr : (w.2.2 || true) = true := Bool.or_true _
          refine GS.run [] 1 rfl ?_
          refine GS.if_eq rfl (fun q => absurd q (by decide)) (fun c165 => ?_)
          refine GS.run [] 2 rfl ?_
          refine GS.if_eq rfl (fun q => absurd q (by decide)) (fun c171 => ?_)
          refine GS.run [] 2 rfl ?_
          refine GS.cV oX12_besides (c_besides d σ t w 1 (j + 1 + tD t w.1) ht hw hW hk (by omega) (by rw [hj, il_1]; simp only [kI, nI_add]) (by omega)) rfl rfl rfl rfl rfl rfl rfl (Nat.le_of_ble_eq_true rfl) (by omega) ?_
          refine GS.run [] 1 rfl ?_
          refine GS.iret rfl rfl (rfl) ?_
          first
            | exact ⟨by rw [hs2 hr]; rfl, rfl⟩
            | exact ⟨by rw [hs hr]; first | rfl | (rw [Nat.add_mod_right]; rfl), rfl⟩
      · have hs : (w.2.2 || false) = true → strBy t w true false 5 = some ((j + (1)) % tD t w.1) := by
          intro hr
          unfold strBy
          rw [if_neg (by decide), if_neg (by decide), hj]
          simp only
          rw [if_neg (by decide), if_neg (by decide), if_pos hr]
          rfl
        have hs2 : w.2.2 = false → strBy t w true false 5 = none := by
          intro hr
          unfold strBy
          rw [if_neg (by decide), if_neg (by decide), hj]
          simp only
          rw [if_neg (by decide), if_neg (by decide), if_neg (by rw [hr]; decide)]
        refine GS.run [] 2 rfl ?_
        refine GS.icmp_lt rfl (fun q => absurd q (by decide)) (fun c2 => ?_)
        refine GS.run [] 2 rfl ?_
        refine GS.icmp_lt rfl (fun c8 => ?_) (fun q => absurd (by decide) q)
        refine GS.run [] 2 rfl ?_
        rw [h2, hj]
        refine GS.if_ge rfl (fun c54 => ?_) (fun q => absurd (nI_pos' (by omega)) q)
        refine GS.run [] 6 rfl ?_
        refine GS.ald (38 + w.1) rfl rfl (by rw [h1]; exact he_38) (by omega) ?_
        rw [m_dg ht (hW.1)]
        refine GS.run [] 3 rfl ?_
        refine GS.icmp_ne rfl (fun q => absurd (rfl) q) (fun c75 => ?_)
        refine GS.run [] 3 rfl ?_
        refine GS.if_eq rfl (fun q => absurd q (by decide)) (fun c84 => ?_)
        refine GS.run [] 1 rfl ?_
        refine GS.if_eq rfl (fun c88 => ?_) (fun q => absurd (rfl) q)
        refine GS.run [] 1 rfl ?_
        refine GS.icmp_eq rfl (fun q => absurd q (by decide)) (fun c96 => ?_)
        refine GS.run [] 4 rfl ?_
        refine GS.lkp (off := 50) (t := 157) rfl (rfl) (by decide) ?_
        refine GS.run [] 2 rfl ?_
        rw [h3]
        refine GS.if_ne rfl (fun c161 => ?_) (fun c161 => ?_)
        · have hr : (w.2.2 || false) = true := by rw [bI1.mp c161]; rfl
          refine GS.run [] 2 rfl ?_
          refine GS.if_eq rfl (fun q => absurd q (by decide)) (fun c171 => ?_)
          refine GS.run [] 2 rfl ?_
          refine GS.cV oX12_besides (c_besides d σ t w 1 (j + 1 + tD t w.1) ht hw hW hk (by omega) (by rw [hj, il_1]; simp only [kI, nI_add]) (by omega)) rfl rfl rfl rfl rfl rfl rfl (Nat.le_of_ble_eq_true rfl) (by omega) ?_
          refine GS.run [] 1 rfl ?_
          refine GS.iret rfl rfl (rfl) ?_
          first
            | exact ⟨by rw [hs2 hr]; rfl, rfl⟩
            | exact ⟨by rw [hs hr]; first | rfl | (rw [Nat.add_mod_right]; rfl), rfl⟩
        · have hr := bI0.mp c161
          refine GS.run [] 1 rfl ?_
          refine GS.if_eq rfl (fun c165 => ?_) (fun q => absurd (rfl) q)
          refine GS.run [] 1 rfl ?_
          refine GS.iret rfl rfl (rfl) ?_
          first
            | exact ⟨by rw [hs2 hr]; rfl, rfl⟩
            | exact ⟨by rw [hs hr]; first | rfl | (rw [Nat.add_mod_right]; rfl), rfl⟩
      · have hs : (w.2.2 || true) = true → strBy t w true true 5 = some ((j + (tD t w.1 - 1)) % tD t w.1) := by
          intro hr
          unfold strBy
          rw [if_neg (by decide), if_neg (by decide), hj]
          simp only
          rw [if_neg (by decide), if_neg (by decide), if_pos hr]
          rfl
        refine GS.run [] 2 rfl ?_
        refine GS.icmp_lt rfl (fun q => absurd q (by decide)) (fun c2 => ?_)
        refine GS.run [] 2 rfl ?_
        refine GS.icmp_lt rfl (fun c8 => ?_) (fun q => absurd (by decide) q)
        refine GS.run [] 2 rfl ?_
        rw [h2, hj]
        refine GS.if_ge rfl (fun c54 => ?_) (fun q => absurd (nI_pos' (by omega)) q)
        refine GS.run [] 6 rfl ?_
        refine GS.ald (38 + w.1) rfl rfl (by rw [h1]; exact he_38) (by omega) ?_
        rw [m_dg ht (hW.1)]
        refine GS.run [] 3 rfl ?_
        refine GS.icmp_ne rfl (fun q => absurd (rfl) q) (fun c75 => ?_)
        refine GS.run [] 3 rfl ?_
        refine GS.if_eq rfl (fun q => absurd q (by decide)) (fun c84 => ?_)
        refine GS.run [] 1 rfl ?_
        refine GS.if_eq rfl (fun q => absurd q (by decide)) (fun c88 => ?_)
        refine GS.run [] 2 rfl ?_
        refine GS.icmp_eq rfl (fun c96 => ?_) (fun q => absurd (rfl) q)
        refine GS.run [] 3 rfl ?_
        refine GS.lkp (off := 50) (t := 157) rfl (rfl) (by decide) ?_
        refine GS.run [] 2 rfl ?_
        rw [h3]
        refine GS.if_ne rfl (fun c161 => ?_) (fun c161 => ?_)
        · have hr : (w.2.2 || true) = true := by rw [bI1.mp c161]; rfl
          refine GS.run [] 2 rfl ?_
          refine GS.if_eq rfl (fun c171 => ?_) (fun q => absurd (rfl) q)
          refine GS.run [] 1 rfl ?_
          refine GS.cV oX12_besides (c_besides d σ t w (-1) (j + (tD t w.1 - 1)) ht hw hW hk (by omega) (by rw [hj, show (-1 : Int32) = zI (-1) from rfl]; simp only [kI, zI_n, zI_add]; congr 1; omega) (by omega)) rfl rfl rfl rfl rfl rfl rfl (Nat.le_of_ble_eq_true rfl) (by omega) ?_
          refine GS.run [] 1 rfl ?_
          refine GS.iret rfl rfl (rfl) ?_
          first
            | exact ⟨by rw [hs2 hr]; rfl, rfl⟩
            | exact ⟨by rw [hs hr]; first | rfl | (rw [Nat.add_mod_right]; rfl), rfl⟩
        · have hr : (w.2.2 || true) = true := Bool.or_true _
          refine GS.run [] 1 rfl ?_
          refine GS.if_eq rfl (fun q => absurd q (by decide)) (fun c165 => ?_)
          refine GS.run [] 2 rfl ?_
          refine GS.if_eq rfl (fun c171 => ?_) (fun q => absurd (rfl) q)
          refine GS.run [] 1 rfl ?_
          refine GS.cV oX12_besides (c_besides d σ t w (-1) (j + (tD t w.1 - 1)) ht hw hW hk (by omega) (by rw [hj, show (-1 : Int32) = zI (-1) from rfl]; simp only [kI, zI_n, zI_add]; congr 1; omega) (by omega)) rfl rfl rfl rfl rfl rfl rfl (Nat.le_of_ble_eq_true rfl) (by omega) ?_
          refine GS.run [] 1 rfl ?_
          refine GS.iret rfl rfl (rfl) ?_
          first
            | exact ⟨by rw [hs2 hr]; rfl, rfl⟩
            | exact ⟨by rw [hs hr]; first | rfl | (rw [Nat.add_mod_right]; rfl), rfl⟩
  · cases hj : w.2.1
    · have hs : strBy t w img raw 6 = none := by unfold strBy; rw [if_neg (by decide), if_neg (by decide), hj]
      refine GS.run [] 2 rfl ?_
      refine GS.icmp_lt rfl (fun q => absurd q (by decide)) (fun c2 => ?_)
      refine GS.run [] 2 rfl ?_
      refine GS.icmp_lt rfl (fun c8 => ?_) (fun q => absurd (by decide) q)
      refine GS.run [] 2 rfl ?_
      rw [h2, hj]
      refine GS.if_ge rfl (fun q => absurd q (by decide)) (fun c54 => ?_)
      refine GS.run [] 1 rfl ?_
      refine GS.iret rfl rfl (rfl) ?_
      exact ⟨by rw [hs]; rfl, rfl⟩
    · rename_i j
      have hlt := hW.2 j hj
      rcases img with _ | _ <;> rcases raw with _ | _
      · have hs : (w.2.2 || false) = true → strBy t w false false 6 = some ((j + (tD t w.1 - 1)) % tD t w.1) := by
          intro hr
          unfold strBy
          rw [if_neg (by decide), if_neg (by decide), hj]
          simp only
          rw [if_neg (by decide), if_neg (by decide), if_pos hr]
          rfl
        have hs2 : w.2.2 = false → strBy t w false false 6 = none := by
          intro hr
          unfold strBy
          rw [if_neg (by decide), if_neg (by decide), hj]
          simp only
          rw [if_neg (by decide), if_neg (by decide), if_neg (by rw [hr]; decide)]
        refine GS.run [] 2 rfl ?_
        refine GS.icmp_lt rfl (fun q => absurd q (by decide)) (fun c2 => ?_)
        refine GS.run [] 2 rfl ?_
        refine GS.icmp_lt rfl (fun c8 => ?_) (fun q => absurd (by decide) q)
        refine GS.run [] 2 rfl ?_
        rw [h2, hj]
        refine GS.if_ge rfl (fun c54 => ?_) (fun q => absurd (nI_pos' (by omega)) q)
        refine GS.run [] 6 rfl ?_
        refine GS.ald (38 + w.1) rfl rfl (by rw [h1]; exact he_38) (by omega) ?_
        rw [m_dg ht (hW.1)]
        refine GS.run [] 3 rfl ?_
        refine GS.icmp_ne rfl (fun c75 => ?_) (fun q => absurd q (by decide))
        refine GS.run [] 2 rfl ?_
        refine GS.if_eq rfl (fun c84 => ?_) (fun q => absurd (rfl) q)
        refine GS.run [] 1 rfl ?_
        refine GS.icmp_eq rfl (fun c96 => ?_) (fun q => absurd (rfl) q)
        refine GS.run [] 3 rfl ?_
        refine GS.lkp (off := 50) (t := 157) rfl (rfl) (by decide) ?_
        refine GS.run [] 2 rfl ?_
        rw [h3]
        refine GS.if_ne rfl (fun c161 => ?_) (fun c161 => ?_)
        · have hr : (w.2.2 || false) = true := by rw [bI1.mp c161]; rfl
          refine GS.run [] 2 rfl ?_
          refine GS.if_eq rfl (fun c171 => ?_) (fun q => absurd (rfl) q)
          refine GS.run [] 1 rfl ?_
          refine GS.cV oX12_besides (c_besides d σ t w (-1) (j + (tD t w.1 - 1)) ht hw hW hk (by omega) (by rw [hj, show (-1 : Int32) = zI (-1) from rfl]; simp only [kI, zI_n, zI_add]; congr 1; omega) (by omega)) rfl rfl rfl rfl rfl rfl rfl (Nat.le_of_ble_eq_true rfl) (by omega) ?_
          refine GS.run [] 1 rfl ?_
          refine GS.iret rfl rfl (rfl) ?_
          first
            | exact ⟨by rw [hs2 hr]; rfl, rfl⟩
            | exact ⟨by rw [hs hr]; first | rfl | (rw [Nat.add_mod_right]; rfl), rfl⟩
        · have hr := bI0.mp c161
          refine GS.run [] 1 rfl ?_
          refine GS.if_eq rfl (fun c165 => ?_) (fun q => absurd (rfl) q)
          refine GS.run [] 1 rfl ?_
          refine GS.iret rfl rfl (rfl) ?_
          first
            | exact ⟨by rw [hs2 hr]; rfl, rfl⟩
            | exact ⟨by rw [hs hr]; first | rfl | (rw [Nat.add_mod_right]; rfl), rfl⟩
      · have hs : (w.2.2 || true) = true → strBy t w false true 6 = some ((j + (tD t w.1 - 1)) % tD t w.1) := by
          intro hr
          unfold strBy
          rw [if_neg (by decide), if_neg (by decide), hj]
          simp only
          rw [if_neg (by decide), if_neg (by decide), if_pos hr]
          rfl
        refine GS.run [] 2 rfl ?_
        refine GS.icmp_lt rfl (fun q => absurd q (by decide)) (fun c2 => ?_)
        refine GS.run [] 2 rfl ?_
        refine GS.icmp_lt rfl (fun c8 => ?_) (fun q => absurd (by decide) q)
        refine GS.run [] 2 rfl ?_
        rw [h2, hj]
        refine GS.if_ge rfl (fun c54 => ?_) (fun q => absurd (nI_pos' (by omega)) q)
        refine GS.run [] 6 rfl ?_
        refine GS.ald (38 + w.1) rfl rfl (by rw [h1]; exact he_38) (by omega) ?_
        rw [m_dg ht (hW.1)]
        refine GS.run [] 3 rfl ?_
        refine GS.icmp_ne rfl (fun c75 => ?_) (fun q => absurd q (by decide))
        refine GS.run [] 2 rfl ?_
        refine GS.if_eq rfl (fun c84 => ?_) (fun q => absurd (rfl) q)
        refine GS.run [] 1 rfl ?_
        refine GS.icmp_eq rfl (fun c96 => ?_) (fun q => absurd (rfl) q)
        refine GS.run [] 3 rfl ?_
        refine GS.lkp (off := 50) (t := 157) rfl (rfl) (by decide) ?_
        refine GS.run [] 2 rfl ?_
        rw [h3]
        refine GS.if_ne rfl (fun c161 => ?_) (fun c161 => ?_)
        · have hr : (w.2.2 || true) = true := by rw [bI1.mp c161]; rfl
          refine GS.run [] 2 rfl ?_
          refine GS.if_eq rfl (fun c171 => ?_) (fun q => absurd (rfl) q)
          refine GS.run [] 1 rfl ?_
          refine GS.cV oX12_besides (c_besides d σ t w (-1) (j + (tD t w.1 - 1)) ht hw hW hk (by omega) (by rw [hj, show (-1 : Int32) = zI (-1) from rfl]; simp only [kI, zI_n, zI_add]; congr 1; omega) (by omega)) rfl rfl rfl rfl rfl rfl rfl (Nat.le_of_ble_eq_true rfl) (by omega) ?_
          refine GS.run [] 1 rfl ?_
          refine GS.iret rfl rfl (rfl) ?_
          first
            | exact ⟨by rw [hs2 hr]; rfl, rfl⟩
            | exact ⟨by rw [hs hr]; first | rfl | (rw [Nat.add_mod_right]; rfl), rfl⟩
        · have hr : (w.2.2 || true) = true := Bool.or_true _
          refine GS.run [] 1 rfl ?_
          refine GS.if_eq rfl (fun q => absurd q (by decide)) (fun c165 => ?_)
          refine GS.run [] 2 rfl ?_
          refine GS.if_eq rfl (fun c171 => ?_) (fun q => absurd (rfl) q)
          refine GS.run [] 1 rfl ?_
          refine GS.cV oX12_besides (c_besides d σ t w (-1) (j + (tD t w.1 - 1)) ht hw hW hk (by omega) (by rw [hj, show (-1 : Int32) = zI (-1) from rfl]; simp only [kI, zI_n, zI_add]; congr 1; omega) (by omega)) rfl rfl rfl rfl rfl rfl rfl (Nat.le_of_ble_eq_true rfl) (by omega) ?_
          refine GS.run [] 1 rfl ?_
          refine GS.iret rfl rfl (rfl) ?_
          first
            | exact ⟨by rw [hs2 hr]; rfl, rfl⟩
            | exact ⟨by rw [hs hr]; first | rfl | (rw [Nat.add_mod_right]; rfl), rfl⟩
      · have hs : (w.2.2 || false) = true → strBy t w true false 6 = some ((j + (tD t w.1 - 1)) % tD t w.1) := by
          intro hr
          unfold strBy
          rw [if_neg (by decide), if_neg (by decide), hj]
          simp only
          rw [if_neg (by decide), if_neg (by decide), if_pos hr]
          rfl
        have hs2 : w.2.2 = false → strBy t w true false 6 = none := by
          intro hr
          unfold strBy
          rw [if_neg (by decide), if_neg (by decide), hj]
          simp only
          rw [if_neg (by decide), if_neg (by decide), if_neg (by rw [hr]; decide)]
        refine GS.run [] 2 rfl ?_
        refine GS.icmp_lt rfl (fun q => absurd q (by decide)) (fun c2 => ?_)
        refine GS.run [] 2 rfl ?_
        refine GS.icmp_lt rfl (fun c8 => ?_) (fun q => absurd (by decide) q)
        refine GS.run [] 2 rfl ?_
        rw [h2, hj]
        refine GS.if_ge rfl (fun c54 => ?_) (fun q => absurd (nI_pos' (by omega)) q)
        refine GS.run [] 6 rfl ?_
        refine GS.ald (38 + w.1) rfl rfl (by rw [h1]; exact he_38) (by omega) ?_
        rw [m_dg ht (hW.1)]
        refine GS.run [] 3 rfl ?_
        refine GS.icmp_ne rfl (fun c75 => ?_) (fun q => absurd q (by decide))
        refine GS.run [] 2 rfl ?_
        refine GS.if_eq rfl (fun q => absurd q (by decide)) (fun c84 => ?_)
        refine GS.run [] 1 rfl ?_
        refine GS.if_eq rfl (fun c88 => ?_) (fun q => absurd (rfl) q)
        refine GS.run [] 1 rfl ?_
        refine GS.icmp_eq rfl (fun c96 => ?_) (fun q => absurd (rfl) q)
        refine GS.run [] 3 rfl ?_
        refine GS.lkp (off := 50) (t := 157) rfl (rfl) (by decide) ?_
        refine GS.run [] 2 rfl ?_
        rw [h3]
        refine GS.if_ne rfl (fun c161 => ?_) (fun c161 => ?_)
        · have hr : (w.2.2 || false) = true := by rw [bI1.mp c161]; rfl
          refine GS.run [] 2 rfl ?_
          refine GS.if_eq rfl (fun c171 => ?_) (fun q => absurd (rfl) q)
          refine GS.run [] 1 rfl ?_
          refine GS.cV oX12_besides (c_besides d σ t w (-1) (j + (tD t w.1 - 1)) ht hw hW hk (by omega) (by rw [hj, show (-1 : Int32) = zI (-1) from rfl]; simp only [kI, zI_n, zI_add]; congr 1; omega) (by omega)) rfl rfl rfl rfl rfl rfl rfl (Nat.le_of_ble_eq_true rfl) (by omega) ?_
          refine GS.run [] 1 rfl ?_
          refine GS.iret rfl rfl (rfl) ?_
          first
            | exact ⟨by rw [hs2 hr]; rfl, rfl⟩
            | exact ⟨by rw [hs hr]; first | rfl | (rw [Nat.add_mod_right]; rfl), rfl⟩
        · have hr := bI0.mp c161
          refine GS.run [] 1 rfl ?_
          refine GS.if_eq rfl (fun c165 => ?_) (fun q => absurd (rfl) q)
          refine GS.run [] 1 rfl ?_
          refine GS.iret rfl rfl (rfl) ?_
          first
            | exact ⟨by rw [hs2 hr]; rfl, rfl⟩
            | exact ⟨by rw [hs hr]; first | rfl | (rw [Nat.add_mod_right]; rfl), rfl⟩
      · have hs : (w.2.2 || true) = true → strBy t w true true 6 = some ((j + (1)) % tD t w.1) := by
          intro hr
          unfold strBy
          rw [if_neg (by decide), if_neg (by decide), hj]
          simp only
          rw [if_neg (by decide), if_neg (by decide), if_pos hr]
          rfl
        refine GS.run [] 2 rfl ?_
        refine GS.icmp_lt rfl (fun q => absurd q (by decide)) (fun c2 => ?_)
        refine GS.run [] 2 rfl ?_
        refine GS.icmp_lt rfl (fun c8 => ?_) (fun q => absurd (by decide) q)
        refine GS.run [] 2 rfl ?_
        rw [h2, hj]
        refine GS.if_ge rfl (fun c54 => ?_) (fun q => absurd (nI_pos' (by omega)) q)
        refine GS.run [] 6 rfl ?_
        refine GS.ald (38 + w.1) rfl rfl (by rw [h1]; exact he_38) (by omega) ?_
        rw [m_dg ht (hW.1)]
        refine GS.run [] 3 rfl ?_
        refine GS.icmp_ne rfl (fun c75 => ?_) (fun q => absurd q (by decide))
        refine GS.run [] 2 rfl ?_
        refine GS.if_eq rfl (fun q => absurd q (by decide)) (fun c84 => ?_)
        refine GS.run [] 1 rfl ?_
        refine GS.if_eq rfl (fun q => absurd q (by decide)) (fun c88 => ?_)
        refine GS.run [] 2 rfl ?_
        refine GS.icmp_eq rfl (fun q => absurd q (by decide)) (fun c96 => ?_)
        refine GS.run [] 4 rfl ?_
        refine GS.lkp (off := 50) (t := 157) rfl (rfl) (by decide) ?_
        refine GS.run [] 2 rfl ?_
        rw [h3]
        refine GS.if_ne rfl (fun c161 => ?_) (fun c161 => ?_)
        · have hr : (w.2.2 || true) = true := by rw [bI1.mp c161]; rfl
          refine GS.run [] 2 rfl ?_
          refine GS.if_eq rfl (fun q => absurd q (by decide)) (fun c171 => ?_)
          refine GS.run [] 2 rfl ?_
          refine GS.cV oX12_besides (c_besides d σ t w 1 (j + 1 + tD t w.1) ht hw hW hk (by omega) (by rw [hj, il_1]; simp only [kI, nI_add]) (by omega)) rfl rfl rfl rfl rfl rfl rfl (Nat.le_of_ble_eq_true rfl) (by omega) ?_
          refine GS.run [] 1 rfl ?_
          refine GS.iret rfl rfl (rfl) ?_
          first
            | exact ⟨by rw [hs2 hr]; rfl, rfl⟩
            | exact ⟨by rw [hs hr]; first | rfl | (rw [Nat.add_mod_right]; rfl), rfl⟩
        · have hr : (w.2.2 || true) = true := Bool.or_true _
          refine GS.run [] 1 rfl ?_
          refine GS.if_eq rfl (fun q => absurd q (by decide)) (fun c165 => ?_)
          refine GS.run [] 2 rfl ?_
          refine GS.if_eq rfl (fun q => absurd q (by decide)) (fun c171 => ?_)
          refine GS.run [] 2 rfl ?_
          refine GS.cV oX12_besides (c_besides d σ t w 1 (j + 1 + tD t w.1) ht hw hW hk (by omega) (by rw [hj, il_1]; simp only [kI, nI_add]) (by omega)) rfl rfl rfl rfl rfl rfl rfl (Nat.le_of_ble_eq_true rfl) (by omega) ?_
          refine GS.run [] 1 rfl ?_
          refine GS.iret rfl rfl (rfl) ?_
          first
            | exact ⟨by rw [hs2 hr]; rfl, rfl⟩
            | exact ⟨by rw [hs hr]; first | rfl | (rw [Nat.add_mod_right]; rfl), rfl⟩
  · have hs : strBy t w img raw v = markedK t w.1 (v - 20) := by unfold strBy; rw [if_pos hv.1]
    refine GS.run [] 2 rfl ?_
    refine GS.icmp_lt rfl (fun q => absurd q (fun z => absurd ((nI_ltI (b := 3) (by omega) (by omega)).mp z) (by omega))) (fun c2 => ?_)
    refine GS.run [] 2 rfl ?_
    refine GS.icmp_lt rfl (fun q => absurd q (fun z => absurd ((nI_ltI (b := 20) (by omega) (by omega)).mp z) (by omega))) (fun c8 => ?_)
    refine GS.run [] 2 rfl ?_
    refine GS.icmp_lt rfl (fun q => absurd q (fun z => absurd ((nI_ltI (b := 20) (by omega) (by omega)).mp z) (by omega))) (fun c14 => ?_)
    refine GS.run [] 6 rfl ?_
    rw [h1, il_20, pk_sub (by omega)]
    refine GS.cV oX12_marked (c_mmarked d σ t w.1 (v - 20) ht hw hW.1 (by omega)) rfl rfl rfl rfl rfl rfl rfl (Nat.le_of_ble_eq_true rfl) (by omega) ?_
    refine GS.run [] 1 rfl ?_
    refine GS.iret rfl rfl (rfl) ?_
    exact ⟨by rw [hs], rfl⟩
