/-- a walker: his corner, the place of the street by which he came, whether he has a hand -/
abbrev Wk : Type := Nat × Option Nat × Bool
def ixT (t : Tn) (a b : Nat) : Nat := ((List.range (tD t a)).find? (fun j => decide (tB t a j = b))).getD 0
theorem ixT_spec {t : Tn} {a b j : Nat} (hj : j < tD t a) (hb : tB t a j = b) : ixT t a b < tD t a ∧ tB t a (ixT t a b) = b := by
  unfold ixT
  cases h : (List.range (tD t a)).find? (fun j => decide (tB t a j = b)) with
  | none =>
    have h1 := List.find?_eq_none.mp h j (List.mem_range.mpr hj)
    simp [hb] at h1
  | some i =>
    have h1 := List.find?_some h
    have h2 := List.mem_of_find?_eq_some h
    exact ⟨List.mem_range.mp h2, of_decide_eq_true h1⟩
theorem ixT_eq {t : Tn} {a j : Nat} (hw : wfT t) (ha : a < tN t) (hj : j < tD t a) : ixT t a (tB t a j) = j := by
  have h := ixT_spec hj rfl
  exact (hw.2.2 a ha).2.2.2.2.2.1 _ _ h.1 hj h.2
def wfW (t : Tn) (w : Wk) : Prop := w.1 < tN t ∧ ∀ j, w.2.1 = some j → j < tD t w.1
def strBy (t : Tn) (w : Wk) (img raw : Bool) (v : Nat) : Option Nat :=
  if 20 ≤ v then markedK t w.1 (v - 20) else if v < 3 then slope t w.1 (decide (v = 0)) else match w.2.1 with
  | none => none
  | some j => if v = 3 then (if tD t w.1 % 2 = 0 then some ((j + tD t w.1 / 2) % tD t w.1) else none) else if v = 4 then some j else if (w.2.2 || raw) = true then some ((j + (if (decide (v = 5) != (img && raw)) = true then 1 else tD t w.1 - 1)) % tD t w.1) else none
theorem strBy_lt {t : Tn} {w : Wk} {img raw : Bool} {v k : Nat} (hW : wfW t w) (h : strBy t w img raw v = some k) : k < tD t w.1 := by
  unfold strBy at h
  split at h
  · exact markedK_lt h
  · split at h
    · exact slope_lt h
    · split at h
      · cases h
      · rename_i j hj
        have hlt := hW.2 j hj
        have h0 : 0 < tD t w.1 := by omega
        split at h
        · split at h
          · cases h; exact Nat.mod_lt _ h0
          · cases h
        · split at h
          · cases h; exact hlt
          · split at h
            · cases h; exact Nat.mod_lt _ h0
            · cases h
def goW (t : Tn) (w : Wk) (img raw : Bool) (v : Nat) : Bool × Wk := if v = 7 then (decide (tW t w.1 = 1), (w.1, w.2.1, w.2.2 || decide (tW t w.1 = 1))) else match strBy t w img raw v with
  | none => (false, w)
  | some k => (true, (tB t w.1 k, some (ixT t (tB t w.1 k) w.1), w.2.2))
theorem goW_wf {t : Tn} {w : Wk} {img raw : Bool} {v : Nat} (hw : wfT t) (hW : wfW t w) : wfW t (goW t w img raw v).2 := by
  unfold goW
  split
  · exact hW
  · split
    · exact hW
    · rename_i k hk
      have hlt := strBy_lt hW hk
      have h1 := (hw.2.2 _ hW.1).2.2.2.2.1 k hlt
      obtain ⟨j, h2, h3⟩ := (hw.2.2 _ hW.1).2.2.2.2.2.2 k hlt
      refine ⟨h1.1, fun j' hj' => ?_⟩
      cases hj'
      exact (ixT_spec h2 h3).1
def stW (c : Nat) : Wk := (c, none, false)
theorem stW_wf {t : Tn} {c : Nat} (hc : c < tN t) : wfW t (stW c) := ⟨hc, fun _ h => by cases h⟩
def frI (t : Tn) (w : Wk) : Int32 := match w.2.1 with
  | none => -1000000
  | some j => nI (tB t w.1 j)
def sd (img raw : Bool) : Int := match (img && raw) with
  | true => -1
  | false => 1
theorem sd_r {img raw : Bool} : -1 ≤ sd img raw ∧ sd img raw ≤ 1 := by unfold sd; split <;> omega
def wkC (k : Nat) (σ : am_S) (t : Tn) (w : Wk) (img raw : Bool) : Prop := σ k 1 = nI w.1 ∧ σ k 2 = frI t w ∧ σ k 3 = bI w.2.2 ∧ σ k 4 = bI raw ∧ σ k 5 = zI (sd img raw)
theorem wkC.kept {k : Nat} {σ σ' : am_S} {t : Tn} {w : Wk} {img raw : Bool} (h : wkC k σ t w img raw) (e : σ' k = σ k) : wkC k σ' t w img raw := by unfold wkC; rw [e]; exact h
theorem toN1 {a b n : Nat} : (((a : Int) + (b : Int)) % (n : Int)).toNat = (a + b) % n := by
  rw [← Int.natCast_add, ← Int.natCast_emod, Int.toNat_natCast]
theorem toN2 {a n : Nat} (h : a < n) : (((a : Int) + -1) % (n : Int)).toNat = (a + (n - 1)) % n := by
  rw [← Int.add_emod_right, show ((a : Int) + -1 + (n : Int)) = ((a + (n - 1) : Nat) : Int) by omega, ← Int.natCast_emod, Int.toNat_natCast]
theorem v_hand {σ : am_S} {t : Tn} {w : Wk} {img raw : Bool} {j v : Nat} (ht : townC 10 σ t) (hw : wfT t) (hW : wfW t w) (hj : w.2.1 = some j) (hv : v = 5 ∨ v = 6) (hr : (w.2.2 || raw) = true) :
    am_rf (σ 14) (σ 16) (σ 15) (nI w.1) (frI t w) (if v = 5 then zI (sd img raw) else -zI (sd img raw)) = stG t w.1 (strBy t w img raw v) := by
  have hlt := hW.2 j hj
  have e : frI t w = nI (tB t w.1 j) := by unfold frI; rw [hj]
  have e2 : strBy t w img raw v = some ((j + (if (decide (v = 5) != (img && raw)) = true then 1 else tD t w.1 - 1)) % tD t w.1) := by
    unfold strBy
    rw [if_neg (by omega), if_neg (by omega), hj]
    simp only
    rw [if_neg (by omega), if_neg (by omega), if_pos hr]
  rw [e, e2]
  unfold stG
  simp only
  rcases hv with rfl | rfl
  · rw [if_pos rfl, v_rf ht hw hW.1 hlt (by have := sd_r (img := img) (raw := raw); omega) (by have := sd_r (img := img) (raw := raw); omega)]
    unfold sd
    cases hb : (img && raw) with
    | true => simp only [decide_true, bne_self_eq_false, Bool.false_eq_true, if_false]; rw [toN2 hlt]
    | false => simp only [decide_true, Bool.true_bne, Bool.not_false, if_true]; rw [show ((j : Int) + 1) = ((j : Int) + ((1 : Nat) : Int)) from rfl, toN1]
  · rw [if_neg (by decide), zI_neg, v_rf ht hw hW.1 hlt (by have := sd_r (img := img) (raw := raw); omega) (by have := sd_r (img := img) (raw := raw); omega)]
    unfold sd
    cases hb : (img && raw) with
    | true => simp only [show decide (6 = 5) = false from rfl, Bool.false_bne, if_true]; rw [show ((j : Int) + -(-1)) = ((j : Int) + ((1 : Nat) : Int)) from rfl, toN1]
    | false => simp only [show decide (6 = 5) = false from rfl, bne_self_eq_false, Bool.false_eq_true, if_false]; rw [toN2 hlt]
theorem c_goalOf_49 (d : Nat) (σ : am_S) (t : Tn) (w : Wk) (img raw : Bool) (v : Nat) (hv : v = 0 ∨ v = 1 ∨ v = 3 ∨ v = 4 ∨ v = 5 ∨ v = 6 ∨ (20 ≤ v ∧ v < 30)) (ht : townC 10 σ t) (hw : wfT t) (hW : wfW t w) (hk : wkC 49 σ t w img raw) : CallS mX9_goalOf (d + 3) [.ref 49, .int (nI v)] σ (am_det (some (.int (stG t w.1 (strBy t w img raw v)))) σ) := by
  refine CallS.of kX9_goalOf pX9_goalOf [.ref 49, .int (nI v), .retAddr 0] rfl (Nat.le_of_ble_eq_true rfl) ?_
  obtain ⟨h1, h2, h3, h4, h5⟩ := hk
  have h8 := hw.1
  have hWl := hW.1
  have h6 := (hw.2.2 _ hW.1).2.2.2.1
  refine GS.run [] 4 rfl ?_
  rw [h1]
  refine GS.cV oX8_streetsAt ((c_streetsAt_10 d σ (nI w.1)).eq (congrArg (fun z => some (Value.int z)) (v_dg ht hw hW.1)) rfl) rfl rfl rfl rfl rfl rfl rfl (Nat.le_of_ble_eq_true rfl) (by omega) ?_
  refine GS.run [] 2 rfl ?_
  rcases hv with rfl | rfl | rfl | rfl | rfl | rfl | hv
  · have hs : strBy t w img raw 0 = slope t w.1 true := by
      unfold strBy
      rw [if_neg (by decide), if_pos (by decide)]
      rfl
    refine GS.tabIn (t := 56) rfl (by decide) (by decide) (rfl) ?_
    refine GS.run [] 5 rfl ?_
    rw [h1]
    refine GS.cV oX8_steepest (c_steepest d σ t w.1 true ht hw hW.1) rfl rfl rfl rfl rfl rfl rfl (Nat.le_of_ble_eq_true rfl) (by omega) ?_
    refine GS.iret rfl rfl (rfl) ?_
    exact ⟨by rw [hs], rfl⟩
  · have hs : strBy t w img raw 1 = slope t w.1 false := by
      unfold strBy
      rw [if_neg (by decide), if_pos (by decide)]
      rfl
    refine GS.tabIn (t := 69) rfl (by decide) (by decide) (rfl) ?_
    refine GS.run [] 5 rfl ?_
    rw [h1]
    refine GS.cV oX8_steepest (c_steepest d σ t w.1 false ht hw hW.1) rfl rfl rfl rfl rfl rfl rfl (Nat.le_of_ble_eq_true rfl) (by omega) ?_
    refine GS.iret rfl rfl (rfl) ?_
    exact ⟨by rw [hs], rfl⟩
  · cases hj : w.2.1
    · have hs : strBy t w img raw 3 = none := by unfold strBy; rw [if_neg (by decide), if_neg (by decide), hj]
      have hf : frI t w = -1000000 := by unfold frI; rw [hj]
      refine GS.tabIn (t := 82) rfl (by decide) (by decide) (rfl) ?_
      refine GS.run [] 2 rfl ?_
      refine GS.irem rfl (by decide) ?_
      refine GS.if_ne rfl (fun c85 => ?_) (fun c85 => ?_)
      · refine GS.run [] 1 rfl ?_
        refine GS.iret rfl rfl (rfl) ?_
        exact ⟨by rw [hs]; rfl, rfl⟩
      · refine GS.run [] 8 rfl ?_
        refine GS.idiv rfl (by decide) ?_
        rw [h1, h2, hf, il_2, pk_div (by omega) (by omega) (by omega)]
        refine GS.cV oX8_roundFrom ((c_roundFrom_10 d σ (nI w.1) (-1000000) (nI (tD t w.1 / 2))).eq (congrArg (fun z => some (Value.int z)) (v_rfN ht hw hW.1)) rfl) rfl rfl rfl rfl rfl rfl rfl (Nat.le_of_ble_eq_true rfl) (by omega) ?_
        refine GS.run [] 1 rfl ?_
        refine GS.iret rfl rfl (rfl) ?_
        exact ⟨by rw [hs]; rfl, rfl⟩
    · rename_i j
      have hlt := hW.2 j hj
      have hf : frI t w = nI (tB t w.1 j) := by unfold frI; rw [hj]
      have hs : strBy t w img raw 3 = if tD t w.1 % 2 = 0 then some ((j + tD t w.1 / 2) % tD t w.1) else none := by
        unfold strBy
        rw [if_neg (by decide), if_neg (by decide), hj]
        rfl
      refine GS.tabIn (t := 82) rfl (by decide) (by decide) (rfl) ?_
      refine GS.run [] 2 rfl ?_
      refine GS.irem rfl (by decide) ?_
      rw [il_2, pk_rem (by omega) (by omega) (by omega)]
      refine GS.if_ne rfl (fun c85 => ?_) (fun c85 => ?_)
      · rw [if_neg (fun z => c85 (by rw [z]; rfl))] at hs
        refine GS.run [] 1 rfl ?_
        refine GS.iret rfl rfl (rfl) ?_
        exact ⟨by rw [hs]; rfl, rfl⟩
      · rw [if_pos ((nI_eq (b := 0) (by omega) (by omega)).mp c85)] at hs
        refine GS.run [] 8 rfl ?_
        refine GS.idiv rfl (by decide) ?_
        rw [h1, h2, hf, il_2, pk_div (by omega) (by omega) (by omega)]
        refine GS.cV oX8_roundFrom ((c_roundFrom_10 d σ (nI w.1) (nI (tB t w.1 j)) (nI (tD t w.1 / 2))).eq (congrArg (fun z => some (Value.int z)) (show am_rf (σ 14) (σ 16) (σ 15) (nI w.1) (nI (tB t w.1 j)) (nI (tD t w.1 / 2)) = nI (tB t w.1 ((j + tD t w.1 / 2) % tD t w.1)) by rw [zI_n (tD t w.1 / 2), v_rf ht hw hW.1 hlt (by omega) (by omega), toN1])) rfl) rfl rfl rfl rfl rfl rfl rfl (Nat.le_of_ble_eq_true rfl) (by omega) ?_
        refine GS.run [] 1 rfl ?_
        refine GS.iret rfl rfl (rfl) ?_
        exact ⟨by rw [hs]; rfl, rfl⟩
  · have hs : stG t w.1 (strBy t w img raw 4) = frI t w := by
      unfold strBy frI
      rw [if_neg (by decide), if_neg (by decide)]
      cases w.2.1 with
      | none => rfl
      | some j => rfl
    refine GS.tabIn (t := 112) rfl (by decide) (by decide) (rfl) ?_
    refine GS.run [] 2 rfl ?_
    rw [h2]
    refine GS.iret rfl rfl (rfl) ?_
    exact ⟨by rw [hs], rfl⟩
  · cases hj : w.2.1
    · have hs : strBy t w img raw 5 = none := by unfold strBy; rw [if_neg (by decide), if_neg (by decide), hj]
      have hf : frI t w = -1000000 := by unfold frI; rw [hj]
      refine GS.tabIn (t := 117) rfl (by decide) (by decide) (rfl) ?_
      refine GS.run [] 2 rfl ?_
      rw [h4]
      refine GS.if_ne rfl (fun c121 => ?_) (fun c121 => ?_)
      · refine GS.run [] 8 rfl ?_
        rw [h1, h2, hf, h5]
        refine GS.cV oX8_roundFrom ((c_roundFrom_10 d σ (nI w.1) (-1000000) (zI (sd img raw))).eq (congrArg (fun z => some (Value.int z)) (v_rfN ht hw hW.1)) rfl) rfl rfl rfl rfl rfl rfl rfl (Nat.le_of_ble_eq_true rfl) (by omega) ?_
        refine GS.run [] 1 rfl ?_
        refine GS.iret rfl rfl (rfl) ?_
        exact ⟨by rw [hs]; rfl, rfl⟩
      · refine GS.run [] 2 rfl ?_
        rw [h3]
        refine GS.if_eq rfl (fun c128 => ?_) (fun c128 => ?_)
        · refine GS.run [] 1 rfl ?_
          refine GS.iret rfl rfl (rfl) ?_
          exact ⟨by rw [hs]; rfl, rfl⟩
        · refine GS.run [] 8 rfl ?_
          rw [h1, h2, hf, h5]
          refine GS.cV oX8_roundFrom ((c_roundFrom_10 d σ (nI w.1) (-1000000) (zI (sd img raw))).eq (congrArg (fun z => some (Value.int z)) (v_rfN ht hw hW.1)) rfl) rfl rfl rfl rfl rfl rfl rfl (Nat.le_of_ble_eq_true rfl) (by omega) ?_
          refine GS.run [] 1 rfl ?_
          refine GS.iret rfl rfl (rfl) ?_
          exact ⟨by rw [hs]; rfl, rfl⟩
    · rename_i j
      refine GS.tabIn (t := 117) rfl (by decide) (by decide) (rfl) ?_
      refine GS.run [] 2 rfl ?_
      rw [h4]
      refine GS.if_ne rfl (fun c121 => ?_) (fun c121 => ?_)
      · have hr : (w.2.2 || raw) = true := by rw [bI1.mp c121]; exact Bool.or_true _
        refine GS.run [] 8 rfl ?_
        rw [h1, h2, h5]
        refine GS.cV oX8_roundFrom ((c_roundFrom_10 d σ (nI w.1) (frI t w) (zI (sd img raw))).eq (congrArg (fun z => some (Value.int z)) (v_hand (v := 5) ht hw hW hj (by omega) hr)) rfl) rfl rfl rfl rfl rfl rfl rfl (Nat.le_of_ble_eq_true rfl) (by omega) ?_
        refine GS.run [] 1 rfl ?_
        refine GS.iret rfl rfl (rfl) ?_
        first
          | exact ⟨rfl, rfl⟩
          | exact ⟨by rw [hs]; rfl, rfl⟩
      · refine GS.run [] 2 rfl ?_
        rw [h3]
        refine GS.if_eq rfl (fun c128 => ?_) (fun c128 => ?_)
        · have hr : ¬ (w.2.2 || raw) = true := by rw [bI0.mp c128, bI0.mp c121]; decide
          have hs : strBy t w img raw 5 = none := by
            unfold strBy
            rw [if_neg (by decide), if_neg (by decide), hj]
            simp only
            rw [if_neg (by decide), if_neg (by decide), if_neg hr]
          refine GS.run [] 1 rfl ?_
          refine GS.iret rfl rfl (rfl) ?_
          first
            | exact ⟨rfl, rfl⟩
            | exact ⟨by rw [hs]; rfl, rfl⟩
        · have hr : (w.2.2 || raw) = true := by rw [bI1.mp c128]; rfl
          refine GS.run [] 8 rfl ?_
          rw [h1, h2, h5]
          refine GS.cV oX8_roundFrom ((c_roundFrom_10 d σ (nI w.1) (frI t w) (zI (sd img raw))).eq (congrArg (fun z => some (Value.int z)) (v_hand (v := 5) ht hw hW hj (by omega) hr)) rfl) rfl rfl rfl rfl rfl rfl rfl (Nat.le_of_ble_eq_true rfl) (by omega) ?_
          refine GS.run [] 1 rfl ?_
          refine GS.iret rfl rfl (rfl) ?_
          first
            | exact ⟨rfl, rfl⟩
            | exact ⟨by rw [hs]; rfl, rfl⟩
  · cases hj : w.2.1
    · have hs : strBy t w img raw 6 = none := by unfold strBy; rw [if_neg (by decide), if_neg (by decide), hj]
      have hf : frI t w = -1000000 := by unfold frI; rw [hj]
      refine GS.tabIn (t := 156) rfl (by decide) (by decide) (rfl) ?_
      refine GS.run [] 2 rfl ?_
      rw [h4]
      refine GS.if_ne rfl (fun c160 => ?_) (fun c160 => ?_)
      · refine GS.run [] 9 rfl ?_
        rw [h1, h2, hf, h5]
        refine GS.cV oX8_roundFrom ((c_roundFrom_10 d σ (nI w.1) (-1000000) (-zI (sd img raw))).eq (congrArg (fun z => some (Value.int z)) (v_rfN ht hw hW.1)) rfl) rfl rfl rfl rfl rfl rfl rfl (Nat.le_of_ble_eq_true rfl) (by omega) ?_
        refine GS.run [] 1 rfl ?_
        refine GS.iret rfl rfl (rfl) ?_
        exact ⟨by rw [hs]; rfl, rfl⟩
      · refine GS.run [] 2 rfl ?_
        rw [h3]
        refine GS.if_eq rfl (fun c167 => ?_) (fun c167 => ?_)
        · refine GS.run [] 1 rfl ?_
          refine GS.iret rfl rfl (rfl) ?_
          exact ⟨by rw [hs]; rfl, rfl⟩
        · refine GS.run [] 9 rfl ?_
          rw [h1, h2, hf, h5]
          refine GS.cV oX8_roundFrom ((c_roundFrom_10 d σ (nI w.1) (-1000000) (-zI (sd img raw))).eq (congrArg (fun z => some (Value.int z)) (v_rfN ht hw hW.1)) rfl) rfl rfl rfl rfl rfl rfl rfl (Nat.le_of_ble_eq_true rfl) (by omega) ?_
          refine GS.run [] 1 rfl ?_
          refine GS.iret rfl rfl (rfl) ?_
          exact ⟨by rw [hs]; rfl, rfl⟩
    · rename_i j
      refine GS.tabIn (t := 156) rfl (by decide) (by decide) (rfl) ?_
      refine GS.run [] 2 rfl ?_
      rw [h4]
      refine GS.if_ne rfl (fun c160 => ?_) (fun c160 => ?_)
      · have hr : (w.2.2 || raw) = true := by rw [bI1.mp c160]; exact Bool.or_true _
        refine GS.run [] 9 rfl ?_
        rw [h1, h2, h5]
        refine GS.cV oX8_roundFrom ((c_roundFrom_10 d σ (nI w.1) (frI t w) (-zI (sd img raw))).eq (congrArg (fun z => some (Value.int z)) (v_hand (v := 6) ht hw hW hj (by omega) hr)) rfl) rfl rfl rfl rfl rfl rfl rfl (Nat.le_of_ble_eq_true rfl) (by omega) ?_
        refine GS.run [] 1 rfl ?_
        refine GS.iret rfl rfl (rfl) ?_
        first
          | exact ⟨rfl, rfl⟩
          | exact ⟨by rw [hs]; rfl, rfl⟩
      · refine GS.run [] 2 rfl ?_
        rw [h3]
        refine GS.if_eq rfl (fun c167 => ?_) (fun c167 => ?_)
        · have hr : ¬ (w.2.2 || raw) = true := by rw [bI0.mp c167, bI0.mp c160]; decide
          have hs : strBy t w img raw 6 = none := by
            unfold strBy
            rw [if_neg (by decide), if_neg (by decide), hj]
            simp only
            rw [if_neg (by decide), if_neg (by decide), if_neg hr]
          refine GS.run [] 1 rfl ?_
          refine GS.iret rfl rfl (rfl) ?_
          first
            | exact ⟨rfl, rfl⟩
            | exact ⟨by rw [hs]; rfl, rfl⟩
        · have hr : (w.2.2 || raw) = true := by rw [bI1.mp c167]; rfl
          refine GS.run [] 9 rfl ?_
          rw [h1, h2, h5]
          refine GS.cV oX8_roundFrom ((c_roundFrom_10 d σ (nI w.1) (frI t w) (-zI (sd img raw))).eq (congrArg (fun z => some (Value.int z)) (v_hand (v := 6) ht hw hW hj (by omega) hr)) rfl) rfl rfl rfl rfl rfl rfl rfl (Nat.le_of_ble_eq_true rfl) (by omega) ?_
          refine GS.run [] 1 rfl ?_
          refine GS.iret rfl rfl (rfl) ?_
          first
            | exact ⟨rfl, rfl⟩
            | exact ⟨by rw [hs]; rfl, rfl⟩
  · have hs : strBy t w img raw v = markedK t w.1 (v - 20) := by unfold strBy; rw [if_pos hv.1]
    refine GS.tabOut rfl (Or.inr (by rw [nI_toInt (by omega)]; omega)) ?_
    refine GS.run [] 7 rfl ?_
    rw [h1, il_20, pk_sub (by omega)]
    refine GS.cV oX8_marked (c_marked d σ t w.1 (v - 20) ht hw hW.1 (by omega)) rfl rfl rfl rfl rfl rfl rfl (Nat.le_of_ble_eq_true rfl) (by omega) ?_
    refine GS.iret rfl rfl (rfl) ?_
    exact ⟨by rw [hs], rfl⟩
theorem c_goalOf_50 (d : Nat) (σ : am_S) (t : Tn) (w : Wk) (img raw : Bool) (v : Nat) (hv : v = 0 ∨ v = 1 ∨ v = 3 ∨ v = 4 ∨ v = 5 ∨ v = 6 ∨ (20 ≤ v ∧ v < 30)) (ht : townC 10 σ t) (hw : wfT t) (hW : wfW t w) (hk : wkC 50 σ t w img raw) : CallS mX9_goalOf (d + 3) [.ref 50, .int (nI v)] σ (am_det (some (.int (stG t w.1 (strBy t w img raw v)))) σ) := by
  refine CallS.of kX9_goalOf pX9_goalOf [.ref 50, .int (nI v), .retAddr 0] rfl (Nat.le_of_ble_eq_true rfl) ?_
  obtain ⟨h1, h2, h3, h4, h5⟩ := hk
  have h8 := hw.1
  have hWl := hW.1
  have h6 := (hw.2.2 _ hW.1).2.2.2.1
  refine GS.run [] 4 rfl ?_
  rw [h1]
  refine GS.cV oX8_streetsAt ((c_streetsAt_10 d σ (nI w.1)).eq (congrArg (fun z => some (Value.int z)) (v_dg ht hw hW.1)) rfl) rfl rfl rfl rfl rfl rfl rfl (Nat.le_of_ble_eq_true rfl) (by omega) ?_
  refine GS.run [] 2 rfl ?_
  rcases hv with rfl | rfl | rfl | rfl | rfl | rfl | hv
  · have hs : strBy t w img raw 0 = slope t w.1 true := by
      unfold strBy
      rw [if_neg (by decide), if_pos (by decide)]
      rfl
    refine GS.tabIn (t := 56) rfl (by decide) (by decide) (rfl) ?_
    refine GS.run [] 5 rfl ?_
    rw [h1]
    refine GS.cV oX8_steepest (c_steepest d σ t w.1 true ht hw hW.1) rfl rfl rfl rfl rfl rfl rfl (Nat.le_of_ble_eq_true rfl) (by omega) ?_
    refine GS.iret rfl rfl (rfl) ?_
    exact ⟨by rw [hs], rfl⟩
  · have hs : strBy t w img raw 1 = slope t w.1 false := by
      unfold strBy
      rw [if_neg (by decide), if_pos (by decide)]
      rfl
    refine GS.tabIn (t := 69) rfl (by decide) (by decide) (rfl) ?_
    refine GS.run [] 5 rfl ?_
    rw [h1]
    refine GS.cV oX8_steepest (c_steepest d σ t w.1 false ht hw hW.1) rfl rfl rfl rfl rfl rfl rfl (Nat.le_of_ble_eq_true rfl) (by omega) ?_
    refine GS.iret rfl rfl (rfl) ?_
    exact ⟨by rw [hs], rfl⟩
  · cases hj : w.2.1
    · have hs : strBy t w img raw 3 = none := by unfold strBy; rw [if_neg (by decide), if_neg (by decide), hj]
      have hf : frI t w = -1000000 := by unfold frI; rw [hj]
      refine GS.tabIn (t := 82) rfl (by decide) (by decide) (rfl) ?_
      refine GS.run [] 2 rfl ?_
      refine GS.irem rfl (by decide) ?_
      refine GS.if_ne rfl (fun c85 => ?_) (fun c85 => ?_)
      · refine GS.run [] 1 rfl ?_
        refine GS.iret rfl rfl (rfl) ?_
        exact ⟨by rw [hs]; rfl, rfl⟩
      · refine GS.run [] 8 rfl ?_
        refine GS.idiv rfl (by decide) ?_
        rw [h1, h2, hf, il_2, pk_div (by omega) (by omega) (by omega)]
        refine GS.cV oX8_roundFrom ((c_roundFrom_10 d σ (nI w.1) (-1000000) (nI (tD t w.1 / 2))).eq (congrArg (fun z => some (Value.int z)) (v_rfN ht hw hW.1)) rfl) rfl rfl rfl rfl rfl rfl rfl (Nat.le_of_ble_eq_true rfl) (by omega) ?_
        refine GS.run [] 1 rfl ?_
        refine GS.iret rfl rfl (rfl) ?_
        exact ⟨by rw [hs]; rfl, rfl⟩
    · rename_i j
      have hlt := hW.2 j hj
      have hf : frI t w = nI (tB t w.1 j) := by unfold frI; rw [hj]
      have hs : strBy t w img raw 3 = if tD t w.1 % 2 = 0 then some ((j + tD t w.1 / 2) % tD t w.1) else none := by
        unfold strBy
        rw [if_neg (by decide), if_neg (by decide), hj]
        rfl
      refine GS.tabIn (t := 82) rfl (by decide) (by decide) (rfl) ?_
      refine GS.run [] 2 rfl ?_
      refine GS.irem rfl (by decide) ?_
      rw [il_2, pk_rem (by omega) (by omega) (by omega)]
      refine GS.if_ne rfl (fun c85 => ?_) (fun c85 => ?_)
      · rw [if_neg (fun z => c85 (by rw [z]; rfl))] at hs
        refine GS.run [] 1 rfl ?_
        refine GS.iret rfl rfl (rfl) ?_
        exact ⟨by rw [hs]; rfl, rfl⟩
      · rw [if_pos ((nI_eq (b := 0) (by omega) (by omega)).mp c85)] at hs
        refine GS.run [] 8 rfl ?_
        refine GS.idiv rfl (by decide) ?_
        rw [h1, h2, hf, il_2, pk_div (by omega) (by omega) (by omega)]
        refine GS.cV oX8_roundFrom ((c_roundFrom_10 d σ (nI w.1) (nI (tB t w.1 j)) (nI (tD t w.1 / 2))).eq (congrArg (fun z => some (Value.int z)) (show am_rf (σ 14) (σ 16) (σ 15) (nI w.1) (nI (tB t w.1 j)) (nI (tD t w.1 / 2)) = nI (tB t w.1 ((j + tD t w.1 / 2) % tD t w.1)) by rw [zI_n (tD t w.1 / 2), v_rf ht hw hW.1 hlt (by omega) (by omega), toN1])) rfl) rfl rfl rfl rfl rfl rfl rfl (Nat.le_of_ble_eq_true rfl) (by omega) ?_
        refine GS.run [] 1 rfl ?_
        refine GS.iret rfl rfl (rfl) ?_
        exact ⟨by rw [hs]; rfl, rfl⟩
  · have hs : stG t w.1 (strBy t w img raw 4) = frI t w := by
      unfold strBy frI
      rw [if_neg (by decide), if_neg (by decide)]
      cases w.2.1 with
      | none => rfl
      | some j => rfl
    refine GS.tabIn (t := 112) rfl (by decide) (by decide) (rfl) ?_
    refine GS.run [] 2 rfl ?_
    rw [h2]
    refine GS.iret rfl rfl (rfl) ?_
    exact ⟨by rw [hs], rfl⟩
  · cases hj : w.2.1
    · have hs : strBy t w img raw 5 = none := by unfold strBy; rw [if_neg (by decide), if_neg (by decide), hj]
      have hf : frI t w = -1000000 := by unfold frI; rw [hj]
      refine GS.tabIn (t := 117) rfl (by decide) (by decide) (rfl) ?_
      refine GS.run [] 2 rfl ?_
      rw [h4]
      refine GS.if_ne rfl (fun c121 => ?_) (fun c121 => ?_)
      · refine GS.run [] 8 rfl ?_
        rw [h1, h2, hf, h5]
        refine GS.cV oX8_roundFrom ((c_roundFrom_10 d σ (nI w.1) (-1000000) (zI (sd img raw))).eq (congrArg (fun z => some (Value.int z)) (v_rfN ht hw hW.1)) rfl) rfl rfl rfl rfl rfl rfl rfl (Nat.le_of_ble_eq_true rfl) (by omega) ?_
        refine GS.run [] 1 rfl ?_
        refine GS.iret rfl rfl (rfl) ?_
        exact ⟨by rw [hs]; rfl, rfl⟩
      · refine GS.run [] 2 rfl ?_
        rw [h3]
        refine GS.if_eq rfl (fun c128 => ?_) (fun c128 => ?_)
        · refine GS.run [] 1 rfl ?_
          refine GS.iret rfl rfl (rfl) ?_
          exact ⟨by rw [hs]; rfl, rfl⟩
        · refine GS.run [] 8 rfl ?_
          rw [h1, h2, hf, h5]
          refine GS.cV oX8_roundFrom ((c_roundFrom_10 d σ (nI w.1) (-1000000) (zI (sd img raw))).eq (congrArg (fun z => some (Value.int z)) (v_rfN ht hw hW.1)) rfl) rfl rfl rfl rfl rfl rfl rfl (Nat.le_of_ble_eq_true rfl) (by omega) ?_
          refine GS.run [] 1 rfl ?_
          refine GS.iret rfl rfl (rfl) ?_
          exact ⟨by rw [hs]; rfl, rfl⟩
    · rename_i j
      refine GS.tabIn (t := 117) rfl (by decide) (by decide) (rfl) ?_
      refine GS.run [] 2 rfl ?_
      rw [h4]
      refine GS.if_ne rfl (fun c121 => ?_) (fun c121 => ?_)
      · have hr : (w.2.2 || raw) = true := by rw [bI1.mp c121]; exact Bool.or_true _
        refine GS.run [] 8 rfl ?_
        rw [h1, h2, h5]
        refine GS.cV oX8_roundFrom ((c_roundFrom_10 d σ (nI w.1) (frI t w) (zI (sd img raw))).eq (congrArg (fun z => some (Value.int z)) (v_hand (v := 5) ht hw hW hj (by omega) hr)) rfl) rfl rfl rfl rfl rfl rfl rfl (Nat.le_of_ble_eq_true rfl) (by omega) ?_
        refine GS.run [] 1 rfl ?_
        refine GS.iret rfl rfl (rfl) ?_
        first
          | exact ⟨rfl, rfl⟩
          | exact ⟨by rw [hs]; rfl, rfl⟩
      · refine GS.run [] 2 rfl ?_
        rw [h3]
        refine GS.if_eq rfl (fun c128 => ?_) (fun c128 => ?_)
        · have hr : ¬ (w.2.2 || raw) = true := by rw [bI0.mp c128, bI0.mp c121]; decide
          have hs : strBy t w img raw 5 = none := by
            unfold strBy
            rw [if_neg (by decide), if_neg (by decide), hj]
            simp only
            rw [if_neg (by decide), if_neg (by decide), if_neg hr]
          refine GS.run [] 1 rfl ?_
          refine GS.iret rfl rfl (rfl) ?_
          first
            | exact ⟨rfl, rfl⟩
            | exact ⟨by rw [hs]; rfl, rfl⟩
        · have hr : (w.2.2 || raw) = true := by rw [bI1.mp c128]; rfl
          refine GS.run [] 8 rfl ?_
          rw [h1, h2, h5]
          refine GS.cV oX8_roundFrom ((c_roundFrom_10 d σ (nI w.1) (frI t w) (zI (sd img raw))).eq (congrArg (fun z => some (Value.int z)) (v_hand (v := 5) ht hw hW hj (by omega) hr)) rfl) rfl rfl rfl rfl rfl rfl rfl (Nat.le_of_ble_eq_true rfl) (by omega) ?_
          refine GS.run [] 1 rfl ?_
          refine GS.iret rfl rfl (rfl) ?_
          first
            | exact ⟨rfl, rfl⟩
            | exact ⟨by rw [hs]; rfl, rfl⟩
  · cases hj : w.2.1
    · have hs : strBy t w img raw 6 = none := by unfold strBy; rw [if_neg (by decide), if_neg (by decide), hj]
      have hf : frI t w = -1000000 := by unfold frI; rw [hj]
      refine GS.tabIn (t := 156) rfl (by decide) (by decide) (rfl) ?_
      refine GS.run [] 2 rfl ?_
      rw [h4]
      refine GS.if_ne rfl (fun c160 => ?_) (fun c160 => ?_)
      · refine GS.run [] 9 rfl ?_
        rw [h1, h2, hf, h5]
        refine GS.cV oX8_roundFrom ((c_roundFrom_10 d σ (nI w.1) (-1000000) (-zI (sd img raw))).eq (congrArg (fun z => some (Value.int z)) (v_rfN ht hw hW.1)) rfl) rfl rfl rfl rfl rfl rfl rfl (Nat.le_of_ble_eq_true rfl) (by omega) ?_
        refine GS.run [] 1 rfl ?_
        refine GS.iret rfl rfl (rfl) ?_
        exact ⟨by rw [hs]; rfl, rfl⟩
      · refine GS.run [] 2 rfl ?_
        rw [h3]
        refine GS.if_eq rfl (fun c167 => ?_) (fun c167 => ?_)
        · refine GS.run [] 1 rfl ?_
          refine GS.iret rfl rfl (rfl) ?_
          exact ⟨by rw [hs]; rfl, rfl⟩
        · refine GS.run [] 9 rfl ?_
          rw [h1, h2, hf, h5]
          refine GS.cV oX8_roundFrom ((c_roundFrom_10 d σ (nI w.1) (-1000000) (-zI (sd img raw))).eq (congrArg (fun z => some (Value.int z)) (v_rfN ht hw hW.1)) rfl) rfl rfl rfl rfl rfl rfl rfl (Nat.le_of_ble_eq_true rfl) (by omega) ?_
          refine GS.run [] 1 rfl ?_
          refine GS.iret rfl rfl (rfl) ?_
          exact ⟨by rw [hs]; rfl, rfl⟩
    · rename_i j
      refine GS.tabIn (t := 156) rfl (by decide) (by decide) (rfl) ?_
      refine GS.run [] 2 rfl ?_
      rw [h4]
      refine GS.if_ne rfl (fun c160 => ?_) (fun c160 => ?_)
      · have hr : (w.2.2 || raw) = true := by rw [bI1.mp c160]; exact Bool.or_true _
        refine GS.run [] 9 rfl ?_
        rw [h1, h2, h5]
        refine GS.cV oX8_roundFrom ((c_roundFrom_10 d σ (nI w.1) (frI t w) (-zI (sd img raw))).eq (congrArg (fun z => some (Value.int z)) (v_hand (v := 6) ht hw hW hj (by omega) hr)) rfl) rfl rfl rfl rfl rfl rfl rfl (Nat.le_of_ble_eq_true rfl) (by omega) ?_
        refine GS.run [] 1 rfl ?_
        refine GS.iret rfl rfl (rfl) ?_
        first
          | exact ⟨rfl, rfl⟩
          | exact ⟨by rw [hs]; rfl, rfl⟩
      · refine GS.run [] 2 rfl ?_
        rw [h3]
        refine GS.if_eq rfl (fun c167 => ?_) (fun c167 => ?_)
        · have hr : ¬ (w.2.2 || raw) = true := by rw [bI0.mp c167, bI0.mp c160]; decide
          have hs : strBy t w img raw 6 = none := by
            unfold strBy
            rw [if_neg (by decide), if_neg (by decide), hj]
            simp only
            rw [if_neg (by decide), if_neg (by decide), if_neg hr]
          refine GS.run [] 1 rfl ?_
          refine GS.iret rfl rfl (rfl) ?_
          first
            | exact ⟨rfl, rfl⟩
            | exact ⟨by rw [hs]; rfl, rfl⟩
        · have hr : (w.2.2 || raw) = true := by rw [bI1.mp c167]; rfl
          refine GS.run [] 9 rfl ?_
          rw [h1, h2, h5]
          refine GS.cV oX8_roundFrom ((c_roundFrom_10 d σ (nI w.1) (frI t w) (-zI (sd img raw))).eq (congrArg (fun z => some (Value.int z)) (v_hand (v := 6) ht hw hW hj (by omega) hr)) rfl) rfl rfl rfl rfl rfl rfl rfl (Nat.le_of_ble_eq_true rfl) (by omega) ?_
          refine GS.run [] 1 rfl ?_
          refine GS.iret rfl rfl (rfl) ?_
          first
            | exact ⟨rfl, rfl⟩
            | exact ⟨by rw [hs]; rfl, rfl⟩
  · have hs : strBy t w img raw v = markedK t w.1 (v - 20) := by unfold strBy; rw [if_pos hv.1]
    refine GS.tabOut rfl (Or.inr (by rw [nI_toInt (by omega)]; omega)) ?_
    refine GS.run [] 7 rfl ?_
    rw [h1, il_20, pk_sub (by omega)]
    refine GS.cV oX8_marked (c_marked d σ t w.1 (v - 20) ht hw hW.1 (by omega)) rfl rfl rfl rfl rfl rfl rfl (Nat.le_of_ble_eq_true rfl) (by omega) ?_
    refine GS.iret rfl rfl (rfl) ?_
    exact ⟨by rw [hs], rfl⟩
theorem c_goalOf_63 (d : Nat) (σ : am_S) (t : Tn) (w : Wk) (img raw : Bool) (v : Nat) (hv : v = 0 ∨ v = 1 ∨ v = 3 ∨ v = 4 ∨ v = 5 ∨ v = 6 ∨ (20 ≤ v ∧ v < 30)) (ht : townC 10 σ t) (hw : wfT t) (hW : wfW t w) (hk : wkC 63 σ t w img raw) : CallS mX9_goalOf (d + 3) [.ref 63, .int (nI v)] σ (am_det (some (.int (stG t w.1 (strBy t w img raw v)))) σ) := by
  refine CallS.of kX9_goalOf pX9_goalOf [.ref 63, .int (nI v), .retAddr 0] rfl (Nat.le_of_ble_eq_true rfl) ?_
  obtain ⟨h1, h2, h3, h4, h5⟩ := hk
  have h8 := hw.1
  have hWl := hW.1
  have h6 := (hw.2.2 _ hW.1).2.2.2.1
  refine GS.run [] 4 rfl ?_
  rw [h1]
  refine GS.cV oX8_streetsAt ((c_streetsAt_10 d σ (nI w.1)).eq (congrArg (fun z => some (Value.int z)) (v_dg ht hw hW.1)) rfl) rfl rfl rfl rfl rfl rfl rfl (Nat.le_of_ble_eq_true rfl) (by omega) ?_
  refine GS.run [] 2 rfl ?_
  rcases hv with rfl | rfl | rfl | rfl | rfl | rfl | hv
  · have hs : strBy t w img raw 0 = slope t w.1 true := by
      unfold strBy
      rw [if_neg (by decide), if_pos (by decide)]
      rfl
    refine GS.tabIn (t := 56) rfl (by decide) (by decide) (rfl) ?_
    refine GS.run [] 5 rfl ?_
    rw [h1]
    refine GS.cV oX8_steepest (c_steepest d σ t w.1 true ht hw hW.1) rfl rfl rfl rfl rfl rfl rfl (Nat.le_of_ble_eq_true rfl) (by omega) ?_
    refine GS.iret rfl rfl (rfl) ?_
    exact ⟨by rw [hs], rfl⟩
  · have hs : strBy t w img raw 1 = slope t w.1 false := by
      unfold strBy
      rw [if_neg (by decide), if_pos (by decide)]
      rfl
    refine GS.tabIn (t := 69) rfl (by decide) (by decide) (rfl) ?_
    refine GS.run [] 5 rfl ?_
    rw [h1]
    refine GS.cV oX8_steepest (c_steepest d σ t w.1 false ht hw hW.1) rfl rfl rfl rfl rfl rfl rfl (Nat.le_of_ble_eq_true rfl) (by omega) ?_
    refine GS.iret rfl rfl (rfl) ?_
    exact ⟨by rw [hs], rfl⟩
  · cases hj : w.2.1
    · have hs : strBy t w img raw 3 = none := by unfold strBy; rw [if_neg (by decide), if_neg (by decide), hj]
      have hf : frI t w = -1000000 := by unfold frI; rw [hj]
      refine GS.tabIn (t := 82) rfl (by decide) (by decide) (rfl) ?_
      refine GS.run [] 2 rfl ?_
      refine GS.irem rfl (by decide) ?_
      refine GS.if_ne rfl (fun c85 => ?_) (fun c85 => ?_)
      · refine GS.run [] 1 rfl ?_
        refine GS.iret rfl rfl (rfl) ?_
        exact ⟨by rw [hs]; rfl, rfl⟩
      · refine GS.run [] 8 rfl ?_
        refine GS.idiv rfl (by decide) ?_
        rw [h1, h2, hf, il_2, pk_div (by omega) (by omega) (by omega)]
        refine GS.cV oX8_roundFrom ((c_roundFrom_10 d σ (nI w.1) (-1000000) (nI (tD t w.1 / 2))).eq (congrArg (fun z => some (Value.int z)) (v_rfN ht hw hW.1)) rfl) rfl rfl rfl rfl rfl rfl rfl (Nat.le_of_ble_eq_true rfl) (by omega) ?_
        refine GS.run [] 1 rfl ?_
        refine GS.iret rfl rfl (rfl) ?_
        exact ⟨by rw [hs]; rfl, rfl⟩
    · rename_i j
      have hlt := hW.2 j hj
      have hf : frI t w = nI (tB t w.1 j) := by unfold frI; rw [hj]
      have hs : strBy t w img raw 3 = if tD t w.1 % 2 = 0 then some ((j + tD t w.1 / 2) % tD t w.1) else none := by
        unfold strBy
        rw [if_neg (by decide), if_neg (by decide), hj]
        rfl
      refine GS.tabIn (t := 82) rfl (by decide) (by decide) (rfl) ?_
      refine GS.run [] 2 rfl ?_
      refine GS.irem rfl (by decide) ?_
      rw [il_2, pk_rem (by omega) (by omega) (by omega)]
      refine GS.if_ne rfl (fun c85 => ?_) (fun c85 => ?_)
      · rw [if_neg (fun z => c85 (by rw [z]; rfl))] at hs
        refine GS.run [] 1 rfl ?_
        refine GS.iret rfl rfl (rfl) ?_
        exact ⟨by rw [hs]; rfl, rfl⟩
      · rw [if_pos ((nI_eq (b := 0) (by omega) (by omega)).mp c85)] at hs
        refine GS.run [] 8 rfl ?_
        refine GS.idiv rfl (by decide) ?_
        rw [h1, h2, hf, il_2, pk_div (by omega) (by omega) (by omega)]
        refine GS.cV oX8_roundFrom ((c_roundFrom_10 d σ (nI w.1) (nI (tB t w.1 j)) (nI (tD t w.1 / 2))).eq (congrArg (fun z => some (Value.int z)) (show am_rf (σ 14) (σ 16) (σ 15) (nI w.1) (nI (tB t w.1 j)) (nI (tD t w.1 / 2)) = nI (tB t w.1 ((j + tD t w.1 / 2) % tD t w.1)) by rw [zI_n (tD t w.1 / 2), v_rf ht hw hW.1 hlt (by omega) (by omega), toN1])) rfl) rfl rfl rfl rfl rfl rfl rfl (Nat.le_of_ble_eq_true rfl) (by omega) ?_
        refine GS.run [] 1 rfl ?_
        refine GS.iret rfl rfl (rfl) ?_
        exact ⟨by rw [hs]; rfl, rfl⟩
  · have hs : stG t w.1 (strBy t w img raw 4) = frI t w := by
      unfold strBy frI
      rw [if_neg (by decide), if_neg (by decide)]
      cases w.2.1 with
      | none => rfl
      | some j => rfl
    refine GS.tabIn (t := 112) rfl (by decide) (by decide) (rfl) ?_
    refine GS.run [] 2 rfl ?_
    rw [h2]
    refine GS.iret rfl rfl (rfl) ?_
    exact ⟨by rw [hs], rfl⟩
  · cases hj : w.2.1
    · have hs : strBy t w img raw 5 = none := by unfold strBy; rw [if_neg (by decide), if_neg (by decide), hj]
      have hf : frI t w = -1000000 := by unfold frI; rw [hj]
      refine GS.tabIn (t := 117) rfl (by decide) (by decide) (rfl) ?_
      refine GS.run [] 2 rfl ?_
      rw [h4]
      refine GS.if_ne rfl (fun c121 => ?_) (fun c121 => ?_)
      · refine GS.run [] 8 rfl ?_
        rw [h1, h2, hf, h5]
        refine GS.cV oX8_roundFrom ((c_roundFrom_10 d σ (nI w.1) (-1000000) (zI (sd img raw))).eq (congrArg (fun z => some (Value.int z)) (v_rfN ht hw hW.1)) rfl) rfl rfl rfl rfl rfl rfl rfl (Nat.le_of_ble_eq_true rfl) (by omega) ?_
        refine GS.run [] 1 rfl ?_
        refine GS.iret rfl rfl (rfl) ?_
        exact ⟨by rw [hs]; rfl, rfl⟩
      · refine GS.run [] 2 rfl ?_
        rw [h3]
        refine GS.if_eq rfl (fun c128 => ?_) (fun c128 => ?_)
        · refine GS.run [] 1 rfl ?_
          refine GS.iret rfl rfl (rfl) ?_
          exact ⟨by rw [hs]; rfl, rfl⟩
        · refine GS.run [] 8 rfl ?_
          rw [h1, h2, hf, h5]
          refine GS.cV oX8_roundFrom ((c_roundFrom_10 d σ (nI w.1) (-1000000) (zI (sd img raw))).eq (congrArg (fun z => some (Value.int z)) (v_rfN ht hw hW.1)) rfl) rfl rfl rfl rfl rfl rfl rfl (Nat.le_of_ble_eq_true rfl) (by omega) ?_
          refine GS.run [] 1 rfl ?_
          refine GS.iret rfl rfl (rfl) ?_
          exact ⟨by rw [hs]; rfl, rfl⟩
    · rename_i j
      refine GS.tabIn (t := 117) rfl (by decide) (by decide) (rfl) ?_
      refine GS.run [] 2 rfl ?_
      rw [h4]
      refine GS.if_ne rfl (fun c121 => ?_) (fun c121 => ?_)
      · have hr : (w.2.2 || raw) = true := by rw [bI1.mp c121]; exact Bool.or_true _
        refine GS.run [] 8 rfl ?_
        rw [h1, h2, h5]
        refine GS.cV oX8_roundFrom ((c_roundFrom_10 d σ (nI w.1) (frI t w) (zI (sd img raw))).eq (congrArg (fun z => some (Value.int z)) (v_hand (v := 5) ht hw hW hj (by omega) hr)) rfl) rfl rfl rfl rfl rfl rfl rfl (Nat.le_of_ble_eq_true rfl) (by omega) ?_
        refine GS.run [] 1 rfl ?_
        refine GS.iret rfl rfl (rfl) ?_
        first
          | exact ⟨rfl, rfl⟩
          | exact ⟨by rw [hs]; rfl, rfl⟩
      · refine GS.run [] 2 rfl ?_
        rw [h3]
        refine GS.if_eq rfl (fun c128 => ?_) (fun c128 => ?_)
        · have hr : ¬ (w.2.2 || raw) = true := by rw [bI0.mp c128, bI0.mp c121]; decide
          have hs : strBy t w img raw 5 = none := by
            unfold strBy
            rw [if_neg (by decide), if_neg (by decide), hj]
            simp only
            rw [if_neg (by decide), if_neg (by decide), if_neg hr]
          refine GS.run [] 1 rfl ?_
          refine GS.iret rfl rfl (rfl) ?_
          first
            | exact ⟨rfl, rfl⟩
            | exact ⟨by rw [hs]; rfl, rfl⟩
        · have hr : (w.2.2 || raw) = true := by rw [bI1.mp c128]; rfl
          refine GS.run [] 8 rfl ?_
          rw [h1, h2, h5]
          refine GS.cV oX8_roundFrom ((c_roundFrom_10 d σ (nI w.1) (frI t w) (zI (sd img raw))).eq (congrArg (fun z => some (Value.int z)) (v_hand (v := 5) ht hw hW hj (by omega) hr)) rfl) rfl rfl rfl rfl rfl rfl rfl (Nat.le_of_ble_eq_true rfl) (by omega) ?_
          refine GS.run [] 1 rfl ?_
          refine GS.iret rfl rfl (rfl) ?_
          first
            | exact ⟨rfl, rfl⟩
            | exact ⟨by rw [hs]; rfl, rfl⟩
  · cases hj : w.2.1
    · have hs : strBy t w img raw 6 = none := by unfold strBy; rw [if_neg (by decide), if_neg (by decide), hj]
      have hf : frI t w = -1000000 := by unfold frI; rw [hj]
      refine GS.tabIn (t := 156) rfl (by decide) (by decide) (rfl) ?_
      refine GS.run [] 2 rfl ?_
      rw [h4]
      refine GS.if_ne rfl (fun c160 => ?_) (fun c160 => ?_)
      · refine GS.run [] 9 rfl ?_
        rw [h1, h2, hf, h5]
        refine GS.cV oX8_roundFrom ((c_roundFrom_10 d σ (nI w.1) (-1000000) (-zI (sd img raw))).eq (congrArg (fun z => some (Value.int z)) (v_rfN ht hw hW.1)) rfl) rfl rfl rfl rfl rfl rfl rfl (Nat.le_of_ble_eq_true rfl) (by omega) ?_
        refine GS.run [] 1 rfl ?_
        refine GS.iret rfl rfl (rfl) ?_
        exact ⟨by rw [hs]; rfl, rfl⟩
      · refine GS.run [] 2 rfl ?_
        rw [h3]
        refine GS.if_eq rfl (fun c167 => ?_) (fun c167 => ?_)
        · refine GS.run [] 1 rfl ?_
          refine GS.iret rfl rfl (rfl) ?_
          exact ⟨by rw [hs]; rfl, rfl⟩
        · refine GS.run [] 9 rfl ?_
          rw [h1, h2, hf, h5]
          refine GS.cV oX8_roundFrom ((c_roundFrom_10 d σ (nI w.1) (-1000000) (-zI (sd img raw))).eq (congrArg (fun z => some (Value.int z)) (v_rfN ht hw hW.1)) rfl) rfl rfl rfl rfl rfl rfl rfl (Nat.le_of_ble_eq_true rfl) (by omega) ?_
          refine GS.run [] 1 rfl ?_
          refine GS.iret rfl rfl (rfl) ?_
          exact ⟨by rw [hs]; rfl, rfl⟩
    · rename_i j
      refine GS.tabIn (t := 156) rfl (by decide) (by decide) (rfl) ?_
      refine GS.run [] 2 rfl ?_
      rw [h4]
      refine GS.if_ne rfl (fun c160 => ?_) (fun c160 => ?_)
      · have hr : (w.2.2 || raw) = true := by rw [bI1.mp c160]; exact Bool.or_true _
        refine GS.run [] 9 rfl ?_
        rw [h1, h2, h5]
        refine GS.cV oX8_roundFrom ((c_roundFrom_10 d σ (nI w.1) (frI t w) (-zI (sd img raw))).eq (congrArg (fun z => some (Value.int z)) (v_hand (v := 6) ht hw hW hj (by omega) hr)) rfl) rfl rfl rfl rfl rfl rfl rfl (Nat.le_of_ble_eq_true rfl) (by omega) ?_
        refine GS.run [] 1 rfl ?_
        refine GS.iret rfl rfl (rfl) ?_
        first
          | exact ⟨rfl, rfl⟩
          | exact ⟨by rw [hs]; rfl, rfl⟩
      · refine GS.run [] 2 rfl ?_
        rw [h3]
        refine GS.if_eq rfl (fun c167 => ?_) (fun c167 => ?_)
        · have hr : ¬ (w.2.2 || raw) = true := by rw [bI0.mp c167, bI0.mp c160]; decide
          have hs : strBy t w img raw 6 = none := by
            unfold strBy
            rw [if_neg (by decide), if_neg (by decide), hj]
            simp only
            rw [if_neg (by decide), if_neg (by decide), if_neg hr]
          refine GS.run [] 1 rfl ?_
          refine GS.iret rfl rfl (rfl) ?_
          first
            | exact ⟨rfl, rfl⟩
            | exact ⟨by rw [hs]; rfl, rfl⟩
        · have hr : (w.2.2 || raw) = true := by rw [bI1.mp c167]; rfl
          refine GS.run [] 9 rfl ?_
          rw [h1, h2, h5]
          refine GS.cV oX8_roundFrom ((c_roundFrom_10 d σ (nI w.1) (frI t w) (-zI (sd img raw))).eq (congrArg (fun z => some (Value.int z)) (v_hand (v := 6) ht hw hW hj (by omega) hr)) rfl) rfl rfl rfl rfl rfl rfl rfl (Nat.le_of_ble_eq_true rfl) (by omega) ?_
          refine GS.run [] 1 rfl ?_
          refine GS.iret rfl rfl (rfl) ?_
          first
            | exact ⟨rfl, rfl⟩
            | exact ⟨by rw [hs]; rfl, rfl⟩
  · have hs : strBy t w img raw v = markedK t w.1 (v - 20) := by unfold strBy; rw [if_pos hv.1]
    refine GS.tabOut rfl (Or.inr (by rw [nI_toInt (by omega)]; omega)) ?_
    refine GS.run [] 7 rfl ?_
    rw [h1, il_20, pk_sub (by omega)]
    refine GS.cV oX8_marked (c_marked d σ t w.1 (v - 20) ht hw hW.1 (by omega)) rfl rfl rfl rfl rfl rfl rfl (Nat.le_of_ble_eq_true rfl) (by omega) ?_
    refine GS.iret rfl rfl (rfl) ?_
    exact ⟨by rw [hs], rfl⟩
