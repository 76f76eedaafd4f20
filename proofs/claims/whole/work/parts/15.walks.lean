theorem same_town {l : List Nat} {σ σ' : am_S} {t : Tn} (h : same l σ σ') (hl : ∀ j, j < 7 → 10 + j ∉ l) (ht : townC 10 σ t) : townC 10 σ' t := ht.kept (fun j hj => h _ (hl j hj))
theorem same_say {l : List Nat} {σ σ' : am_S} {s : Sy} (h : same l σ σ') (hl : 24 ∉ l ∧ 25 ∉ l) (ht : sayC 24 σ s) : sayC 24 σ' s := ht.kept (h _ hl.1) (h _ hl.2)
theorem stG_none {t : Tn} {c : Nat} {o : Option Nat} (h : ∀ k, o = some k → tB t c k < 2 ^ 31) : stG t c o = -1000000 ↔ o = none := by
  cases o with
  | none => simp [stG]
  | some k => simp [stG, nI_ne_none (h k rfl)]
theorem goW_7 {t : Tn} {w : Wk} {img raw : Bool} : goW t w img raw 7 = (decide (tW t w.1 = 1), (w.1, w.2.1, w.2.2 || decide (tW t w.1 = 1))) := if_pos rfl
theorem goW_n {t : Tn} {w : Wk} {img raw : Bool} {v : Nat} (hv : v ≠ 7) (h : strBy t w img raw v = none) : goW t w img raw v = (false, w) := by
  unfold goW; rw [if_neg hv, h]
theorem goW_s {t : Tn} {w : Wk} {img raw : Bool} {v k : Nat} (hv : v ≠ 7) (h : strBy t w img raw v = some k) : goW t w img raw v = (true, (tB t w.1 k, some (ixT t (tB t w.1 k) w.1), w.2.2)) := by
  unfold goW; rw [if_neg hv, h]
def fkI (o : Option Nat) : Int32 := match o with
  | none => -1000000
  | some k => nI k
/-- word by word from the k-th on, one left out: which fails, where he is -/
def runR (t : Tn) (s : Sy) (img raw : Bool) (but : Nat) : Nat → Nat → Wk → Option Nat × Wk
  | 0, _, w => (none, w)
  | m + 1, k, w => if k = but then runR t s img raw but m (k + 1) w else match goW t w img raw (s.2 k) with
    | (false, w') => (some k, w')
    | (true, w') => runR t s img raw but m (k + 1) w'
theorem runR_wf {t : Tn} {s : Sy} {img raw : Bool} {but : Nat} (hw : wfT t) : ∀ {m k : Nat} {w : Wk}, wfW t w → wfW t (runR t s img raw but m k w).2
  | 0, _, _, h => h
  | m + 1, k, w, h => by
    unfold runR
    split
    · exact runR_wf hw h
    · have h2 := goW_wf (img := img) (raw := raw) (v := s.2 k) hw h
      split
      · rename_i w' e; rw [e] at h2; exact h2
      · rename_i w' e; rw [e] at h2; exact runR_wf hw h2
theorem v_word {σ : am_S} {s : Sy} {j : Nat} (h : sayC 24 σ s) (hs : wfS s) (hj : j < s.1) : am_wd (σ 25) (σ 24 0) (nI j) = nI (s.2 j) := by
  have h1 := hs.1
  unfold am_wd
  rw [h.1, nI_toInt (by omega), nI_toInt (by omega), if_pos ⟨by omega, by omega⟩]
  exact v_get (by omega) (by omega) (h.2 j hj)
theorem isW_7 {v : Nat} (h : isW v) (h7 : v ≠ 7) : v = 0 ∨ v = 1 ∨ v = 3 ∨ v = 4 ∨ v = 5 ∨ v = 6 ∨ (20 ≤ v ∧ v < 30) := by unfold isW at h; omega
theorem c_stand_49 (d : Nat) (σ : am_S) (a b : Int32) (z : Bool) : CallS mX9_stand (d) [.ref 49, .int a, .int b, .int (bI z)] σ (fun r σ' => r = none ∧ same [49] σ σ' ∧ σ' 49 1 = a ∧ σ' 49 2 = b ∧ σ' 49 3 = bI z ∧ σ' 49 4 = σ 49 4 ∧ σ' 49 5 = σ 49 5) := by
  refine CallS.of kX9_stand pX9_stand [.ref 49, .int a, .int b, .int (bI z)] rfl (Nat.le_of_ble_eq_true rfl) ?_
  refine GS.run [] 8 rfl ?_
  refine GS.putZ rfl rfl rfl (nar_bI z) (fit_bI z) rfl ?_
  refine GS.vret rfl rfl ?_
  refine ⟨rfl, ((same.rf.s1 (by simp)).s1 (by simp)).s1 (by simp), ?_, ?_, ?_, ?_, ?_⟩ <;> simp [am_s1, upd]
theorem c_start_49 (d : Nat) (σ : am_S) (t : Tn) (c : Nat) (img raw : Bool) : CallS mX9_start (d + 1) [.ref 49, .int (nI c), .int (bI img), .int (bI raw)] σ (fun r σ' => r = none ∧ same [49] σ σ' ∧ wkC 49 σ' t (stW c) img raw) := by
  refine CallS.of kX9_start pX9_start [.ref 49, .int (nI c), .int (bI img), .int (bI raw)] rfl (Nat.le_of_ble_eq_true rfl) ?_
  refine GS.run [] 4 rfl ?_
  refine GS.callV oX9_stand (c_stand_49 d σ (nI c) (-1000000) false) rfl rfl rfl rfl rfl rfl rfl (Nat.le_of_ble_eq_true rfl) (by omega) (fun v5 σ5 hq5 => ?_)
  obtain ⟨rfl, s1, e1, e2, e3, e4, e5⟩ := hq5
  refine GS.run [] 2 rfl ?_
  refine GS.putZ rfl rfl rfl (nar_bI raw) (fit_bI raw) rfl ?_
  refine GS.run [] 2 rfl ?_
  refine GS.if_eq rfl (fun c15 => ?_) (fun c15 => ?_)
  · refine GS.run [] 2 rfl ?_
    refine GS.vret rfl rfl ?_
    refine ⟨rfl, (s1.s1 (by simp)).s1 (by simp), ?_, ?_, ?_, ?_, ?_⟩
    · simp [am_s1, upd, e1, stW]
    · simp [am_s1, upd, e2, stW, frI]
    · simp [am_s1, upd, e3, stW]
    · simp [am_s1, upd]
    · first
        | (rw [show sd img raw = 1 by (rw [bI0.mp c15]; cases img <;> rfl)]; rfl)
        | (rw [show sd img raw = 1 by (rw [bI0.mp c19]; cases raw <;> rfl)]; rfl)
        | (rw [show sd img raw = -1 by (rw [bI1.mp c15, bI1.mp c19]; rfl)]; rfl)
  · refine GS.run [] 1 rfl ?_
    refine GS.if_eq rfl (fun c19 => ?_) (fun c19 => ?_)
    · refine GS.run [] 2 rfl ?_
      refine GS.vret rfl rfl ?_
      refine ⟨rfl, (s1.s1 (by simp)).s1 (by simp), ?_, ?_, ?_, ?_, ?_⟩
      · simp [am_s1, upd, e1, stW]
      · simp [am_s1, upd, e2, stW, frI]
      · simp [am_s1, upd, e3, stW]
      · simp [am_s1, upd]
      · first
          | (rw [show sd img raw = 1 by (rw [bI0.mp c15]; cases img <;> rfl)]; rfl)
          | (rw [show sd img raw = 1 by (rw [bI0.mp c19]; cases raw <;> rfl)]; rfl)
          | (rw [show sd img raw = -1 by (rw [bI1.mp c15, bI1.mp c19]; rfl)]; rfl)
    · refine GS.run [] 3 rfl ?_
      refine GS.vret rfl rfl ?_
      refine ⟨rfl, (s1.s1 (by simp)).s1 (by simp), ?_, ?_, ?_, ?_, ?_⟩
      · simp [am_s1, upd, e1, stW]
      · simp [am_s1, upd, e2, stW, frI]
      · simp [am_s1, upd, e3, stW]
      · simp [am_s1, upd]
      · first
          | (rw [show sd img raw = 1 by (rw [bI0.mp c15]; cases img <;> rfl)]; rfl)
          | (rw [show sd img raw = 1 by (rw [bI0.mp c19]; cases raw <;> rfl)]; rfl)
          | (rw [show sd img raw = -1 by (rw [bI1.mp c15, bI1.mp c19]; rfl)]; rfl)
theorem c_goBy_49 (d : Nat) (σ : am_S) (t : Tn) (w : Wk) (img raw : Bool) (v : Nat) (hv : isW v) (ht : townC 10 σ t) (hw : wfT t) (hW : wfW t w) (hk : wkC 49 σ t w img raw) : CallS mX9_goBy (d + 4) [.ref 49, .int (nI v)] σ (fun r σ' => r = some (.int (bI (goW t w img raw v).1)) ∧ same [49] σ σ' ∧ wkC 49 σ' t (goW t w img raw v).2 img raw) := by
  refine CallS.of kX9_goBy pX9_goBy [.ref 49, .int (nI v), .retAddr 0] rfl (Nat.le_of_ble_eq_true rfl) ?_
  have h8 := hw.1
  obtain ⟨h1, h2, h3, h4, h5⟩ := hk
  have hv2 : v < 30 := by unfold isW at hv; omega
  refine GS.run [] 2 rfl ?_
  refine GS.icmp_ne rfl (fun c3 => ?_) (fun c3 => ?_)
  · have h7 : v ≠ 7 := fun z => c3 (by rw [z]; rfl)
    refine GS.run [] 2 rfl ?_
    refine GS.cV oX9_goalOf (c_goalOf_49 d σ t w img raw v (isW_7 hv h7) ht hw hW ⟨h1, h2, h3, h4, h5⟩) rfl rfl rfl rfl rfl rfl rfl (Nat.le_of_ble_eq_true rfl) (by omega) ?_
    refine GS.run [] 3 rfl ?_
    refine GS.icmp_ne rfl (fun c49 => ?_) (fun c49 => ?_)
    · cases hs : strBy t w img raw v with
      | none => exact absurd (by rw [hs]; rfl) c49
      | some j => ?_
      have hlt := strBy_lt hW hs
      obtain ⟨hn1, hn2⟩ := (hw.2.2 _ hW.1).2.2.2.2.1 j hlt
      obtain ⟨i, hi1, hi2⟩ := (hw.2.2 _ hW.1).2.2.2.2.2.2 j hlt
      obtain ⟨hx1, hx2⟩ := ixT_spec hi1 hi2
      rw [goW_s h7 hs]
      refine GS.run [] 8 rfl ?_
      refine GS.iret rfl rfl (rfl) ?_
      refine ⟨rfl, (same.rf.s1 (by simp)).s1 (by simp), ?_, ?_, ?_, ?_, ?_⟩
      · simp [am_s1, upd, hs, stG]
      · simp [am_s1, upd, h1, frI, hx2]
      · simp [am_s1, upd, h3]
      · simp [am_s1, upd, h4]
      · simp [am_s1, upd, h5]
    · have hs := (stG_none (fun j hj => by have := ((hw.2.2 _ hW.1).2.2.2.2.1 j (strBy_lt hW hj)).1; omega)).mp c49
      rw [goW_n h7 hs]
      refine GS.run [] 1 rfl ?_
      refine GS.iret rfl rfl (rfl) ?_
      exact ⟨rfl, same.rf, h1, h2, h3, h4, h5⟩
  · have h7 : v = 7 := (nI_eq (b := 7) (by omega) (by omega)).mp c3
    subst h7
    rw [goW_7]
    refine GS.run [] 4 rfl ?_
    rw [h1]
    refine GS.cV oX8_hasWell (c_well (d + 2) σ t w.1 ht hw hW.1) rfl rfl rfl rfl rfl rfl rfl (Nat.le_of_ble_eq_true rfl) (by omega) ?_
    refine GS.run [] 4 rfl ?_
    rw [h3]
    refine GS.if_ne rfl (fun c23 => ?_) (fun c23 => ?_)
    · refine GS.run [] 2 rfl ?_
      refine GS.putZ rfl rfl rfl (rfl) (rfl) rfl ?_
      refine GS.run [] 1 rfl ?_
      refine GS.iret rfl rfl (nar_b _) ?_
      refine ⟨by rw [bI_b], same.rf.s1 (by simp), ?_, ?_, ?_, ?_, ?_⟩
      · simp [am_s1, upd, h1]
      · simp [am_s1, upd, h2, frI]
      · first
          | (simp [am_s1, upd, bI1.mp c23, bI]; done)
          | (simp [am_s1, upd, Decidable.not_not.mp (fun z => c27 (am_b0.mpr z)), bI]; done)
          | (simp [am_s1, upd, bI0.mp c23, am_b0.mp c27, bI]; done)
      · simp [am_s1, upd, h4]
      · simp [am_s1, upd, h5]
    · refine GS.run [] 1 rfl ?_
      refine GS.if_eq rfl (fun c27 => ?_) (fun c27 => ?_)
      · refine GS.run [] 1 rfl ?_
        refine GS.putZ rfl rfl rfl (rfl) (rfl) rfl ?_
        refine GS.run [] 1 rfl ?_
        refine GS.iret rfl rfl (nar_b _) ?_
        refine ⟨by rw [bI_b], same.rf.s1 (by simp), ?_, ?_, ?_, ?_, ?_⟩
        · simp [am_s1, upd, h1]
        · simp [am_s1, upd, h2, frI]
        · first
            | (simp [am_s1, upd, bI1.mp c23, bI]; done)
            | (simp [am_s1, upd, Decidable.not_not.mp (fun z => c27 (am_b0.mpr z)), bI]; done)
            | (simp [am_s1, upd, bI0.mp c23, am_b0.mp c27, bI]; done)
        · simp [am_s1, upd, h4]
        · simp [am_s1, upd, h5]
      · refine GS.run [] 2 rfl ?_
        refine GS.putZ rfl rfl rfl (rfl) (rfl) rfl ?_
        refine GS.run [] 1 rfl ?_
        refine GS.iret rfl rfl (nar_b _) ?_
        refine ⟨by rw [bI_b], same.rf.s1 (by simp), ?_, ?_, ?_, ?_, ?_⟩
        · simp [am_s1, upd, h1]
        · simp [am_s1, upd, h2, frI]
        · first
            | (simp [am_s1, upd, bI1.mp c23, bI]; done)
            | (simp [am_s1, upd, Decidable.not_not.mp (fun z => c27 (am_b0.mpr z)), bI]; done)
            | (simp [am_s1, upd, bI0.mp c23, am_b0.mp c27, bI]; done)
        · simp [am_s1, upd, h4]
        · simp [am_s1, upd, h5]
theorem c_stand_50 (d : Nat) (σ : am_S) (a b : Int32) (z : Bool) : CallS mX9_stand (d) [.ref 50, .int a, .int b, .int (bI z)] σ (fun r σ' => r = none ∧ same [50] σ σ' ∧ σ' 50 1 = a ∧ σ' 50 2 = b ∧ σ' 50 3 = bI z ∧ σ' 50 4 = σ 50 4 ∧ σ' 50 5 = σ 50 5) := by
  refine CallS.of kX9_stand pX9_stand [.ref 50, .int a, .int b, .int (bI z)] rfl (Nat.le_of_ble_eq_true rfl) ?_
  refine GS.run [] 8 rfl ?_
  refine GS.putZ rfl rfl rfl (nar_bI z) (fit_bI z) rfl ?_
  refine GS.vret rfl rfl ?_
  refine ⟨rfl, ((same.rf.s1 (by simp)).s1 (by simp)).s1 (by simp), ?_, ?_, ?_, ?_, ?_⟩ <;> simp [am_s1, upd]
theorem c_start_50 (d : Nat) (σ : am_S) (t : Tn) (c : Nat) (img raw : Bool) : CallS mX9_start (d + 1) [.ref 50, .int (nI c), .int (bI img), .int (bI raw)] σ (fun r σ' => r = none ∧ same [50] σ σ' ∧ wkC 50 σ' t (stW c) img raw) := by
  refine CallS.of kX9_start pX9_start [.ref 50, .int (nI c), .int (bI img), .int (bI raw)] rfl (Nat.le_of_ble_eq_true rfl) ?_
  refine GS.run [] 4 rfl ?_
  refine GS.callV oX9_stand (c_stand_50 d σ (nI c) (-1000000) false) rfl rfl rfl rfl rfl rfl rfl (Nat.le_of_ble_eq_true rfl) (by omega) (fun v5 σ5 hq5 => ?_)
  obtain ⟨rfl, s1, e1, e2, e3, e4, e5⟩ := hq5
  refine GS.run [] 2 rfl ?_
  refine GS.putZ rfl rfl rfl (nar_bI raw) (fit_bI raw) rfl ?_
  refine GS.run [] 2 rfl ?_
  refine GS.if_eq rfl (fun c15 => ?_) (fun c15 => ?_)
  · refine GS.run [] 2 rfl ?_
    refine GS.vret rfl rfl ?_
    refine ⟨rfl, (s1.s1 (by simp)).s1 (by simp), ?_, ?_, ?_, ?_, ?_⟩
    · simp [am_s1, upd, e1, stW]
    · simp [am_s1, upd, e2, stW, frI]
    · simp [am_s1, upd, e3, stW]
    · simp [am_s1, upd]
    · first
        | (rw [show sd img raw = 1 by (rw [bI0.mp c15]; cases img <;> rfl)]; rfl)
        | (rw [show sd img raw = 1 by (rw [bI0.mp c19]; cases raw <;> rfl)]; rfl)
        | (rw [show sd img raw = -1 by (rw [bI1.mp c15, bI1.mp c19]; rfl)]; rfl)
  · refine GS.run [] 1 rfl ?_
    refine GS.if_eq rfl (fun c19 => ?_) (fun c19 => ?_)
    · refine GS.run [] 2 rfl ?_
      refine GS.vret rfl rfl ?_
      refine ⟨rfl, (s1.s1 (by simp)).s1 (by simp), ?_, ?_, ?_, ?_, ?_⟩
      · simp [am_s1, upd, e1, stW]
      · simp [am_s1, upd, e2, stW, frI]
      · simp [am_s1, upd, e3, stW]
      · simp [am_s1, upd]
      · first
          | (rw [show sd img raw = 1 by (rw [bI0.mp c15]; cases img <;> rfl)]; rfl)
          | (rw [show sd img raw = 1 by (rw [bI0.mp c19]; cases raw <;> rfl)]; rfl)
          | (rw [show sd img raw = -1 by (rw [bI1.mp c15, bI1.mp c19]; rfl)]; rfl)
    · refine GS.run [] 3 rfl ?_
      refine GS.vret rfl rfl ?_
      refine ⟨rfl, (s1.s1 (by simp)).s1 (by simp), ?_, ?_, ?_, ?_, ?_⟩
      · simp [am_s1, upd, e1, stW]
      · simp [am_s1, upd, e2, stW, frI]
      · simp [am_s1, upd, e3, stW]
      · simp [am_s1, upd]
      · first
          | (rw [show sd img raw = 1 by (rw [bI0.mp c15]; cases img <;> rfl)]; rfl)
          | (rw [show sd img raw = 1 by (rw [bI0.mp c19]; cases raw <;> rfl)]; rfl)
          | (rw [show sd img raw = -1 by (rw [bI1.mp c15, bI1.mp c19]; rfl)]; rfl)
theorem c_goBy_50 (d : Nat) (σ : am_S) (t : Tn) (w : Wk) (img raw : Bool) (v : Nat) (hv : isW v) (ht : townC 10 σ t) (hw : wfT t) (hW : wfW t w) (hk : wkC 50 σ t w img raw) : CallS mX9_goBy (d + 4) [.ref 50, .int (nI v)] σ (fun r σ' => r = some (.int (bI (goW t w img raw v).1)) ∧ same [50] σ σ' ∧ wkC 50 σ' t (goW t w img raw v).2 img raw) := by
  refine CallS.of kX9_goBy pX9_goBy [.ref 50, .int (nI v), .retAddr 0] rfl (Nat.le_of_ble_eq_true rfl) ?_
  have h8 := hw.1
  obtain ⟨h1, h2, h3, h4, h5⟩ := hk
  have hv2 : v < 30 := by unfold isW at hv; omega
  refine GS.run [] 2 rfl ?_
  refine GS.icmp_ne rfl (fun c3 => ?_) (fun c3 => ?_)
  · have h7 : v ≠ 7 := fun z => c3 (by rw [z]; rfl)
    refine GS.run [] 2 rfl ?_
    refine GS.cV oX9_goalOf (c_goalOf_50 d σ t w img raw v (isW_7 hv h7) ht hw hW ⟨h1, h2, h3, h4, h5⟩) rfl rfl rfl rfl rfl rfl rfl (Nat.le_of_ble_eq_true rfl) (by omega) ?_
    refine GS.run [] 3 rfl ?_
    refine GS.icmp_ne rfl (fun c49 => ?_) (fun c49 => ?_)
    · cases hs : strBy t w img raw v with
      | none => exact absurd (by rw [hs]; rfl) c49
      | some j => ?_
      have hlt := strBy_lt hW hs
      obtain ⟨hn1, hn2⟩ := (hw.2.2 _ hW.1).2.2.2.2.1 j hlt
      obtain ⟨i, hi1, hi2⟩ := (hw.2.2 _ hW.1).2.2.2.2.2.2 j hlt
      obtain ⟨hx1, hx2⟩ := ixT_spec hi1 hi2
      rw [goW_s h7 hs]
      refine GS.run [] 8 rfl ?_
      refine GS.iret rfl rfl (rfl) ?_
      refine ⟨rfl, (same.rf.s1 (by simp)).s1 (by simp), ?_, ?_, ?_, ?_, ?_⟩
      · simp [am_s1, upd, hs, stG]
      · simp [am_s1, upd, h1, frI, hx2]
      · simp [am_s1, upd, h3]
      · simp [am_s1, upd, h4]
      · simp [am_s1, upd, h5]
    · have hs := (stG_none (fun j hj => by have := ((hw.2.2 _ hW.1).2.2.2.2.1 j (strBy_lt hW hj)).1; omega)).mp c49
      rw [goW_n h7 hs]
      refine GS.run [] 1 rfl ?_
      refine GS.iret rfl rfl (rfl) ?_
      exact ⟨rfl, same.rf, h1, h2, h3, h4, h5⟩
  · have h7 : v = 7 := (nI_eq (b := 7) (by omega) (by omega)).mp c3
    subst h7
    rw [goW_7]
    refine GS.run [] 4 rfl ?_
    rw [h1]
    refine GS.cV oX8_hasWell (c_well (d + 2) σ t w.1 ht hw hW.1) rfl rfl rfl rfl rfl rfl rfl (Nat.le_of_ble_eq_true rfl) (by omega) ?_
    refine GS.run [] 4 rfl ?_
    rw [h3]
    refine GS.if_ne rfl (fun c23 => ?_) (fun c23 => ?_)
    · refine GS.run [] 2 rfl ?_
      refine GS.putZ rfl rfl rfl (rfl) (rfl) rfl ?_
      refine GS.run [] 1 rfl ?_
      refine GS.iret rfl rfl (nar_b _) ?_
      refine ⟨by rw [bI_b], same.rf.s1 (by simp), ?_, ?_, ?_, ?_, ?_⟩
      · simp [am_s1, upd, h1]
      · simp [am_s1, upd, h2, frI]
      · first
          | (simp [am_s1, upd, bI1.mp c23, bI]; done)
          | (simp [am_s1, upd, Decidable.not_not.mp (fun z => c27 (am_b0.mpr z)), bI]; done)
          | (simp [am_s1, upd, bI0.mp c23, am_b0.mp c27, bI]; done)
      · simp [am_s1, upd, h4]
      · simp [am_s1, upd, h5]
    · refine GS.run [] 1 rfl ?_
      refine GS.if_eq rfl (fun c27 => ?_) (fun c27 => ?_)
      · refine GS.run [] 1 rfl ?_
        refine GS.putZ rfl rfl rfl (rfl) (rfl) rfl ?_
        refine GS.run [] 1 rfl ?_
        refine GS.iret rfl rfl (nar_b _) ?_
        refine ⟨by rw [bI_b], same.rf.s1 (by simp), ?_, ?_, ?_, ?_, ?_⟩
        · simp [am_s1, upd, h1]
        · simp [am_s1, upd, h2, frI]
        · first
            | (simp [am_s1, upd, bI1.mp c23, bI]; done)
            | (simp [am_s1, upd, Decidable.not_not.mp (fun z => c27 (am_b0.mpr z)), bI]; done)
            | (simp [am_s1, upd, bI0.mp c23, am_b0.mp c27, bI]; done)
        · simp [am_s1, upd, h4]
        · simp [am_s1, upd, h5]
      · refine GS.run [] 2 rfl ?_
        refine GS.putZ rfl rfl rfl (rfl) (rfl) rfl ?_
        refine GS.run [] 1 rfl ?_
        refine GS.iret rfl rfl (nar_b _) ?_
        refine ⟨by rw [bI_b], same.rf.s1 (by simp), ?_, ?_, ?_, ?_, ?_⟩
        · simp [am_s1, upd, h1]
        · simp [am_s1, upd, h2, frI]
        · first
            | (simp [am_s1, upd, bI1.mp c23, bI]; done)
            | (simp [am_s1, upd, Decidable.not_not.mp (fun z => c27 (am_b0.mpr z)), bI]; done)
            | (simp [am_s1, upd, bI0.mp c23, am_b0.mp c27, bI]; done)
        · simp [am_s1, upd, h4]
        · simp [am_s1, upd, h5]
theorem c_stand_63 (d : Nat) (σ : am_S) (a b : Int32) (z : Bool) : CallS mX9_stand (d) [.ref 63, .int a, .int b, .int (bI z)] σ (fun r σ' => r = none ∧ same [63] σ σ' ∧ σ' 63 1 = a ∧ σ' 63 2 = b ∧ σ' 63 3 = bI z ∧ σ' 63 4 = σ 63 4 ∧ σ' 63 5 = σ 63 5) := by
  refine CallS.of kX9_stand pX9_stand [.ref 63, .int a, .int b, .int (bI z)] rfl (Nat.le_of_ble_eq_true rfl) ?_
  refine GS.run [] 8 rfl ?_
  refine GS.putZ rfl rfl rfl (nar_bI z) (fit_bI z) rfl ?_
  refine GS.vret rfl rfl ?_
  refine ⟨rfl, ((same.rf.s1 (by simp)).s1 (by simp)).s1 (by simp), ?_, ?_, ?_, ?_, ?_⟩ <;> simp [am_s1, upd]
theorem c_start_63 (d : Nat) (σ : am_S) (t : Tn) (c : Nat) (img raw : Bool) : CallS mX9_start (d + 1) [.ref 63, .int (nI c), .int (bI img), .int (bI raw)] σ (fun r σ' => r = none ∧ same [63] σ σ' ∧ wkC 63 σ' t (stW c) img raw) := by
  refine CallS.of kX9_start pX9_start [.ref 63, .int (nI c), .int (bI img), .int (bI raw)] rfl (Nat.le_of_ble_eq_true rfl) ?_
  refine GS.run [] 4 rfl ?_
  refine GS.callV oX9_stand (c_stand_63 d σ (nI c) (-1000000) false) rfl rfl rfl rfl rfl rfl rfl (Nat.le_of_ble_eq_true rfl) (by omega) (fun v5 σ5 hq5 => ?_)
  obtain ⟨rfl, s1, e1, e2, e3, e4, e5⟩ := hq5
  refine GS.run [] 2 rfl ?_
  refine GS.putZ rfl rfl rfl (nar_bI raw) (fit_bI raw) rfl ?_
  refine GS.run [] 2 rfl ?_
  refine GS.if_eq rfl (fun c15 => ?_) (fun c15 => ?_)
  · refine GS.run [] 2 rfl ?_
    refine GS.vret rfl rfl ?_
    refine ⟨rfl, (s1.s1 (by simp)).s1 (by simp), ?_, ?_, ?_, ?_, ?_⟩
    · simp [am_s1, upd, e1, stW]
    · simp [am_s1, upd, e2, stW, frI]
    · simp [am_s1, upd, e3, stW]
    · simp [am_s1, upd]
    · first
        | (rw [show sd img raw = 1 by (rw [bI0.mp c15]; cases img <;> rfl)]; rfl)
        | (rw [show sd img raw = 1 by (rw [bI0.mp c19]; cases raw <;> rfl)]; rfl)
        | (rw [show sd img raw = -1 by (rw [bI1.mp c15, bI1.mp c19]; rfl)]; rfl)
  · refine GS.run [] 1 rfl ?_
    refine GS.if_eq rfl (fun c19 => ?_) (fun c19 => ?_)
    · refine GS.run [] 2 rfl ?_
      refine GS.vret rfl rfl ?_
      refine ⟨rfl, (s1.s1 (by simp)).s1 (by simp), ?_, ?_, ?_, ?_, ?_⟩
      · simp [am_s1, upd, e1, stW]
      · simp [am_s1, upd, e2, stW, frI]
      · simp [am_s1, upd, e3, stW]
      · simp [am_s1, upd]
      · first
          | (rw [show sd img raw = 1 by (rw [bI0.mp c15]; cases img <;> rfl)]; rfl)
          | (rw [show sd img raw = 1 by (rw [bI0.mp c19]; cases raw <;> rfl)]; rfl)
          | (rw [show sd img raw = -1 by (rw [bI1.mp c15, bI1.mp c19]; rfl)]; rfl)
    · refine GS.run [] 3 rfl ?_
      refine GS.vret rfl rfl ?_
      refine ⟨rfl, (s1.s1 (by simp)).s1 (by simp), ?_, ?_, ?_, ?_, ?_⟩
      · simp [am_s1, upd, e1, stW]
      · simp [am_s1, upd, e2, stW, frI]
      · simp [am_s1, upd, e3, stW]
      · simp [am_s1, upd]
      · first
          | (rw [show sd img raw = 1 by (rw [bI0.mp c15]; cases img <;> rfl)]; rfl)
          | (rw [show sd img raw = 1 by (rw [bI0.mp c19]; cases raw <;> rfl)]; rfl)
          | (rw [show sd img raw = -1 by (rw [bI1.mp c15, bI1.mp c19]; rfl)]; rfl)
theorem c_goBy_63 (d : Nat) (σ : am_S) (t : Tn) (w : Wk) (img raw : Bool) (v : Nat) (hv : isW v) (ht : townC 10 σ t) (hw : wfT t) (hW : wfW t w) (hk : wkC 63 σ t w img raw) : CallS mX9_goBy (d + 4) [.ref 63, .int (nI v)] σ (fun r σ' => r = some (.int (bI (goW t w img raw v).1)) ∧ same [63] σ σ' ∧ wkC 63 σ' t (goW t w img raw v).2 img raw) := by
  refine CallS.of kX9_goBy pX9_goBy [.ref 63, .int (nI v), .retAddr 0] rfl (Nat.le_of_ble_eq_true rfl) ?_
  have h8 := hw.1
  obtain ⟨h1, h2, h3, h4, h5⟩ := hk
  have hv2 : v < 30 := by unfold isW at hv; omega
  refine GS.run [] 2 rfl ?_
  refine GS.icmp_ne rfl (fun c3 => ?_) (fun c3 => ?_)
  · have h7 : v ≠ 7 := fun z => c3 (by rw [z]; rfl)
    refine GS.run [] 2 rfl ?_
    refine GS.cV oX9_goalOf (c_goalOf_63 d σ t w img raw v (isW_7 hv h7) ht hw hW ⟨h1, h2, h3, h4, h5⟩) rfl rfl rfl rfl rfl rfl rfl (Nat.le_of_ble_eq_true rfl) (by omega) ?_
    refine GS.run [] 3 rfl ?_
    refine GS.icmp_ne rfl (fun c49 => ?_) (fun c49 => ?_)
    · cases hs : strBy t w img raw v with
      | none => exact absurd (by rw [hs]; rfl) c49
      | some j => ?_
      have hlt := strBy_lt hW hs
      obtain ⟨hn1, hn2⟩ := (hw.2.2 _ hW.1).2.2.2.2.1 j hlt
      obtain ⟨i, hi1, hi2⟩ := (hw.2.2 _ hW.1).2.2.2.2.2.2 j hlt
      obtain ⟨hx1, hx2⟩ := ixT_spec hi1 hi2
      rw [goW_s h7 hs]
      refine GS.run [] 8 rfl ?_
      refine GS.iret rfl rfl (rfl) ?_
      refine ⟨rfl, (same.rf.s1 (by simp)).s1 (by simp), ?_, ?_, ?_, ?_, ?_⟩
      · simp [am_s1, upd, hs, stG]
      · simp [am_s1, upd, h1, frI, hx2]
      · simp [am_s1, upd, h3]
      · simp [am_s1, upd, h4]
      · simp [am_s1, upd, h5]
    · have hs := (stG_none (fun j hj => by have := ((hw.2.2 _ hW.1).2.2.2.2.1 j (strBy_lt hW hj)).1; omega)).mp c49
      rw [goW_n h7 hs]
      refine GS.run [] 1 rfl ?_
      refine GS.iret rfl rfl (rfl) ?_
      exact ⟨rfl, same.rf, h1, h2, h3, h4, h5⟩
  · have h7 : v = 7 := (nI_eq (b := 7) (by omega) (by omega)).mp c3
    subst h7
    rw [goW_7]
    refine GS.run [] 4 rfl ?_
    rw [h1]
    refine GS.cV oX8_hasWell (c_well (d + 2) σ t w.1 ht hw hW.1) rfl rfl rfl rfl rfl rfl rfl (Nat.le_of_ble_eq_true rfl) (by omega) ?_
    refine GS.run [] 4 rfl ?_
    rw [h3]
    refine GS.if_ne rfl (fun c23 => ?_) (fun c23 => ?_)
    · refine GS.run [] 2 rfl ?_
      refine GS.putZ rfl rfl rfl (rfl) (rfl) rfl ?_
      refine GS.run [] 1 rfl ?_
      refine GS.iret rfl rfl (nar_b _) ?_
      refine ⟨by rw [bI_b], same.rf.s1 (by simp), ?_, ?_, ?_, ?_, ?_⟩
      · simp [am_s1, upd, h1]
      · simp [am_s1, upd, h2, frI]
      · first
          | (simp [am_s1, upd, bI1.mp c23, bI]; done)
          | (simp [am_s1, upd, Decidable.not_not.mp (fun z => c27 (am_b0.mpr z)), bI]; done)
          | (simp [am_s1, upd, bI0.mp c23, am_b0.mp c27, bI]; done)
      · simp [am_s1, upd, h4]
      · simp [am_s1, upd, h5]
    · refine GS.run [] 1 rfl ?_
      refine GS.if_eq rfl (fun c27 => ?_) (fun c27 => ?_)
      · refine GS.run [] 1 rfl ?_
        refine GS.putZ rfl rfl rfl (rfl) (rfl) rfl ?_
        refine GS.run [] 1 rfl ?_
        refine GS.iret rfl rfl (nar_b _) ?_
        refine ⟨by rw [bI_b], same.rf.s1 (by simp), ?_, ?_, ?_, ?_, ?_⟩
        · simp [am_s1, upd, h1]
        · simp [am_s1, upd, h2, frI]
        · first
            | (simp [am_s1, upd, bI1.mp c23, bI]; done)
            | (simp [am_s1, upd, Decidable.not_not.mp (fun z => c27 (am_b0.mpr z)), bI]; done)
            | (simp [am_s1, upd, bI0.mp c23, am_b0.mp c27, bI]; done)
        · simp [am_s1, upd, h4]
        · simp [am_s1, upd, h5]
      · refine GS.run [] 2 rfl ?_
        refine GS.putZ rfl rfl rfl (rfl) (rfl) rfl ?_
        refine GS.run [] 1 rfl ?_
        refine GS.iret rfl rfl (nar_b _) ?_
        refine ⟨by rw [bI_b], same.rf.s1 (by simp), ?_, ?_, ?_, ?_, ?_⟩
        · simp [am_s1, upd, h1]
        · simp [am_s1, upd, h2, frI]
        · first
            | (simp [am_s1, upd, bI1.mp c23, bI]; done)
            | (simp [am_s1, upd, Decidable.not_not.mp (fun z => c27 (am_b0.mpr z)), bI]; done)
            | (simp [am_s1, upd, bI0.mp c23, am_b0.mp c27, bI]; done)
        · simp [am_s1, upd, h4]
        · simp [am_s1, upd, h5]
