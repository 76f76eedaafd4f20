def okF (L : List Nat) (σ σ' : am_S) : Prop := same L σ σ' ∧ ∀ i, i ≠ 6 → i ≠ 7 → σ' 5 i = σ 5 i
def erF (L : List Nat) (σ σ' : am_S) (e : Nat × Nat) : Prop := same L σ σ' ∧ (∀ i, i < 5 → σ' 5 i = σ 5 i) ∧ σ' 5 8 = nI e.1 ∧ σ' 5 9 = nI e.2
def rdQ {A : Type} (R : Er A) (L : List Nat) (good : A → am_S → Prop) (σ : am_S) : Option Value → am_S → Prop := fun r σ' => match R with
  | .ok a => r = some (.int 1) ∧ okF L σ σ' ∧ good a σ'
  | .error e => r = some (.int 0) ∧ erF L σ σ' e
theorem okF.rf {L : List Nat} {σ : am_S} : okF L σ σ := ⟨same.rf, fun _ _ _ => rfl⟩
theorem okF.trans {L : List Nat} {a b c : am_S} (h1 : okF L a b) (h2 : okF L b c) : okF L a c := ⟨h1.1.trans h2.1, fun i h3 h4 => (h2.2 i h3 h4).trans (h1.2 i h3 h4)⟩
theorem okF.sub {L M : List Nat} {a b : am_S} (h : okF L a b) (hs : ∀ q ∈ L, q ∈ M) : okF M a b := ⟨h.1.sub hs, h.2⟩
theorem erF.sub {L M : List Nat} {a b : am_S} {e : Nat × Nat} (h : erF L a b e) (hs : ∀ q ∈ L, q ∈ M) : erF M a b e := ⟨h.1.sub hs, h.2⟩
theorem okF.er {L : List Nat} {a b c : am_S} {e : Nat × Nat} (h1 : okF L a b) (h2 : erF L b c e) : erF L a c e := ⟨h1.1.trans h2.1, fun i hi => (h2.2.1 i hi).trans (h1.2 i (by omega) (by omega)), h2.2.2⟩
theorem okF.f {L : List Nat} {σ σ' : am_S} (h : okF L σ σ') {i : Nat} {v : Int32} (h5 : 5 ∈ L) (hi : i = 6 ∨ i = 7) : okF L σ (am_s1 σ' 5 (upd (σ' 5) i v)) := ⟨h.1.s1 h5, fun j h6 h7 => by rw [am_s1_eq, upd_ne _ _ (by omega)]; exact h.2 j h6 h7⟩
theorem okF.d {L M : List Nat} {σ σ' σ2 : am_S} (h : okF L σ σ') (hs : same M σ' σ2) (h5 : 5 ∉ M) (hm : ∀ q ∈ M, q ∈ L) : okF L σ σ2 := ⟨h.1.trans (hs.sub hm), fun i h6 h7 => by rw [hs 5 h5]; exact h.2 i h6 h7⟩
theorem tokC.kept {L : List Nat} {σ σ' : am_S} {p : Tp} (h : tokC σ p) (hs : same L σ σ') (hL : 7 ∉ L ∧ 8 ∉ L ∧ 9 ∉ L) : tokC σ' p := by
  intro j hj
  rw [hs 7 hL.1, hs 8 hL.2.1, hs 9 hL.2.2]
  exact h j hj
def pcC (σ : am_S) (p : Tp) (j : Nat) : Prop := tokC σ p ∧ σ 5 6 = nI j ∧ live p j
theorem bI_d {q : Prop} [Decidable q] : bI (decide q) = am_b q := by
  by_cases h : q
  · rw [decide_eq_true h, am_b_1 h]; rfl
  · rw [decide_eq_false h, am_b_0 h]; rfl
theorem c_sort7 (d : Nat) (σ : am_S) (p : Tp) (j : Nat) (hp : wfP p) (h : pcC σ p j) : CallS mX7_sort (d + 1) [.ref 5] σ (am_det (some (.int (nI (tkC p j)))) σ) := by
  refine CallS.of kX7_sort pX7_sort [.ref 5] rfl (Nat.le_of_ble_eq_true rfl) ?_
  obtain ⟨htk, h6, hlv⟩ := h
  have hj4 := live_400 hlv hp
  obtain ⟨t7, t8, t9⟩ := htk j hlv
  refine GS.run [] 4 rfl ?_
  rw [h6]
  refine GS.run [] 0 rfl ?_
  refine GS.cS oX11_at ((c_at d σ 8 401 (nI j) rfl).eq (congrArg (fun z => some (Value.int z)) (v_get (by omega) (by omega) t8)) rfl) rfl rfl rfl rfl (Nat.le_of_ble_eq_true rfl) (by omega) ?_
  refine GS.iret rfl rfl (rfl) ?_
  exact ⟨rfl, rfl⟩
theorem c_value7 (d : Nat) (σ : am_S) (p : Tp) (j : Nat) (hp : wfP p) (h : pcC σ p j) : CallS mX7_value (d + 1) [.ref 5] σ (am_det (some (.int (tkVI p j))) σ) := by
  refine CallS.of kX7_value pX7_value [.ref 5] rfl (Nat.le_of_ble_eq_true rfl) ?_
  obtain ⟨htk, h6, hlv⟩ := h
  have hj4 := live_400 hlv hp
  obtain ⟨t7, t8, t9⟩ := htk j hlv
  refine GS.run [] 4 rfl ?_
  rw [h6]
  refine GS.run [] 0 rfl ?_
  refine GS.cS oX11_at ((c_at d σ 9 401 (nI j) rfl).eq (congrArg (fun z => some (Value.int z)) (v_get (by omega) (by omega) t9)) rfl) rfl rfl rfl rfl (Nat.le_of_ble_eq_true rfl) (by omega) ?_
  refine GS.iret rfl rfl (rfl) ?_
  exact ⟨rfl, rfl⟩
theorem c_isName (d : Nat) (σ : am_S) (p : Tp) (j : Nat) (hp : wfP p) (h : pcC σ p j) (k : Nat) : CallS mX7_isName (d + 2) [.ref 5, .int (nI k)] σ (am_det (some (.int (bI (decide (isNm p k j))))) σ) := by
  refine CallS.of kX7_isName pX7_isName [.ref 5, .int (nI k)] rfl (Nat.le_of_ble_eq_true rfl) ?_
  have hc4 := tkC_le (p := p) (j := j)
  refine GS.run [] 1 rfl ?_
  refine GS.cV oX7_sort (c_sort7 d σ p j hp h) rfl rfl rfl rfl rfl rfl rfl (Nat.le_of_ble_eq_true rfl) (by omega) ?_
  refine GS.run [] 1 rfl ?_
  refine GS.icmp_ne rfl (fun c5 => ?_) (fun c5 => ?_)
  · have hE : decide (isNm p k j) = false := decide_eq_false (fun q => c5 (by rw [q.1]; rfl))
    refine GS.run [] 1 rfl ?_
    refine GS.iret rfl rfl (rfl) ?_
    rw [hE]
    exact ⟨rfl, rfl⟩
  · have k1 : tkC p j = 1 := (nI_eq (b := 1) (by omega) (by omega)).mp c5
    refine GS.run [] 1 rfl ?_
    refine GS.cV oX7_value (c_value7 d σ p j hp h) rfl rfl rfl rfl rfl rfl rfl (Nat.le_of_ble_eq_true rfl) (by omega) ?_
    refine GS.run [] 1 rfl ?_
    refine GS.icmp_ne rfl (fun c13 => ?_) (fun c13 => ?_)
    · have hE : decide (isNm p k j) = false := decide_eq_false (fun q => c13 q.2)
      refine GS.run [] 1 rfl ?_
      refine GS.iret rfl rfl (rfl) ?_
      rw [hE]
      exact ⟨rfl, rfl⟩
    · have hE : decide (isNm p k j) = true := decide_eq_true ⟨k1, c13⟩
      refine GS.run [] 2 rfl ?_
      refine GS.iret rfl rfl (rfl) ?_
      rw [hE]
      exact ⟨rfl, rfl⟩
theorem nlI_in {o : Option Nat} (ho : ∀ k, o = some k → k < 11) : (0 ≤ (nlI o).toInt ∧ (nlI o).toInt < ((8 : Nat) : Int)) ↔ (wd8 o).isSome = true := by
  cases o with
  | none => exact ⟨fun h => absurd h.1 (by decide), fun h => by cases h⟩
  | some k =>
    have := ho k rfl
    show 0 ≤ (nI k).toInt ∧ (nI k).toInt < ((8 : Nat) : Int) ↔ (if k < 8 then some k else none).isSome = true
    rw [nI_toInt (by omega)]
    by_cases q : k < 8
    · rw [if_pos q]; exact ⟨fun _ => rfl, fun _ => by omega⟩
    · rw [if_neg q]; exact ⟨fun h => by omega, fun h => by cases h⟩
theorem c_isWord7 (d : Nat) (σ : am_S) (p : Tp) (j : Nat) (hp : wfP p) (h : pcC σ p j) : CallS mX7_isWord (d + 2) [.ref 5] σ (am_det (some (.int (bI (wdK p j).isSome))) σ) := by
  refine CallS.of kX7_isWord pX7_isWord [.ref 5] rfl (Nat.le_of_ble_eq_true rfl) ?_
  have hc4 := tkC_le (p := p) (j := j)
  refine GS.run [] 1 rfl ?_
  refine GS.cV oX7_sort (c_sort7 d σ p j hp h) rfl rfl rfl rfl rfl rfl rfl (Nat.le_of_ble_eq_true rfl) (by omega) ?_
  refine GS.run [] 1 rfl ?_
  refine GS.icmp_ne rfl (fun c5 => ?_) (fun c5 => ?_)
  · have hE : (wdK p j).isSome = false := by unfold wdK; rw [if_neg (fun q => c5 (by rw [q]; rfl))]; rfl
    refine GS.run [] 1 rfl ?_
    refine GS.iret rfl rfl (rfl) ?_
    rw [hE]
    exact ⟨rfl, rfl⟩
  · have k1 : tkC p j = 1 := (nI_eq (b := 1) (by omega) (by omega)).mp c5
    have hV := (tkC_1 k1).2.2
    have hin := nlI_in (o := nmO p (tkS p j) (tkL p j)) (fun k hk => (ufst_some hk).1)
    rw [← hV] at hin
    have hW : wdK p j = wd8 (nmO p (tkS p j) (tkL p j)) := if_pos k1
    rw [← hW] at hin
    refine GS.run [] 1 rfl ?_
    refine GS.cV oX7_value (c_value7 d σ p j hp h) rfl rfl rfl rfl rfl rfl rfl (Nat.le_of_ble_eq_true rfl) (by omega) ?_
    refine GS.run [] 1 rfl ?_
    refine GS.cS oX11_within (c_withinN (d + 1) σ (tkVI p j) 8 (by decide)) rfl rfl rfl rfl (Nat.le_of_ble_eq_true rfl) (by omega) ?_
    refine GS.if_eq rfl (fun c17 => ?_) (fun c17 => ?_)
    · have hE : (wdK p j).isSome = false := by
        cases q : (wdK p j).isSome with
        | false => rfl
        | true => exact absurd (hin.mpr q) (am_b0.mp c17)
      refine GS.run [] 1 rfl ?_
      refine GS.iret rfl rfl (rfl) ?_
      rw [hE]
      exact ⟨rfl, rfl⟩
    · have hE : (wdK p j).isSome = true := hin.mp (am_bT c17)
      refine GS.run [] 2 rfl ?_
      refine GS.iret rfl rfl (rfl) ?_
      rw [hE]
      exact ⟨rfl, rfl⟩
theorem c_fail7 (d : Nat) (σ : am_S) (p : Tp) (j : Nat) (hp : wfP p) (h : pcC σ p j) (k : Nat) : CallS mX7_fail (d + 1) [.ref 5, .int (nI k)] σ (fun r σ' => r = some (.int 0) ∧ erF [5] σ σ' (k, tkS p j)) := by
  refine CallS.of kX7_fail pX7_fail [.ref 5, .int (nI k)] rfl (Nat.le_of_ble_eq_true rfl) ?_
  obtain ⟨htk, h6, hlv⟩ := h
  have hj4 := live_400 hlv hp
  obtain ⟨t7, t8, t9⟩ := htk j hlv
  refine GS.run [] 8 rfl ?_
  rw [show (am_s1 σ 5 (upd (σ 5) 8 (nI k))) 5 6 = nI j from h6]
  refine GS.run [] 0 rfl ?_
  refine GS.cS oX11_at ((c_at d (am_s1 σ 5 (upd (σ 5) 8 (nI k))) 7 401 (nI j) rfl).eq (congrArg (fun z => some (Value.int z)) (v_get (by omega) (by omega) ((congrFun (am_s1_ne _ _ (by decide)) _).trans t7))) rfl) rfl rfl rfl rfl (Nat.le_of_ble_eq_true rfl) (by omega) ?_
  refine GS.run [] 2 rfl ?_
  refine GS.iret rfl rfl (rfl) ?_
  refine ⟨rfl, (same.rf.s1 (by decide)).s1 (by decide), fun i hi => ?_, ?_, ?_⟩
  · rw [am_s1_eq, upd_ne _ _ (by omega), am_s1_eq, upd_ne _ _ (by omega)]
  · rw [am_s1_eq, upd_ne _ _ (by decide), am_s1_eq, upd_eq]
  · rw [am_s1_eq, upd_eq]
theorem c_readNumber (d : Nat) (σ : am_S) (p : Tp) (j : Nat) (hp : wfP p) (h : pcC σ p j) (m : Nat) (hm : m < 1000) : CallS mX7_readNumber (d + 2) [.ref 5, .int (nI m)] σ (rdQ (rNum p m j) [5] (fun v σ' => σ' 5 6 = nI (j + 1) ∧ σ' 5 7 = nI v) σ) := by
  refine CallS.of kX7_readNumber pX7_readNumber [.ref 5, .int (nI m)] rfl (Nat.le_of_ble_eq_true rfl) ?_
  have hc4 := tkC_le (p := p) (j := j)
  refine GS.run [] 1 rfl ?_
  refine GS.cV oX7_sort (c_sort7 d σ p j hp h) rfl rfl rfl rfl rfl rfl rfl (Nat.le_of_ble_eq_true rfl) (by omega) ?_
  refine GS.run [] 1 rfl ?_
  refine GS.icmp_eq rfl (fun c5 => ?_) (fun c5 => ?_)
  · have k1 : tkC p j = 2 := (nI_eq (b := 2) (by omega) (by omega)).mp c5
    obtain ⟨-, -, -, -, hv9, hV⟩ := tkC_2 k1
    refine GS.run [] 1 rfl ?_
    refine GS.cV oX7_value ((c_value7 d σ p j hp h).eq (congrArg (fun z => some (Value.int z)) (hV)) rfl) rfl rfl rfl rfl rfl rfl rfl (Nat.le_of_ble_eq_true rfl) (by omega) ?_
    refine GS.run [] 1 rfl ?_
    refine GS.icmp_le rfl (fun c19 => ?_) (fun c19 => ?_)
    · have k2 : ¬ m < numV p j := by have := (nI_leI (by omega) (by omega)).mp c19; omega
      have hE : rNum p m j = .ok (numV p j) := by unfold rNum; rw [if_pos k1, if_neg k2]
      refine GS.run [] 2 rfl ?_
      refine GS.cV oX7_value ((c_value7 d σ p j hp h).eq (congrArg (fun z => some (Value.int z)) (hV)) rfl) rfl rfl rfl rfl rfl rfl rfl (Nat.le_of_ble_eq_true rfl) (by omega) ?_
      refine GS.run [] 4 rfl ?_
      rw [show (am_s1 σ 5 (upd (σ 5) 7 (nI (numV p j)))) 5 6 = nI j from h.2.1]
      refine GS.run [] 0 rfl ?_
      refine GS.run [] 4 rfl ?_
      refine GS.iret rfl rfl (rfl) ?_
      rw [hE]
      refine ⟨rfl, (okF.rf.f (by decide) (Or.inr rfl)).f (by decide) (Or.inl rfl), ?_, ?_⟩
      · rw [am_s1_eq, upd_eq]; exact nI_1 j
      · rw [am_s1_eq, upd_ne _ _ (by decide), am_s1_eq, upd_eq]
    · have k2 : m < numV p j := (nI_gtI (by omega) (by omega)).mp c19
      have hE : rNum p m j = .error (2, tkS p j) := by unfold rNum; rw [if_pos k1, if_pos k2]
      refine GS.run [] 2 rfl ?_
      refine GS.callV oX7_fail (c_fail7 d σ p j hp h 2) rfl rfl rfl rfl rfl rfl rfl (Nat.le_of_ble_eq_true rfl) (by omega) (fun v24 σ24 hq24 => ?_)
      obtain ⟨rfl, f24⟩ := hq24
      refine GS.iret rfl rfl (rfl) ?_
      rw [hE]
      exact ⟨rfl, f24⟩
  · have hE : rNum p m j = .error (1, tkS p j) := if_neg (fun q => c5 (by rw [q]; rfl))
    refine GS.run [] 2 rfl ?_
    refine GS.callV oX7_fail (c_fail7 d σ p j hp h 1) rfl rfl rfl rfl rfl rfl rfl (Nat.le_of_ble_eq_true rfl) (by omega) (fun v10 σ10 hq10 => ?_)
    obtain ⟨rfl, f10⟩ := hq10
    refine GS.iret rfl rfl (rfl) ?_
    rw [hE]
    exact ⟨rfl, f10⟩
theorem c_readSign (d : Nat) (σ : am_S) (p : Tp) (j : Nat) (hp : wfP p) (h : pcC σ p j) : CallS mX7_readSign (d + 2) [.ref 5] σ (rdQ (rSig p j) [5] (fun _ σ' => σ' 5 6 = nI (j + 1)) σ) := by
  refine CallS.of kX7_readSign pX7_readSign [.ref 5] rfl (Nat.le_of_ble_eq_true rfl) ?_
  have hc4 := tkC_le (p := p) (j := j)
  refine GS.run [] 1 rfl ?_
  refine GS.cV oX7_sort (c_sort7 d σ p j hp h) rfl rfl rfl rfl rfl rfl rfl (Nat.le_of_ble_eq_true rfl) (by omega) ?_
  refine GS.run [] 1 rfl ?_
  refine GS.icmp_eq rfl (fun c5 => ?_) (fun c5 => ?_)
  · have k1 : tkC p j = 3 := (nI_eq (b := 3) (by omega) (by omega)).mp c5
    have hE : rSig p j = .ok () := if_pos k1
    refine GS.run [] 3 rfl ?_
    rw [h.2.1]
    refine GS.run [] 0 rfl ?_
    refine GS.run [] 4 rfl ?_
    refine GS.iret rfl rfl (rfl) ?_
    rw [hE]
    refine ⟨rfl, okF.rf.f (by decide) (Or.inl rfl), ?_⟩
    show am_s1 σ 5 (upd (σ 5) 6 (nI j + 1)) 5 6 = nI (j + 1)
    rw [am_s1_eq, upd_eq]; exact nI_1 j
  · have hE : rSig p j = .error (1, tkS p j) := if_neg (fun q => c5 (by rw [q]; rfl))
    refine GS.run [] 2 rfl ?_
    refine GS.callV oX7_fail (c_fail7 d σ p j hp h 1) rfl rfl rfl rfl rfl rfl rfl (Nat.le_of_ble_eq_true rfl) (by omega) (fun v10 σ10 hq10 => ?_)
    obtain ⟨rfl, f10⟩ := hq10
    refine GS.iret rfl rfl (rfl) ?_
    rw [hE]
    exact ⟨rfl, f10⟩
