theorem sh8a {x b : Nat} (hx : x < 2 ^ 48) (hb : b < 256) : (Int64.ofNat x <<< (8 : Int64)) ||| Int64.ofNat b = Int64.ofNat (256 * x + b) := by
  apply Int64.toBitVec_inj.mp
  rw [Int64.toBitVec_or, Int64.toBitVec_shiftLeft]
  apply BitVec.eq_of_toNat_eq
  have h8 : ((8 : Int64).toBitVec.smod 64#64) = 8#64 := by decide
  simp only [BitVec.toNat_or]
  rw [show (8 : Int64).toBitVec.smod 64 = 8#64 from h8]
  rw [show (Int64.ofNat x).toBitVec = BitVec.ofNat 64 x from rfl, show (Int64.ofNat b).toBitVec = BitVec.ofNat 64 b from rfl, show (Int64.ofNat (256 * x + b)).toBitVec = BitVec.ofNat 64 (256 * x + b) from rfl]
  rw [show BitVec.ofNat 64 x <<< 8#64 = BitVec.ofNat 64 x <<< 8 from rfl, BitVec.toNat_shiftLeft]
  simp only [BitVec.toNat_ofNat]
  rw [Nat.mod_eq_of_lt (by omega : x < 2 ^ 64), Nat.mod_eq_of_lt (by omega : b < 2 ^ 64), Nat.mod_eq_of_lt (by omega : 256 * x + b < 2 ^ 64)]
  rw [Nat.shiftLeft_eq, Nat.mod_eq_of_lt (by omega : x * 2 ^ 8 < 2 ^ 64)]
  rw [Nat.mul_comm x, ← Nat.two_pow_add_eq_or_of_lt (i := 8) hb]
theorem i64inj {a b : Nat} (ha : a < 2 ^ 62) (hb : b < 2 ^ 62) : Int64.ofNat a = Int64.ofNat b ↔ a = b := by
  refine ⟨fun h => ?_, fun h => by rw [h]⟩
  have := congrArg Int64.toInt h
  rw [Int64.toInt_ofNat_of_lt (by omega), Int64.toInt_ofNat_of_lt (by omega)] at this
  omega
theorem n64 {b : Nat} (h : b < 2 ^ 31) : (nI b).toInt64 = Int64.ofNat b := by
  apply Int64.toInt_inj.mp
  rw [Int32.toInt_toInt64, nI_toInt (by omega), Int64.toInt_ofNat_of_lt (by omega)]
theorem sh8 {x b : Nat} (hx : x < 2 ^ 48) (hb : b < 256) : (Int64.ofNat x <<< ((8 : Int32).toInt64 &&& 63)) ||| (nI b).toInt64 = Int64.ofNat (256 * x + b) := by
  rw [n64 (by omega), show ((8 : Int32).toInt64 &&& 63) = (8 : Int64) by decide]
  exact sh8a hx hb
def digs (f : Nat → Nat) : Nat → Nat
  | 0 => 0
  | n + 1 => 256 * digs f n + f n
theorem digs_lt {f : Nat → Nat} : ∀ {n : Nat}, (∀ i, i < n → f i < 256) → digs f n < 256 ^ n := by
  intro n
  induction n with
  | zero => intro _; exact Nat.zero_lt_one
  | succ n ih =>
    intro h
    have h1 := ih (fun i hi => h i (by omega))
    have h2 := h n (Nat.lt_succ_self n)
    rw [digs, Nat.pow_succ]
    omega
theorem digs_inj {f g : Nat → Nat} : ∀ {n m : Nat}, (∀ i, i < n → 0 < f i ∧ f i < 256) → (∀ i, i < m → 0 < g i ∧ g i < 256) → digs f n = digs g m → n = m ∧ ∀ i, i < n → f i = g i := by
  intro n
  induction n with
  | zero =>
    intro m _ hg h
    cases m with
    | zero => exact ⟨rfl, fun i hi => absurd hi (Nat.not_lt_zero _)⟩
    | succ m =>
      have := hg m (Nat.lt_succ_self m)
      rw [digs, digs] at h
      omega
  | succ n ih =>
    intro m hf hg h
    cases m with
    | zero =>
      have := hf n (Nat.lt_succ_self n)
      rw [digs, digs] at h
      omega
    | succ m =>
      have h1 := hf n (Nat.lt_succ_self n)
      have h2 := hg m (Nat.lt_succ_self m)
      rw [digs, digs] at h
      obtain ⟨e1, e2⟩ := ih (fun i hi => hf i (by omega)) (fun i hi => hg i (by omega)) (show digs f n = digs g m by omega)
      subst e1
      refine ⟨rfl, fun i hi => ?_⟩
      by_cases e : i = n
      · rw [e]; omega
      · exact e2 i (by omega)
theorem digs_congr {f g : Nat → Nat} : ∀ {n : Nat}, (∀ i, i < n → f i = g i) → digs f n = digs g n := by
  intro n
  induction n with
  | zero => intro _; rfl
  | succ n ih => intro h; rw [digs, digs, ih (fun i hi => h i (by omega)), h n (Nat.lt_succ_self n)]
def nmN (p : Tp) (s n : Nat) : Nat := digs (fun i => p.2 (s + i)) n
def cstN (k : Nat) : Nat := digs (jB k) (am_lens.getD k 0)
def nmL (p : Tp) (j : Nat) : Int64 := if tkC p j = 1 ∧ tkL p j < 8 then Int64.ofNat (nmN p (tkS p j) (tkL p j)) else 0
theorem cstN_b : ∀ k : Fin 11, 0 < cstN k.val ∧ cstN k.val < 2 ^ 56 := by decide +kernel
theorem names_inj : ∀ i k : Fin 11, am_lens.getD i.val 0 = am_lens.getD k.val 0 → (∀ x : Fin 6, x.val < am_lens.getD i.val 0 → jB i.val x.val = jB k.val x.val) → i = k := by decide +kernel
theorem spB_iff {p : Tp} {s n k : Nat} : spB p s n k = true ↔ am_lens.getD k 0 = n ∧ ∀ i, i < am_lens.getD k 0 → jB k i = p.2 (s + i) := by
  unfold spB
  rw [Bool.and_eq_true, decide_eq_true_eq, al_iff]
  exact ⟨fun h => ⟨h.1, fun i hi => of_decide_eq_true (h.2 i hi)⟩, fun h => ⟨h.1, fun i hi => decide_eq_true (h.2 i hi)⟩⟩
theorem nmO_iff {p : Tp} {s n k : Nat} (hk : k < 11) : nmO p s n = some k ↔ spB p s n k = true := by
  refine ⟨fun h => (ufst_some h).2.1, fun h => ufst_is h (fun i hi => ?_) hk⟩
  rw [Bool.eq_false_iff]
  intro q
  obtain ⟨a1, a2⟩ := spB_iff.mp h
  obtain ⟨b1, b2⟩ := spB_iff.mp q
  have := names_inj ⟨i, by omega⟩ ⟨k, hk⟩ (b1.trans a1.symm) (fun x hx => by
    show jB i x.val = jB k x.val
    have hx : x.val < am_lens.getD i 0 := hx
    rw [b2 x.val hx, a2 x.val (by omega)])
  have := congrArg Fin.val this
  simp at this
  omega
theorem nmL_b {p : Tp} {j x : Nat} (h : tkC p j = 1) (hx : x < tkL p j) : 97 ≤ p.2 (tkS p j + x) ∧ p.2 (tkS p j + x) ≤ 122 := by
  obtain ⟨h1, h2, -⟩ := tkC_1 h
  exact kd_1 ((tkE_run (x := tkS p j + x) h1 (by omega) (by unfold tkL at hx; omega)).trans h2)
theorem nm_iff {p : Tp} {j k : Nat} (hk : k < 11) : nmL p j = Int64.ofNat (cstN k) ↔ isNm p k j := by
  have hb := cstN_b ⟨k, hk⟩
  have hb1 : 0 < cstN k := hb.1
  have hb2 : cstN k < 2 ^ 56 := hb.2
  have h6 : am_lens.getD k 0 ≤ 6 := jlen_6 ⟨k, by omega⟩
  have hJ : ∀ i, i < am_lens.getD k 0 → 0 < jB k i ∧ jB k i < 256 := fun i hi => by
    obtain ⟨-, j2, j3, -⟩ := jB_ok ⟨k, by omega⟩ ⟨i, by omega⟩ hi
    have j2 : jB k i < 128 := j2
    have j3 : 97 ≤ jB k i := j3
    omega
  unfold nmL
  by_cases h : tkC p j = 1 ∧ tkL p j < 8
  · rw [if_pos h]
    have hd : ∀ i, i < tkL p j → 0 < p.2 (tkS p j + i) ∧ p.2 (tkS p j + i) < 256 := fun i hi => by
      have := nmL_b h.1 hi
      omega
    have hlt : nmN p (tkS p j) (tkL p j) < 2 ^ 56 := by
      have h1 : nmN p (tkS p j) (tkL p j) < 256 ^ tkL p j := digs_lt (fun i hi => (hd i hi).2)
      have h2 : 256 ^ tkL p j ≤ 256 ^ 7 := Nat.pow_le_pow_right (by omega) (by omega)
      omega
    rw [i64inj (by omega) (by omega)]
    have hV := (tkC_1 h.1).2.2
    refine ⟨fun q => ⟨h.1, ?_⟩, fun q => ?_⟩
    · obtain ⟨e1, e2⟩ := digs_inj hd hJ q
      have : nmO p (tkS p j) (tkL p j) = some k := (nmO_iff hk).mpr (spB_iff.mpr ⟨e1.symm, fun i hi => (e2 i (by omega)).symm⟩)
      rw [hV, this]; rfl
    · have hV2 := q.2
      rw [hV] at hV2
      cases e : nmO p (tkS p j) (tkL p j) with
      | none =>
        rw [e] at hV2
        exact absurd hV2.symm (nI_ne_m1 (by omega))
      | some i =>
        rw [e] at hV2
        have hi := (ufst_some e).1
        have : i = k := (nI_eq (by omega) (by omega)).mp hV2
        subst this
        obtain ⟨a1, a2⟩ := spB_iff.mp ((nmO_iff hk).mp e)
        unfold nmN cstN
        rw [a1]
        exact digs_congr (fun x hx => (a2 x (by omega)).symm)
  · rw [if_neg h]
    refine ⟨fun q => ?_, fun q => ?_⟩
    · have := (i64inj (a := 0) (b := cstN k) (by omega) (by omega)).mp q
      omega
    · exfalso
      have hV2 := q.2
      rw [(tkC_1 q.1).2.2] at hV2
      cases e : nmO p (tkS p j) (tkL p j) with
      | none =>
        rw [e] at hV2
        exact absurd hV2.symm (nI_ne_m1 (by omega))
      | some i =>
        rw [e] at hV2
        have hi := (ufst_some e).1
        have : i = k := (nI_eq (by omega) (by omega)).mp hV2
        subst this
        have a1 := (spB_iff.mp ((nmO_iff hk).mp e)).1
        exact h ⟨q.1, by omega⟩
def nmV (p : Tp) (j : Nat) (fo : Option (Nat × Nat)) : Int64 := match fo with
  | none => nmL p j
  | some _ => 0
theorem c_name (d : Nat) (σ : am_S) (p : Tp) (hp : wfP p) (j : Nat) (fo : Option (Nat × Nat)) (h : pcM σ p j) (hf : ftM σ fo) : CallS mX12_name (d) [.ref 69] σ (am_det (some (.long (nmV p j fo))) σ) := by
  refine CallS.of kX12_name pX12_name [.ref 69, .retAddr 0, .retAddr 0, .retAddr 0] rfl (Nat.le_of_ble_eq_true rfl) ?_
  have h400 := hp.1
  obtain ⟨b1, b2, b3⟩ := h.b
  obtain ⟨-, -, h3, h4, h5, -⟩ := id h
  obtain ⟨m0, m2, m3, m4, m5⟩ := mTk_i (p := p) (j := j)
  refine GS.run [] 4 rfl ?_
  rw [h4]
  refine GS.run [] 0 rfl ?_
  refine GS.run [] 1 rfl ?_
  have loop7 : ∀ (fu : Nat) (k : Nat) (hk : tkS p j + k ≤ cP p (j + 1)) (hno : ¬ (tkC p j = 1 ∧ tkL p j < 8) → k = 0), cP p (j + 1) - k = fu → GS none mX12_name (d) (am_det (some (.long (nmV p j fo))) σ) 7 [.ref 69, .long (Int64.ofNat (nmN p (tkS p j) k)), .retAddr 0, .int (nI (tkS p j + k))] [] σ := by
    intro fu
    induction fu using Nat.strongRecOn with
    | ind fu ih7 =>
      intro k hk hno hfu
      refine GS.run [] 3 rfl ?_
      rw [h5]
      refine GS.run [] 0 rfl ?_
      refine GS.icmp_ge rfl (fun c12 => ?_) (fun c12 => ?_)
      · have e0 : tkS p j + k = cP p (j + 1) := by have := (nI_leI (by omega) (by omega)).mp c12; omega
        have hE : Int64.ofNat (nmN p (tkS p j) k) = nmL p j := by
          unfold nmL
          by_cases q : tkC p j = 1 ∧ tkL p j < 8
          · rw [if_pos q]
            rw [cP_s (tkC_1 q.1).1] at e0
            congr 2
            unfold tkL
            omega
          · rw [if_neg q, hno q]; rfl
        refine GS.run [] 2 rfl ?_
        rcases fo with _ | e
        · rw [show σ 69 18 = 0 from hf]
          refine GS.run [] 0 rfl ?_
          refine GS.if_ne rfl (fun q => absurd (rfl) q) (fun c60 => ?_)
          refine GS.run [] 2 rfl ?_
          refine GS.lret rfl rfl ?_
          rw [hE]
          exact ⟨rfl, rfl⟩
        · refine GS.if_ne rfl (fun c60 => ?_) (fun q => absurd q (hf.ne))
          refine GS.run [] 1 rfl ?_
          refine GS.lret rfl rfl ?_
          exact ⟨rfl, rfl⟩
      · have hl : tkS p j + k < cP p (j + 1) := (nI_gtI (by omega) (by omega)).mp c12
        refine GS.run [] 3 rfl ?_
        rw [h3]
        refine GS.run [] 0 rfl ?_
        refine GS.icmp_ne rfl (fun c20 => ?_) (fun c20 => ?_)
        · have k1 : ¬ (tkC p j = 1 ∧ tkL p j < 8) := fun q => c20 (by rw [m3.mpr q.1]; rfl)
          have hE : Int64.ofNat (nmN p (tkS p j) k) = nmL p j := by unfold nmL; rw [if_neg k1, hno k1]; rfl
          refine GS.run [] 2 rfl ?_
          rcases fo with _ | e
          · rw [show σ 69 18 = 0 from hf]
            refine GS.run [] 0 rfl ?_
            refine GS.if_ne rfl (fun q => absurd (rfl) q) (fun c60 => ?_)
            refine GS.run [] 2 rfl ?_
            refine GS.lret rfl rfl ?_
            rw [hE]
            exact ⟨rfl, rfl⟩
          · refine GS.if_ne rfl (fun c60 => ?_) (fun q => absurd q (hf.ne))
            refine GS.run [] 1 rfl ?_
            refine GS.lret rfl rfl ?_
            exact ⟨rfl, rfl⟩
        · have k1 : tkC p j = 1 := m3.mp ((nI_eq (b := 2) (by omega) (by omega)).mp c20)
          obtain ⟨t1, t2, -⟩ := tkC_1 k1
          have hlt : tkS p j + k < p.1 := by omega
          have hcp := cP_s t1
          have hkl : k < tkL p j := by unfold tkL; omega
          have hkd := nmL_b k1 hkl
          refine GS.run [] 6 rfl ?_
          rw [h5, h4, show nI (cP p (j + 1)) - nI (tkS p j) = nI (cP p (j + 1) - tkS p j) from pk_sub b3]
          refine GS.run [] 0 rfl ?_
          refine GS.icmp_ge rfl (fun c34 => ?_) (fun c34 => ?_)
          · have k2 : ¬ (tkC p j = 1 ∧ tkL p j < 8) := fun q => by
              have := (nI_leI (a := 8) (by omega) (by omega)).mp c34
              have q2 := q.2
              unfold tkL at q2
              omega
            have hE : Int64.ofNat (nmN p (tkS p j) k) = nmL p j := by unfold nmL; rw [if_neg k2, hno k2]; rfl
            refine GS.run [] 2 rfl ?_
            rcases fo with _ | e
            · rw [show σ 69 18 = 0 from hf]
              refine GS.run [] 0 rfl ?_
              refine GS.if_ne rfl (fun q => absurd (rfl) q) (fun c60 => ?_)
              refine GS.run [] 2 rfl ?_
              refine GS.lret rfl rfl ?_
              rw [hE]
              exact ⟨rfl, rfl⟩
            · refine GS.if_ne rfl (fun c60 => ?_) (fun q => absurd q (hf.ne))
              refine GS.run [] 1 rfl ?_
              refine GS.lret rfl rfl ?_
              exact ⟨rfl, rfl⟩
          · have k2 : tkL p j < 8 := by have := (nI_gtI (a := 8) (by omega) (by omega)).mp c34; unfold tkL; omega
            have hnb : nmN p (tkS p j) k < 2 ^ 48 := by
              have h1 : nmN p (tkS p j) k < 256 ^ k := digs_lt (fun i hi => by have := nmL_b k1 (show i < tkL p j by omega); omega)
              have h2 : 256 ^ k ≤ 256 ^ 6 := Nat.pow_le_pow_right (by omega) (by omega)
              omega
            refine GS.run [] 6 rfl ?_
            refine GS.ald (tkS p j + k) rfl rfl (rfl) (by omega) ?_
            rw [h.1.2 (tkS p j + k) hlt]
            refine GS.run [] 5 rfl ?_
            rw [show nI (tkS p j + k) + 1 = nI (tkS p j + (k + 1)) from nI_1 _, sh8 hnb (by omega)]
            exact ih7 (cP p (j + 1) - (k + 1)) (by omega) (k + 1) (by omega) (fun q => absurd ⟨k1, k2⟩ q) rfl
  exact loop7 _ 0 b3 (fun _ => rfl) rfl
/-- reading of the reference: on, or at a fault -/
def roQ {A : Type} (R : Er A) (L F : List Nat) (p : Tp) (pos : A → Nat) (good : A → Option Value → am_S → Prop) (bad : Option Value → Prop) (σ : am_S) : Option Value → am_S → Prop := fun r σ' => sameM L F σ σ' ∧ match R with
  | .ok a => ftM σ' none ∧ pcM σ' p (pos a) ∧ good a r σ'
  | .error e => ftM σ' (some e) ∧ (∃ j, pcM σ' p j) ∧ bad r
theorem c_numberF (d : Nat) (σ : am_S) (e : Nat × Nat) (l m : Int32) (hf : ftM σ (some e)) : CallS mX12_number (d + 3) [.ref 69, .int l, .int m] σ (am_det (some (.int 0)) σ) := by
  refine CallS.of kX12_number pX12_number [.ref 69, .int l, .int m, .retAddr 0] rfl (Nat.le_of_ble_eq_true rfl) ?_
  refine GS.run [] 2 rfl ?_
  refine GS.if_le rfl (fun q => absurd q (hf.gt)) (fun c4 => ?_)
  refine GS.run [] 1 rfl ?_
  refine GS.iret rfl rfl (rfl) ?_
  exact ⟨rfl, rfl⟩
theorem c_numberN (d : Nat) (σ : am_S) (p : Tp) (hp : wfP p) (j m : Nat) (h : pcM σ p j) (hf : ftM σ none) (hm : m < 1000) : CallS mX12_number (d + 4) [.ref 69, .int 0, .int (nI m)] σ (roQ (rNum p m j) [] [14, 15, 16, 17, 18, 19] p (fun _ => j + 1) (fun v r _ => r = some (.int (nI v))) (fun r => ∃ x, r = some (.int x)) σ) := by
  refine CallS.of kX12_number pX12_number [.ref 69, .int 0, .int (nI m), .retAddr 0] rfl (Nat.le_of_ble_eq_true rfl) ?_
  obtain ⟨-, -, h3, h4, h5, -⟩ := id h
  obtain ⟨m0, m2, m3, m4, m5⟩ := mTk_i (p := p) (j := j)
  refine GS.run [] 2 rfl ?_
  rw [show σ 69 18 = 0 from hf]
  refine GS.run [] 0 rfl ?_
  refine GS.if_le rfl (fun c4 => ?_) (fun q => absurd (by decide) q)
  refine GS.run [] 1 rfl ?_
  refine GS.cV oX12_figures (c_figures (d + 2) σ p hp j h) rfl rfl rfl rfl rfl rfl rfl (Nat.le_of_ble_eq_true rfl) (by omega) ?_
  refine GS.run [] 4 rfl ?_
  rw [h3]
  refine GS.run [] 0 rfl ?_
  refine GS.icmp_ne rfl (fun c19 => ?_) (fun c19 => ?_)
  · have k1 : ¬ tkC p j = 2 := fun q => c19 (by rw [m4.mpr q]; rfl)
    have hR : rNum p m j = .error (1, tkS p j) := if_neg k1
    refine GS.run [] 4 rfl ?_
    rw [h3]
    refine GS.run [] 0 rfl ?_
    refine GS.icmp_ne rfl (fun c45 => ?_) (fun q => absurd q (fun q => k1 (m4.mp ((nI_eq (b := 3) (by omega) (by omega)).mp q))))
    refine GS.run [] 1 rfl ?_
    refine GS.callV oX12_must (c_mustN (d + 1) σ p hp j h hf) rfl rfl rfl rfl rfl rfl rfl (Nat.le_of_ble_eq_true rfl) (by omega) (fun v53 σ53 hq53 => ?_)
    obtain ⟨rfl, f53, p53, s53⟩ := hq53
    refine GS.run [] 1 rfl ?_
    refine GS.iret rfl rfl (rfl) ?_
    refine ⟨s53, ?_⟩
    rw [hR]
    exact ⟨f53, ⟨j, p53⟩, _, rfl⟩
  · have k1 : tkC p j = 2 := m4.mp ((nI_eq (b := 3) (by omega) (by omega)).mp c19)
    obtain ⟨t1, t2, t3, t4, t5, t6⟩ := tkC_2 k1
    rw [if_pos k1]
    refine GS.run [] 6 rfl ?_
    refine GS.cS oX12_in (c_inI (d + 2) σ (nI (numV p j)) (0 : Int32).toInt64 (nI m).toInt64 (numV p j ≤ m) (by rw [Int32.toInt_toInt64, Int32.toInt_toInt64, nI_toInt (by omega), nI_toInt (by omega), show (0 : Int32).toInt = 0 from rfl]; omega)) rfl rfl rfl rfl (Nat.le_of_ble_eq_true rfl) (by omega) ?_
    refine GS.if_ne rfl (fun c31 => ?_) (fun c31 => ?_)
    · have k2 : ¬ m < numV p j := by have := am_bT c31; omega
      have hR : rNum p m j = .ok (numV p j) := by unfold rNum; rw [if_pos k1, if_neg k2]
      refine GS.run [] 4 rfl ?_
      rw [h3]
      refine GS.run [] 0 rfl ?_
      refine GS.icmp_ne rfl (fun q => absurd (by rw [m4.mpr k1]; rfl) q) (fun c45 => ?_)
      refine GS.run [] 2 rfl ?_
      refine GS.callV oX12_must (c_mustT (d + 1) σ p hp j h hf (by omega)) rfl rfl rfl rfl rfl rfl rfl (Nat.le_of_ble_eq_true rfl) (by omega) (fun v53 σ53 hq53 => ?_)
      obtain ⟨rfl, f53, p53, s53⟩ := hq53
      refine GS.run [] 1 rfl ?_
      refine GS.iret rfl rfl (rfl) ?_
      refine ⟨s53, ?_⟩
      rw [hR]
      exact ⟨f53, p53, rfl⟩
    · have k2 : m < numV p j := by have := am_b0.mp c31; omega
      have hR : rNum p m j = .error (2, tkS p j) := by unfold rNum; rw [if_pos k1, if_pos k2]
      refine GS.run [] 2 rfl ?_
      refine GS.callV oX12_bad (c_badN (d + 2) σ p j 2 h hf (by decide)) rfl rfl rfl rfl rfl rfl rfl (Nat.le_of_ble_eq_true rfl) (by omega) (fun v36 σ36 hq36 => ?_)
      obtain ⟨rfl, f36, s36⟩ := hq36
      have h36 := h.kept s36 (by decide) (by decide)
      refine GS.run [] 4 rfl ?_
      rw [show σ36 69 15 = nI (mTk (tkC p j)) from h36.2.2.1]
      refine GS.run [] 0 rfl ?_
      refine GS.icmp_ne rfl (fun q => absurd (by rw [m4.mpr k1]; rfl) q) (fun c45 => ?_)
      refine GS.run [] 2 rfl ?_
      refine GS.cV oX12_must (c_mustF (d + 2) σ36 _ true f36) rfl rfl rfl rfl rfl rfl rfl (Nat.le_of_ble_eq_true rfl) (by omega) ?_
      refine GS.run [] 1 rfl ?_
      refine GS.iret rfl rfl (rfl) ?_
      refine ⟨s36.sub (by decide) (by decide), ?_⟩
      rw [hR]
      exact ⟨f36, ⟨j, h36⟩, _, rfl⟩
theorem c_mustEndF (d : Nat) (σ : am_S) (e : Nat × Nat) (hf : ftM σ (some e)) : CallS mX12_mustEnd (d + 3) [.ref 69] σ (am_det none σ) := by
  refine CallS.of kX12_mustEnd pX12_mustEnd [.ref 69] rfl (Nat.le_of_ble_eq_true rfl) ?_
  refine GS.run [] 2 rfl ?_
  refine GS.if_ne rfl (fun c4 => ?_) (fun q => absurd q (hf.ne))
  refine GS.vret rfl rfl ?_
  exact ⟨rfl, rfl⟩
theorem c_mustEndN (d : Nat) (σ : am_S) (p : Tp) (hp : wfP p) (j : Nat) (h : pcM σ p j) (hf : ftM σ none) : CallS mX12_mustEnd (d + 3) [.ref 69] σ (roQ (rSig p j) [] [14, 15, 16, 17, 18, 19] p (fun _ => j + 1) (fun _ r _ => r = none) (fun r => r = none) σ) := by
  refine CallS.of kX12_mustEnd pX12_mustEnd [.ref 69] rfl (Nat.le_of_ble_eq_true rfl) ?_
  obtain ⟨-, -, h3, h4, h5, -⟩ := id h
  obtain ⟨m0, m2, m3, m4, m5⟩ := mTk_i (p := p) (j := j)
  refine GS.run [] 2 rfl ?_
  rw [show σ 69 18 = 0 from hf]
  refine GS.run [] 0 rfl ?_
  refine GS.if_ne rfl (fun q => absurd (rfl) q) (fun c4 => ?_)
  refine GS.run [] 4 rfl ?_
  rw [h3]
  refine GS.run [] 0 rfl ?_
  refine GS.icmp_ne rfl (fun c13 => ?_) (fun c13 => ?_)
  · have k1 : ¬ tkC p j = 3 := fun q => c13 (by rw [m5.mpr q]; rfl)
    have hR : rSig p j = .error (1, tkS p j) := if_neg k1
    refine GS.run [] 1 rfl ?_
    refine GS.callV oX12_must (c_mustN d σ p hp j h hf) rfl rfl rfl rfl rfl rfl rfl (Nat.le_of_ble_eq_true rfl) (by omega) (fun v21 σ21 hq21 => ?_)
    obtain ⟨rfl, f21, p21, s21⟩ := hq21
    refine GS.vret rfl rfl ?_
    refine ⟨s21, ?_⟩
    rw [hR]
    exact ⟨f21, ⟨j, p21⟩, rfl⟩
  · have k1 : tkC p j = 3 := m5.mp ((nI_eq (b := 4) (by omega) (by omega)).mp c13)
    have hR : rSig p j = .ok () := if_pos k1
    refine GS.run [] 2 rfl ?_
    refine GS.callV oX12_must (c_mustT d σ p hp j h hf (by omega)) rfl rfl rfl rfl rfl rfl rfl (Nat.le_of_ble_eq_true rfl) (by omega) (fun v21 σ21 hq21 => ?_)
    obtain ⟨rfl, f21, p21, s21⟩ := hq21
    refine GS.vret rfl rfl ?_
    refine ⟨s21, ?_⟩
    rw [hR]
    exact ⟨f21, p21, rfl⟩
/-- a new corner, a new street: is there room; the name is read -/
def rBeg (p : Tp) (j n room : Nat) : Er Unit := if n = room then .error (3, tkS p j) else .ok ()
theorem c_mbegins (d : Nat) (σ : am_S) (p : Tp) (hp : wfP p) (j s n room : Nat) (h : pcM σ p j) (hf : ftM σ none) (hc : tkC p j ≠ 0) (hs : s < 122) (hv : σ 74 s = nI n) (hn : n < 1000) (hr : room < 1000) : CallS mX12_begins (d + 3) [.ref 69, .int (nI s), .int (nI room)] σ (roQ (rBeg p j n room) [] [14, 15, 16, 17, 18, 19] p (fun _ => j + 1) (fun _ r _ => r = none) (fun r => r = none) σ) := by
  refine CallS.of kX12_begins pX12_begins [.ref 69, .int (nI s), .int (nI room)] rfl (Nat.le_of_ble_eq_true rfl) ?_
  refine GS.run [] 3 rfl ?_
  refine GS.ald (s) rfl rfl (rfl) (by omega) ?_
  rw [hv]
  refine GS.run [] 1 rfl ?_
  refine GS.icmp_ne rfl (fun c7 => ?_) (fun c7 => ?_)
  · have k1 : ¬ n = room := fun q => c7 (by rw [q])
    have hR : rBeg p j n room = .ok () := if_neg k1
    refine GS.run [] 2 rfl ?_
    refine GS.callV oX12_must (c_mustT d σ p hp j h hf hc) rfl rfl rfl rfl rfl rfl rfl (Nat.le_of_ble_eq_true rfl) (by omega) (fun v17 σ17 hq17 => ?_)
    obtain ⟨rfl, f17, p17, s17⟩ := hq17
    refine GS.vret rfl rfl ?_
    refine ⟨s17, ?_⟩
    rw [hR]
    exact ⟨f17, p17, rfl⟩
  · have k1 : n = room := (nI_eq (by omega) (by omega)).mp c7
    have hR : rBeg p j n room = .error (3, tkS p j) := if_pos k1
    refine GS.run [] 2 rfl ?_
    refine GS.callV oX12_bad (c_badN (d + 2) σ p j 3 h hf (by decide)) rfl rfl rfl rfl rfl rfl rfl (Nat.le_of_ble_eq_true rfl) (by omega) (fun v12 σ12 hq12 => ?_)
    obtain ⟨rfl, f12, s12⟩ := hq12
    have h12 := h.kept s12 (by decide) (by decide)
    refine GS.run [] 2 rfl ?_
    refine GS.cV oX12_must (c_mustF (d + 1) σ12 _ true f12) rfl rfl rfl rfl rfl rfl rfl (Nat.le_of_ble_eq_true rfl) (by omega) ?_
    refine GS.vret rfl rfl ?_
    refine ⟨s12.sub (by decide) (by decide), ?_⟩
    rw [hR]
    exact ⟨f12, ⟨j, h12⟩, rfl⟩
theorem cst_0 : (30064 : Int64) = Int64.ofNat (cstN 0) := by decide +kernel
theorem cst_1 : (1685026670 : Int64) = Int64.ofNat (cstN 1) := by decide +kernel
theorem cst_2 : (1835102827 : Int64) = Int64.ofNat (cstN 2) := by decide +kernel
theorem cst_3 : (28526 : Int64) = Int64.ofNat (cstN 3) := by decide +kernel
theorem cst_4 : (1650549611 : Int64) = Int64.ofNat (cstN 4) := by decide +kernel
theorem cst_5 : (1751215716 : Int64) = Int64.ofNat (cstN 5) := by decide +kernel
theorem cst_6 : (478694368626 : Int64) = Int64.ofNat (cstN 6) := by decide +kernel
theorem cst_7 : (1952541541 : Int64) = Int64.ofNat (cstN 7) := by decide +kernel
theorem cst_8 : (109330312357234 : Int64) = Int64.ofNat (cstN 8) := by decide +kernel
theorem cst_9 : (126943972648308 : Int64) = Int64.ofNat (cstN 9) := by decide +kernel
theorem cst_10 : (2003135596 : Int64) = Int64.ofNat (cstN 10) := by decide +kernel
theorem isNm_k {p : Tp} {k j : Nat} (hk : k < 11) (h : isNm p k j) : nmO p (tkS p j) (tkL p j) = some k := by
  have hV2 := h.2
  rw [(tkC_1 h.1).2.2] at hV2
  cases e : nmO p (tkS p j) (tkL p j) with
  | none =>
    rw [e] at hV2
    exact absurd hV2.symm (nI_ne_m1 (by omega))
  | some i =>
    rw [e] at hV2
    have hi := (ufst_some e).1
    have : i = k := (nI_eq (by omega) (by omega)).mp hV2
    rw [this]
def wdV (p : Tp) (j : Nat) (fo : Option (Nat × Nat)) : Option Nat := match fo with
  | none => wdK p j
  | some _ => none
theorem nmV_iff {p : Tp} {j k : Nat} {fo : Option (Nat × Nat)} (hk : k < 11) : nmV p j fo = Int64.ofNat (cstN k) ↔ fo = none ∧ isNm p k j := by
  cases fo with
  | none => exact (nm_iff hk).trans ⟨fun h => ⟨rfl, h⟩, fun h => h.2⟩
  | some e =>
    refine ⟨fun h => ?_, fun h => by cases h.1⟩
    have hb1 : 0 < cstN k := (cstN_b ⟨k, hk⟩).1
    have hb2 : cstN k < 2 ^ 56 := (cstN_b ⟨k, hk⟩).2
    have := (i64inj (a := 0) (b := cstN k) (by omega) (by omega)).mp h
    omega
theorem wdV_iff {p : Tp} {j k : Nat} {fo : Option (Nat × Nat)} (hk : k < 8) : nmV p j fo = Int64.ofNat (cstN k) ↔ wdV p j fo = some k := by
  rw [nmV_iff (by omega)]
  cases fo with
  | some e => exact ⟨fun h => (by cases h.1), fun h => (by cases h)⟩
  | none =>
    refine ⟨fun h => ?_, fun h => ⟨rfl, (wdK_ok h).1, (wdK_ok h).2.1⟩⟩
    show wdK p j = some k
    unfold wdK
    rw [if_pos h.2.1, isNm_k (by omega) h.2]
    exact if_pos hk
theorem wdV_8 {p : Tp} {j k : Nat} {fo : Option (Nat × Nat)} (h : wdV p j fo = some k) : k < 8 := by
  cases fo with
  | some e => cases h
  | none => exact (wdK_ok h).2.2
theorem c_wordOf (d : Nat) (σ : am_S) (p : Tp) (j : Nat) (fo : Option (Nat × Nat)) : CallS mX12_wordOf (d) [.long (nmV p j fo)] σ (am_det (some (.int (fkI (wdV p j fo)))) σ) := by
  refine CallS.of kX12_wordOf pX12_wordOf [.long (nmV p j fo), .retAddr 0, .retAddr 0] rfl (Nat.le_of_ble_eq_true rfl) ?_
  have h8 := fun k => wdV_8 (p := p) (j := j) (fo := fo) (k := k)
  rcases hw : wdV p j fo with _ | _ | _ | _ | _ | _ | _ | _ | _ | k
  · refine GS.run [] 3 rfl ?_
    refine GS.if_ne rfl (fun c5 => ?_) (fun q => absurd q ((fun q => by have := (wdV_iff (p := p) (j := j) (fo := fo) (k := 0) (by decide)).mp (((lg_cmp_eq _ _).mp q).trans cst_0); rw [hw] at this; cases this)))
    refine GS.run [] 3 rfl ?_
    refine GS.if_ne rfl (fun c17 => ?_) (fun q => absurd q ((fun q => by have := (wdV_iff (p := p) (j := j) (fo := fo) (k := 1) (by decide)).mp (((lg_cmp_eq _ _).mp q).trans cst_1); rw [hw] at this; cases this)))
    refine GS.run [] 3 rfl ?_
    refine GS.if_ne rfl (fun c29 => ?_) (fun q => absurd q ((fun q => by have := (wdV_iff (p := p) (j := j) (fo := fo) (k := 2) (by decide)).mp (((lg_cmp_eq _ _).mp q).trans cst_2); rw [hw] at this; cases this)))
    refine GS.run [] 3 rfl ?_
    refine GS.if_ne rfl (fun c41 => ?_) (fun q => absurd q ((fun q => by have := (wdV_iff (p := p) (j := j) (fo := fo) (k := 3) (by decide)).mp (((lg_cmp_eq _ _).mp q).trans cst_3); rw [hw] at this; cases this)))
    refine GS.run [] 4 rfl ?_
    refine GS.icmp_eq rfl (fun c54 => ?_) (fun q => absurd (rfl) q)
    refine GS.run [] 3 rfl ?_
    refine GS.if_ne rfl (fun c66 => ?_) (fun q => absurd q ((fun q => by have := (wdV_iff (p := p) (j := j) (fo := fo) (k := 4) (by decide)).mp (((lg_cmp_eq _ _).mp q).trans cst_4); rw [hw] at this; cases this)))
    refine GS.run [] 3 rfl ?_
    refine GS.if_ne rfl (fun c78 => ?_) (fun q => absurd q ((fun q => by have := (wdV_iff (p := p) (j := j) (fo := fo) (k := 5) (by decide)).mp (((lg_cmp_eq _ _).mp q).trans cst_5); rw [hw] at this; cases this)))
    refine GS.run [] 3 rfl ?_
    refine GS.if_ne rfl (fun c90 => ?_) (fun q => absurd q ((fun q => by have := (wdV_iff (p := p) (j := j) (fo := fo) (k := 6) (by decide)).mp (((lg_cmp_eq _ _).mp q).trans cst_6); rw [hw] at this; cases this)))
    refine GS.run [] 3 rfl ?_
    refine GS.if_ne rfl (fun c103 => ?_) (fun q => absurd q ((fun q => by have := (wdV_iff (p := p) (j := j) (fo := fo) (k := 7) (by decide)).mp (((lg_cmp_eq _ _).mp q).trans cst_7); rw [hw] at this; cases this)))
    refine GS.run [] 1 rfl ?_
    refine GS.iret rfl rfl (rfl) ?_
    exact ⟨rfl, rfl⟩
  · refine GS.run [] 3 rfl ?_
    refine GS.if_ne rfl (fun q => absurd ((lg_cmp_eq _ _).mpr (((wdV_iff (p := p) (j := j) (fo := fo) (k := 0) (by decide)).mpr hw).trans cst_0.symm)) q) (fun c5 => ?_)
    refine GS.run [] 5 rfl ?_
    refine GS.icmp_eq rfl (fun q => absurd q (by decide)) (fun c54 => ?_)
    refine GS.run [] 2 rfl ?_
    refine GS.iret rfl rfl (rfl) ?_
    exact ⟨rfl, rfl⟩
  · refine GS.run [] 3 rfl ?_
    refine GS.if_ne rfl (fun c5 => ?_) (fun q => absurd q ((fun q => by have := (wdV_iff (p := p) (j := j) (fo := fo) (k := 0) (by decide)).mp (((lg_cmp_eq _ _).mp q).trans cst_0); rw [hw] at this; cases this)))
    refine GS.run [] 3 rfl ?_
    refine GS.if_ne rfl (fun q => absurd ((lg_cmp_eq _ _).mpr (((wdV_iff (p := p) (j := j) (fo := fo) (k := 1) (by decide)).mpr hw).trans cst_1.symm)) q) (fun c17 => ?_)
    refine GS.run [] 5 rfl ?_
    refine GS.icmp_eq rfl (fun q => absurd q (by decide)) (fun c54 => ?_)
    refine GS.run [] 2 rfl ?_
    refine GS.iret rfl rfl (rfl) ?_
    exact ⟨rfl, rfl⟩
  · refine GS.run [] 3 rfl ?_
    refine GS.if_ne rfl (fun c5 => ?_) (fun q => absurd q ((fun q => by have := (wdV_iff (p := p) (j := j) (fo := fo) (k := 0) (by decide)).mp (((lg_cmp_eq _ _).mp q).trans cst_0); rw [hw] at this; cases this)))
    refine GS.run [] 3 rfl ?_
    refine GS.if_ne rfl (fun c17 => ?_) (fun q => absurd q ((fun q => by have := (wdV_iff (p := p) (j := j) (fo := fo) (k := 1) (by decide)).mp (((lg_cmp_eq _ _).mp q).trans cst_1); rw [hw] at this; cases this)))
    refine GS.run [] 3 rfl ?_
    refine GS.if_ne rfl (fun q => absurd ((lg_cmp_eq _ _).mpr (((wdV_iff (p := p) (j := j) (fo := fo) (k := 2) (by decide)).mpr hw).trans cst_2.symm)) q) (fun c29 => ?_)
    refine GS.run [] 5 rfl ?_
    refine GS.icmp_eq rfl (fun q => absurd q (by decide)) (fun c54 => ?_)
    refine GS.run [] 2 rfl ?_
    refine GS.iret rfl rfl (rfl) ?_
    exact ⟨rfl, rfl⟩
  · refine GS.run [] 3 rfl ?_
    refine GS.if_ne rfl (fun c5 => ?_) (fun q => absurd q ((fun q => by have := (wdV_iff (p := p) (j := j) (fo := fo) (k := 0) (by decide)).mp (((lg_cmp_eq _ _).mp q).trans cst_0); rw [hw] at this; cases this)))
    refine GS.run [] 3 rfl ?_
    refine GS.if_ne rfl (fun c17 => ?_) (fun q => absurd q ((fun q => by have := (wdV_iff (p := p) (j := j) (fo := fo) (k := 1) (by decide)).mp (((lg_cmp_eq _ _).mp q).trans cst_1); rw [hw] at this; cases this)))
    refine GS.run [] 3 rfl ?_
    refine GS.if_ne rfl (fun c29 => ?_) (fun q => absurd q ((fun q => by have := (wdV_iff (p := p) (j := j) (fo := fo) (k := 2) (by decide)).mp (((lg_cmp_eq _ _).mp q).trans cst_2); rw [hw] at this; cases this)))
    refine GS.run [] 3 rfl ?_
    refine GS.if_ne rfl (fun q => absurd ((lg_cmp_eq _ _).mpr (((wdV_iff (p := p) (j := j) (fo := fo) (k := 3) (by decide)).mpr hw).trans cst_3.symm)) q) (fun c41 => ?_)
    refine GS.run [] 5 rfl ?_
    refine GS.icmp_eq rfl (fun q => absurd q (by decide)) (fun c54 => ?_)
    refine GS.run [] 2 rfl ?_
    refine GS.iret rfl rfl (rfl) ?_
    exact ⟨rfl, rfl⟩
  · refine GS.run [] 3 rfl ?_
    refine GS.if_ne rfl (fun c5 => ?_) (fun q => absurd q ((fun q => by have := (wdV_iff (p := p) (j := j) (fo := fo) (k := 0) (by decide)).mp (((lg_cmp_eq _ _).mp q).trans cst_0); rw [hw] at this; cases this)))
    refine GS.run [] 3 rfl ?_
    refine GS.if_ne rfl (fun c17 => ?_) (fun q => absurd q ((fun q => by have := (wdV_iff (p := p) (j := j) (fo := fo) (k := 1) (by decide)).mp (((lg_cmp_eq _ _).mp q).trans cst_1); rw [hw] at this; cases this)))
    refine GS.run [] 3 rfl ?_
    refine GS.if_ne rfl (fun c29 => ?_) (fun q => absurd q ((fun q => by have := (wdV_iff (p := p) (j := j) (fo := fo) (k := 2) (by decide)).mp (((lg_cmp_eq _ _).mp q).trans cst_2); rw [hw] at this; cases this)))
    refine GS.run [] 3 rfl ?_
    refine GS.if_ne rfl (fun c41 => ?_) (fun q => absurd q ((fun q => by have := (wdV_iff (p := p) (j := j) (fo := fo) (k := 3) (by decide)).mp (((lg_cmp_eq _ _).mp q).trans cst_3); rw [hw] at this; cases this)))
    refine GS.run [] 4 rfl ?_
    refine GS.icmp_eq rfl (fun c54 => ?_) (fun q => absurd (rfl) q)
    refine GS.run [] 3 rfl ?_
    refine GS.if_ne rfl (fun q => absurd ((lg_cmp_eq _ _).mpr (((wdV_iff (p := p) (j := j) (fo := fo) (k := 4) (by decide)).mpr hw).trans cst_4.symm)) q) (fun c66 => ?_)
    refine GS.run [] 2 rfl ?_
    refine GS.iret rfl rfl (rfl) ?_
    exact ⟨rfl, rfl⟩
  · refine GS.run [] 3 rfl ?_
    refine GS.if_ne rfl (fun c5 => ?_) (fun q => absurd q ((fun q => by have := (wdV_iff (p := p) (j := j) (fo := fo) (k := 0) (by decide)).mp (((lg_cmp_eq _ _).mp q).trans cst_0); rw [hw] at this; cases this)))
    refine GS.run [] 3 rfl ?_
    refine GS.if_ne rfl (fun c17 => ?_) (fun q => absurd q ((fun q => by have := (wdV_iff (p := p) (j := j) (fo := fo) (k := 1) (by decide)).mp (((lg_cmp_eq _ _).mp q).trans cst_1); rw [hw] at this; cases this)))
    refine GS.run [] 3 rfl ?_
    refine GS.if_ne rfl (fun c29 => ?_) (fun q => absurd q ((fun q => by have := (wdV_iff (p := p) (j := j) (fo := fo) (k := 2) (by decide)).mp (((lg_cmp_eq _ _).mp q).trans cst_2); rw [hw] at this; cases this)))
    refine GS.run [] 3 rfl ?_
    refine GS.if_ne rfl (fun c41 => ?_) (fun q => absurd q ((fun q => by have := (wdV_iff (p := p) (j := j) (fo := fo) (k := 3) (by decide)).mp (((lg_cmp_eq _ _).mp q).trans cst_3); rw [hw] at this; cases this)))
    refine GS.run [] 4 rfl ?_
    refine GS.icmp_eq rfl (fun c54 => ?_) (fun q => absurd (rfl) q)
    refine GS.run [] 3 rfl ?_
    refine GS.if_ne rfl (fun c66 => ?_) (fun q => absurd q ((fun q => by have := (wdV_iff (p := p) (j := j) (fo := fo) (k := 4) (by decide)).mp (((lg_cmp_eq _ _).mp q).trans cst_4); rw [hw] at this; cases this)))
    refine GS.run [] 3 rfl ?_
    refine GS.if_ne rfl (fun q => absurd ((lg_cmp_eq _ _).mpr (((wdV_iff (p := p) (j := j) (fo := fo) (k := 5) (by decide)).mpr hw).trans cst_5.symm)) q) (fun c78 => ?_)
    refine GS.run [] 2 rfl ?_
    refine GS.iret rfl rfl (rfl) ?_
    exact ⟨rfl, rfl⟩
  · refine GS.run [] 3 rfl ?_
    refine GS.if_ne rfl (fun c5 => ?_) (fun q => absurd q ((fun q => by have := (wdV_iff (p := p) (j := j) (fo := fo) (k := 0) (by decide)).mp (((lg_cmp_eq _ _).mp q).trans cst_0); rw [hw] at this; cases this)))
    refine GS.run [] 3 rfl ?_
    refine GS.if_ne rfl (fun c17 => ?_) (fun q => absurd q ((fun q => by have := (wdV_iff (p := p) (j := j) (fo := fo) (k := 1) (by decide)).mp (((lg_cmp_eq _ _).mp q).trans cst_1); rw [hw] at this; cases this)))
    refine GS.run [] 3 rfl ?_
    refine GS.if_ne rfl (fun c29 => ?_) (fun q => absurd q ((fun q => by have := (wdV_iff (p := p) (j := j) (fo := fo) (k := 2) (by decide)).mp (((lg_cmp_eq _ _).mp q).trans cst_2); rw [hw] at this; cases this)))
    refine GS.run [] 3 rfl ?_
    refine GS.if_ne rfl (fun c41 => ?_) (fun q => absurd q ((fun q => by have := (wdV_iff (p := p) (j := j) (fo := fo) (k := 3) (by decide)).mp (((lg_cmp_eq _ _).mp q).trans cst_3); rw [hw] at this; cases this)))
    refine GS.run [] 4 rfl ?_
    refine GS.icmp_eq rfl (fun c54 => ?_) (fun q => absurd (rfl) q)
    refine GS.run [] 3 rfl ?_
    refine GS.if_ne rfl (fun c66 => ?_) (fun q => absurd q ((fun q => by have := (wdV_iff (p := p) (j := j) (fo := fo) (k := 4) (by decide)).mp (((lg_cmp_eq _ _).mp q).trans cst_4); rw [hw] at this; cases this)))
    refine GS.run [] 3 rfl ?_
    refine GS.if_ne rfl (fun c78 => ?_) (fun q => absurd q ((fun q => by have := (wdV_iff (p := p) (j := j) (fo := fo) (k := 5) (by decide)).mp (((lg_cmp_eq _ _).mp q).trans cst_5); rw [hw] at this; cases this)))
    refine GS.run [] 3 rfl ?_
    refine GS.if_ne rfl (fun q => absurd ((lg_cmp_eq _ _).mpr (((wdV_iff (p := p) (j := j) (fo := fo) (k := 6) (by decide)).mpr hw).trans cst_6.symm)) q) (fun c90 => ?_)
    refine GS.run [] 2 rfl ?_
    refine GS.iret rfl rfl (rfl) ?_
    exact ⟨rfl, rfl⟩
  · refine GS.run [] 3 rfl ?_
    refine GS.if_ne rfl (fun c5 => ?_) (fun q => absurd q ((fun q => by have := (wdV_iff (p := p) (j := j) (fo := fo) (k := 0) (by decide)).mp (((lg_cmp_eq _ _).mp q).trans cst_0); rw [hw] at this; cases this)))
    refine GS.run [] 3 rfl ?_
    refine GS.if_ne rfl (fun c17 => ?_) (fun q => absurd q ((fun q => by have := (wdV_iff (p := p) (j := j) (fo := fo) (k := 1) (by decide)).mp (((lg_cmp_eq _ _).mp q).trans cst_1); rw [hw] at this; cases this)))
    refine GS.run [] 3 rfl ?_
    refine GS.if_ne rfl (fun c29 => ?_) (fun q => absurd q ((fun q => by have := (wdV_iff (p := p) (j := j) (fo := fo) (k := 2) (by decide)).mp (((lg_cmp_eq _ _).mp q).trans cst_2); rw [hw] at this; cases this)))
    refine GS.run [] 3 rfl ?_
    refine GS.if_ne rfl (fun c41 => ?_) (fun q => absurd q ((fun q => by have := (wdV_iff (p := p) (j := j) (fo := fo) (k := 3) (by decide)).mp (((lg_cmp_eq _ _).mp q).trans cst_3); rw [hw] at this; cases this)))
    refine GS.run [] 4 rfl ?_
    refine GS.icmp_eq rfl (fun c54 => ?_) (fun q => absurd (rfl) q)
    refine GS.run [] 3 rfl ?_
    refine GS.if_ne rfl (fun c66 => ?_) (fun q => absurd q ((fun q => by have := (wdV_iff (p := p) (j := j) (fo := fo) (k := 4) (by decide)).mp (((lg_cmp_eq _ _).mp q).trans cst_4); rw [hw] at this; cases this)))
    refine GS.run [] 3 rfl ?_
    refine GS.if_ne rfl (fun c78 => ?_) (fun q => absurd q ((fun q => by have := (wdV_iff (p := p) (j := j) (fo := fo) (k := 5) (by decide)).mp (((lg_cmp_eq _ _).mp q).trans cst_5); rw [hw] at this; cases this)))
    refine GS.run [] 3 rfl ?_
    refine GS.if_ne rfl (fun c90 => ?_) (fun q => absurd q ((fun q => by have := (wdV_iff (p := p) (j := j) (fo := fo) (k := 6) (by decide)).mp (((lg_cmp_eq _ _).mp q).trans cst_6); rw [hw] at this; cases this)))
    refine GS.run [] 3 rfl ?_
    refine GS.if_ne rfl (fun q => absurd ((lg_cmp_eq _ _).mpr (((wdV_iff (p := p) (j := j) (fo := fo) (k := 7) (by decide)).mpr hw).trans cst_7.symm)) q) (fun c103 => ?_)
    refine GS.run [] 2 rfl ?_
    refine GS.iret rfl rfl (rfl) ?_
    exact ⟨rfl, rfl⟩
  · exact absurd (h8 _ hw) (by omega)
