theorem bL_fin {t : Tn} {W : Nat} (hw : wfT t) : ∀ {f i : Nat} {b : Bf}, wfB 112 (okS t) b → orB b → (i < bC b → ∀ j, j < bC b → dsB b j ≤ dsB b i + 1) → wfB 112 (okS t) (bL (nbS t) W f i b) ∧ orB (bL (nbS t) W f i b) := by
  intro f
  induction f with
  | zero => intro i b h ho hm; exact ⟨h, ho⟩
  | succ f ih =>
    intro i b h ho hm
    rw [bL]
    by_cases hi : i < bC b
    · rw [if_pos hi]
      obtain ⟨x1, x2, x3, x4, x5⟩ := bE_wf (t := t) (s := bQ b i) (d := dsB b i + 1) hw h ho rfl hi rfl (hm hi) W
      refine ih x1 x2 (fun hl j hj => ?_)
      have h1 := x3 j hj
      have h2 := x2.1 i (i + 1) (by omega) hl
      rw [(x5 i hi).2] at h2
      omega
    · rw [if_neg hi]; exact ⟨h, ho⟩
theorem srB_fin {t : Tn} {c W : Nat} (hw : wfT t) (hc : c < tN t) : wfB 112 (okS t) (srB t c W) ∧ orB (srB t c W) := by
  refine bL_fin hw (wfS_1 hw hc) orB_1 (fun h j hj => ?_)
  have hC : bC (bN b0 (14 * c) 0 0 0) = 1 := by rw [bN_new b0_D]; rfl
  rw [hC] at hj
  rw [show j = 0 by omega]
  exact Nat.le_succ _
/-- the soonest well, as the class finds it: of those that are as near the least corner -/
def bsW (t : Tn) (b : Bf) : Nat → Option Nat
  | 0 => none
  | i + 1 => if tW t (bQ b i / 14) = 1 then (match bsW t b i with
    | none => some i
    | some j => if dsB b i = dsB b j ∧ bQ b i / 14 < bQ b j / 14 then some i else some j) else bsW t b i
/-- as the reference finds it -/
def cdW1 (t : Tn) (b : Bf) (x : Nat) : Option Nat := if tW t x = 1 then (fstC b x).map (dsB b) else none
def srW (t : Tn) (b : Bf) : Nat → Option (Nat × Nat)
  | 0 => none
  | x + 1 => match cdW1 t b x with
    | none => srW t b x
    | some e => match srW t b x with
      | none => some (e, x)
      | some q => if e < q.1 then some (e, x) else some q
theorem bsW_ok {t : Tn} {b : Bf} (ho : orB b) : ∀ {i : Nat}, i ≤ bC b → (bsW t b i = none → ∀ k, k < i → ¬ tW t (bQ b k / 14) = 1) ∧ (∀ j, bsW t b i = some j → j < i ∧ tW t (bQ b j / 14) = 1 ∧ ∀ k, k < i → tW t (bQ b k / 14) = 1 → dsB b j < dsB b k ∨ dsB b j = dsB b k ∧ bQ b j / 14 ≤ bQ b k / 14) := by
  intro i
  induction i with
  | zero => intro _; exact ⟨fun _ k hk => absurd hk (Nat.not_lt_zero _), fun j h => by cases h⟩
  | succ i ih =>
    intro hi
    obtain ⟨ih1, ih2⟩ := ih (by omega)
    rw [bsW]
    by_cases hwl : tW t (bQ b i / 14) = 1
    · rw [if_pos hwl]
      cases e : bsW t b i with
      | none =>
        refine ⟨fun h => (by cases h), fun j h => ?_⟩
        cases h
        refine ⟨by omega, hwl, fun k hk hkw => ?_⟩
        by_cases ek : k = i
        · rw [ek]; exact Or.inr ⟨rfl, Nat.le_refl _⟩
        · exact absurd hkw (ih1 e k (by omega))
      | some m =>
        obtain ⟨m1, m2, m3⟩ := ih2 m e
        show ((if dsB b i = dsB b m ∧ bQ b i / 14 < bQ b m / 14 then some i else some m) = none → _) ∧ ∀ j, (if dsB b i = dsB b m ∧ bQ b i / 14 < bQ b m / 14 then some i else some m) = some j → _
        by_cases hb : dsB b i = dsB b m ∧ bQ b i / 14 < bQ b m / 14
        · rw [if_pos hb]
          refine ⟨fun h => (by cases h), fun j h => ?_⟩
          cases h
          refine ⟨by omega, hwl, fun k hk hkw => ?_⟩
          by_cases ek : k = i
          · rw [ek]; exact Or.inr ⟨rfl, Nat.le_refl _⟩
          · rcases m3 k (by omega) hkw with q | ⟨q, q2⟩
            · exact Or.inl (by omega)
            · exact Or.inr ⟨by omega, by omega⟩
        · rw [if_neg hb]
          refine ⟨fun h => (by cases h), fun j h => ?_⟩
          cases h
          refine ⟨by omega, m2, fun k hk hkw => ?_⟩
          by_cases ek : k = i
          · subst ek
            have := ho.1 m k (by omega) (by omega)
            by_cases hd : dsB b k = dsB b m
            · exact Or.inr ⟨hd.symm, by omega⟩
            · exact Or.inl (by omega)
          · exact m3 k (by omega) hkw
    · rw [if_neg hwl]
      refine ⟨fun h k hk hkw => ?_, fun j h => ?_⟩
      · by_cases ek : k = i
        · rw [ek] at hkw; exact hwl hkw
        · exact ih1 h k (by omega) hkw
      · obtain ⟨m1, m2, m3⟩ := ih2 j h
        refine ⟨by omega, m2, fun k hk hkw => ?_⟩
        by_cases ek : k = i
        · rw [ek] at hkw; exact absurd hkw hwl
        · exact m3 k (by omega) hkw
theorem srW_ok {t : Tn} {b : Bf} : ∀ {n : Nat}, (srW t b n = none → ∀ x, x < n → cdW1 t b x = none) ∧ (∀ q, srW t b n = some q → q.2 < n ∧ cdW1 t b q.2 = some q.1 ∧ ∀ x e, x < n → cdW1 t b x = some e → q.1 < e ∨ q.1 = e ∧ q.2 ≤ x) := by
  intro n
  induction n with
  | zero => exact ⟨fun _ x hx => absurd hx (Nat.not_lt_zero _), fun q h => by cases h⟩
  | succ n ih =>
    obtain ⟨ih1, ih2⟩ := ih
    rw [srW]
    cases ec : cdW1 t b n with
    | none =>
      refine ⟨fun h x hx => ?_, fun q h => ?_⟩
      · by_cases e : x = n
        · rw [e]; exact ec
        · exact ih1 h x (by omega)
      · obtain ⟨m1, m2, m3⟩ := ih2 q h
        refine ⟨by omega, m2, fun x e hx hc => ?_⟩
        by_cases e' : x = n
        · rw [e', ec] at hc; cases hc
        · exact m3 x e (by omega) hc
    | some d =>
      cases es : srW t b n with
      | none =>
        refine ⟨fun h => (by cases h), fun q h => ?_⟩
        cases h
        refine ⟨by show n < n + 1; omega, ec, fun x e hx hc => ?_⟩
        by_cases e' : x = n
        · rw [e', ec] at hc; cases hc; exact Or.inr ⟨rfl, Nat.le_of_eq e'.symm⟩
        · rw [ih1 es x (by omega)] at hc; cases hc
      | some q0 =>
        obtain ⟨m1, m2, m3⟩ := ih2 q0 es
        show ((if d < q0.1 then some (d, n) else some q0) = none → _) ∧ ∀ q, (if d < q0.1 then some (d, n) else some q0) = some q → _
        by_cases hl : d < q0.1
        · rw [if_pos hl]
          refine ⟨fun h => (by cases h), fun q h => ?_⟩
          cases h
          refine ⟨by show n < n + 1; omega, ec, fun x e hx hc => ?_⟩
          by_cases e' : x = n
          · rw [e', ec] at hc; cases hc; exact Or.inr ⟨rfl, Nat.le_of_eq e'.symm⟩
          · have := m3 x e (by omega) hc
            exact Or.inl (show d < e by omega)
        · rw [if_neg hl]
          refine ⟨fun h => (by cases h), fun q h => ?_⟩
          cases h
          refine ⟨by omega, m2, fun x e hx hc => ?_⟩
          by_cases e' : x = n
          · subst e'
            rw [ec] at hc; cases hc
            by_cases h2 : q0.1 = d
            · exact Or.inr ⟨h2, by omega⟩
            · exact Or.inl (by omega)
          · exact m3 x e (by omega) hc
theorem soon_eq {t : Tn} {b : Bf} (hwb : wfB 112 (okS t) b) (ho : orB b) : srW t b (tN t) = (bsW t b (bC b)).map (fun j => (dsB b j, bQ b j / 14)) := by
  obtain ⟨h1, h2⟩ := bsW_ok (t := t) ho (Nat.le_refl (bC b))
  obtain ⟨g1, g2⟩ := srW_ok (t := t) (b := b) (n := tN t)
  cases e : bsW t b (bC b) with
  | none =>
    cases es : srW t b (tN t) with
    | none => rfl
    | some q =>
      exfalso
      obtain ⟨m1, m2, -⟩ := g2 q es
      unfold cdW1 at m2
      by_cases hwl : tW t q.2 = 1
      · rw [if_pos hwl] at m2
        obtain ⟨j, hj, -⟩ := Option.map_eq_some_iff.mp m2
        obtain ⟨f1, f2, -⟩ := ufst_some hj
        exact h1 e j f1 (by rw [of_decide_eq_true f2]; exact hwl)
      · rw [if_neg hwl] at m2; cases m2
  | some j =>
    obtain ⟨j1, j2, j3⟩ := h2 j e
    have hcn : bQ b j / 14 < tN t := (hwb.2.1 j j1).2.1.1
    have hcd : cdW1 t b (bQ b j / 14) = some (dsB b j) := by
      unfold cdW1
      rw [if_pos j2]
      cases ef : fstC b (bQ b j / 14) with
      | none => exact absurd (ufst_none ef j j1) (by simp)
      | some k =>
        obtain ⟨f1, f2, f3⟩ := ufst_some ef
        have f2 := of_decide_eq_true f2
        have hk : k ≤ j := by
          rcases Nat.lt_or_ge j k with hl | hl
          · exact absurd (f3 j hl) (by simp)
          · exact hl
        have a1 := ho.1 k j hk j1
        have a2 := j3 k f1 (by rw [f2]; exact j2)
        show some (dsB b k) = some (dsB b j)
        congr 1
        omega
    cases es : srW t b (tN t) with
    | none => rw [g1 es _ hcn] at hcd; cases hcd
    | some q =>
      obtain ⟨m1, m2, m3⟩ := g2 q es
      have a1 := m3 _ _ hcn hcd
      unfold cdW1 at m2
      by_cases hwl : tW t q.2 = 1
      · rw [if_pos hwl] at m2
        obtain ⟨k, hk, hk2⟩ := Option.map_eq_some_iff.mp m2
        obtain ⟨f1, f2, -⟩ := ufst_some hk
        have f2 := of_decide_eq_true f2
        have a2 := j3 k f1 (by rw [f2]; exact hwl)
        have e1 : q.1 = dsB b j := by omega
        have e2 : q.2 = bQ b j / 14 := by omega
        show some q = some (dsB b j, bQ b j / 14)
        rw [← e1, ← e2]
      · rw [if_neg hwl] at m2; cases m2
theorem nI_p1 {x : Nat} (h : 0 < x) : nI x + -1 = nI (x - 1) := by
  rw [zI_n, zI_n, show (-1 : Int32) = zI (-1) from rfl, zI_add]
  congr 1
  omega
def wyO (b : Bf) (k : Int32) (o : Option Nat) : Int32 := match o with
  | none => -1000000
  | some j => if k.toInt < (dsB b j : Int) then nI (wyW (bW b (bQ b (bk b (dsB b j - 1 - cn k) j)))) else -1000000
theorem wyO_1 {b : Bf} {k : Int32} {j : Nat} (h : k.toInt < (dsB b j : Int)) : wyO b k (some j) = nI (wyW (bW b (bQ b (bk b (dsB b j - 1 - cn k) j)))) := if_pos h
theorem wyO_0 {b : Bf} {k : Int32} {j : Nat} (h : ¬ k.toInt < (dsB b j : Int)) : wyO b k (some j) = -1000000 := if_neg h
def qSoonest (t : Tn) (c what : Int32) : Int32 := if okc t c ∧ okb what then (match srW t (srB t (cn c) 14) (tN t) with
  | none => -1000000
  | some q => if what = 0 then nI q.1 else nI q.2) else -1000001
theorem c_cornerAt (d : Nat) (σ : am_S) (t : Tn) (b : Bf) (o : Option Nat) (hw : wfT t) (hb : scV σ t b) (hwb : wfB 112 (okS t) b) (ho : ∀ j, o = some j → j < bC b) : CallS mX6_cornerAt (d + 1) [.ref 57, .int (fkI o)] σ (am_det (some (.int (fkI (o.map (fun j => bQ b j / 14))))) σ) := by
  refine CallS.of kX6_cornerAt pX6_cornerAt [.ref 57, .int (fkI o)] rfl (Nat.le_of_ble_eq_true rfl) ?_
  have h8 := hw.1
  have h64 := wfB_C hwb
  rcases o with _ | j
  · refine GS.run [] 3 rfl ?_
    rw [show σ 57 7 = nI (bC b) from hb.1]
    refine GS.run [] 0 rfl ?_
    refine GS.cS oX11_within (c_withinN d σ (fkI _) (bC b) (by omega)) rfl rfl rfl rfl (Nat.le_of_ble_eq_true rfl) (by omega) ?_
    refine GS.if_eq rfl (fun c8 => ?_) (fun q => absurd (am_b0.mpr (fun h => absurd h.1 (by decide))) q)
    refine GS.run [] 1 rfl ?_
    refine GS.iret rfl rfl (rfl) ?_
    exact ⟨rfl, rfl⟩
  · have hj := ho j rfl
    have hoS := (hwb.2.1 j hj).2.1
    have hfl := frN_lt hw hoS
    have hzl := zW_lt (z := (deW (bQ b j)).2.2)
    have hcl := cdC_lt hw hoS
    have hu1 := hoS.1
    have hC : ccS t (bQ b j) = 18 * (deW (bQ b j)).1 + 2 * frN t (deW (bQ b j)) + zW (deW (bQ b j)).2.2 := rfl
    have e1 : ccS t (bQ b j) / 2 / 9 = bQ b j / 14 := by show _ = (deW (bQ b j)).1; omega
    have hdj := (dsB_eq hwb hj).2
    refine GS.run [] 3 rfl ?_
    rw [show σ 57 7 = nI (bC b) from hb.1]
    refine GS.run [] 0 rfl ?_
    refine GS.cS oX11_within (c_withinN d σ (fkI _) (bC b) (by omega)) rfl rfl rfl rfl (Nat.le_of_ble_eq_true rfl) (by omega) ?_
    refine GS.if_eq rfl (fun q => absurd q (fun q => am_b0.mp q ⟨by rw [show fkI (some j) = nI j from rfl, nI_toInt (by omega)]; omega, by rw [show fkI (some j) = nI j from rfl, nI_toInt (by omega)]; omega⟩)) (fun c8 => ?_)
    refine GS.run [] 3 rfl ?_
    refine GS.cS oX11_at ((c_at d σ 58 144 (nI j) rfl).eq (congrArg (fun z => some (Value.int z)) (v_get (by omega) (by omega) (hb.2.1 j hj).1)) rfl) rfl rfl rfl rfl (Nat.le_of_ble_eq_true rfl) (by omega) ?_
    refine GS.run [] 1 rfl ?_
    refine GS.idiv rfl (by decide) ?_
    rw [show (2 : Int32) = nI 2 from rfl, pk_div (by omega) (by omega) (by omega)]
    refine GS.run [] 1 rfl ?_
    refine GS.idiv rfl (by decide) ?_
    rw [show (9 : Int32) = nI 9 from rfl, pk_div (by omega) (by omega) (by omega)]
    refine GS.run [] 1 rfl ?_
    refine GS.iret rfl rfl (rfl) ?_
    exact ⟨congrArg (fun z => some (Value.int (nI z))) e1, rfl⟩
theorem c_wordsTo (d : Nat) (σ : am_S) (t : Tn) (b : Bf) (o : Option Nat) (hw : wfT t) (hb : scV σ t b) (hwb : wfB 112 (okS t) b) (ho : ∀ j, o = some j → j < bC b) : CallS mX6_wordsTo (d + 1) [.ref 57, .int (fkI o)] σ (am_det (some (.int (fkI (o.map (dsB b))))) σ) := by
  refine CallS.of kX6_wordsTo pX6_wordsTo [.ref 57, .int (fkI o)] rfl (Nat.le_of_ble_eq_true rfl) ?_
  have h8 := hw.1
  have h64 := wfB_C hwb
  rcases o with _ | j
  · refine GS.run [] 3 rfl ?_
    rw [show σ 57 7 = nI (bC b) from hb.1]
    refine GS.run [] 0 rfl ?_
    refine GS.cS oX11_within (c_withinN d σ (fkI _) (bC b) (by omega)) rfl rfl rfl rfl (Nat.le_of_ble_eq_true rfl) (by omega) ?_
    refine GS.if_eq rfl (fun c8 => ?_) (fun q => absurd (am_b0.mpr (fun h => absurd h.1 (by decide))) q)
    refine GS.run [] 1 rfl ?_
    refine GS.iret rfl rfl (rfl) ?_
    exact ⟨rfl, rfl⟩
  · have hj := ho j rfl
    have hoS := (hwb.2.1 j hj).2.1
    have hfl := frN_lt hw hoS
    have hzl := zW_lt (z := (deW (bQ b j)).2.2)
    have hcl := cdC_lt hw hoS
    have hu1 := hoS.1
    have hC : ccS t (bQ b j) = 18 * (deW (bQ b j)).1 + 2 * frN t (deW (bQ b j)) + zW (deW (bQ b j)).2.2 := rfl
    have e1 : ccS t (bQ b j) / 2 / 9 = bQ b j / 14 := by show _ = (deW (bQ b j)).1; omega
    have hdj := (dsB_eq hwb hj).2
    refine GS.run [] 3 rfl ?_
    rw [show σ 57 7 = nI (bC b) from hb.1]
    refine GS.run [] 0 rfl ?_
    refine GS.cS oX11_within (c_withinN d σ (fkI _) (bC b) (by omega)) rfl rfl rfl rfl (Nat.le_of_ble_eq_true rfl) (by omega) ?_
    refine GS.if_eq rfl (fun q => absurd q (fun q => am_b0.mp q ⟨by rw [show fkI (some j) = nI j from rfl, nI_toInt (by omega)]; omega, by rw [show fkI (some j) = nI j from rfl, nI_toInt (by omega)]; omega⟩)) (fun c8 => ?_)
    refine GS.run [] 3 rfl ?_
    refine GS.cS oX11_at ((c_at d σ 61 144 (nI j) rfl).eq (congrArg (fun z => some (Value.int z)) (v_get (by omega) (by omega) (hb.2.1 j hj).2.1)) rfl) rfl rfl rfl rfl (Nat.le_of_ble_eq_true rfl) (by omega) ?_
    refine GS.run [] 1 rfl ?_
    refine GS.iret rfl rfl (rfl) ?_
    exact ⟨rfl, rfl⟩
theorem c_cornerAt1 (d : Nat) (σ : am_S) (t : Tn) (b : Bf) (j : Nat) (hw : wfT t) (hb : scV σ t b) (hwb : wfB 112 (okS t) b) (hj : j < bC b) : CallS mX6_cornerAt (d + 1) [.ref 57, .int (nI j)] σ (am_det (some (.int (nI (bQ b j / 14)))) σ) := c_cornerAt d σ t b (some j) hw hb hwb (fun k hk => by cases hk; exact hj)
theorem bQ14 {t : Tn} {b : Bf} {j : Nat} (hwb : wfB 112 (okS t) b) (hj : j < bC b) : bQ b j / 14 < tN t := (hwb.2.1 j hj).2.1.1
theorem c_sfirst (d : Nat) (σ : am_S) (t : Tn) (b : Bf) (g : Nat) (hg : g < 8) (hw : wfT t) (hb : scV σ t b) (hwb : wfB 112 (okS t) b) : CallS mX6_firstAt (d + 2) [.ref 57, .int (nI g)] σ (am_det (some (.int (fkI (fstC b g)))) σ) := by
  refine CallS.of kX6_firstAt pX6_firstAt [.ref 57, .int (nI g), .retAddr 0] rfl (Nat.le_of_ble_eq_true rfl) ?_
  have h8 := hw.1
  have h64 := wfB_C hwb
  refine GS.run [] 2 rfl ?_
  have loop2 : ∀ (fu : Nat) (i : Nat) (hi : i ≤ bC b) (hn : ∀ k, k < i → ¬ bQ b k / 14 = g), bC b - i = fu → GS none mX6_firstAt (d + 2) (am_det (some (.int (fkI (fstC b g)))) σ) 2 [.ref 57, .int (nI g), .int (nI i)] [] σ := by
    intro fu
    induction fu using Nat.strongRecOn with
    | ind fu ih2 =>
      intro i hi hn hfu
      refine GS.run [] 3 rfl ?_
      rw [show σ 57 7 = nI (bC b) from hb.1]
      refine GS.run [] 0 rfl ?_
      refine GS.icmp_ge rfl (fun c7 => ?_) (fun c7 => ?_)
      · have e : i = bC b := by have := (nI_leI (by omega) (by omega)).mp c7; omega
        subst e
        refine GS.run [] 1 rfl ?_
        refine GS.iret rfl rfl (rfl) ?_
        have : fstC b g = none := ufst_isN (fun k hk => by simpa using hn k hk)
        rw [this]
        exact ⟨rfl, rfl⟩
      · have hl : i < bC b := (nI_gtI (by omega) (by omega)).mp c7
        have hq8 := bQ14 hwb hl
        refine GS.run [] 2 rfl ?_
        refine GS.cV oX6_cornerAt (c_cornerAt1 d σ t b i hw hb hwb hl) rfl rfl rfl rfl rfl rfl rfl (Nat.le_of_ble_eq_true rfl) (by omega) ?_
        refine GS.run [] 1 rfl ?_
        refine GS.icmp_ne rfl (fun c16 => ?_) (fun c16 => ?_)
        · have k1 : ¬ bQ b i / 14 = g := fun h => c16 (by rw [h])
          refine GS.run [] 2 rfl ?_
          rw [nI_1]
          exact ih2 _ (by omega) (i + 1) (by omega) (fun k hk => by
            by_cases e : k = i
            · rw [e]; exact k1
            · exact hn k (by omega)) rfl
        · have k1 : bQ b i / 14 = g := (nI_eq (by omega) (by omega)).mp c16
          refine GS.run [] 1 rfl ?_
          refine GS.iret rfl rfl (rfl) ?_
          have : fstC b g = some i := ufst_is (by simpa using k1) (fun k hk => by simpa using hn k hk) hl
          rw [this]
          exact ⟨rfl, rfl⟩
  exact loop2 _ 0 (Nat.zero_le _) (fun k hk => absurd hk (Nat.not_lt_zero _)) rfl
theorem c_sbetter (d : Nat) (σ : am_S) (t : Tn) (b : Bf) (i j : Nat) (hw : wfT t) (hb : scV σ t b) (hwb : wfB 112 (okS t) b) (hi : i < bC b) (hj : j < bC b) : CallS mX6_better (d + 2) [.ref 57, .int (nI i), .int (nI j)] σ (am_det (some (.int (am_b (dsB b i = dsB b j ∧ bQ b i / 14 < bQ b j / 14)))) σ) := by
  refine CallS.of kX6_better pX6_better [.ref 57, .int (nI i), .int (nI j)] rfl (Nat.le_of_ble_eq_true rfl) ?_
  have h8 := hw.1
  have h64 := wfB_C hwb
  have d1 := (dsB_eq hwb hi).2
  have d2 := (dsB_eq hwb hj).2
  have q1 := bQ14 hwb hi
  have q2 := bQ14 hwb hj
  refine GS.run [] 3 rfl ?_
  refine GS.cS oX11_at ((c_at (d + 1) σ 61 144 (nI i) rfl).eq (congrArg (fun z => some (Value.int z)) (v_get (by omega) (by omega) (hb.2.1 i hi).2.1)) rfl) rfl rfl rfl rfl (Nat.le_of_ble_eq_true rfl) (by omega) ?_
  refine GS.run [] 3 rfl ?_
  refine GS.cS oX11_at ((c_at (d + 1) σ 61 144 (nI j) rfl).eq (congrArg (fun z => some (Value.int z)) (v_get (by omega) (by omega) (hb.2.1 j hj).2.1)) rfl) rfl rfl rfl rfl (Nat.le_of_ble_eq_true rfl) (by omega) ?_
  refine GS.icmp_ne rfl (fun c16 => ?_) (fun c16 => ?_)
  · have hf : ¬ (dsB b i = dsB b j ∧ bQ b i / 14 < bQ b j / 14) := fun h => c16 (by rw [h.1])
    rw [am_b_0 hf]
    refine GS.run [] 1 rfl ?_
    refine GS.iret rfl rfl (rfl) ?_
    exact ⟨rfl, rfl⟩
  · have k1 : dsB b i = dsB b j := (nI_eq (by omega) (by omega)).mp c16
    refine GS.run [] 2 rfl ?_
    refine GS.cV oX6_cornerAt (c_cornerAt1 d σ t b i hw hb hwb hi) rfl rfl rfl rfl rfl rfl rfl (Nat.le_of_ble_eq_true rfl) (by omega) ?_
    refine GS.run [] 2 rfl ?_
    refine GS.cV oX6_cornerAt (c_cornerAt1 d σ t b j hw hb hwb hj) rfl rfl rfl rfl rfl rfl rfl (Nat.le_of_ble_eq_true rfl) (by omega) ?_
    refine GS.icmp_ge rfl (fun c29 => ?_) (fun c29 => ?_)
    · have hf : ¬ (dsB b i = dsB b j ∧ bQ b i / 14 < bQ b j / 14) := fun h => by have := (nI_leI (by omega) (by omega)).mp c29; omega
      rw [am_b_0 hf]
      refine GS.run [] 1 rfl ?_
      refine GS.iret rfl rfl (rfl) ?_
      exact ⟨rfl, rfl⟩
    · have hf : dsB b i = dsB b j ∧ bQ b i / 14 < bQ b j / 14 := ⟨k1, (nI_gtI (by omega) (by omega)).mp c29⟩
      rw [am_b_1 hf]
      refine GS.run [] 2 rfl ?_
      refine GS.iret rfl rfl (rfl) ?_
      exact ⟨rfl, rfl⟩
theorem c_swell (d : Nat) (σ : am_S) (t : Tn) (b : Bf)  (hw : wfT t) (hb : scV σ t b) (hwb : wfB 112 (okS t) b) (ht : townC 10 σ t) (ho : orB b) : CallS mX6_firstAtWell (d + 4) [.ref 57] σ (am_det (some (.int (fkI (bsW t b (bC b))))) σ) := by
  refine CallS.of kX6_firstAtWell pX6_firstAtWell [.ref 57, .retAddr 0, .retAddr 0] rfl (Nat.le_of_ble_eq_true rfl) ?_
  have h8 := hw.1
  have h64 := wfB_C hwb
  refine GS.run [] 4 rfl ?_
  have loop5 : ∀ (fu : Nat) (i : Nat) (hi : i ≤ bC b), bC b - i = fu → GS none mX6_firstAtWell (d + 4) (am_det (some (.int (fkI (bsW t b (bC b))))) σ) 5 [.ref 57, .int (fkI (bsW t b i)), .int (nI i)] [] σ := by
    intro fu
    induction fu using Nat.strongRecOn with
    | ind fu ih5 =>
      intro i hi hfu
      refine GS.run [] 3 rfl ?_
      rw [show σ 57 7 = nI (bC b) from hb.1]
      refine GS.run [] 0 rfl ?_
      refine GS.icmp_ge rfl (fun c10 => ?_) (fun c10 => ?_)
      · have e : i = bC b := by have := (nI_leI (by omega) (by omega)).mp c10; omega
        subst e
        refine GS.run [] 1 rfl ?_
        refine GS.iret rfl rfl (rfl) ?_
        exact ⟨rfl, rfl⟩
      · have hl : i < bC b := (nI_gtI (by omega) (by omega)).mp c10
        have hq8 := bQ14 hwb hl
        refine GS.run [] 4 rfl ?_
        refine GS.cV oX6_cornerAt (c_cornerAt1 (d + 1) σ t b i hw hb hwb hl) rfl rfl rfl rfl rfl rfl rfl (Nat.le_of_ble_eq_true rfl) (by omega) ?_
        refine GS.cV oX8_hasWell (c_well (d + 2) σ t (bQ b i / 14) ht hw hq8) rfl rfl rfl rfl rfl rfl rfl (Nat.le_of_ble_eq_true rfl) (by omega) ?_
        refine GS.if_eq rfl (fun c25 => ?_) (fun c25 => ?_)
        · have k1 : ¬ tW t (bQ b i / 14) = 1 := am_b0.mp c25
          have hE : fkI (bsW t b i) = fkI (bsW t b (i + 1)) := by rw [bsW, if_neg k1]
          refine GS.run [] 2 rfl ?_
          rw [nI_1, hE]
          exact ih5 _ (by omega) (i + 1) (by omega) rfl
        · have k1 : tW t (bQ b i / 14) = 1 := am_bT c25
          refine GS.run [] 2 rfl ?_
          rcases ow : bsW t b i with _ | j
          · have hE : nI i = fkI (bsW t b (i + 1)) := by rw [bsW, if_pos k1, ow]; rfl
            refine GS.icmp_eq rfl (fun c31 => ?_) (fun q => absurd (rfl) q)
            refine GS.run [] 4 rfl ?_
            rw [nI_1, hE]
            exact ih5 _ (by omega) (i + 1) (by omega) rfl
          · have hj := ((bsW_ok (t := t) ho (by omega : i ≤ bC b)).2 j ow).1
            have hE0 : bsW t b (i + 1) = if dsB b i = dsB b j ∧ bQ b i / 14 < bQ b j / 14 then some i else some j := by rw [bsW, if_pos k1, ow]
            refine GS.icmp_eq rfl (fun q => absurd q (nI_ne_none (by omega))) (fun c31 => ?_)
            refine GS.run [] 3 rfl ?_
            refine GS.cV oX6_better (c_sbetter d σ t b i j hw hb hwb hl (by omega)) rfl rfl rfl rfl rfl rfl rfl (Nat.le_of_ble_eq_true rfl) (by omega) ?_
            refine GS.if_eq rfl (fun c40 => ?_) (fun c40 => ?_)
            · have hE : fkI (some j) = fkI (bsW t b (i + 1)) := by rw [hE0, if_neg (am_b0.mp c40)]
              refine GS.run [] 2 rfl ?_
              rw [nI_1, hE]
              exact ih5 _ (by omega) (i + 1) (by omega) rfl
            · have hE : nI i = fkI (bsW t b (i + 1)) := by rw [hE0, if_pos (am_bT c40)]; rfl
              refine GS.run [] 4 rfl ?_
              rw [nI_1, hE]
              exact ih5 _ (by omega) (i + 1) (by omega) rfl
  exact loop5 _ 0 (Nat.zero_le _) rfl
theorem c_wotw (d : Nat) (σ : am_S) (t : Tn) (b : Bf) (o : Option Nat) (hw : wfT t) (hb : scV σ t b) (hwb : wfB 112 (okS t) b) (ho : ∀ j, o = some j → j < bC b) (k : Int32) (hk : 0 ≤ k.toInt) (hor : orB b) : CallS mX6_wordOnTheWay (d + 3) [.ref 57, .int (fkI o), .int k] σ (am_det (some (.int (wyO b k o))) σ) := by
  refine CallS.of kX6_wordOnTheWay pX6_wordOnTheWay [.ref 57, .int (fkI o), .int k, .retAddr 0, .retAddr 0, .retAddr 0] rfl (Nat.le_of_ble_eq_true rfl) ?_
  have h8 := hw.1
  have h64 := wfB_C hwb
  refine GS.run [] 2 rfl ?_
  refine GS.cV oX6_wordsTo (c_wordsTo (d + 1) σ t b o hw hb hwb ho) rfl rfl rfl rfl rfl rfl rfl (Nat.le_of_ble_eq_true rfl) (by omega) ?_
  rcases o with _ | j
  · refine GS.run [] 3 rfl ?_
    refine GS.cS oX11_within (c_within (d + 2) σ k (-1000000)) rfl rfl rfl rfl (Nat.le_of_ble_eq_true rfl) (by omega) ?_
    refine GS.if_ne rfl (fun q => absurd (am_b0.mpr (fun h => absurd (Int.lt_of_le_of_lt h.1 h.2) (by decide))) q) (fun c11 => ?_)
    refine GS.run [] 1 rfl ?_
    refine GS.iret rfl rfl (rfl) ?_
    exact ⟨rfl, rfl⟩
  · have hj := ho j rfl
    have hdj := (dsB_eq hwb hj).2
    refine GS.run [] 3 rfl ?_
    refine GS.cS oX11_within (c_withinN (d + 2) σ k (dsB b j) (by omega)) rfl rfl rfl rfl (Nat.le_of_ble_eq_true rfl) (by omega) ?_
    refine GS.if_ne rfl (fun c11 => ?_) (fun c11 => ?_)
    · obtain ⟨-, hkl⟩ : 0 ≤ k.toInt ∧ k.toInt < (dsB b j : Int) := am_bT c11
      rw [wyO_1 hkl]
      obtain ⟨n, hn, rfl⟩ : ∃ n, n < dsB b j ∧ k = nI n := ⟨k.toInt.toNat, by omega, by rw [zI_n, Int.toNat_of_nonneg hk, zI_of]⟩
      have hcn : cn (nI n) = n := cn_nI (by omega)
      rw [hcn]
      refine GS.run [] 6 rfl ?_
      have loop25 : ∀ (fu : Nat) (x i : Nat) (hnx : n ≤ x) (hi : i < bC b) (hd : dsB b i = x + 1) (hr : bk b (x - n) i = bk b (dsB b j - 1 - n) j), x - n = fu → GS none mX6_wordOnTheWay (d + 3) (am_det (some (.int (nI (wyW (bW b (bQ b (bk b (dsB b j - 1 - n) j))))))) σ) 25 [.ref 57, .int (fkI (some j)), .int (nI n), .int (nI (dsB b j)), .int (nI i), .int (nI x)] [] σ := by
        intro fu
        induction fu using Nat.strongRecOn with
        | ind fu ih25 =>
          intro x i hnx hi hd hr hfu
          have hdi := (dsB_eq hwb hi).2
          refine GS.run [] 2 rfl ?_
          refine GS.icmp_le rfl (fun c28 => ?_) (fun c28 => ?_)
          · have e : x = n := by have := (nI_leI (by omega) (by omega)).mp c28; omega
            subst e
            refine GS.run [] 3 rfl ?_
            refine GS.cS oX11_at ((c_at (d + 2) σ 60 144 (nI i) rfl).eq (congrArg (fun z => some (Value.int z)) (v_get (by omega) (by omega) ((hb.2.1 i hi).2.2 (by rcases hor.2 i hi with q | q <;> omega)).2)) rfl) rfl rfl rfl rfl (Nat.le_of_ble_eq_true rfl) (by omega) ?_
            refine GS.iret rfl rfl (rfl) ?_
            rw [Nat.sub_self] at hr
            rw [← hr]
            exact ⟨rfl, rfl⟩
          · have hl : n < x := (nI_gtI (by omega) (by omega)).mp c28
            obtain ⟨p1, p2⟩ : bP b (bQ b i) < i ∧ dsB b i = dsB b (bP b (bQ b i)) + 1 := by
              rcases hor.2 i hi with q | q
              · omega
              · exact q
            refine GS.run [] 3 rfl ?_
            refine GS.cS oX11_at ((c_at (d + 2) σ 59 144 (nI i) rfl).eq (congrArg (fun z => some (Value.int z)) (v_get (by omega) (by omega) ((hb.2.1 i hi).2.2 (by omega)).1)) rfl) rfl rfl rfl rfl (Nat.le_of_ble_eq_true rfl) (by omega) ?_
            refine GS.run [] 3 rfl ?_
            rw [nI_p1 (x := x) (by omega)]
            exact ih25 _ (by omega) (x - 1) (bP b (bQ b i)) (by omega) (by omega) (by omega) (by rw [← hr, show x - n = x - 1 - n + 1 by omega]; rfl) rfl
      rw [show fkI (Option.map (dsB b) (some j)) - 1 = nI (dsB b j - 1) from pk_sub (b := 1) (by omega)]
      exact loop25 _ (dsB b j - 1) j (by omega) hj (by omega) rfl rfl
    · have hkl : ¬ k.toInt < (dsB b j : Int) := fun h => am_b0.mp c11 ⟨hk, h⟩
      rw [wyO_0 hkl]
      refine GS.run [] 1 rfl ?_
      refine GS.iret rfl rfl (rfl) ?_
      exact ⟨rfl, rfl⟩
theorem p_shortest_c (d : Nat) (σ : am_S) (t : Tn) (c g u k : Int32) (ht : townC 10 σ t) (hw : wfT t) : CallS mX11_shortest (d + 7) [.ref 0, .int c, .int g, .int u, .int k] σ (fun r σ' => r = some (.int (qShort t c g u k)) ∧ same [57, 58, 59, 60, 61, 62, 63] σ σ') := by
  refine CallS.of kX11_shortest pX11_shortest [.ref 0, .int c, .int g, .int u, .int k, .retAddr 0] rfl (Nat.le_of_ble_eq_true rfl) ?_
  have h8 := hw.1
  refine GS.run [] 3 rfl ?_
  refine GS.cV oX8_has (v_has (d + 5) σ t c ht hw) rfl rfl rfl rfl rfl rfl rfl (Nat.le_of_ble_eq_true rfl) (by omega) ?_
  refine GS.if_eq rfl (fun c8 => ?_) (fun c8 => ?_)
  · have hbad : ¬ (okc t c ∧ okc t g ∧ okb u ∧ okm k) := fun h => am_b0.mp c8 h.1
    refine GS.run [] 1 rfl ?_
    refine GS.iret rfl rfl (rfl) ?_
    exact ⟨by unfold qShort; rw [if_neg hbad], same.rf⟩
  · have g1 : okc t c := am_bT c8
    refine GS.run [] 3 rfl ?_
    refine GS.cV oX8_has (v_has (d + 5) σ t g ht hw) rfl rfl rfl rfl rfl rfl rfl (Nat.le_of_ble_eq_true rfl) (by omega) ?_
    refine GS.if_eq rfl (fun c19 => ?_) (fun c19 => ?_)
    · have hbad : ¬ (okc t c ∧ okc t g ∧ okb u ∧ okm k) := fun h => am_b0.mp c19 h.2.1
      refine GS.run [] 1 rfl ?_
      refine GS.iret rfl rfl (rfl) ?_
      exact ⟨by unfold qShort; rw [if_neg hbad], same.rf⟩
    · have g2 : okc t g := am_bT c19
      refine GS.run [] 1 rfl ?_
      refine GS.cS oX11_bit (c_bit (d + 6) σ u) rfl rfl rfl rfl (Nat.le_of_ble_eq_true rfl) (by omega) ?_
      refine GS.if_eq rfl (fun c26 => ?_) (fun c26 => ?_)
      · have hbad : ¬ (okc t c ∧ okc t g ∧ okb u ∧ okm k) := fun h => am_b0.mp c26 h.2.2.1
        refine GS.run [] 1 rfl ?_
        refine GS.iret rfl rfl (rfl) ?_
        exact ⟨by unfold qShort; rw [if_neg hbad], same.rf⟩
      · have g3 : okb u := am_bT c26
        refine GS.run [] 2 rfl ?_
        refine GS.icmp_ge rfl (fun c32 => ?_) (fun c32 => ?_)
        · have g4 : okm k := tI_le.mp c32
          obtain ⟨x, hx, rfl⟩ := okc_nat g1
          obtain ⟨y, hy2, rfl⟩ := okc_nat g2
          have ex : cn (nI x) = x := cn_nI (by omega)
          have ey : cn (nI y) = y := cn_nI (by omega)
          rcases g3 with rfl | rfl
          · have hf := srB_fin (t := t) (c := x) (W := 14) hw hx
            have h64 := wfB_C hf.1
            refine GS.run [] 5 rfl ?_
            refine GS.icmp_ne rfl (fun c45 => ?_) (fun q => absurd q (by decide))
            refine GS.run [] 1 rfl ?_
            refine GS.callV oX6_spread (c_spread d σ t x 14 ht hw hx (by omega)) rfl rfl rfl rfl rfl rfl rfl (Nat.le_of_ble_eq_true rfl) (by omega) (fun v55 σ55 hq55 => ?_)
            obtain ⟨rfl, b55, s55⟩ := hq55
            have fo : ∀ j, fstC (srB t x 14) y = some j → j < bC (srB t x 14) := fun j hj => (ufst_some hj).1
            refine GS.run [] 3 rfl ?_
            refine GS.cV oX6_firstAt (c_sfirst (d + 4) σ55 t (srB t x 14) y (by omega) hw b55 hf.1) rfl rfl rfl rfl rfl rfl rfl (Nat.le_of_ble_eq_true rfl) (by omega) ?_
            refine GS.run [] 3 rfl ?_
            refine GS.icmp_ne rfl (fun c71 => ?_) (fun c71 => ?_)
            · have hk0 : 0 ≤ k.toInt := by
                rcases Int.lt_or_le k.toInt 0 with h | h
                · exact absurd (by rw [← zI_of k, show k.toInt = -1 by have := g4; omega]; rfl) c71
                · exact h
              have eq2 : qShort t (nI x) (nI y) 0 k = wyO (srB t x 14) k (fstC (srB t x 14) y) := by
                unfold qShort
                rw [if_pos ⟨g1, g2, by decide, g4⟩, ex, ey]
                show (match fstC (srB t x 14) y with | none => _ | some j => _) = _
                cases fstC (srB t x 14) y with
                | none => rfl
                | some j => exact if_neg c71
              refine GS.run [] 4 rfl ?_
              refine GS.cV oX6_wordOnTheWay (c_wotw (d + 3) σ55 t (srB t x 14) (fstC (srB t x 14) y) hw b55 hf.1 fo k hk0 hf.2) rfl rfl rfl rfl rfl rfl rfl (Nat.le_of_ble_eq_true rfl) (by omega) ?_
              refine GS.iret rfl rfl (rfl) ?_
              exact ⟨congrArg (fun z => some (Value.int z)) eq2.symm, s55⟩
            · subst c71
              have eq2 : qShort t (nI x) (nI y) 0 (-1) = fkI ((fstC (srB t x 14) y).map (dsB (srB t x 14))) := by
                unfold qShort
                rw [if_pos ⟨g1, g2, by decide, g4⟩, ex, ey]
                show (match fstC (srB t x 14) y with | none => _ | some j => _) = _
                cases fstC (srB t x 14) y <;> rfl
              refine GS.run [] 3 rfl ?_
              refine GS.cV oX6_wordsTo (c_wordsTo (d + 5) σ55 t (srB t x 14) (fstC (srB t x 14) y) hw b55 hf.1 fo) rfl rfl rfl rfl rfl rfl rfl (Nat.le_of_ble_eq_true rfl) (by omega) ?_
              refine GS.run [] 1 rfl ?_
              refine GS.iret rfl rfl (rfl) ?_
              exact ⟨congrArg (fun z => some (Value.int z)) eq2.symm, s55⟩
          · have hf := srB_fin (t := t) (c := x) (W := 17) hw hx
            have h64 := wfB_C hf.1
            refine GS.run [] 5 rfl ?_
            refine GS.icmp_ne rfl (fun q => absurd (by decide) q) (fun c45 => ?_)
            refine GS.run [] 2 rfl ?_
            refine GS.callV oX6_spread (c_spread d σ t x 17 ht hw hx (by omega)) rfl rfl rfl rfl rfl rfl rfl (Nat.le_of_ble_eq_true rfl) (by omega) (fun v55 σ55 hq55 => ?_)
            obtain ⟨rfl, b55, s55⟩ := hq55
            have fo : ∀ j, fstC (srB t x 17) y = some j → j < bC (srB t x 17) := fun j hj => (ufst_some hj).1
            refine GS.run [] 3 rfl ?_
            refine GS.cV oX6_firstAt (c_sfirst (d + 4) σ55 t (srB t x 17) y (by omega) hw b55 hf.1) rfl rfl rfl rfl rfl rfl rfl (Nat.le_of_ble_eq_true rfl) (by omega) ?_
            refine GS.run [] 3 rfl ?_
            refine GS.icmp_ne rfl (fun c71 => ?_) (fun c71 => ?_)
            · have hk0 : 0 ≤ k.toInt := by
                rcases Int.lt_or_le k.toInt 0 with h | h
                · exact absurd (by rw [← zI_of k, show k.toInt = -1 by have := g4; omega]; rfl) c71
                · exact h
              have eq2 : qShort t (nI x) (nI y) 1 k = wyO (srB t x 17) k (fstC (srB t x 17) y) := by
                unfold qShort
                rw [if_pos ⟨g1, g2, by decide, g4⟩, ex, ey]
                show (match fstC (srB t x 17) y with | none => _ | some j => _) = _
                cases fstC (srB t x 17) y with
                | none => rfl
                | some j => exact if_neg c71
              refine GS.run [] 4 rfl ?_
              refine GS.cV oX6_wordOnTheWay (c_wotw (d + 3) σ55 t (srB t x 17) (fstC (srB t x 17) y) hw b55 hf.1 fo k hk0 hf.2) rfl rfl rfl rfl rfl rfl rfl (Nat.le_of_ble_eq_true rfl) (by omega) ?_
              refine GS.iret rfl rfl (rfl) ?_
              exact ⟨congrArg (fun z => some (Value.int z)) eq2.symm, s55⟩
            · subst c71
              have eq2 : qShort t (nI x) (nI y) 1 (-1) = fkI ((fstC (srB t x 17) y).map (dsB (srB t x 17))) := by
                unfold qShort
                rw [if_pos ⟨g1, g2, by decide, g4⟩, ex, ey]
                show (match fstC (srB t x 17) y with | none => _ | some j => _) = _
                cases fstC (srB t x 17) y <;> rfl
              refine GS.run [] 3 rfl ?_
              refine GS.cV oX6_wordsTo (c_wordsTo (d + 5) σ55 t (srB t x 17) (fstC (srB t x 17) y) hw b55 hf.1 fo) rfl rfl rfl rfl rfl rfl rfl (Nat.le_of_ble_eq_true rfl) (by omega) ?_
              refine GS.run [] 1 rfl ?_
              refine GS.iret rfl rfl (rfl) ?_
              exact ⟨congrArg (fun z => some (Value.int z)) eq2.symm, s55⟩
        · have hbad : ¬ (okc t c ∧ okc t g ∧ okb u ∧ okm k) := fun h => c32 (tI_le.mpr h.2.2.2)
          refine GS.run [] 1 rfl ?_
          refine GS.iret rfl rfl (rfl) ?_
          exact ⟨by unfold qShort; rw [if_neg hbad], same.rf⟩
theorem p_soonest_c (d : Nat) (σ : am_S) (t : Tn) (c u : Int32) (ht : townC 10 σ t) (hw : wfT t) : CallS mX11_soonest (d + 7) [.ref 0, .int c, .int u] σ (fun r σ' => r = some (.int (qSoonest t c u)) ∧ same [57, 58, 59, 60, 61, 62, 63] σ σ') := by
  refine CallS.of kX11_soonest pX11_soonest [.ref 0, .int c, .int u, .retAddr 0] rfl (Nat.le_of_ble_eq_true rfl) ?_
  have h8 := hw.1
  refine GS.run [] 3 rfl ?_
  refine GS.cV oX8_has (v_has (d + 5) σ t c ht hw) rfl rfl rfl rfl rfl rfl rfl (Nat.le_of_ble_eq_true rfl) (by omega) ?_
  refine GS.if_eq rfl (fun c8 => ?_) (fun c8 => ?_)
  · have hbad : ¬ (okc t c ∧ okb u) := fun h => am_b0.mp c8 h.1
    refine GS.run [] 1 rfl ?_
    refine GS.iret rfl rfl (rfl) ?_
    exact ⟨by unfold qSoonest; rw [if_neg hbad], same.rf⟩
  · have g1 : okc t c := am_bT c8
    refine GS.run [] 1 rfl ?_
    refine GS.cS oX11_bit (c_bit (d + 6) σ u) rfl rfl rfl rfl (Nat.le_of_ble_eq_true rfl) (by omega) ?_
    refine GS.if_ne rfl (fun c15 => ?_) (fun c15 => ?_)
    · have g3 : okb u := am_bT c15
      obtain ⟨x, hx, rfl⟩ := okc_nat g1
      have ex : cn (nI x) = x := cn_nI (by omega)
      have hf := srB_fin (t := t) (c := x) (W := 14) hw hx
      have h64 := wfB_C hf.1
      refine GS.run [] 4 rfl ?_
      refine GS.callV oX6_spread (c_spread d σ t x 14 ht hw hx (by omega)) rfl rfl rfl rfl rfl rfl rfl (Nat.le_of_ble_eq_true rfl) (by omega) (fun v28 σ28 hq28 => ?_)
      obtain ⟨rfl, b28, s28⟩ := hq28
      have fo : ∀ j, bsW t (srB t x 14) (bC (srB t x 14)) = some j → j < bC (srB t x 14) := fun j hj => ((bsW_ok hf.2 (Nat.le_refl _)).2 j hj).1
      have ht28 : townC 10 σ28 t := ht.kept (fun j hj => s28 _ (by simp; omega))
      refine GS.run [] 2 rfl ?_
      refine GS.cV oX6_firstAtWell (c_swell (d + 2) σ28 t (srB t x 14) hw b28 hf.1 ht28 hf.2) rfl rfl rfl rfl rfl rfl rfl (Nat.le_of_ble_eq_true rfl) (by omega) ?_
      refine GS.run [] 2 rfl ?_
      rcases g3 with rfl | rfl
      · have eq2 : qSoonest t (nI x) 0 = fkI ((bsW t (srB t x 14) (bC (srB t x 14))).map (dsB (srB t x 14))) := by
          unfold qSoonest
          rw [if_pos ⟨g1, by decide⟩, ex, soon_eq hf.1 hf.2]
          cases bsW t (srB t x 14) (bC (srB t x 14)) <;> rfl
        refine GS.if_ne rfl (fun q => absurd (by decide) q) (fun c40 => ?_)
        refine GS.run [] 3 rfl ?_
        refine GS.cV oX6_wordsTo (c_wordsTo (d + 5) σ28 t (srB t x 14) _ hw b28 hf.1 fo) rfl rfl rfl rfl rfl rfl rfl (Nat.le_of_ble_eq_true rfl) (by omega) ?_
        refine GS.run [] 1 rfl ?_
        refine GS.iret rfl rfl (rfl) ?_
        exact ⟨congrArg (fun z => some (Value.int z)) eq2.symm, s28⟩
      · have eq2 : qSoonest t (nI x) 1 = fkI ((bsW t (srB t x 14) (bC (srB t x 14))).map (fun j => bQ (srB t x 14) j / 14)) := by
          unfold qSoonest
          rw [if_pos ⟨g1, by decide⟩, ex, soon_eq hf.1 hf.2]
          cases bsW t (srB t x 14) (bC (srB t x 14)) <;> rfl
        refine GS.if_ne rfl (fun c40 => ?_) (fun q => absurd q (by decide))
        refine GS.run [] 3 rfl ?_
        refine GS.cV oX6_cornerAt (c_cornerAt (d + 5) σ28 t (srB t x 14) _ hw b28 hf.1 fo) rfl rfl rfl rfl rfl rfl rfl (Nat.le_of_ble_eq_true rfl) (by omega) ?_
        refine GS.iret rfl rfl (rfl) ?_
        exact ⟨congrArg (fun z => some (Value.int z)) eq2.symm, s28⟩
    · have hbad : ¬ (okc t c ∧ okb u) := fun h => am_b0.mp c15 h.2
      refine GS.run [] 1 rfl ?_
      refine GS.iret rfl rfl (rfl) ?_
      exact ⟨by unfold qSoonest; rw [if_neg hbad], same.rf⟩
