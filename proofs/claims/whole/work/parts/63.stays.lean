theorem rEnd_okP {p : Tp} {D : Tn} {q : Option Nat} {j a : Nat} (h : rEnd p D q j = .ok a) : a < tN D ∧ jnB D q a = false ∧ tD D a < 6 := by
  unfold rEnd at h
  by_cases h1 : tkC p j = 2
  · rw [if_pos h1] at h
    by_cases h2 : numV p j < tN D ∧ jnB D q (numV p j) = false
    · rw [if_pos h2] at h
      by_cases h3 : 6 ≤ tD D (numV p j)
      · rw [if_pos h3] at h; cases h
      · rw [if_neg h3] at h
        cases h
        exact ⟨h2.1, h2.2, by omega⟩
    · rw [if_neg h2] at h; cases h
  · rw [if_neg h1] at h; cases h
theorem rStr_okP {p : Tp} {D : Tn} {j : Nat} {q : Tn × Nat} (h : rStr p D j = .ok q) (hD : wfD D) (h12 : tS D < 12) : wfD q.1 ∧ tN q.1 = tN D ∧ tS q.1 = tS D + 1 := by
  unfold rStr at h
  rcases e1 : rEnd p D none j with e | a
  · rw [e1] at h; cases h
  · rw [e1] at h
    rcases e2 : rEnd p D (some a) (j + 1) with e | b
    · simp only [e2] at h; cases h
    · simp only [e2] at h
      rcases e3 : rSig p (j + 2) with e | u
      · rw [e3] at h; cases h
      · rw [e3] at h
        cases h
        obtain ⟨a1, a2, a3⟩ := rEnd_okP e1
        obtain ⟨b1, b2, b3⟩ := rEnd_okP e2
        have b2' : (decide (a = b) || adB D a b) = false := b2
        rw [Bool.or_eq_false_iff] at b2'
        exact ⟨wfD_S hD h12 a1 b1 (of_decide_eq_false b2'.1) b2'.2 a3 b3, rfl, rfl⟩
theorem rCor_okP {p : Tp} {j : Nat} {q : (Nat × Nat × Nat) × Nat} (h : rCor p j = .ok q) : q.1.1 ≤ 99 ∧ q.1.2.1 ≤ 9 ∧ q.1.2.2 ≤ 1 := by
  unfold rCor at h
  rcases e1 : rNum p 99 j with e | a
  · rw [e1] at h; cases h
  · rw [e1] at h
    rcases e2 : rNum p 9 (j + 1) with e | b
    · simp only [e2] at h; cases h
    · simp only [e2] at h
      rcases e3 : rSig p (j + 2 + wlN p (j + 2)) with e | u
      · simp only [e3] at h; cases h
      · simp only [e3] at h
        cases h
        refine ⟨(rNum_ok e1).2.2, (rNum_ok e2).2.2, ?_⟩
        show wlN p (j + 2) ≤ 1
        unfold wlN
        split <;> omega
theorem rCs_okP {p : Tp} : ∀ (f : Nat) (D : Tn) (j : Nat) (q : Tn × Nat), rCs p f D j = .ok q → wfD D → tN D + f = 8 → wfD q.1 ∧ 2 ≤ tN q.1 ∧ tS q.1 = tS D
  | 0, D, j, q, h, hD, hf => by
    unfold rCs at h
    by_cases h1 : isNm p 8 j
    · rw [if_pos h1] at h; cases h
    · rw [if_neg h1] at h
      cases h
      exact ⟨hD, by show 2 ≤ tN D; omega, rfl⟩
  | f + 1, D, j, q, h, hD, hf => by
    unfold rCs at h
    by_cases h1 : isNm p 8 j
    · rw [if_pos h1] at h
      rcases e1 : rCor p (j + 1) with e | a
      · rw [e1] at h; cases h
      · rw [e1] at h
        obtain ⟨a1, a2, a3⟩ := rCor_okP e1
        have h8 : tN D < 8 := by omega
        exact rCs_okP f (tAddC D a.1.1 a.1.2.1 a.1.2.2) a.2 q h (wfD_C hD h8 a1 a2 a3) (show tN D + 1 + f = 8 by omega)
    · rw [if_neg h1] at h
      by_cases h2 : 2 ≤ tN D
      · rw [if_pos h2] at h
        cases h
        exact ⟨hD, h2, rfl⟩
      · rw [if_neg h2] at h; cases h
theorem rSs_okP {p : Tp} : ∀ (f : Nat) (D : Tn) (j : Nat) (E : Tn), rSs p f D j = .ok E → wfD D → tS D + f = 12 → wfD E ∧ tN E = tN D
  | 0, D, j, E, h, hD, hf => by
    unfold rSs at h
    by_cases h1 : tkC p j = 0
    · rw [if_pos h1] at h
      cases h
      exact ⟨hD, rfl⟩
    · rw [if_neg h1] at h; cases h
  | f + 1, D, j, E, h, hD, hf => by
    unfold rSs at h
    by_cases h1 : isNm p 9 j
    · rw [if_pos h1] at h
      rcases e1 : rStr p D (j + 1) with e | a
      · rw [e1] at h; cases h
      · rw [e1] at h
        obtain ⟨a1, a2, a3⟩ := rStr_okP e1 hD (by omega)
        obtain ⟨b1, b2⟩ := rSs_okP f a.1 a.2 E h a1 (by omega)
        exact ⟨b1, by omega⟩
    · rw [if_neg h1] at h
      by_cases h2 : 0 < tS D ∧ tkC p j = 0
      · rw [if_pos h2] at h
        cases h
        exact ⟨hD, rfl⟩
      · rw [if_neg h2] at h; cases h
theorem rTown_okP {p : Tp} {D : Tn} (h : rTown p = .ok D) : wfT D ∧ 2 ≤ tN D := by
  unfold rTown at h
  rcases e1 : rCs p 8 tn0 0 with e | q
  · rw [e1] at h; cases h
  · rw [e1] at h
    obtain ⟨a1, a2, a3⟩ := rCs_okP 8 tn0 0 q e1 wfD_0 rfl
    obtain ⟨b1, b2⟩ := rSs_okP 12 q.1 q.2 D h a1 (by rw [a3]; rfl)
    exact ⟨b1.1, by omega⟩
theorem wdK_lt {p : Tp} {j k : Nat} (h : wdK p j = some k) : k < 8 := by
  unfold wdK at h
  by_cases h1 : tkC p j = 1
  · rw [if_pos h1] at h
    unfold wd8 at h
    split at h
    · cases h
    · rename_i k0 _
      by_cases h2 : k0 < 8
      · rw [if_pos h2] at h; cases h; exact h2
      · rw [if_neg h2] at h; cases h
  · rw [if_neg h1] at h; cases h
theorem rWd_okP {p : Tp} {k j : Nat} {q : Nat × Nat} (hk : k < 8) (h : rWd p k j = .ok q) : isW q.1 := by
  unfold rWd at h
  by_cases h1 : k = 2
  · rw [if_pos h1] at h
    rcases e1 : rNum p 9 (j + 1) with e | m
    · rw [e1] at h; cases h
    · rw [e1] at h
      cases h
      have := (rNum_ok e1).2.2
      exact Or.inr ⟨by show 20 ≤ 20 + m; omega, by show 20 + m < 30; omega⟩
  · rw [if_neg h1] at h
    cases h
    exact Or.inl ⟨hk, h1⟩
theorem rWs_okP {p : Tp} : ∀ (f : Nat) (s : Sy) (j : Nat) (q : Sy × Nat), rWs p f s j = .ok q → wfS s → s.1 + f = 12 → wfS q.1
  | 0, s, j, q, h, hs, hf => by
    unfold rWs at h
    rcases e1 : wdK p j with _ | k
    · rw [e1] at h; cases h; exact hs
    · rw [e1] at h; cases h
  | f + 1, s, j, q, h, hs, hf => by
    unfold rWs at h
    rcases e1 : wdK p j with _ | k
    · rw [e1] at h; cases h; exact hs
    · rw [e1] at h
      rcases e2 : rWd p k j with e | u
      · simp only [e2] at h; cases h
      · simp only [e2] at h
        exact rWs_okP f (sAdd s u.1) u.2 q h (wfS_a hs (by omega) (rWd_okP (wdK_lt e1) e2)) (show s.1 + 1 + f = 12 by omega)
theorem rSay_okP {p : Tp} {s : Sy} (h : rSay p = .ok s) : wfS s := by
  unfold rSay at h
  rcases e1 : rWs p 12 (0, fun _ => 0) 0 with e | q
  · rw [e1] at h; cases h
  · rw [e1] at h
    have hw := rWs_okP 12 (0, fun _ => 0) 0 q e1 ⟨Nat.zero_le _, fun k hk => absurd hk (Nat.not_lt_zero _)⟩ rfl
    rcases e2 : rSig p q.2 with e | u
    · simp only [e2] at h; cases h
    · simp only [e2] at h
      by_cases h3 : tkC p (q.2 + 1) = 0
      · rw [if_pos h3] at h; cases h; exact hw
      · rw [if_neg h3] at h; cases h
/-! each call leaves what is well made well made -/
theorem sv_town {p : Tp} {t : Tn} {f : Int32} (h : wfT t ∧ (tN t = 0 ∨ 2 ≤ tN t)) : wfT (qTown p t f).2.1 ∧ (tN (qTown p t f).2.1 = 0 ∨ 2 ≤ tN (qTown p t f).2.1) := by
  unfold qTown
  rcases e : rTown p with x | D
  · exact h
  · obtain ⟨h1, h2⟩ := rTown_okP e
    exact ⟨h1, Or.inr h2⟩
theorem sv_say {p : Tp} {s : Sy} {f : Int32} (h : wfS s) : wfS (qSay p s f).2.1 := by
  unfold qSay
  rcases e : rSay p with x | D
  · exact h
  · exact rSay_okP e
theorem i32_3 {l : Int32} (h : 0 ≤ l.toInt ∧ l.toInt < 3) : l = 0 ∨ l = 1 ∨ l = 2 := by
  have e := zI_of l
  rcases (show l.toInt = 0 ∨ l.toInt = 1 ∨ l.toInt = 2 by omega) with q | q | q <;> rw [q] at e
  · exact Or.inl e.symm
  · exact Or.inr (Or.inl e.symm)
  · exact Or.inr (Or.inr e.symm)
theorem sv_row {r : Rw} {f k l n : Int32} (h : wfR r) : wfR (qRow r f k l n).2.1 := by
  unfold qRow
  by_cases h1 : okr k ∧ (0 ≤ l.toInt ∧ l.toInt < 3) ∧ n.toInt ≤ 40
  · rw [if_pos h1]
    by_cases h2 : n.toInt < 0
    · rw [if_pos h2]; exact h
    · rw [if_neg h2]
      intro j hj
      obtain ⟨a1, a2⟩ := h j hj
      show (va_up r.1 (cn k) l j = -1 ∨ va_up r.1 (cn k) l j = 0 ∨ va_up r.1 (cn k) l j = 1 ∨ va_up r.1 (cn k) l j = 2) ∧ va_up r.2.1 (cn k) (cn n) j ≤ 40
      unfold va_up
      by_cases e : j = cn k
      · rw [if_pos e, if_pos e]
        exact ⟨Or.inr (i32_3 h1.2.1), by unfold cn; omega⟩
      · rw [if_neg e, if_neg e]
        exact ⟨a1, a2⟩
  · rw [if_neg h1]; exact h
theorem sv_set {r : Rw} {f k i v : Int32} (h : wfR r) : wfR (qSet r f k i v).2.1 := by
  unfold qSet
  repeat' split
  all_goals exact h
theorem sv_copy {r : Rw} {f a i b j n : Int32} (h : wfR r) : wfR (qCopy r f a i b j n).2.1 := by
  unfold qCopy
  repeat' split
  all_goals exact h
theorem sv_drop {r : Rw} {f k : Int32} (h : wfR r) : wfR (qDrop r f k).2.1 := by
  unfold qDrop
  by_cases h1 : okr k
  · rw [if_pos h1]
    by_cases h2 : (r.1 (cn k)).toInt < 0
    · rw [if_pos h2]; exact h
    · rw [if_neg h2]
      intro j hj
      obtain ⟨a1, a2⟩ := h j hj
      refine ⟨?_, a2⟩
      show va_up r.1 (cn k) (-1) j = -1 ∨ va_up r.1 (cn k) (-1) j = 0 ∨ va_up r.1 (cn k) (-1) j = 1 ∨ va_up r.1 (cn k) (-1) j = 2
      unfold va_up
      by_cases e : j = cn k
      · rw [if_pos e]; exact Or.inl rfl
      · rw [if_neg e]; exact a1
  · rw [if_neg h1]; exact h
theorem sv_mark {t : Tn} {c m : Int32} (h : wfT t) : wfT (qMark t c m).2 ∧ tN (qMark t c m).2 = tN t := by
  unfold qMark
  by_cases h1 : okc t c ∧ okn m 10
  · rw [if_pos h1]
    refine ⟨⟨h.1, h.2.1, fun x hx => ?_⟩, rfl⟩
    obtain ⟨a1, a2, a3⟩ := h.2.2 x hx
    refine ⟨a1, ?_, a3⟩
    show va_up t.2.2.2.1 (cn c) (cn m) x ≤ 9
    unfold va_up
    by_cases e : x = cn c
    · rw [if_pos e]; have := h1.2; unfold cn; omega
    · rw [if_neg e]; exact a2
  · rw [if_neg h1]; exact ⟨h, rfl⟩
theorem sv_feed {p : Tp} {v : Int64} {n : Int32} (h : wfP p) : wfP (qFeed p v n).2 := by
  unfold qFeed
  by_cases h1 : okg n
  · rw [if_pos h1]
    by_cases h2 : p.1 + cn n ≤ 400
    · rw [if_pos h2]
      refine ⟨h2, fun i hi => ?_⟩
      show (if i < p.1 then p.2 i else byt v (cn n - 1 - (i - p.1))) < 256
      by_cases e : i < p.1
      · rw [if_pos e]; exact h.2 i e
      · rw [if_neg e]; exact byt_lt _ _
    · rw [if_neg h2]; exact h
  · rw [if_neg h1]; exact h
theorem sv_words {r : Rw} {s : Sy} {f k i n : Int32} (h : wfS s) : wfS (qWords r s f k i n).2.1 := by
  unfold qWords
  by_cases h1 : okr k ∧ okn n 13
  · rw [if_pos h1]
    by_cases h2 : (r.1 (cn k)).toInt < 0
    · rw [if_pos h2]; exact h
    · rw [if_neg h2]
      by_cases h3 : beyR (r.2.1 (cn k)) i n
      · rw [if_pos h3]; exact h
      · rw [if_neg h3]
        by_cases h4 : allW r (cn k) (cn i) (cn n)
        · rw [if_pos h4]
          refine ⟨?_, fun j hj => (isWI_n (h4 j hj)).1⟩
          show cn n ≤ 12
          have := h1.2
          unfold cn
          omega
        · rw [if_neg h4]; exact h
  · rw [if_neg h1]; exact h
theorem sv_ask {s : Sy} {x : Tr} {k what : Int32} (h : x.1 ≤ 16) : (qAsk s x k what).2.1 ≤ 16 := by
  unfold qAsk
  by_cases h1 : okw s k ∧ okb what
  · rw [if_pos h1]; exact tL_le (x := (0, x.2)) (Nat.zero_le _)
  · rw [if_neg h1]; exact h
theorem sv_image {t : Tn} {s : Sy} {a b : Kp} {k : Int32} (ht : wfT t ∧ (tN t = 0 ∨ 2 ≤ tN t)) (hs : wfS s) (ha : wfK a) (hb : wfK b) : wfK (qImage t s a b k).2.1 ∧ wfK (qImage t s a b k).2.2 := by
  unfold qImage
  by_cases h1 : okb k
  · rw [if_pos h1]
    by_cases h2 : tN t = 0
    · rw [if_pos h2]; exact ⟨ha, hb⟩
    · rw [if_neg h2]
      have hn : wfK (some (t, s)) := ⟨ht.1, hs, ht.2.resolve_left h2⟩
      by_cases h3 : k = 0
      · rw [if_pos h3]; exact ⟨hn, hb⟩
      · rw [if_neg h3]; exact ⟨ha, hn⟩
  · rw [if_neg h1]; exact ⟨ha, hb⟩
theorem sv_restore {t : Tn} {s : Sy} {a b : Kp} {k : Int32} (ht : wfT t ∧ (tN t = 0 ∨ 2 ≤ tN t)) (hs : wfS s) (ha : wfK a) (hb : wfK b) : (wfT (qRestore t s a b k).2.1 ∧ (tN (qRestore t s a b k).2.1 = 0 ∨ 2 ≤ tN (qRestore t s a b k).2.1)) ∧ wfS (qRestore t s a b k).2.2 ∧ ((tN (qRestore t s a b k).2.1 = 0) = (tN t = 0) ∨ (qRestore t s a b k).1 = 1) := by
  unfold qRestore
  by_cases h1 : okb k
  · rw [if_pos h1]
    have hc : wfK (if k = 0 then a else b) := by
      by_cases h3 : k = 0
      · rw [if_pos h3]; exact ha
      · rw [if_neg h3]; exact hb
    rcases e : (if k = 0 then a else b) with _ | q
    · exact ⟨ht, hs, Or.inl rfl⟩
    · rw [e] at hc
      exact ⟨⟨hc.1, Or.inr hc.2.2⟩, hc.2.1, Or.inr rfl⟩
  · rw [if_neg h1]; exact ⟨ht, hs, Or.inl rfl⟩
