theorem townM.moved {q o q' o' : Nat} {σ σ' : am_S} {t : Tn} (h : townM q o σ t) (hw : wfT t) (e : ∀ j, j < 122 → σ' q' (o' + j) = σ q (o + j)) : townM q' o' σ' t := by
  have h8 := hw.1
  refine ⟨(e 0 (by omega)).trans h.1, (e 1 (by omega)).trans h.2.1, fun c hc => ?_⟩
  obtain ⟨b1, b2, b3, b4, b5⟩ := h.2.2 c hc
  have h6 := (hw.2.2 c hc).2.2.2.1
  refine ⟨?_, ?_, ?_, ?_, fun i hi => ?_⟩
  · rw [Nat.add_assoc, e _ (by omega), ← Nat.add_assoc]; exact b1
  · rw [Nat.add_assoc, e _ (by omega), ← Nat.add_assoc]; exact b2
  · rw [Nat.add_assoc, e _ (by omega), ← Nat.add_assoc]; exact b3
  · rw [Nat.add_assoc, e _ (by omega), ← Nat.add_assoc]; exact b4
  · rw [show o' + 50 + 6 * c + i = o' + (50 + 6 * c + i) by omega, e _ (by omega), show o + (50 + 6 * c + i) = o + 50 + 6 * c + i by omega]; exact b5 i hi
theorem sayM.moved {q o q' o' : Nat} {σ σ' : am_S} {s : Sy} (h : sayM q o σ s) (hs : wfS s) (e : ∀ j, j < 13 → σ' q' (o' + j) = σ q (o + j)) : sayM q' o' σ' s := by
  have h12 := hs.1
  refine ⟨(e 0 (by omega)).trans h.1, fun j hj => ?_⟩
  rw [Nat.add_assoc, e _ (by omega), ← Nat.add_assoc]; exact h.2 j hj
def cpA (f g : Nat → Int32) (o n : Nat) : Nat → Int32 := fun x => if o ≤ x ∧ x < o + n then g (x - o) else f x
theorem cpA_0 (f g : Nat → Int32) (o : Nat) : cpA f g o 0 = f := by funext x; unfold cpA; rw [if_neg (by omega)]
theorem cpA_s (f g : Nat → Int32) (o n : Nat) : upd (cpA f g o n) (o + n) (g n) = cpA f g o (n + 1) := by
  funext x
  unfold upd cpA
  by_cases h : x = o + n
  · rw [if_pos h, if_pos (by omega), h, Nat.add_sub_cancel_left]
  · rw [if_neg h]
    by_cases h2 : o ≤ x ∧ x < o + n
    · rw [if_pos h2, if_pos (by omega)]
    · rw [if_neg h2, if_neg (by omega)]
theorem cpA_in {f g : Nat → Int32} {o n j : Nat} (h : j < n) : cpA f g o n (o + j) = g j := by unfold cpA; rw [if_pos (by omega), Nat.add_sub_cancel_left]
theorem cpA_out {f g : Nat → Int32} {o n x : Nat} (h : x < o ∨ o + n ≤ x) : cpA f g o n x = f x := by unfold cpA; rw [if_neg (by omega)]
theorem okb_nat {k : Int32} (h : okb k) : ∃ m, m < 2 ∧ k = nI m := by
  rcases h with rfl | rfl
  · exact ⟨0, by omega, rfl⟩
  · exact ⟨1, by omega, rfl⟩
theorem he_122 {k j : Nat} : (122 : Int32) * nI k + nI j = nI (122 * k + j) := by rw [show (122 : Int32) = nI 122 from rfl, pk_mul, nI_add]
theorem he_13 {k j : Nat} : (13 : Int32) * nI k + nI j = nI (13 * k + j) := by rw [show (13 : Int32) = nI 13 from rfl, pk_mul, nI_add]
theorem p_mark_m (d : Nat) (σ : am_S) (t : Tn) (c m : Int32) (ht : townM 73 0 σ t) (hw : wfT t) : CallS mX12_mark (d + 3) [.ref 69, .int c, .int m] σ (fun x σ' => x = some (.int (qMark t c m).1) ∧ townM 73 0 σ' (qMark t c m).2 ∧ sameM [73] [0] σ σ') := by
  refine CallS.of kX12_mark pX12_mark [.ref 69, .int c, .int m, .retAddr 0] rfl (Nat.le_of_ble_eq_true rfl) ?_
  refine GS.run [] 5 rfl ?_
  refine GS.cV oX12_isCorner (c_isCorner (d + 1) (am_s1 σ 69 (upd (σ 69) 0 0)) t c ht hw) rfl rfl rfl rfl rfl rfl rfl (Nat.le_of_ble_eq_true rfl) (by omega) ?_
  refine GS.if_eq rfl (fun c10 => ?_) (fun c10 => ?_)
  · have hbad : ¬ (okc t c ∧ okn m 10) := fun h => am_b0.mp c10 h.1
    refine GS.run [] 1 rfl ?_
    refine GS.iret rfl rfl (rfl) ?_
    have hq : qMark t c m = (-1000001, t) := by unfold qMark; rw [if_neg hbad]
    rw [hq]
    exact ⟨rfl, ht, sameM.rf.fld (by decide)⟩
  · have g1 : okc t c := am_bT c10
    refine GS.run [] 4 rfl ?_
    refine GS.cS oX12_in (c_inI (d + 2) (am_s1 σ 69 (upd (σ 69) 0 0)) m 0 9 (okn m 10) (by rw [show (0 : Int64).toInt = 0 from rfl, show (9 : Int64).toInt = 9 from rfl]; omega)) rfl rfl rfl rfl (Nat.le_of_ble_eq_true rfl) (by omega) ?_
    refine GS.if_ne rfl (fun c22 => ?_) (fun c22 => ?_)
    · have g2 : okn m 10 := am_bT c22
      have h8 := hw.1
      obtain ⟨a, ha, rfl⟩ := okc_nat g1
      have ec : cn (nI a) = a := cn_nI (by omega)
      have ht0 : townM 73 0 (am_s1 σ 69 (upd (σ 69) 0 0)) t := ht
      have hd6 := (hw.2.2 a ha).2.2.2.1
      obtain ⟨b, hb, rfl⟩ := okn_nat g2
      have eb : cn (nI b) = b := cn_nI (by omega)
      have hq : qMark t (nI a) (nI b) = (nI (tM t a), tMk t a b) := by unfold qMark; rw [if_pos ⟨g1, g2⟩, ec, eb]
      refine GS.run [] 5 rfl ?_
      refine GS.ald (14 + a) rfl rfl (he_14) (by omega) ?_
      rw [m_mk ht0 ha]
      refine GS.run [] 7 rfl ?_
      refine GS.ast (14 + a) rfl rfl (he_14) (by omega) ?_
      refine GS.run [] 1 rfl ?_
      refine GS.iret rfl rfl (rfl) ?_
      rw [hq]
      refine ⟨rfl, ⟨?_, ?_, fun x hx => ?_⟩, (sameM.rf.fld (by decide)).cell (by decide) (by decide)⟩
      · exact (upd_ne _ _ (by omega)).trans ht.1
      · exact (upd_ne _ _ (by omega)).trans ht.2.1
      · obtain ⟨b1, b2, b3, b4, b5⟩ := ht.2.2 x hx
        have hx8 : x < 8 := Nat.lt_of_lt_of_le hx h8
        refine ⟨(upd_ne _ _ (by omega)).trans b1, ?_, (upd_ne _ _ (by omega)).trans b3, (upd_ne _ _ (by omega)).trans b4, fun i hi => (upd_ne _ _ (by omega)).trans (b5 i hi)⟩
        show upd (σ 73) (14 + a) (nI b) (0 + 14 + x) = nI (va_up t.2.2.2.1 a b x)
        unfold va_up
        by_cases e : x = a
        · rw [if_pos e, e, Nat.zero_add, upd_eq]
        · rw [if_neg e, upd_ne _ _ (by omega)]; exact b2
    · have hbad : ¬ (okc t c ∧ okn m 10) := fun h => am_b0.mp c22 h.2
      refine GS.run [] 1 rfl ?_
      refine GS.iret rfl rfl (rfl) ?_
      have hq : qMark t c m = (-1000001, t) := by unfold qMark; rw [if_neg hbad]
      rw [hq]
      exact ⟨rfl, ht, sameM.rf.fld (by decide)⟩
theorem p_gloves_m (d : Nat) (σ : am_S) (l r w : Int32) : CallS mX12_gloves (d + 1) [.ref 69, .int l, .int r, .int w] σ (am_det (some (.int (qGloves l r w))) (am_s1 σ 69 (upd (σ 69) 0 0))) := by
  refine CallS.of kX12_gloves pX12_gloves [.ref 69, .int l, .int r, .int w, .retAddr 0, .retAddr 0, .retAddr 0, .retAddr 0, .retAddr 0] rfl (Nat.le_of_ble_eq_true rfl) ?_
  refine GS.run [] 7 rfl ?_
  refine GS.cS oX12_in (c_inI d (am_s1 σ 69 (upd (σ 69) 0 0)) l 1 8 (okg l) (by rw [show (1 : Int64).toInt = 1 from rfl, show (8 : Int64).toInt = 8 from rfl])) rfl rfl rfl rfl (Nat.le_of_ble_eq_true rfl) (by omega) ?_
  refine GS.if_eq rfl (fun c14 => ?_) (fun c14 => ?_)
  · have hbad : ¬ (okg l ∧ okg r ∧ okn w 3) := fun h => am_b0.mp c14 h.1
    refine GS.run [] 1 rfl ?_
    refine GS.iret rfl rfl (rfl) ?_
    exact ⟨by unfold qGloves; rw [if_neg hbad], rfl⟩
  · have g1 : okg l := am_bT c14
    refine GS.run [] 4 rfl ?_
    refine GS.cS oX12_in (c_inI d (am_s1 σ 69 (upd (σ 69) 0 0)) r 1 8 (okg r) (by rw [show (1 : Int64).toInt = 1 from rfl, show (8 : Int64).toInt = 8 from rfl])) rfl rfl rfl rfl (Nat.le_of_ble_eq_true rfl) (by omega) ?_
    refine GS.if_eq rfl (fun c26 => ?_) (fun c26 => ?_)
    · have hbad : ¬ (okg l ∧ okg r ∧ okn w 3) := fun h => am_b0.mp c26 h.2.1
      refine GS.run [] 1 rfl ?_
      refine GS.iret rfl rfl (rfl) ?_
      exact ⟨by unfold qGloves; rw [if_neg hbad], rfl⟩
    · have g2 : okg r := am_bT c26
      refine GS.run [] 4 rfl ?_
      refine GS.cS oX12_in (c_inI d (am_s1 σ 69 (upd (σ 69) 0 0)) w 0 2 (okn w 3) (by rw [show (0 : Int64).toInt = 0 from rfl, show (2 : Int64).toInt = 2 from rfl]; omega)) rfl rfl rfl rfl (Nat.le_of_ble_eq_true rfl) (by omega) ?_
      refine GS.if_ne rfl (fun c38 => ?_) (fun c38 => ?_)
      · have g3 : okn w 3 := am_bT c38
        obtain ⟨x, hx1, hx2, rfl⟩ := okg_nat g1
        obtain ⟨y, hy1, hy2, rfl⟩ := okg_nat g2
        obtain ⟨z, hz, rfl⟩ := okn_nat g3
        have ex : cn (nI x) = x := cn_nI (by omega)
        have ey : cn (nI y) = y := cn_nI (by omega)
        have gb := gl_b hx2 hy2
        have hg0 : 0 < Nat.gcd (glF x y) (glA x y) := Nat.gcd_pos_of_pos_left _ (by omega)
        have hg1 : Nat.gcd (glF x y) (glA x y) ≤ glA x y := Nat.gcd_le_right _ (by omega)
        refine GS.run [] 32 rfl ?_
        have loop82 : ∀ (fu : Nat) (u v : Nat) (hu : u ≤ 225) (hv : v ≤ 225) (hg : Nat.gcd u v = Nat.gcd (glF x y) (glA x y)), v = fu → GS none mX12_gloves (d + 1) (am_det (some (.int (qGloves (nI x) (nI y) (nI z)))) (am_s1 σ 69 (upd (σ 69) 0 0))) 82 [.ref 69, .int (nI x), .int (nI y), .int (nI z), .int (nI (glF x y)), .int (nI (glA x y)), .int (nI u), .int (nI v), .retAddr 0] [] (am_s1 σ 69 (upd (σ 69) 0 0)) := by
          intro fu
          induction fu using Nat.strongRecOn with
          | ind fu ih82 =>
            intro u v hu hv hg hfu
            refine GS.run [] 1 rfl ?_
            refine GS.if_eq rfl (fun c84 => ?_) (fun c84 => ?_)
            · have hv0 : v = 0 := (nI_eq (b := 0) (by omega) (by omega)).mp c84
              rw [hv0, Nat.gcd_zero_right] at hg
              subst hg
              refine GS.run [] 1 rfl ?_
              refine GS.if_ne rfl (fun c106 => ?_) (fun c106 => ?_)
              · have hz0 : ¬ nI z = 0 := c106
                refine GS.run [] 2 rfl ?_
                refine GS.icmp_ne rfl (fun c126 => ?_) (fun c126 => ?_)
                · have hz1 : ¬ nI z = 1 := c126
                  refine GS.run [] 2 rfl ?_
                  refine GS.idiv rfl (fun q => absurd ((nI_eq (b := 0) (by omega) (by omega)).mp q) (by omega)) ?_
                  rw [pk_div (by omega) (by omega) (by omega)]
                  refine GS.iret rfl rfl (rfl) ?_
                  first
                    | (have hq : qGloves (nI x) (nI y) (nI z) = nI (max x y + 1) := by unfold qGloves; rw [if_pos ⟨g1, g2, g3⟩, if_pos hz0, ex, ey]
                       rw [hq, hm]; exact ⟨congrArg (fun q => some (Value.int q)) (nI_1 _), rfl⟩)
                    | exact ⟨by unfold qGloves; rw [if_pos ⟨g1, g2, g3⟩, if_neg hz0, if_pos hz1, ex, ey], rfl⟩
                    | exact ⟨by unfold qGloves; rw [if_pos ⟨g1, g2, g3⟩, if_neg hz0, if_neg hz1, ex, ey], rfl⟩
                · have hz1 : nI z = 1 := c126
                  refine GS.run [] 2 rfl ?_
                  refine GS.idiv rfl (fun q => absurd ((nI_eq (b := 0) (by omega) (by omega)).mp q) (by omega)) ?_
                  rw [pk_div (by omega) (by omega) (by omega)]
                  refine GS.run [] 1 rfl ?_
                  refine GS.iret rfl rfl (rfl) ?_
                  first
                    | (have hq : qGloves (nI x) (nI y) (nI z) = nI (max x y + 1) := by unfold qGloves; rw [if_pos ⟨g1, g2, g3⟩, if_pos hz0, ex, ey]
                       rw [hq, hm]; exact ⟨congrArg (fun q => some (Value.int q)) (nI_1 _), rfl⟩)
                    | exact ⟨by unfold qGloves; rw [if_pos ⟨g1, g2, g3⟩, if_neg hz0, if_pos hz1, ex, ey], rfl⟩
                    | exact ⟨by unfold qGloves; rw [if_pos ⟨g1, g2, g3⟩, if_neg hz0, if_neg hz1, ex, ey], rfl⟩
              · have hz0 : nI z = 0 := c106
                refine GS.run [] 2 rfl ?_
                refine GS.icmp_le rfl (fun c111 => ?_) (fun c111 => ?_)
                · have hm : max x y = y := Nat.max_eq_right ((nI_leI (by omega) (by omega)).mp c111)
                  refine GS.run [] 4 rfl ?_
                  refine GS.iret rfl rfl (rfl) ?_
                  first
                    | (have hq : qGloves (nI x) (nI y) (nI z) = nI (max x y + 1) := by unfold qGloves; rw [if_pos ⟨g1, g2, g3⟩, if_pos hz0, ex, ey]
                       rw [hq, hm]; exact ⟨congrArg (fun q => some (Value.int q)) (nI_1 _), rfl⟩)
                    | exact ⟨by unfold qGloves; rw [if_pos ⟨g1, g2, g3⟩, if_neg hz0, if_pos hz1, ex, ey], rfl⟩
                    | exact ⟨by unfold qGloves; rw [if_pos ⟨g1, g2, g3⟩, if_neg hz0, if_neg hz1, ex, ey], rfl⟩
                · have hm : max x y = x := Nat.max_eq_left (Nat.le_of_lt ((nI_gtI (by omega) (by omega)).mp c111))
                  refine GS.run [] 5 rfl ?_
                  refine GS.iret rfl rfl (rfl) ?_
                  first
                    | (have hq : qGloves (nI x) (nI y) (nI z) = nI (max x y + 1) := by unfold qGloves; rw [if_pos ⟨g1, g2, g3⟩, if_pos hz0, ex, ey]
                       rw [hq, hm]; exact ⟨congrArg (fun q => some (Value.int q)) (nI_1 _), rfl⟩)
                    | exact ⟨by unfold qGloves; rw [if_pos ⟨g1, g2, g3⟩, if_neg hz0, if_pos hz1, ex, ey], rfl⟩
                    | exact ⟨by unfold qGloves; rw [if_pos ⟨g1, g2, g3⟩, if_neg hz0, if_neg hz1, ex, ey], rfl⟩
            · have hv0 : 0 < v := by rcases Nat.eq_zero_or_pos v with h | h; exact absurd (by rw [h]; rfl) c84; exact h
              refine GS.run [] 2 rfl ?_
              refine GS.irem rfl (c84) ?_
              rw [pk_rem (by omega) (by omega) (by omega)]
              refine GS.run [] 6 rfl ?_
              have hm := Nat.mod_lt u hv0
              exact GS.weak (by exact ⟨Or.inr rfl, Or.inr rfl, Or.inr rfl, Or.inr rfl, Or.inr rfl, Or.inr rfl, Or.inr rfl, Or.inr rfl, Or.inl rfl, trivial⟩) (ih82 _ (by omega) v (u % v) hv (by omega) (by rw [← hg, Nat.gcd_comm v, ← Nat.gcd_rec, Nat.gcd_comm]) rfl)
        rw [gl_A, gl_F]
        exact loop82 _ _ _ (by omega) (by omega) rfl rfl
      · have hbad : ¬ (okg l ∧ okg r ∧ okn w 3) := fun h => am_b0.mp c38 h.2.2
        refine GS.run [] 1 rfl ?_
        refine GS.iret rfl rfl (rfl) ?_
        exact ⟨by unfold qGloves; rw [if_neg hbad], rfl⟩
