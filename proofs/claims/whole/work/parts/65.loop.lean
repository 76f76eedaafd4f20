theorem law_end {N i : Nat} (hN : N < 1073741824) (hi : i ≤ N) (h : ¬ nI N - 6 < nI i) : i + 6 ≤ N := by
  have e : nI N - 6 = zI ((N : Int) - 6) := by
    have e1 : nI N = zI (N : Int) := zI_n N
    have e2 : (6 : Int32) = zI 6 := rfl
    rw [e1, e2]
    exact (Int32.ofInt_sub _ _).symm
  rw [e, tI_lt, nI_toInt (by omega), zI_t (by omega) (by omega)] at h
  omega
theorem and31 (x : Int32) : ∃ c, c < 32 ∧ x &&& 31 = nI c := by
  have e : (x &&& 31).toBitVec.toNat < 32 := by
    rw [Int32.toBitVec_and, BitVec.toNat_and]
    exact Nat.lt_of_le_of_lt Nat.and_le_right (by decide)
  refine ⟨(x &&& 31).toBitVec.toNat, e, ?_⟩
  apply Int32.toBitVec_inj.mp
  show (x &&& 31).toBitVec = BitVec.ofNat 32 (x &&& 31).toBitVec.toNat
  rw [BitVec.ofNat_toNat, BitVec.setWidth_eq]
theorem lt32 {c : Nat} (h : c < 32) : c = 0 ∨ c = 1 ∨ c = 2 ∨ c = 3 ∨ c = 4 ∨ c = 5 ∨ c = 6 ∨ c = 7 ∨ c = 8 ∨ c = 9 ∨ c = 10 ∨ c = 11 ∨ c = 12 ∨ c = 13 ∨ c = 14 ∨ c = 15 ∨ c = 16 ∨ c = 17 ∨ c = 18 ∨ c = 19 ∨ c = 20 ∨ c = 21 ∨ c = 22 ∨ c = 23 ∨ c = 24 ∨ c = 25 ∨ c = 26 ∨ c = 27 ∨ c = 28 ∨ c = 29 ∨ c = 30 ∨ c = 31 := by omega
theorem law_next {N : Nat} {xs : Nat → Int32} {i : Nat} {σ : am_S} (kk : GL N xs 18 (i + 6) [] σ) : GL N xs 1138 i [] σ := by
  refine G.iinc (w := nI i) rfl rfl rfl (G.goto rfl ?_)
  rw [show (nI i + 6 : Int32) = nI (i + 6) from nI_add i 6]
  exact kk
theorem law_loop {N : Nat} {xs : Nat → Int32} (hN : N < 1073741824) : ∀ (m i : Nat) (σ : am_S) (S : St), N ≤ i + m → i ≤ N → wf2 S → HC σ S → HM σ S → GL N xs 18 i [] σ := by
  intro m
  induction m with
  | zero =>
    intro i σ S h1 h2 hw hc hm
    refine G.iload_n rfl rfl (G.aload_n rfl rfl (G.slen rfl rfl (G.bipush rfl (G.isub rfl (G.icmp_gt rfl (fun _ => ?_) (fun q => absurd (law_end hN h2 q) (by omega)))))))
    exact G.iconst rfl (G.iret rfl rfl rfl rfl)
  | succ m ih =>
    intro i σ S h1 h2 hw hc hm
    refine G.iload_n rfl rfl (G.aload_n rfl rfl (G.slen rfl rfl (G.bipush rfl (G.isub rfl (G.icmp_gt rfl (fun _ => ?_) (fun q => ?_))))))
    · exact G.iconst rfl (G.iret rfl rfl rfl rfl)
    have hi : i + 6 ≤ N := law_end hN h2 q
    have kn : ∀ σ' S', wf2 S' → HC σ' S' → HM σ' S' → GL N xs 1138 i [] σ' := fun σ' S' a b c => law_next (ih (i + 6) σ' S' (by omega) hi a b c)
    refine G.aload_n rfl rfl (G.iload_n rfl rfl (G.sld rfl rfl (am_in.mpr (by rw [nI_toInt (by omega)]; omega)) ?_))
    rw [nI_clamp (by omega)]
    refine G.bipush rfl (G.iand rfl ?_)
    obtain ⟨c, hc32, e⟩ := and31 (xs i)
    rw [e]
    rcases lt32 hc32 with rfl | rfl | rfl | rfl | rfl | rfl | rfl | rfl | rfl | rfl | rfl | rfl | rfl | rfl | rfl | rfl | rfl | rfl | rfl | rfl | rfl | rfl | rfl | rfl | rfl | rfl | rfl | rfl | rfl | rfl | rfl | rfl
    · exact G.tabIn (t := 168) rfl (by decide) (by decide) rfl (law_row hi hN hw hc hm kn)
    · exact G.tabIn (t := 211) rfl (by decide) (by decide) rfl (law_set hi hN hw hc hm kn)
    · exact G.tabIn (t := 254) rfl (by decide) (by decide) rfl (law_copy hi hN hw hc hm kn)
    · exact G.tabIn (t := 317) rfl (by decide) (by decide) rfl (law_drop hi hN hw hc hm kn)
    · exact G.tabIn (t := 340) rfl (by decide) (by decide) rfl (law_feed hi hN hw hc hm kn)
    · exact G.tabIn (t := 403) rfl (by decide) (by decide) rfl (law_town hi hN hw hc hm kn)
    · exact G.tabIn (t := 416) rfl (by decide) (by decide) rfl (law_say hi hN hw hc hm kn)
    · exact G.tabIn (t := 429) rfl (by decide) (by decide) rfl (law_words hi hN hw hc hm kn)
    · exact G.tabIn (t := 472) rfl (by decide) (by decide) rfl (law_fault hi hN hw hc hm kn)
    · exact G.tabIn (t := 485) rfl (by decide) (by decide) rfl (law_corner hi hN hw hc hm kn)
    · exact G.tabIn (t := 518) rfl (by decide) (by decide) rfl (law_mark hi hN hw hc hm kn)
    · exact G.tabIn (t := 551) rfl (by decide) (by decide) rfl (law_word hi hN hw hc hm kn)
    · exact G.tabIn (t := 574) rfl (by decide) (by decide) rfl (law_walk hi hN hw hc hm kn)
    · exact G.tabIn (t := 627) rfl (by decide) (by decide) rfl (law_parts hi hN hw hc hm kn)
    · exact G.tabIn (t := 660) rfl (by decide) (by decide) rfl (law_apart hi hN hw hc hm kn)
    · exact G.tabIn (t := 693) rfl (by decide) (by decide) rfl (law_shortest hi hN hw hc hm kn)
    · exact G.tabIn (t := 746) rfl (by decide) (by decide) rfl (law_soonest hi hN hw hc hm kn)
    · exact G.tabIn (t := 779) rfl (by decide) (by decide) rfl (law_laid hi hN hw hc hm kn)
    · exact G.tabIn (t := 822) rfl (by decide) (by decide) rfl (law_ends hi hN hw hc hm kn)
    · exact G.tabIn (t := 835) rfl (by decide) (by decide) rfl (law_lost hi hN hw hc hm kn)
    · exact G.tabIn (t := 858) rfl (by decide) (by decide) rfl (law_meet hi hN hw hc hm kn)
    · exact G.tabIn (t := 901) rfl (by decide) (by decide) rfl (law_gloves hi hN hw hc hm kn)
    · exact G.tabIn (t := 944) rfl (by decide) (by decide) rfl (law_image hi hN hw hc hm kn)
    · exact G.tabIn (t := 967) rfl (by decide) (by decide) rfl (law_restore hi hN hw hc hm kn)
    · exact G.tabIn (t := 990) rfl (by decide) (by decide) rfl (law_kind hi hN hw hc hm kn)
    · exact G.tabIn (t := 1013) rfl (by decide) (by decide) rfl (law_as hi hN hw hc hm kn)
    · exact G.tabIn (t := 1046) rfl (by decide) (by decide) rfl (law_ask hi hN hw hc hm kn)
    · exact G.tabIn (t := 1079) rfl (by decide) (by decide) rfl (law_trace hi hN hw hc hm kn)
    · exact G.tabIn (t := 1102) rfl (by decide) (by decide) rfl (law_count hi hN hw hc hm kn)
    · exact G.tabIn (t := 1125) rfl (by decide) (by decide) rfl (law_status hi hN hw hc hm kn)
    · exact G.tabOut rfl (by decide) (kn σ S hw hc hm)
    · exact G.tabOut rfl (by decide) (kn σ S hw hc hm)
def S00 : St := ((fun _ => -1, fun _ => 0, fun _ => 0), (0, fun _ => 0), tn0, sy0, none, none, 0, 0, (0, fun _ => 0))
theorem wf_00 : wf2 S00 := ⟨⟨fun k hk => ⟨Or.inl rfl, Nat.zero_le _⟩, ⟨Nat.zero_le _, fun i hi => absurd hi (Nat.not_lt_zero _)⟩, ⟨⟨Nat.zero_le _, Nat.zero_le _, fun c hc => absurd hc (Nat.not_lt_zero _)⟩, Or.inl rfl⟩, ⟨Nat.zero_le _, fun k hk => absurd hk (Nat.not_lt_zero _)⟩, trivial, trivial, Nat.zero_le _⟩, Or.inl ⟨rfl, rfl⟩⟩
theorem c8_at : ∀ k, k < 8 → am_c8 8 k = -1 := by
  intro k hk
  rcases (show k = 0 ∨ k = 1 ∨ k = 2 ∨ k = 3 ∨ k = 4 ∨ k = 5 ∨ k = 6 ∨ k = 7 by omega) with rfl | rfl | rfl | rfl | rfl | rfl | rfl | rfl <;> rfl
theorem HC_00 : HC am_S0 S00 := ⟨fun k hk => ⟨c8_at k hk, rfl, fun i hi => absurd hi (Nat.not_lt_zero _)⟩, ⟨rfl, fun i hi => absurd hi (Nat.not_lt_zero _)⟩, ⟨rfl, rfl, fun c hc => absurd hc (Nat.not_lt_zero _)⟩, ⟨rfl, fun c hc => absurd hc (Nat.not_lt_zero _)⟩, rfl, rfl, rfl, rfl, ⟨rfl, fun i hi => absurd hi (Nat.not_lt_zero _)⟩, Or.inl rfl⟩
theorem HM_00 : HM am_S0 S00 := ⟨fun k hk => ⟨c8_at k hk, rfl, fun i hi => absurd hi (Nat.not_lt_zero _)⟩, ⟨rfl, fun i hi => absurd hi (Nat.not_lt_zero _)⟩, ⟨rfl, rfl, fun c hc => absurd hc (Nat.not_lt_zero _)⟩, ⟨rfl, fun c hc => absurd hc (Nat.not_lt_zero _)⟩, rfl, rfl, rfl, rfl, ⟨rfl, fun i hi => absurd hi (Nat.not_lt_zero _)⟩, ⟨⟨false, rfl⟩, ⟨false, rfl⟩⟩, rfl⟩
theorem law_all {N : Nat} {xs : Nat → Int32} (hN : N < 1073741824) (h : am_H) : G (some (N, xs)) mL_law 40 (fun v _ _ => v = some (.int 1)) 600000 7302250 0 [.ref 4000, .retAddr 0, .retAddr 0, .retAddr 0] [] h 0 0 0 := by
  refine HX.new (cj := 11) (fs2 := [.null, .null, .null, .null, .null, .null, .null, .null, .null, .null, .null, .null, .null, .int 0]) (n1 := 1) (k1 := 1) (z1 := 14) rfl rfl dfX11 rfl (Nat.le_of_ble_eq_true rfl) (Nat.le_of_ble_eq_true rfl) (Nat.le_of_ble_eq_true rfl) rfl rfl rfl ?_
  refine G.dup rfl rfl ?_
  refine G.callI (args := []) rfl rfl oX11_init rfl (Nat.le_of_ble_eq_true rfl) (Nat.le_of_ble_eq_true rfl) (Nat.le_of_ble_eq_true rfl) (Nat.le_of_ble_eq_true rfl) (mk_0 _ am_up_at) (fun v h' n' q => ?_)
  obtain ⟨rfl, rfl, q⟩ := q
  refine G.eqh (h2 := am_mk am_S0) (fun k hk => (q k hk).trans ?_) ?_
  · unfold mx
    rw [if_neg (Nat.not_lt_zero _)]
  refine G.astore_n rfl rfl ?_
  refine HX.new (cj := 12) (fs2 := [.int 0, .int 0, .null, .null, .null, .null, .null, .int 0, .null, .null, .null, .int 0, .int 0, .int 0, .int 0, .int 0, .int 0, .int 0, .int 0, .int 0, .int 0, .int 0, .int 0, .int 0, .int 0, .int 0, .null, .null, .null, .null, .null, .null, .int 0, .null, .int 0, .int 0, .null, .null, .null, .null, .int 0]) (n1 := 70) (k1 := 70) (z1 := 3718) rfl rfl dfX12 rfl (Nat.le_of_ble_eq_true rfl) (Nat.le_of_ble_eq_true rfl) (Nat.le_of_ble_eq_true rfl) rfl rfl rfl ?_
  refine G.dup rfl rfl ?_
  refine G.callI (args := []) rfl rfl oX12_init rfl (Nat.le_of_ble_eq_true rfl) (Nat.le_of_ble_eq_true rfl) (Nat.le_of_ble_eq_true rfl) (Nat.le_of_ble_eq_true rfl) (mk_69 _ am_up_at) (fun v h' n' q => ?_)
  obtain ⟨rfl, rfl, q⟩ := q
  refine G.eqh (h2 := am_mk am_S0) (fun k hk => (q k hk).trans ?_) ?_
  · unfold mx
    by_cases e : k < 69
    · rw [if_pos e]
      unfold am_up
      rw [if_neg (by omega)]
    · rw [if_neg e]
  refine G.astore_n rfl rfl ?_
  refine G.iconst rfl (G.istore_n rfl rfl ?_)
  have h0 := law_loop (xs := xs) hN N 0 am_S0 S00 (by omega) (Nat.zero_le _) wf_00 HC_00 HM_00
  unfold GL at h0
  rw [show (nI 0) = 0 from nI_0] at h0
  exact h0
