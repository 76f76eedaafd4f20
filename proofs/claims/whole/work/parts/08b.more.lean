section GSB
variable {X : am_X0} {M : am_M} {d : Nat} {Q : Option Value → am_S → Prop} {pc nx : Nat} {L L' st st' : List Value} {σ σ' : am_S} {x : List Nat} {y : Nat} {v : Value}
theorem GS.if_eq {a : Int32} {o : Int} {t : Nat} (hj : am_at M pc = some (.ifCond .eq o, nx, [t], y, v)) (kt : a = 0 → GS X M d Q t L st σ) (kf : ¬ a = 0 → GS X M d Q nx L st σ) : GS X M d Q pc L (.int a :: st) σ := G.if_eq hj kt kf
theorem GS.icmp_eq {a b : Int32} {o : Int} {t : Nat} (hj : am_at M pc = some (.if_icmp .eq o, nx, [t], y, v)) (kt : a = b → GS X M d Q t L st σ) (kf : ¬ a = b → GS X M d Q nx L st σ) : GS X M d Q pc L (.int b :: .int a :: st) σ := G.icmp_eq hj kt kf
theorem GS.if_ne {a : Int32} {o : Int} {t : Nat} (hj : am_at M pc = some (.ifCond .ne o, nx, [t], y, v)) (kt : ¬ a = 0 → GS X M d Q t L st σ) (kf : a = 0 → GS X M d Q nx L st σ) : GS X M d Q pc L (.int a :: st) σ := G.if_ne hj kt kf
theorem GS.icmp_ne {a b : Int32} {o : Int} {t : Nat} (hj : am_at M pc = some (.if_icmp .ne o, nx, [t], y, v)) (kt : ¬ a = b → GS X M d Q t L st σ) (kf : a = b → GS X M d Q nx L st σ) : GS X M d Q pc L (.int b :: .int a :: st) σ := G.icmp_ne hj kt kf
theorem GS.if_lt {a : Int32} {o : Int} {t : Nat} (hj : am_at M pc = some (.ifCond .lt o, nx, [t], y, v)) (kt : a < 0 → GS X M d Q t L st σ) (kf : ¬ a < 0 → GS X M d Q nx L st σ) : GS X M d Q pc L (.int a :: st) σ := G.if_lt hj kt kf
theorem GS.icmp_lt {a b : Int32} {o : Int} {t : Nat} (hj : am_at M pc = some (.if_icmp .lt o, nx, [t], y, v)) (kt : a < b → GS X M d Q t L st σ) (kf : ¬ a < b → GS X M d Q nx L st σ) : GS X M d Q pc L (.int b :: .int a :: st) σ := G.icmp_lt hj kt kf
theorem GS.if_ge {a : Int32} {o : Int} {t : Nat} (hj : am_at M pc = some (.ifCond .ge o, nx, [t], y, v)) (kt : 0 ≤ a → GS X M d Q t L st σ) (kf : ¬ 0 ≤ a → GS X M d Q nx L st σ) : GS X M d Q pc L (.int a :: st) σ := G.if_ge hj kt kf
theorem GS.icmp_ge {a b : Int32} {o : Int} {t : Nat} (hj : am_at M pc = some (.if_icmp .ge o, nx, [t], y, v)) (kt : b ≤ a → GS X M d Q t L st σ) (kf : ¬ b ≤ a → GS X M d Q nx L st σ) : GS X M d Q pc L (.int b :: .int a :: st) σ := G.icmp_ge hj kt kf
theorem GS.if_gt {a : Int32} {o : Int} {t : Nat} (hj : am_at M pc = some (.ifCond .gt o, nx, [t], y, v)) (kt : 0 < a → GS X M d Q t L st σ) (kf : ¬ 0 < a → GS X M d Q nx L st σ) : GS X M d Q pc L (.int a :: st) σ := G.if_gt hj kt kf
theorem GS.icmp_gt {a b : Int32} {o : Int} {t : Nat} (hj : am_at M pc = some (.if_icmp .gt o, nx, [t], y, v)) (kt : b < a → GS X M d Q t L st σ) (kf : ¬ b < a → GS X M d Q nx L st σ) : GS X M d Q pc L (.int b :: .int a :: st) σ := G.icmp_gt hj kt kf
theorem GS.if_le {a : Int32} {o : Int} {t : Nat} (hj : am_at M pc = some (.ifCond .le o, nx, [t], y, v)) (kt : a ≤ 0 → GS X M d Q t L st σ) (kf : ¬ a ≤ 0 → GS X M d Q nx L st σ) : GS X M d Q pc L (.int a :: st) σ := G.if_le hj kt kf
theorem GS.icmp_le {a b : Int32} {o : Int} {t : Nat} (hj : am_at M pc = some (.if_icmp .le o, nx, [t], y, v)) (kt : a ≤ b → GS X M d Q t L st σ) (kf : ¬ a ≤ b → GS X M d Q nx L st σ) : GS X M d Q pc L (.int b :: .int a :: st) σ := G.icmp_le hj kt kf
theorem GS.idiv {a b : Int32} (hj : am_at M pc = some (.idiv, nx, x, y, v)) (hne : ¬ b = 0) (kk : GS X M d Q nx L (.int (a / b) :: st) σ) : GS X M d Q pc L (.int b :: .int a :: st) σ := G.idiv hj hne kk
theorem GS.irem {a b : Int32} (hj : am_at M pc = some (.irem, nx, x, y, v)) (hne : ¬ b = 0) (kk : GS X M d Q nx L (.int (a - a / b * b) :: st) σ) : GS X M d Q pc L (.int b :: .int a :: st) σ := G.irem hj hne kk
theorem GS.tabIn {df lo hi : Int} {os : Array Int} {a : Int32} {t0 t : Nat} {ts : List Nat} (hj : am_at M pc = some (.tableswitch df lo hi os, nx, t0 :: ts, y, v)) (h1 : ¬ a.toInt < lo) (h2 : ¬ hi < a.toInt) (ho : ts[(a.toInt - lo).toNat]? = some t) (kk : GS X M d Q t L st σ) : GS X M d Q pc L (.int a :: st) σ := G.tabIn hj h1 h2 ho kk
theorem GS.tabOut {df lo hi : Int} {os : Array Int} {a : Int32} {t0 : Nat} {ts : List Nat} (hj : am_at M pc = some (.tableswitch df lo hi os, nx, t0 :: ts, y, v)) (h1 : a.toInt < lo ∨ hi < a.toInt) (kk : GS X M d Q t0 L st σ) : GS X M d Q pc L (.int a :: st) σ := G.tabOut hj h1 kk
theorem GS.lkp {df off : Int} {ps : Array (Int × Int)} {a : Int32} {t : Nat} (hj : am_at M pc = some (.lookupswitch df ps, nx, x, y, v)) (ho : Op.lookupswitch.offset ps.toList df a.toInt = off) (ht : (pc : Int) + off = (t : Int)) (kk : GS X M d Q t L st σ) : GS X M d Q pc L (.int a :: st) σ := G.lkp hj ho ht kk
end GSB
theorem nar_i (a : Int32) : narrow .int (.int a) = .int a := rfl
def am_b (c : Prop) [Decidable c] : Int32 := if c then 1 else 0
theorem nar_b (c : Prop) [Decidable c] : narrow .boolean (.int (am_b c)) = .int (am_b c) := by unfold am_b; split <;> rfl
theorem am_b0 {c : Prop} [Decidable c] : am_b c = 0 ↔ ¬ c := by unfold am_b; split <;> simp_all
theorem am_b1 {c : Prop} [Decidable c] : am_b c = 1 ↔ c := by unfold am_b; split <;> simp_all
def am_get (f : Nat → Int32) (n : Nat) (i : Int32) : Int32 := if 0 ≤ i.toInt ∧ i.toInt < n then f i.toNatClampNeg else -1000000
theorem am_in {i : Int32} {n : Nat} : vp_in i n ↔ 0 ≤ i.toInt ∧ i.toInt < n := vp_in_iff
theorem am_shl_all : (List.range 89).all (fun q => match am_sh q with
  | some (.inl (_, len)) => decide (len ≤ 1000)
  | _ => true) = true := by decide +kernel
theorem am_shl {q kd len : Nat} (h : am_sh q = some (.inl (kd, len))) : len ≤ 1000 := by
  have h1 := List.all_eq_true.mp am_shl_all q (List.mem_range.mpr (am_sh_lt h))
  rw [h] at h1
  exact of_decide_eq_true h1
section GSI
variable {X : am_X0} {M : am_M} {d : Nat} {Q : Option Value → am_S → Prop} {pc nx : Nat} {L L' st st' : List Value} {σ σ' : am_S} {x : List Nat} {y : Nat} {v : Value}
/-- a place of a row, by a number -/
theorem GS.ald {q len : Nat} {a : Int32} (ix : Nat) (hj : am_at M pc = some (.iaload, nx, x, y, v)) (hs : am_sh q = some (.inl (0, len))) (he : a = nI ix) (hlt : ix < len) (kk : GS X M d Q nx L (.int (σ q ix) :: st) σ) : GS X M d Q pc L (.int a :: .ref q :: st) σ := by
  have h1 := am_shl hs
  subst he
  refine GS.iaload hj hs (vp_in_nI hlt (by omega)) ?_
  rw [nI_clamp (by omega)]
  exact kk
theorem GS.ast {q len : Nat} {a b : Int32} (ix : Nat) (hj : am_at M pc = some (.iastore, nx, x, y, v)) (hs : am_sh q = some (.inl (0, len))) (he : a = nI ix) (hlt : ix < len) (kk : GS X M d Q nx L st (am_s1 σ q (upd (σ q) ix b))) : GS X M d Q pc L (.int b :: .int a :: .ref q :: st) σ := by
  have h1 := am_shl hs
  subst he
  refine GS.iastore hj hs (vp_in_nI hlt (by omega)) ?_
  rw [nI_clamp (by omega)]
  exact kk
theorem GS.zld {q len : Nat} {a : Int32} (ix : Nat) (hj : am_at M pc = some (.baload, nx, x, y, v)) (hs : am_sh q = some (.inl (1, len))) (he : a = nI ix) (hlt : ix < len) (kk : GS X M d Q nx L (.int (σ q ix) :: st) σ) : GS X M d Q pc L (.int a :: .ref q :: st) σ := by
  have h1 := am_shl hs
  subst he
  refine GS.baload hj hs (vp_in_nI hlt (by omega)) ?_
  rw [nI_clamp (by omega)]
  exact kk
theorem GS.zst {q len : Nat} {a b : Int32} (ix : Nat) (hj : am_at M pc = some (.bastore, nx, x, y, v)) (hs : am_sh q = some (.inl (1, len))) (he : a = nI ix) (hlt : ix < len) (kk : GS X M d Q nx L st (am_s1 σ q (upd (σ q) ix (vp_nar .boolean b)))) : GS X M d Q pc L (.int b :: .int a :: .ref q :: st) σ := by
  have h1 := am_shl hs
  subst he
  refine GS.bastore hj hs (vp_in_nI hlt (by omega)) ?_
  rw [nI_clamp (by omega)]
  exact kk
end GSI
theorem il_0 : (0 : Int32) = nI 0 := rfl
theorem il_1 : (1 : Int32) = nI 1 := rfl
theorem il_2 : (2 : Int32) = nI 2 := rfl
theorem il_3 : (3 : Int32) = nI 3 := rfl
theorem il_4 : (4 : Int32) = nI 4 := rfl
theorem il_5 : (5 : Int32) = nI 5 := rfl
theorem il_6 : (6 : Int32) = nI 6 := rfl
theorem il_7 : (7 : Int32) = nI 7 := rfl
theorem il_8 : (8 : Int32) = nI 8 := rfl
theorem il_9 : (9 : Int32) = nI 9 := rfl
theorem il_10 : (10 : Int32) = nI 10 := rfl
theorem il_11 : (11 : Int32) = nI 11 := rfl
theorem il_12 : (12 : Int32) = nI 12 := rfl
theorem il_13 : (13 : Int32) = nI 13 := rfl
theorem il_14 : (14 : Int32) = nI 14 := rfl
theorem il_15 : (15 : Int32) = nI 15 := rfl
theorem il_16 : (16 : Int32) = nI 16 := rfl
theorem il_17 : (17 : Int32) = nI 17 := rfl
theorem il_18 : (18 : Int32) = nI 18 := rfl
theorem il_19 : (19 : Int32) = nI 19 := rfl
theorem il_20 : (20 : Int32) = nI 20 := rfl
theorem il_21 : (21 : Int32) = nI 21 := rfl
theorem il_22 : (22 : Int32) = nI 22 := rfl
theorem il_23 : (23 : Int32) = nI 23 := rfl
theorem il_26 : (26 : Int32) = nI 26 := rfl
theorem il_29 : (29 : Int32) = nI 29 := rfl
theorem il_31 : (31 : Int32) = nI 31 := rfl
theorem il_32 : (32 : Int32) = nI 32 := rfl
theorem il_38 : (38 : Int32) = nI 38 := rfl
theorem il_40 : (40 : Int32) = nI 40 := rfl
theorem il_48 : (48 : Int32) = nI 48 := rfl
theorem il_50 : (50 : Int32) = nI 50 := rfl
theorem il_99 : (99 : Int32) = nI 99 := rfl
theorem il_100 : (100 : Int32) = nI 100 := rfl
theorem il_122 : (122 : Int32) = nI 122 := rfl
theorem il_144 : (144 : Int32) = nI 144 := rfl
theorem il_168 : (168 : Int32) = nI 168 := rfl
theorem il_255 : (255 : Int32) = nI 255 := rfl
theorem il_400 : (400 : Int32) = nI 400 := rfl
theorem nI_gtI {a b : Nat} (ha : a < 2 ^ 31) (hb : b < 2 ^ 31) : ¬ nI a ≤ nI b ↔ b < a := by rw [nI_leI ha hb]; omega
theorem nI_geI {a b : Nat} (ha : a < 2 ^ 31) (hb : b < 2 ^ 31) : ¬ nI a < nI b ↔ b ≤ a := by rw [nI_ltI ha hb]; omega
theorem tI_lt {a b : Int32} : a < b ↔ a.toInt < b.toInt := Int32.lt_iff_toInt_lt
theorem tI_le {a b : Int32} : a ≤ b ↔ a.toInt ≤ b.toInt := Int32.le_iff_toInt_le
theorem tI_n {n : Nat} (h : n < 2 ^ 31) : (nI n).toInt = (n : Int) := nI_toInt h
theorem tI_0 : (0 : Int32).toInt = 0 := rfl
theorem am_get_nI {f : Nat → Int32} {n k : Nat} (h : k < n) (hn : n < 2 ^ 31) : am_get f n (nI k) = f k := by
  unfold am_get
  rw [nI_toInt (by omega), if_pos ⟨by omega, by omega⟩, nI_clamp (by omega)]
theorem am_get_out {f : Nat → Int32} {n : Nat} {i : Int32} (h : i.toInt < 0 ∨ (n : Int) ≤ i.toInt) : am_get f n i = -1000000 := by
  unfold am_get
  rw [if_neg (by omega)]

